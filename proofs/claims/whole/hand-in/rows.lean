section
theorem pk_us {f : Nat → Int32} {k : Nat} {x : Int32} : upd f k x k = x := if_pos rfl
theorem pk_un {f : Nat → Int32} {k j : Nat} {x : Int32} (h : j ≠ k) : upd f k x j = f j := if_neg h
theorem pk_sub {a b : Nat} (h : b ≤ a) : nI a - nI b = nI (a - b) := by
  obtain ⟨c, rfl⟩ : ∃ c, a = c + b := ⟨a - b, by omega⟩
  rw [← nI_add, Int32.add_sub_cancel, Nat.add_sub_cancel]
theorem pk_m1 (n : Nat) : nI (n + 1) + (-1) = nI n := by
  rw [← nI_1, Int32.add_assoc, show (1 : Int32) + (-1) = 0 from rfl, Int32.add_zero]
theorem pk_mul (a b : Nat) : nI a * nI b = nI (a * b) := (Int32.ofNat_mul a b).symm
theorem pk_div {a d : Nat} (ha : a < 2 ^ 31) (h0 : 0 < d) (hd : d < 2 ^ 31) : nI a / nI d = nI (a / d) := by
  apply Int32.toInt_inj.mp
  rw [lg_idiv_nonneg (by rw [nI_toInt ha]; omega) (by rw [nI_toInt hd]; omega), nI_toInt ha, nI_toInt hd, nI_toInt (Nat.lt_of_le_of_lt (Nat.div_le_self a d) ha)]
  first | rfl | exact (Int.natCast_ediv _ _).symm
theorem pk_rem {a d : Nat} (ha : a < 2 ^ 31) (h0 : 0 < d) (hd : d < 2 ^ 31) : nI a - nI a / nI d * nI d = nI (a % d) := by
  rw [pk_div ha h0 hd, pk_mul, pk_sub (Nat.div_mul_le_self a d)]
  exact congrArg nI (by have := Nat.div_add_mod' a d; omega)
theorem pk_ix (x : Int32) {n : Nat} (hn : n < 2 ^ 31) : x < 0 ∨ nI n ≤ x ∨ ∃ j : Nat, j < n ∧ x = nI j := by
  by_cases h : x < 0
  · exact Or.inl h
  · obtain ⟨j, hj, rfl⟩ := nI_of h
    by_cases h2 : j < n
    · exact Or.inr (Or.inr ⟨j, h2, rfl⟩)
    · exact Or.inr (Or.inl (nI_le (by omega) hj))
theorem pk_le {x y : Int32} {A B : Prop} (a b : Nat) (f : a ≤ b → A) (g : b < a → B) (hx : x = nI a := by rfl) (hy : y = nI b := by rfl) (ha : a < 2 ^ 31 := by omega) (hb : b < 2 ^ 31 := by omega) : (x ≤ y → A) ∧ (¬ x ≤ y → B) := by
  subst hx hy
  rw [nI_leI ha hb]
  exact ⟨f, fun z => g (by omega)⟩
theorem pk_lt {x y : Int32} {A B : Prop} (a b : Nat) (f : a < b → A) (g : b ≤ a → B) (hx : x = nI a := by rfl) (hy : y = nI b := by rfl) (ha : a < 2 ^ 31 := by omega) (hb : b < 2 ^ 31 := by omega) : (x < y → A) ∧ (¬ x < y → B) := by
  subst hx hy
  rw [nI_ltI ha hb]
  exact ⟨f, fun z => g (by omega)⟩
theorem pk_eq {x y : Int32} {A B : Prop} (a b : Nat) (f : a = b → A) (g : a ≠ b → B) (hx : x = nI a := by rfl) (hy : y = nI b := by rfl) (ha : a < 2 ^ 31 := by omega) (hb : b < 2 ^ 31 := by omega) : (x = y → A) ∧ (¬ x = y → B) := by
  subst hx hy
  rw [nI_eq ha hb]
  exact ⟨f, g⟩
theorem pk_in {x : Int32} (n N : Nat) (h : n < N) (hx : x = nI n := by rfl) (hN : N < 2 ^ 31 := by omega) : vp_in x N := by
  subst hx
  exact vp_in_nI h hN
theorem pk_cl {x : Int32} (n : Nat) (hx : x = nI n := by rfl) (h : n < 2 ^ 31 := by omega) : x.toNatClampNeg = n := by
  subst hx
  exact nI_clamp h
end
section
/-! the price of a number, digit by digit: the component from the last worker on, the reference from the first -/
def rk_okX : Nat → Nat → Nat → Bool
  | 0, _, _ => true
  | k + 1, r, m => !(m.testBit (r % 5)) && rk_okX k (r / 5) (m ||| 2 ^ (r % 5))
def rk_brX (p : Nat → Int32) : Nat → Nat → Bool
  | 0, _ => true
  | k + 1, r => !(decide (p (k * 5 + r % 5) = -1)) && rk_brX p k (r / 5)
def rk_sumX (p : Nat → Int32) : Nat → Nat → Int32 → Int32
  | 0, _, s => s
  | k + 1, r, s => rk_sumX p k (r / 5) (s + p (k * 5 + r % 5))
def rk_cX (p : Nat → Int32) (k r m : Nat) (s : Int32) : Int32 := if (rk_okX k r m && rk_brX p k r) = true then rk_sumX p k r s else -1
def rk_okY (n : Nat) : Nat → Nat → Bool
  | 0, _ => true
  | k + 1, m => !(m.testBit (n / 5 ^ k % 5)) && rk_okY n k (m ||| 2 ^ (n / 5 ^ k % 5))
def rk_brY (p : Nat → Int32) (n : Nat) : Nat → Bool
  | 0 => true
  | k + 1 => !(decide (p (5 * (4 - k) + n / 5 ^ k % 5) = -1)) && rk_brY p n k
def rk_sumY (p : Nat → Int32) (n : Nat) : Nat → Int32 → Int32
  | 0, s => s
  | k + 1, s => rk_sumY p n k (s + p (5 * (4 - k) + n / 5 ^ k % 5))
def rk_cY (p : Nat → Int32) (n k m : Nat) (s : Int32) : Int32 := if (rk_okY n k m && rk_brY p n k) = true then rk_sumY p n k s else -1
theorem rk_cX_0 (p : Nat → Int32) (r m : Nat) (s : Int32) : rk_cX p 0 r m s = s := rfl
theorem rk_cX_b {p : Nat → Int32} {k r : Nat} (m : Nat) (s : Int32) (h : p (k * 5 + r % 5) = -1) : rk_cX p (k + 1) r m s = -1 := by
  unfold rk_cX rk_brX
  rw [h]
  simp
theorem rk_cX_t {p : Nat → Int32} {k r m : Nat} (s : Int32) (h : m.testBit (r % 5) = true) : rk_cX p (k + 1) r m s = -1 := by
  unfold rk_cX rk_okX
  rw [h]
  simp
theorem rk_cX_s {p : Nat → Int32} {k r m : Nat} (s : Int32) (h : ¬ p (k * 5 + r % 5) = -1) (t : m.testBit (r % 5) = false) : rk_cX p (k + 1) r m s = rk_cX p k (r / 5) (m ||| 2 ^ (r % 5)) (s + p (k * 5 + r % 5)) := by
  unfold rk_cX
  rw [rk_okX, rk_brX, rk_sumX, t, decide_eq_false h]
  rfl
theorem rk_cY_0 (p : Nat → Int32) (n m : Nat) (s : Int32) : rk_cY p n 0 m s = s := rfl
theorem rk_cY_b {p : Nat → Int32} {n k : Nat} (m : Nat) (s : Int32) (h : p (5 * (4 - k) + n / 5 ^ k % 5) = -1) : rk_cY p n (k + 1) m s = -1 := by
  unfold rk_cY rk_brY
  rw [h]
  simp
theorem rk_cY_t {p : Nat → Int32} {n k m : Nat} (s : Int32) (h : m.testBit (n / 5 ^ k % 5) = true) : rk_cY p n (k + 1) m s = -1 := by
  unfold rk_cY rk_okY
  rw [h]
  simp
theorem rk_cY_s {p : Nat → Int32} {n k m : Nat} (s : Int32) (h : ¬ p (5 * (4 - k) + n / 5 ^ k % 5) = -1) (t : m.testBit (n / 5 ^ k % 5) = false) : rk_cY p n (k + 1) m s = rk_cY p n k (m ||| 2 ^ (n / 5 ^ k % 5)) (s + p (5 * (4 - k) + n / 5 ^ k % 5)) := by
  unfold rk_cY
  rw [rk_okY, rk_brY, rk_sumY, t, decide_eq_false h]
  rfl
theorem rk_okXY : ∀ n, n < 3125 → rk_okX 5 n 0 = rk_okY n 5 0 := by decide +kernel
theorem rk_brXY (p : Nat → Int32) (n : Nat) : rk_brX p 5 n = rk_brY p n 5 := by
  simp only [rk_brX, rk_brY, Nat.div_div_eq_div_mul, Nat.reduceMul, Nat.reducePow, Nat.reduceSub, Nat.zero_mul, Nat.mul_zero, Nat.zero_add, Nat.div_one, Nat.pow_zero, Nat.sub_self, Nat.sub_zero, Bool.and_true]
  simp only [Bool.and_comm, Bool.and_left_comm, Bool.and_assoc]
theorem rk_sumXY (p : Nat → Int32) (n : Nat) : rk_sumX p 5 n 0 = rk_sumY p n 5 0 := by
  simp only [rk_sumX, rk_sumY, Nat.div_div_eq_div_mul, Nat.reduceMul, Nat.reducePow, Nat.reduceSub, Nat.zero_mul, Nat.mul_zero, Nat.zero_add, Nat.div_one, Nat.pow_zero, Nat.sub_self, Nat.sub_zero]
  grind
/-- the price of number n under the prices p, -1 where it is no plan's -/
def rk_C (p : Nat → Int32) (n : Nat) : Int32 := rk_cY p n 5 0 0
theorem rk_CX (p : Nat → Int32) {n : Nat} (h : n < 3125) : rk_cX p 5 n 0 0 = rk_C p n := by
  unfold rk_cX rk_C rk_cY
  rw [rk_okXY n h, rk_brXY, rk_sumXY]
def rk_Pr (p : Nat → Int32) : Prop := ∀ i, p i = -1 ∨ ∃ j, j ≤ 99 ∧ p i = nI j
theorem rk_sumR {p : Nat → Int32} (hp : rk_Pr p) (n : Nat) : ∀ k a, rk_brY p n k = true → ∃ b, b ≤ a + 99 * k ∧ rk_sumY p n k (nI a) = nI b := by
  intro k
  induction k with
  | zero => intro a _; exact ⟨a, by omega, rfl⟩
  | succ k ih =>
    intro a h
    rw [rk_brY, Bool.and_eq_true] at h
    obtain ⟨h1, h2⟩ := h
    rcases hp (5 * (4 - k) + n / 5 ^ k % 5) with e | ⟨j, hj, e⟩
    · rw [decide_eq_true e] at h1
      exact absurd h1 (by decide)
    · obtain ⟨b, hb, eb⟩ := ih (a + j) h2
      refine ⟨b, by omega, ?_⟩
      rw [rk_sumY, e, nI_add]
      exact eb
theorem rk_CR {p : Nat → Int32} (hp : rk_Pr p) (n : Nat) : rk_C p n = -1 ∨ ∃ b, b ≤ 495 ∧ rk_C p n = nI b := by
  unfold rk_C rk_cY
  by_cases h : (rk_okY n 5 0 && rk_brY p n 5) = true
  · right
    rw [if_pos h]
    rw [Bool.and_eq_true] at h
    obtain ⟨b, hb, e⟩ := rk_sumR hp n 5 0 h.2
    exact ⟨b, by omega, e⟩
  · left
    rw [if_neg h]
theorem rk_Cok {p : Nat → Int32} {n : Nat} (h : ¬ rk_C p n = -1) : rk_okY n 5 0 = true := by
  unfold rk_C rk_cY at h
  by_cases z : (rk_okY n 5 0 && rk_brY p n 5) = true
  · rw [Bool.and_eq_true] at z
    exact z.1
  · rw [if_neg z] at h
    exact absurd rfl h
/-! there are 120 numbers with five unlike digits -/
def rk_P (a : Nat) : Nat → Nat
  | 0 => 0
  | k + 1 => rk_P a k + (if rk_okY (a + k) 5 0 = true then 1 else 0)
theorem rk_P_add (a b : Nat) : ∀ c, rk_P a (b + c) = rk_P a b + rk_P (a + b) c := by
  intro c
  induction c with
  | zero => rfl
  | succ c ih =>
    show rk_P a (b + c) + (if rk_okY (a + (b + c)) 5 0 = true then 1 else 0) = rk_P a b + (rk_P (a + b) c + (if rk_okY (a + b + c) 5 0 = true then 1 else 0))
    rw [ih, Nat.add_assoc a b c, Nat.add_assoc]
theorem rk_P1 : rk_P 0 625 = 24 := by decide +kernel
theorem rk_P2 : rk_P 625 625 = 24 := by decide +kernel
theorem rk_P3 : rk_P 1250 625 = 24 := by decide +kernel
theorem rk_P4 : rk_P 1875 625 = 24 := by decide +kernel
theorem rk_P5 : rk_P 2500 625 = 24 := by decide +kernel
theorem rk_P120 : rk_P 0 3125 = 120 := by
  have e1 : rk_P 0 3125 = rk_P 0 625 + rk_P 625 2500 := rk_P_add 0 625 2500
  have e2 : rk_P 625 2500 = rk_P 625 625 + rk_P 1250 1875 := rk_P_add 625 625 1875
  have e3 : rk_P 1250 1875 = rk_P 1250 625 + rk_P 1875 1250 := rk_P_add 1250 625 1250
  have e4 : rk_P 1875 1250 = rk_P 1875 625 + rk_P 2500 625 := rk_P_add 1875 625 625
  rw [e1, e2, e3, e4, rk_P1, rk_P2, rk_P3, rk_P4, rk_P5]
theorem rk_Ple {n : Nat} (h : n ≤ 3125) : rk_P 0 n ≤ 120 := by
  have e := rk_P_add 0 n (3125 - n)
  rw [show n + (3125 - n) = 3125 from by omega, rk_P120] at e
  omega
end
section
/-! the insertion and the listing, as functions of the arrays -/
def rk_ins (a b : Int32) : Nat → (Nat → Int32) → (Nat → Int32) → (Nat → Int32) × (Nat → Int32)
  | 0, c, m => (upd c 0 a, upd m 0 b)
  | k + 1, c, m => if c k ≤ a then (upd c (k + 1) a, upd m (k + 1) b) else rk_ins a b k (upd c (k + 1) (c k)) (upd m (k + 1) (m k))
theorem rk_ins_0 (a b : Int32) (c m : Nat → Int32) : rk_ins a b 0 c m = (upd c 0 a, upd m 0 b) := rfl
theorem rk_ins_t {a : Int32} (b : Int32) {k : Nat} {c : Nat → Int32} (m : Nat → Int32) (h : c k ≤ a) : rk_ins a b (k + 1) c m = (upd c (k + 1) a, upd m (k + 1) b) := if_pos h
theorem rk_ins_f {a : Int32} (b : Int32) {k : Nat} {c : Nat → Int32} (m : Nat → Int32) (h : ¬ c k ≤ a) : rk_ins a b (k + 1) c m = rk_ins a b k (upd c (k + 1) (c k)) (upd m (k + 1) (m k)) := if_neg h
def rk_run (C : Nat → Int32) (c0 m0 : Nat → Int32) : Nat → Nat × (Nat → Int32) × (Nat → Int32)
  | 0 => (0, c0, m0)
  | n + 1 => if C n = -1 then rk_run C c0 m0 n else ((rk_run C c0 m0 n).1 + 1, rk_ins (C n) (nI n) (rk_run C c0 m0 n).1 (rk_run C c0 m0 n).2.1 (rk_run C c0 m0 n).2.2)
theorem rk_run_0 (C : Nat → Int32) (c0 m0 : Nat → Int32) : rk_run C c0 m0 0 = (0, c0, m0) := rfl
theorem rk_run_t {C : Nat → Int32} (c0 m0 : Nat → Int32) {n : Nat} (h : C n = -1) : rk_run C c0 m0 (n + 1) = rk_run C c0 m0 n := if_pos h
theorem rk_run_f {C : Nat → Int32} (c0 m0 : Nat → Int32) {n : Nat} (h : ¬ C n = -1) : rk_run C c0 m0 (n + 1) = ((rk_run C c0 m0 n).1 + 1, rk_ins (C n) (nI n) (rk_run C c0 m0 n).1 (rk_run C c0 m0 n).2.1 (rk_run C c0 m0 n).2.2) := if_neg h
def rk_R (c c' m m' : Nat → Int32) (i : Nat) : Prop := c i = c' i ∧ m i = m' i ∧ ∃ q, q < 3125 ∧ m i = nI q
theorem rk_ins_fin {a b : Int32} (hb : ∃ q, q < 3125 ∧ b = nI q) {N k : Nat} {c m c' m' : Nat → Int32} (h : ∀ i, i ≤ N → i ≠ k → rk_R c c' m m' i) : ∀ i, i ≤ N → rk_R (upd c k a) (upd c' k a) (upd m k b) (upd m' k b) i := by
  intro i hi
  by_cases e : i = k
  · subst e
    refine ⟨by rw [pk_us, pk_us], by rw [pk_us, pk_us], ?_⟩
    rw [pk_us]
    exact hb
  · obtain ⟨h1, h2, h3⟩ := h i hi e
    refine ⟨by rw [pk_un e, pk_un e, h1], by rw [pk_un e, pk_un e, h2], ?_⟩
    rw [pk_un e]
    exact h3
theorem rk_ins_sim {a b : Int32} (hb : ∃ q, q < 3125 ∧ b = nI q) (N : Nat) : ∀ (k : Nat) (c m c' m' : Nat → Int32), k ≤ N → (∀ i, i ≤ N → i ≠ k → rk_R c c' m m' i) → ∀ i, i ≤ N → rk_R (rk_ins a b k c m).1 (rk_ins a b k c' m').1 (rk_ins a b k c m).2 (rk_ins a b k c' m').2 i := by
  intro k
  induction k with
  | zero =>
    intro c m c' m' _ h
    exact rk_ins_fin hb h
  | succ k ih =>
    intro c m c' m' hk h i hi
    have hk' := h k (by omega) (by omega)
    by_cases z : c k ≤ a
    · have z' : c' k ≤ a := hk'.1 ▸ z
      rw [rk_ins_t b m z, rk_ins_t b m' z']
      exact rk_ins_fin hb h i hi
    · have z' : ¬ c' k ≤ a := hk'.1 ▸ z
      rw [rk_ins_f b m z, rk_ins_f b m' z']
      refine ih _ _ _ _ (by omega) ?_ i hi
      intro j hj hjk
      by_cases e : j = k + 1
      · subst e
        refine ⟨by rw [pk_us, pk_us]; exact hk'.1, by rw [pk_us, pk_us]; exact hk'.2.1, ?_⟩
        rw [pk_us]
        exact hk'.2.2
      · obtain ⟨h1, h2, h3⟩ := h j hj e
        refine ⟨by rw [pk_un e, pk_un e, h1], by rw [pk_un e, pk_un e, h2], ?_⟩
        rw [pk_un e]
        exact h3
theorem rk_run_sim (C c0 m0 c1 m1 : Nat → Int32) : ∀ n, n ≤ 3125 → (rk_run C c0 m0 n).1 = (rk_run C c1 m1 n).1 ∧ ∀ i, i < (rk_run C c0 m0 n).1 → rk_R (rk_run C c0 m0 n).2.1 (rk_run C c1 m1 n).2.1 (rk_run C c0 m0 n).2.2 (rk_run C c1 m1 n).2.2 i := by
  intro n
  induction n with
  | zero => intro _; exact ⟨rfl, fun i hi => absurd hi (Nat.not_lt_zero i)⟩
  | succ n ih =>
    intro hn
    obtain ⟨e, h⟩ := ih (by omega)
    by_cases z : C n = -1
    · rw [rk_run_t c0 m0 z, rk_run_t c1 m1 z]
      exact ⟨e, h⟩
    · rw [rk_run_f c0 m0 z, rk_run_f c1 m1 z, ← e]
      refine ⟨rfl, fun i hi => ?_⟩
      exact rk_ins_sim ⟨n, by omega, rfl⟩ _ _ _ _ _ _ (Nat.le_refl _) (fun j hj hne => h j (by omega)) i (Nat.le_of_lt_succ hi)
theorem rk_run_le {p : Nat → Int32} (c0 m0 : Nat → Int32) : ∀ n, (rk_run (rk_C p) c0 m0 n).1 ≤ rk_P 0 n := by
  intro n
  induction n with
  | zero => exact Nat.le_refl 0
  | succ n ih =>
    rw [rk_P, Nat.zero_add]
    by_cases z : rk_C p n = -1
    · rw [rk_run_t c0 m0 z]
      omega
    · rw [rk_run_f c0 m0 z, if_pos (rk_Cok z)]
      exact Nat.add_le_add_right ih 1
theorem rk_run_120 {p : Nat → Int32} (c0 m0 : Nat → Int32) {n : Nat} (h : n ≤ 3125) : (rk_run (rk_C p) c0 m0 n).1 ≤ 120 := Nat.le_trans (rk_run_le c0 m0 n) (rk_Ple h)
theorem rk_run_lt {p : Nat → Int32} (c0 m0 : Nat → Int32) {n : Nat} (h : n < 3125) (z : ¬ rk_C p n = -1) : (rk_run (rk_C p) c0 m0 n).1 < 120 := by
  have h1 := rk_run_120 (p := p) c0 m0 (n := n + 1) h
  rw [rk_run_f c0 m0 z] at h1
  exact h1
theorem rk_run_full {p : Nat → Int32} (c0 m0 : Nat → Int32) {n : Nat} (e : (rk_run (rk_C p) c0 m0 n).1 = 120) : ∀ k, n + k ≤ 3125 → rk_run (rk_C p) c0 m0 (n + k) = rk_run (rk_C p) c0 m0 n := by
  intro k
  induction k with
  | zero => intro _; rfl
  | succ k ih =>
    intro h
    have ih' := ih (by omega)
    by_cases z : rk_C p (n + k) = -1
    · rw [← Nat.add_assoc, rk_run_t c0 m0 z]
      exact ih'
    · have h1 := rk_run_lt c0 m0 (n := n + k) (by omega) z
      rw [ih', e] at h1
      exact absurd h1 (Nat.lt_irrefl _)
/-- the listing under the prices p -/
def rk_L (p : Nat → Int32) : Nat × (Nat → Int32) × (Nat → Int32) := rk_run (rk_C p) (fun _ => 0) (fun _ => 0) 3125
/-- cn, c, m hold the listing under p -/
def rk_H (p : Nat → Int32) (cn : Int32) (c m : Nat → Int32) : Prop := cn = nI (rk_L p).1 ∧ ∀ i, i < (rk_L p).1 → rk_R (rk_L p).2.1 c (rk_L p).2.2 m i
theorem rk_L120 (p : Nat → Int32) : (rk_L p).1 ≤ 120 := rk_run_120 _ _ (Nat.le_refl _)
theorem rk_run_H (p c0 m0 : Nat → Int32) : rk_H p (nI (rk_run (rk_C p) c0 m0 3125).1) (rk_run (rk_C p) c0 m0 3125).2.1 (rk_run (rk_C p) c0 m0 3125).2.2 := by
  have h := rk_run_sim (rk_C p) (fun _ => 0) (fun _ => 0) c0 m0 3125 (Nat.le_refl _)
  exact ⟨congrArg nI h.1.symm, h.2⟩
/-! scans over the listing -/
def rk_wi (c : Nat → Int32) (l : Int32) : Nat → Nat
  | 0 => 0
  | n + 1 => rk_wi c l n + (if c n ≤ l then 1 else 0)
theorem rk_wi_le (c : Nat → Int32) (l : Int32) : ∀ n, rk_wi c l n ≤ n := by
  intro n
  induction n with
  | zero => exact Nat.le_refl 0
  | succ n ih =>
    rw [rk_wi]
    split <;> omega
theorem rk_wi_c {c c' : Nat → Int32} (l : Int32) : ∀ n, (∀ i, i < n → c i = c' i) → rk_wi c l n = rk_wi c' l n := by
  intro n
  induction n with
  | zero => intro _; rfl
  | succ n ih =>
    intro h
    rw [rk_wi, rk_wi, ih (fun i hi => h i (by omega)), h n (by omega)]
def rk_fi (f : Nat → Bool) (g : Nat → Int32) : Nat → Nat → Int32
  | 0, _ => -1
  | k + 1, r => if f r = true then g r else rk_fi f g k (r + 1)
theorem rk_fi_t {f : Nat → Bool} (g : Nat → Int32) (k : Nat) {r : Nat} (h : f r = true) : rk_fi f g (k + 1) r = g r := if_pos h
theorem rk_fi_f {f : Nat → Bool} (g : Nat → Int32) (k : Nat) {r : Nat} (h : ¬ f r = true) : rk_fi f g (k + 1) r = rk_fi f g k (r + 1) := if_neg h
theorem rk_fi_c {f f' : Nat → Bool} {g g' : Nat → Int32} : ∀ k r, (∀ i, r ≤ i → i < r + k → f i = f' i ∧ g i = g' i) → rk_fi f g k r = rk_fi f' g' k r := by
  intro k
  induction k with
  | zero => intro _ _; rfl
  | succ k ih =>
    intro r h
    rw [rk_fi, rk_fi, (h r (Nat.le_refl _) (by omega)).1, (h r (Nat.le_refl _) (by omega)).2, ih (r + 1) (fun i h1 h2 => h i (by omega) (by omega))]
end
section
/-! masks of five bits -/
theorem rk_b1 : ∀ m, m < 32 → ∀ t, t < 5 → ((nI m &&& ((1 : Int32) <<< (nI t &&& 31))) = 0 ↔ m.testBit t = false) := by decide +kernel
theorem rk_b2 : ∀ m, m < 32 → ∀ t, t < 5 → (nI m ||| ((1 : Int32) <<< (nI t &&& 31))) = nI (m ||| 2 ^ t) := by decide +kernel
theorem rk_b3 : ∀ m, m < 32 → ∀ t, t < 5 → (((nI m >>> (nI t &&& 31)) &&& 1) = 1 ↔ m.testBit t = true) := by decide +kernel
theorem rk_b4 : ∀ m, m < 32 → ∀ t, t < 5 → m ||| 2 ^ t < 32 := by decide +kernel
theorem rk_m1 : nI 0 + (-1) = (-1 : Int32) := by decide
theorem rk_nm1 {n : Nat} (h : n < 2 ^ 31) : ¬ nI n = -1 := by
  intro e
  have := congrArg Int32.toInt e
  rw [nI_toInt h, show (-1 : Int32).toInt = -1 from by decide] at this
  omega
theorem rk_5 : nI 5 = 5 := by decide +kernel
theorem rk_120 : nI 120 = 120 := by decide +kernel
theorem rk_3125 : nI 3125 = 3125 := by decide +kernel
end
section
/-! the component's private methods, each with a general post -/
theorem rk_n5 : ¬ (5 : Int32) = 0 := by decide
theorem rk_rem5 {r : Nat} (hr : r < 2 ^ 31) : nI r - nI r / 5 * 5 = nI (r % 5) := pk_rem (d := 5) hr (by decide) (by decide)
theorem rk_div5 {r : Nat} (hr : r < 2 ^ 31) : nI r / 5 = nI (r / 5) := pk_div (d := 5) hr (by decide) (by decide)
theorem rk_ixX (k t : Nat) : nI k * 5 + nI t = nI (k * 5 + t) := by
  rw [← nI_add, ← pk_mul, rk_5]
theorem rk_ixY (k t : Nat) : 5 * nI k + nI t = nI (5 * k + t) := by
  rw [← nI_add, ← pk_mul, rk_5]
theorem rk_xcost_loop {p : Nat → Int32} {f : Int32} {m c : Nat → Int32} {post : Int32 → Prop} : ∀ (k r t : Nat) (s : Int32), k ≤ 5 → r < 2 ^ 31 → t < 32 → post (rk_cX p k r t s) → wX_costOfNumber_10 post f p m c (k + 1) (nI r) (nI t) s (nI k + (-1)) := by
  intro k
  induction k with
  | zero =>
    intro r t s _ _ _ h
    exact br_t (by rw [rk_m1]; decide) h
  | succ k ih =>
    intro r t s hk hr ht h
    rw [pk_m1]
    have hd : r % 5 < 5 := Nat.mod_lt _ (by decide)
    refine br_f (nI_pos (by omega)) ⟨rk_n5, nm_r (rk_rem5 hr) (nm_e ⟨?_, ?_⟩)⟩
    · rw [rk_ixX]
      exact vp_in_nI (by omega) (by decide)
    · rw [rk_ixX, nI_clamp (by omega)]
      refine nm_e ?_
      by_cases hb : p (k * 5 + r % 5) = -1
      · rw [rk_cX_b t s hb] at h
        exact br_t hb h
      · refine br_f hb ?_
        by_cases hz : t.testBit (r % 5) = true
        · rw [rk_cX_t s hz] at h
          exact br_f (by rw [rk_b1 t ht _ hd, hz]; decide) h
        · have hz' : t.testBit (r % 5) = false := by simpa using hz
          rw [rk_cX_s s hb hz'] at h
          exact br_t ((rk_b1 t ht _ hd).mpr hz') (nm_r (rk_b2 t ht _ hd) (nm_e ⟨rk_n5, nm_r (rk_div5 hr) (nm_e (ih _ _ _ (by omega) (by omega) (rk_b4 t ht _ hd) h))⟩))
theorem rk_4 : (4 : Int32) = nI 5 + (-1) := by decide
theorem rk_xcost {p : Nat → Int32} {f : Int32} {m c : Nat → Int32} {post : Int32 → Prop} {n : Nat} (hn : n < 3125) (h : post (rk_C p n)) : wpX_costOfNumber post (f, p, m, c) (nI n) := by
  rw [← rk_CX p hn] at h
  have w := rk_xcost_loop (f := f) (m := m) (c := c) 5 n 0 0 (by decide) (by omega) (by decide) h
  rw [← rk_4] at w
  exact ⟨6, w⟩
theorem rk_xins_end {f : Int32} {p c m : Nat → Int32} {post : SX → Prop} {a b : Int32} {k : Nat} (hk : k < 120) (h : post (f + 1, p, upd m k b, upd c k a)) : wX_insertPlan_55 post b a (nI k) f p m c := by
  have hi : vp_in (nI k) 120 := vp_in_nI hk (by decide)
  unfold wX_insertPlan_55
  rw [nI_clamp (by omega)]
  exact ⟨hi, nm_e ⟨hi, nm_e (nm_e h)⟩⟩
theorem rk_xins_loop {f : Int32} {p : Nat → Int32} {post : SX → Prop} {a b : Int32} : ∀ (k : Nat) (c m : Nat → Int32), k < 120 → post (f + 1, p, (rk_ins a b k c m).2, (rk_ins a b k c m).1) → wX_insertPlan_5 post b a f (k + 1) (nI k) p m c := by
  intro k
  induction k with
  | zero =>
    intro c m hk h
    exact br_t (by decide) (rk_xins_end hk h)
  | succ k ih =>
    intro c m hk h
    have hi : vp_in (nI k) 120 := vp_in_nI (by omega) (by decide)
    have hi' : vp_in (nI (k + 1)) 120 := vp_in_nI hk (by decide)
    refine br_f (nI_nle (by omega) (by omega)) ?_
    rw [nI_pred, nI_clamp (n := k) (by omega), nI_clamp (n := k + 1) (by omega), pk_m1]
    by_cases z : c k ≤ a
    · rw [rk_ins_t b m z] at h
      exact ⟨hi, br_t z (rk_xins_end hk h)⟩
    · rw [rk_ins_f b m z] at h
      exact ⟨hi, br_f z ⟨hi, hi', nm_e ⟨hi, hi', nm_e (nm_e (ih _ _ (by omega) h))⟩⟩⟩
theorem rk_xins {p c m : Nat → Int32} {post : SX → Prop} {a b : Int32} {k : Nat} (hk : k < 120) (h : post (nI (k + 1), p, (rk_ins a b k c m).2, (rk_ins a b k c m).1)) : wpX_insertPlan post (nI k, p, m, c) b a := by
  rw [← nI_1] at h
  exact ⟨k + 1, rk_xins_loop k c m hk h⟩
theorem rk_xrank_loop {p c0 m0 : Nat → Int32} {post : SX → Prop} {N : Nat} (hN : N = 3125) (h : post (nI (rk_run (rk_C p) c0 m0 N).1, p, (rk_run (rk_C p) c0 m0 N).2.2, (rk_run (rk_C p) c0 m0 N).2.1)) : ∀ (d j : Nat), j + d = N → wX_rankPlans_7 post (d + 1) (nI j) (nI (rk_run (rk_C p) c0 m0 j).1) p (rk_run (rk_C p) c0 m0 j).2.2 (rk_run (rk_C p) c0 m0 j).2.1 := by
  intro d
  induction d with
  | zero =>
    intro j hj
    have e : j = N := hj
    subst e
    exact br_t (by rw [hN, rk_3125]; decide) h
  | succ d ih =>
    intro j hj
    have hj' : ¬ (3125 : Int32) ≤ nI j := by
      rw [← rk_3125]
      exact nI_ge (by omega) (by decide)
    refine br_f hj' ?_
    by_cases hf : (rk_run (rk_C p) c0 m0 j).1 = 120
    · refine br_t (by rw [hf, rk_120]; decide) ?_
      have e := rk_run_full c0 m0 hf (d + 1) (by omega)
      rw [hj] at e
      rw [e] at h
      exact h
    · have h1 := rk_run_120 (p := p) c0 m0 (n := j) (by omega)
      have h2 : ¬ (120 : Int32) ≤ nI (rk_run (rk_C p) c0 m0 j).1 := by
        rw [← rk_120]
        exact nI_ge (by omega) (by decide)
      refine br_f h2 (rk_xcost (by omega) ?_)
      have ih' := ih (j + 1) (by omega)
      by_cases z : rk_C p j = -1
      · rw [rk_run_t c0 m0 z] at ih'
        exact br_t z (nm_r (nI_1 j) ih')
      · rw [rk_run_f c0 m0 z] at ih'
        refine br_f z (rk_xins (by omega) ?_)
        exact nm_r (nI_1 j) ih'
theorem rk_xrank {p c0 m0 : Nat → Int32} {f : Int32} {post : SX → Prop} (h : ∀ cn c m, rk_H p cn c m → post (cn, p, m, c)) : wpX_rankPlans post (f, p, m0, c0) := by
  have h' := h _ _ _ (rk_run_H p c0 m0)
  generalize hN : (3125 : Nat) = N at h'
  exact ⟨N + 1, rk_xrank_loop hN.symm h' N 0 (Nat.zero_add N)⟩
theorem rk_xtask_loop {post : Int32 → Prop} {w : Nat} : ∀ (d r : Nat), w + d ≤ 4 → r < 2 ^ 31 → post (nI (r / 5 ^ d % 5)) → wX_taskInNumber_4 post (nI w) (d + 1) (nI r) (nI (w + d)) := by
  intro d
  induction d with
  | zero =>
    intro r hw hr h
    refine br_t (nI_le (by omega) (by omega)) ⟨rk_n5, ?_⟩
    rw [rk_rem5 hr]
    rw [Nat.pow_zero, Nat.div_one] at h
    exact h
  | succ d ih =>
    intro r hw hr h
    refine br_f (nI_ge (by omega) (by omega)) ⟨rk_n5, nm_r (rk_div5 hr) (nm_r (pk_m1 (w + d)) (ih (r / 5) (by omega) (by omega) ?_))⟩
    rw [Nat.div_div_eq_div_mul, Nat.mul_comm, ← Nat.pow_succ]
    exact h
theorem rk_xtask {post : Int32 → Prop} {n k : Nat} (hn : n < 2 ^ 31) (hk : k ≤ 4) (h : post (nI (n / 5 ^ k % 5))) : wpX_taskInNumber post (nI n) (nI (4 - k)) := by
  have w := rk_xtask_loop (w := 4 - k) k n (by omega) hn h
  rw [show 4 - k + k = 4 from by omega] at w
  exact ⟨k + 1, w⟩
def rk_out (x : Int32) : Prop := x < 0 ∨ 5 ≤ x
theorem rk_in5 (x : Int32) : rk_out x ∨ ∃ j : Nat, j < 5 ∧ x = nI j := by
  rcases pk_ix x (n := 5) (by decide) with h | h | h
  · exact Or.inl (Or.inl h)
  · exact Or.inl (Or.inr (by rw [rk_5] at h; exact h))
  · exact Or.inr h
theorem rk_xon0 {post : Int32 → Prop} {x : Int32} (hx : rk_out x) (h : post 0) : wpX_isOnSide post x := by
  by_cases z : x < 0
  · exact br_t z h
  · exact br_f z (br_t (hx.resolve_left z) h)
theorem rk_xon1 {post : Int32 → Prop} {j : Nat} (hj : j < 5) (h : post 1) : wpX_isOnSide post (nI j) := by
  refine br_f (nI_pos (by omega)) (br_f ?_ h)
  rw [← rk_5]
  exact nI_ge hj (by decide)
theorem rk_n10 : ¬ (1 : Int32) = 0 := by decide
theorem rk_xpair0 {post : Int32 → Prop} {x y : Int32} (hx : rk_out x ∨ rk_out y) (h : post 0) : wpX_isPair post x y := by
  rcases rk_in5 x with z | ⟨i, hi, rfl⟩
  · exact rk_xon0 z (br_t rfl h)
  · rcases rk_in5 y with z | ⟨j, hj, rfl⟩
    · exact rk_xon1 hi (br_f rk_n10 (rk_xon0 z (br_t rfl h)))
    · exact rk_xon1 hi (br_f rk_n10 (rk_xon1 hj (br_f rk_n10 (False.elim (by
        have q : ∀ i, i < 5 → ¬ rk_out (nI i) := by
          intro i hi hx
          rcases hx with h1 | h1
          · exact nI_pos (by omega) h1
          · rw [← rk_5] at h1
            exact nI_ge hi (by decide) h1
        exact hx.elim (q i hi) (q j hj))))))
theorem rk_xpair1 {post : Int32 → Prop} {i j : Nat} (hi : i < 5) (hj : j < 5) (h : post 1) : wpX_isPair post (nI i) (nI j) :=
  rk_xon1 hi (br_f rk_n10 (rk_xon1 hj (br_f rk_n10 h)))
theorem rk_xisr0 {post : Int32 → Prop} {cn x : Int32} {p m c : Nat → Int32} (hx : x < 0 ∨ cn ≤ x) (h : post 0) : wpX_isRank post (cn, p, m, c) x := by
  by_cases z : x < 0
  · exact br_t z h
  · exact br_f z (br_t (hx.resolve_left z) h)
theorem rk_xisr1 {post : Int32 → Prop} {L j : Nat} {p m c : Nat → Int32} (hL : L ≤ 120) (hj : j < L) (h : post 1) : wpX_isRank post (nI L, p, m, c) (nI j) :=
  br_f (nI_pos (by omega)) (br_f (nI_ge hj (by omega)) h)
end
section
/-! the reference's private methods, each with a general post -/
theorem rk_ydig_loop {n : Nat} (hn : n < 2 ^ 31) {post : Int32 → Prop} : ∀ (d i a : Nat), i + d = 4 → 0 < a → a * 5 ^ d < 2 ^ 31 → post (nI (n / (a * 5 ^ d) % 5)) → wY_digit_4 post (nI n) (d + 1) (nI a) (nI i) := by
  intro d
  induction d with
  | zero =>
    intro i a hi h0 ha h
    rw [Nat.pow_zero, Nat.mul_one] at ha h
    have e : i = 4 := hi
    subst e
    refine br_t (by decide) (br_f (nI_nle h0 ha) ⟨nI_ne0 h0 ha, rk_n5, ?_⟩)
    rw [pk_div hn h0 ha, rk_rem5 (Nat.lt_of_le_of_lt (Nat.div_le_self n a) hn)]
    exact h
  | succ d ih =>
    intro i a hi h0 ha h
    have e : a * 5 ^ (d + 1) = 5 * a * 5 ^ d := by
      rw [Nat.pow_succ, Nat.mul_comm 5 a, Nat.mul_assoc, Nat.mul_comm 5 (5 ^ d)]
    rw [e] at ha h
    have h4 : ¬ (4 : Int32) ≤ nI i := by
      have : ¬ nI 4 ≤ nI i := nI_ge (by omega) (by decide)
      exact this
    refine br_f h4 (nm_r (pk_mul 5 a) (nm_r (nI_1 i) (ih (i + 1) (5 * a) (by omega) (by omega) ha h)))
theorem rk_p5 : ∀ k, k ≤ 4 → 5 ^ k < 2 ^ 31 := by decide
theorem rk_ydig {post : Int32 → Prop} {n k : Nat} (hn : n < 2 ^ 31) (hk : k ≤ 4) (h : post (nI (n / 5 ^ k % 5))) : wpY_digit post (nI n) (nI (4 - k)) := by
  refine ⟨k + 1, rk_ydig_loop hn k (4 - k) 1 (by omega) (by decide) ?_ ?_⟩
  · rw [Nat.one_mul]
    exact rk_p5 k hk
  · rw [Nat.one_mul]
    exact h
theorem rk_ycost_loop {p : Nat → Int32} (hp : rk_Pr p) {f : Int32} {m c : Nat → Int32} {n : Nat} (hn : n < 2 ^ 31) {post : Int32 → Prop} : ∀ (k t : Nat) (s : Int32), k ≤ 5 → t < 32 → post (rk_cY p n k t s) → wY_costOf_7 post (nI n) f p m c (k + 1) (nI t) s (nI (5 - k)) := by
  intro k
  induction k with
  | zero =>
    intro t s _ _ h
    exact br_t (by decide) h
  | succ k ih =>
    intro t s hk ht h
    rw [show 5 - (k + 1) = 4 - k from by omega]
    have hd : n / 5 ^ k % 5 < 5 := Nat.mod_lt _ (by decide)
    have h5 : ¬ (5 : Int32) ≤ nI (4 - k) := by
      rw [← rk_5]
      exact nI_ge (by omega) (by decide)
    refine br_f h5 (rk_ydig hn (by omega) ?_)
    rw [rk_ixY, nI_clamp (by omega), nI_1, show 4 - k + 1 = 5 - k from by omega]
    have hi : vp_in (nI (5 * (4 - k) + n / 5 ^ k % 5)) 25 := vp_in_nI (by omega) (by decide)
    by_cases hz : t.testBit (n / 5 ^ k % 5) = true
    · rw [rk_cY_t s hz] at h
      exact br_t ((rk_b3 t ht _ hd).mpr hz) h
    · refine br_f (fun z => hz ((rk_b3 t ht _ hd).mp z)) ⟨hi, ?_⟩
      have hz' : t.testBit (n / 5 ^ k % 5) = false := by simpa using hz
      rcases hp (5 * (4 - k) + n / 5 ^ k % 5) with hb | ⟨q, hq, eq⟩
      · rw [rk_cY_b t s hb] at h
        exact br_f (by rw [hb]; decide) h
      · have hb : ¬ p (5 * (4 - k) + n / 5 ^ k % 5) = -1 := by
          rw [eq]
          exact rk_nm1 (by omega)
        rw [rk_cY_s s hb hz'] at h
        refine br_t (by rw [eq]; exact nI_pos' (by omega)) (nm_r (rk_b2 t ht _ hd) ⟨hi, nm_e (nm_e (ih _ _ (by omega) (rk_b4 t ht _ hd) h))⟩)
theorem rk_ycost {p : Nat → Int32} (hp : rk_Pr p) {f : Int32} {m c : Nat → Int32} {post : Int32 → Prop} {n : Nat} (hn : n < 3125) (h : post (rk_C p n)) : wpY_costOf post (f, p, m, c) (nI n) :=
  ⟨6, rk_ycost_loop hp (by omega) 5 0 0 (by decide) (by decide) h⟩
theorem rk_yins_end {f : Int32} {p c m : Nat → Int32} {post : SY → Prop} {J : Int32 → Int32 → (Nat → Int32) → (Nat → Int32) → (Nat → Int32) → Prop} {a b : Int32} {k : Nat} (hk : k < 120) (h : J (b + 1) (f + 1) p (upd m k b) (upd c k a)) : wY_list_79 post J b a (nI k) f p m c := by
  have hi : vp_in (nI k) 120 := vp_in_nI hk (by decide)
  unfold wY_list_79
  rw [nI_clamp (by omega)]
  exact ⟨hi, nm_e ⟨hi, nm_e (nm_e (nm_e h))⟩⟩
theorem rk_yins_loop {f : Int32} {p : Nat → Int32} {post : SY → Prop} {J : Int32 → Int32 → (Nat → Int32) → (Nat → Int32) → (Nat → Int32) → Prop} {a b : Int32} : ∀ (k : Nat) (c m : Nat → Int32), k < 120 → J (b + 1) (f + 1) p (rk_ins a b k c m).2 (rk_ins a b k c m).1 → wY_list_29 post J b a f (k + 1) (nI k) p m c := by
  intro k
  induction k with
  | zero =>
    intro c m hk h
    exact br_t (by decide) (rk_yins_end hk h)
  | succ k ih =>
    intro c m hk h
    have hi : vp_in (nI k) 120 := vp_in_nI (by omega) (by decide)
    have hi' : vp_in (nI (k + 1)) 120 := vp_in_nI hk (by decide)
    refine br_f (nI_nle (by omega) (by omega)) ?_
    rw [nI_pred, nI_clamp (n := k) (by omega), nI_clamp (n := k + 1) (by omega), pk_m1]
    by_cases z : c k ≤ a
    · rw [rk_ins_t b m z] at h
      exact ⟨hi, br_t z (rk_yins_end hk h)⟩
    · rw [rk_ins_f b m z] at h
      exact ⟨hi, br_f z ⟨hi, hi', nm_e ⟨hi, hi', nm_e (nm_e (ih _ _ (by omega) h))⟩⟩⟩
theorem rk_ylist_loop {p c0 m0 : Nat → Int32} (hp : rk_Pr p) {post : SY → Prop} {N : Nat} (hN : N = 3125) (h : post (nI (rk_run (rk_C p) c0 m0 N).1, p, (rk_run (rk_C p) c0 m0 N).2.2, (rk_run (rk_C p) c0 m0 N).2.1)) : ∀ (d j : Nat), j + d = N → wY_list_7 post (d + 1) (nI j) (nI (rk_run (rk_C p) c0 m0 j).1) p (rk_run (rk_C p) c0 m0 j).2.2 (rk_run (rk_C p) c0 m0 j).2.1 := by
  intro d
  induction d with
  | zero =>
    intro j hj
    have e : j = N := hj
    subst e
    exact br_t (by rw [hN, rk_3125]; decide) h
  | succ d ih =>
    intro j hj
    have hj' : ¬ (3125 : Int32) ≤ nI j := by
      rw [← rk_3125]
      exact nI_ge (by omega) (by decide)
    refine br_f hj' (rk_ycost hp (by omega) ?_)
    have ih' := ih (j + 1) (by omega)
    by_cases z : rk_C p j = -1
    · rw [rk_run_t c0 m0 z] at ih'
      exact br_t (by rw [z]; decide) (nm_r (nI_1 j) ih')
    · have h0 : ¬ rk_C p j < 0 := by
        rcases rk_CR hp j with e | ⟨b, hb, e⟩
        · exact absurd e z
        · rw [e]
          exact nI_pos (by omega)
      rw [rk_run_f c0 m0 z] at ih'
      refine br_f h0 ⟨(rk_run (rk_C p) c0 m0 j).1 + 1, rk_yins_loop _ _ _ (rk_run_lt c0 m0 (by omega) z) ?_⟩
      rw [nI_1, nI_1]
      exact ih'
theorem rk_ylist {p c0 m0 : Nat → Int32} (hp : rk_Pr p) {f : Int32} {post : SY → Prop} (h : ∀ cn c m, rk_H p cn c m → post (cn, p, m, c)) : wpY_list post (f, p, m0, c0) := by
  have h' := h _ _ _ (rk_run_H p c0 m0)
  generalize hN : (3125 : Nat) = N at h'
  exact ⟨N + 1, rk_ylist_loop hp hN.symm h' N 0 (Nat.zero_add N)⟩
theorem rk_ybad1 {post : Int32 → Prop} {x : Int32} (hx : rk_out x) (h : post 1) : wpY_bad post x := by
  by_cases z : x < 0
  · exact br_t z h
  · refine br_f z (br_f ?_ h)
    have h5 := hx.resolve_left z
    intro h4
    exact absurd (Int32.le_trans h5 h4) (by decide)
theorem rk_ybad0 {post : Int32 → Prop} {j : Nat} (hj : j < 5) (h : post 0) : wpY_bad post (nI j) := by
  refine br_f (nI_pos (by omega)) (br_t ?_ h)
  have : nI j ≤ nI 4 := nI_le (by omega) (by decide)
  exact this
end
section
/-! the public methods that scan, each side against the same pure scan -/
theorem rk_xwi_loop {L : Nat} (hL : L ≤ 120) {p m c : Nat → Int32} {l : Int32} {post : Int32 → Prop} (h : post (nI (rk_wi c l L))) : ∀ (d j : Nat), j + d = L → wX_within_4 post l (nI L) p m c (d + 1) (nI (rk_wi c l j)) (nI j) := by
  intro d
  induction d with
  | zero =>
    intro j hj
    have e : j = L := hj
    subst e
    exact br_t (nI_le (Nat.le_refl _) (by omega)) h
  | succ d ih =>
    intro j hj
    refine br_f (nI_ge (by omega) (by omega)) ⟨vp_in_nI (by omega) (by decide), ?_⟩
    rw [nI_clamp (by omega), nI_1 j]
    have ih' := ih (j + 1) (by omega)
    by_cases z : c j ≤ l
    · rw [rk_wi, if_pos z] at ih'
      exact br_f (Int32.not_lt.mpr z) (nm_r (nI_1 _) (nm_e ih'))
    · rw [rk_wi, if_neg z] at ih'
      exact br_t (Int32.not_le.mp z) (nm_e ih')
theorem rk_ywi_loop {L : Nat} (hL : L ≤ 120) {p m c : Nat → Int32} {l : Int32} {post : Int32 → SY → Prop} (h : post (nI (rk_wi c l L)) (nI L, p, m, c)) : ∀ (d j : Nat), j + d = L → wY_within_8 post l (nI L) p m c (d + 1) (nI (rk_wi c l j)) (nI j) := by
  intro d
  induction d with
  | zero =>
    intro j hj
    have e : j = L := hj
    subst e
    exact br_t (nI_le (Nat.le_refl _) (by omega)) h
  | succ d ih =>
    intro j hj
    refine br_f (nI_ge (by omega) (by omega)) ⟨vp_in_nI (by omega) (by decide), ?_⟩
    rw [nI_clamp (by omega), nI_1 j]
    have ih' := ih (j + 1) (by omega)
    by_cases z : c j ≤ l
    · rw [rk_wi, if_pos z] at ih'
      exact br_f (Int32.not_lt.mpr z) (nm_r (nI_1 _) (nm_e ih'))
    · rw [rk_wi, if_neg z] at ih'
      exact br_t (Int32.not_le.mp z) (nm_e ih')
theorem rk_xrk_loop {L : Nat} (hL : L ≤ 120) {p m c : Nat → Int32} {x : Int32} {post : Int32 → Prop} : ∀ (d j : Nat), j + d = L → post (rk_fi (fun r => decide (m r = x)) nI d j) → wX_rank_2 post x (nI L) p m c (d + 1) (nI j) := by
  intro d
  induction d with
  | zero =>
    intro j hj h
    exact br_t (nI_le (by omega) (by omega)) h
  | succ d ih =>
    intro j hj h
    refine br_f (nI_ge (by omega) (by omega)) ⟨vp_in_nI (by omega) (by decide), ?_⟩
    rw [nI_clamp (by omega)]
    by_cases z : m j = x
    · rw [rk_fi_t (f := fun r => decide (m r = x)) nI d (decide_eq_true z)] at h
      exact br_t z h
    · rw [rk_fi_f (f := fun r => decide (m r = x)) nI d (fun q => z (of_decide_eq_true q))] at h
      exact br_f z (nm_r (nI_1 j) (ih (j + 1) (by omega) h))
theorem rk_yrk_loop {L : Nat} (hL : L ≤ 120) {p m c : Nat → Int32} {x : Int32} {post : Int32 → SY → Prop} : ∀ (d j : Nat), j + d = L → post (rk_fi (fun r => decide (m r = x)) nI d j) (nI L, p, m, c) → wY_rank_6 post x (nI L) p m c (d + 1) (nI j) := by
  intro d
  induction d with
  | zero =>
    intro j hj h
    exact br_t (nI_le (by omega) (by omega)) h
  | succ d ih =>
    intro j hj h
    refine br_f (nI_ge (by omega) (by omega)) ⟨vp_in_nI (by omega) (by decide), ?_⟩
    rw [nI_clamp (by omega)]
    by_cases z : m j = x
    · rw [rk_fi_t (f := fun r => decide (m r = x)) nI d (decide_eq_true z)] at h
      exact br_t z h
    · rw [rk_fi_f (f := fun r => decide (m r = x)) nI d (fun q => z (of_decide_eq_true q))] at h
      exact br_f z (nm_r (nI_1 j) (ih (j + 1) (by omega) h))
def rk_has (m : Nat → Int32) (k : Nat) (x : Int32) (r : Nat) : Bool := decide (nI ((m r).toNatClampNeg / 5 ^ k % 5) = x)
theorem rk_has_q {m : Nat → Int32} {k r q : Nat} {x : Int32} (hq : q < 3125) (e : m r = nI q) : rk_has m k x r = decide (nI (q / 5 ^ k % 5) = x) := by
  unfold rk_has
  rw [e, nI_clamp (by omega)]
theorem rk_xch_loop {L k : Nat} (hL : L ≤ 120) (hk : k ≤ 4) {p m c : Nat → Int32} {x : Int32} (hm : ∀ i, i < L → ∃ q, q < 3125 ∧ m i = nI q) {post : Int32 → Prop} : ∀ (d j : Nat), j + d = L → post (rk_fi (rk_has m k x) c d j) → wX_cheapestWith_12 post (nI (4 - k)) x (nI L) p m c (d + 1) (nI j) := by
  intro d
  induction d with
  | zero =>
    intro j hj h
    exact br_t (nI_le (by omega) (by omega)) h
  | succ d ih =>
    intro j hj h
    have hi : vp_in (nI j) 120 := vp_in_nI (by omega) (by decide)
    refine br_f (nI_ge (by omega) (by omega)) ⟨hi, ?_⟩
    obtain ⟨q, hq, e⟩ := hm j (by omega)
    rw [nI_clamp (by omega), e]
    refine rk_xtask (by omega) hk ?_
    have ef := rk_has_q (k := k) (x := x) hq e
    by_cases z : nI (q / 5 ^ k % 5) = x
    · rw [rk_fi_t c d (by rw [ef]; exact decide_eq_true z)] at h
      exact br_t z ⟨hi, h⟩
    · rw [rk_fi_f c d (by rw [ef]; exact fun w => z (of_decide_eq_true w))] at h
      exact br_f z (nm_r (nI_1 j) (ih (j + 1) (by omega) h))
theorem rk_ych_loop {L k : Nat} (hL : L ≤ 120) (hk : k ≤ 4) {p m c : Nat → Int32} {x : Int32} (hm : ∀ i, i < L → ∃ q, q < 3125 ∧ m i = nI q) {post : Int32 → SY → Prop} : ∀ (d j : Nat), j + d = L → post (rk_fi (rk_has m k x) c d j) (nI L, p, m, c) → wY_cheapestWith_22 post (nI (4 - k)) x (nI L) p m c (d + 1) (nI j) := by
  intro d
  induction d with
  | zero =>
    intro j hj h
    exact br_t (nI_le (by omega) (by omega)) h
  | succ d ih =>
    intro j hj h
    have hi : vp_in (nI j) 120 := vp_in_nI (by omega) (by decide)
    refine br_f (nI_ge (by omega) (by omega)) ⟨hi, ?_⟩
    obtain ⟨q, hq, e⟩ := hm j (by omega)
    rw [nI_clamp (by omega), e]
    refine rk_ydig (by omega) hk ?_
    have ef := rk_has_q (k := k) (x := x) hq e
    by_cases z : nI (q / 5 ^ k % 5) = x
    · rw [rk_fi_t c d (by rw [ef]; exact decide_eq_true z)] at h
      exact br_t z ⟨hi, h⟩
    · rw [rk_fi_f c d (by rw [ef]; exact fun w => z (of_decide_eq_true w))] at h
      exact br_f z (nm_r (nI_1 j) (ih (j + 1) (by omega) h))
end
section
/-! the public methods at their own names, each with a general post -/
theorem rk_ixY' (k t : Nat) : 5 * nI k + nI t = nI (k * 5 + t) := by
  rw [rk_ixY, Nat.mul_comm]
theorem rk_PrU {p : Nat → Int32} (hp : rk_Pr p) {x : Int32} (hx : x = -1 ∨ ∃ j, j ≤ 99 ∧ x = nI j) (k : Nat) : rk_Pr (upd p k x) := by
  intro i
  by_cases e : i = k
  · rw [e, pk_us]
    exact hx
  · rw [pk_un e]
    exact hp i
theorem rk_Pr0 : rk_Pr (fun _ => 0) := fun _ => Or.inr ⟨0, by decide, rfl⟩
theorem rk_nout {i : Nat} (hi : i < 5) : ¬ rk_out (nI i) := by
  intro hx
  rcases hx with h1 | h1
  · exact nI_pos (by omega) h1
  · rw [← rk_5] at h1
    exact nI_ge hi (by decide) h1
theorem rx_price0 {post : Int32 → SX → Prop} {f : Int32} {p m c : Nat → Int32} {x y z : Int32} (hx : rk_out x ∨ rk_out y) (h : post (-1) (f, p, m, c)) : wpX_price post (f, p, m, c) x y z := by
  unfold wpX_price
  dsimp only
  exact rk_xpair0 hx (br_t rfl h)
theorem rx_priceR {post : Int32 → SX → Prop} {f : Int32} {p m c : Nat → Int32} {i j : Nat} (hi : i < 5) (hj : j < 5) {z : Int32} (hz : z < 0 ∨ ¬ z ≤ 99) (h : post (-1) (f, p, m, c)) : wpX_price post (f, p, m, c) (nI i) (nI j) z := by
  unfold wpX_price
  dsimp only
  refine rk_xpair1 hi hj (br_f rk_n10 ?_)
  by_cases z0 : z < 0
  · exact br_t z0 h
  · exact br_f z0 (br_f (hz.resolve_left z0) h)
theorem rx_price1 {post : Int32 → SX → Prop} {f : Int32} {p m c : Nat → Int32} {i j : Nat} (hi : i < 5) (hj : j < 5) {x : Int32} (h3 : ¬ x < 0) (h99 : x ≤ 99) (h : ∀ cn c m, rk_H (upd p (i * 5 + j) x) cn c m → post 0 (cn, upd p (i * 5 + j) x, m, c)) : wpX_price post (f, p, m, c) (nI i) (nI j) x := by
  unfold wpX_price
  dsimp only
  rw [rk_ixX, nI_clamp (by omega)]
  exact rk_xpair1 hi hj (br_f rk_n10 (br_f h3 (br_t h99 ⟨vp_in_nI (by omega) (by decide), nm_e (rk_xrank h)⟩)))
theorem rx_bar0 {post : Int32 → SX → Prop} {f : Int32} {p m c : Nat → Int32} {x y : Int32} (hx : rk_out x ∨ rk_out y) (h : post (-1) (f, p, m, c)) : wpX_bar post (f, p, m, c) x y := by
  unfold wpX_bar
  dsimp only
  exact rk_xpair0 hx (br_t rfl h)
theorem rx_bar1 {post : Int32 → SX → Prop} {f : Int32} {p m c : Nat → Int32} {i j : Nat} (hi : i < 5) (hj : j < 5) (h : ∀ cn c m, rk_H (upd p (i * 5 + j) (-1)) cn c m → post 0 (cn, upd p (i * 5 + j) (-1), m, c)) : wpX_bar post (f, p, m, c) (nI i) (nI j) := by
  unfold wpX_bar
  dsimp only
  rw [rk_ixX, nI_clamp (by omega)]
  exact rk_xpair1 hi hj (br_f rk_n10 ⟨vp_in_nI (by omega) (by decide), nm_e (rk_xrank h)⟩)
theorem rx_ch0 {post : Int32 → Prop} {f : Int32} {p m c : Nat → Int32} {x y : Int32} (hx : rk_out x ∨ rk_out y) (h : post (-1)) : wpX_cheapestWith post (f, p, m, c) x y := by
  unfold wpX_cheapestWith
  dsimp only
  exact rk_xpair0 hx (br_t rfl h)
theorem rx_ch1 {post : Int32 → Prop} {f : Int32} {p m c : Nat → Int32} {i j : Nat} (hi : i < 5) (hj : j < 5) (h : ∃ n : Nat, wX_cheapestWith_12 post (nI i) (nI j) f p m c n 0) : wpX_cheapestWith post (f, p, m, c) (nI i) (nI j) := by
  unfold wpX_cheapestWith
  dsimp only
  exact rk_xpair1 hi hj (br_f rk_n10 h)
theorem rx_cost0 {post : Int32 → Prop} {f : Int32} {p m c : Nat → Int32} {x : Int32} (hx : x < 0 ∨ f ≤ x) (h : post (-1)) : wpX_cost post (f, p, m, c) x := by
  unfold wpX_cost
  dsimp only
  exact rk_xisr0 hx (br_t rfl h)
theorem rx_cost1 {post : Int32 → Prop} {p m c : Nat → Int32} {L j : Nat} (hL : L ≤ 120) (hj : j < L) (h : post (c j)) : wpX_cost post (nI L, p, m, c) (nI j) := by
  unfold wpX_cost
  dsimp only
  rw [nI_clamp (by omega)]
  exact rk_xisr1 hL hj (br_f rk_n10 ⟨vp_in_nI (by omega) (by decide), h⟩)
theorem rx_plan0 {post : Int32 → Prop} {f : Int32} {p m c : Nat → Int32} {x : Int32} (hx : x < 0 ∨ f ≤ x) (h : post (-1)) : wpX_plan post (f, p, m, c) x := by
  unfold wpX_plan
  dsimp only
  exact rk_xisr0 hx (br_t rfl h)
theorem rx_plan1 {post : Int32 → Prop} {p m c : Nat → Int32} {L j : Nat} (hL : L ≤ 120) (hj : j < L) (h : post (m j)) : wpX_plan post (nI L, p, m, c) (nI j) := by
  unfold wpX_plan
  dsimp only
  rw [nI_clamp (by omega)]
  exact rk_xisr1 hL hj (br_f rk_n10 ⟨vp_in_nI (by omega) (by decide), h⟩)
theorem rx_task0 {post : Int32 → Prop} {f : Int32} {p m c : Nat → Int32} {x y : Int32} (hx : x < 0 ∨ f ≤ x) (h : post (-1)) : wpX_task post (f, p, m, c) x y := by
  unfold wpX_task
  dsimp only
  exact rk_xisr0 hx (br_t rfl h)
theorem rx_taskW {post : Int32 → Prop} {p m c : Nat → Int32} {L j : Nat} (hL : L ≤ 120) (hj : j < L) {y : Int32} (hy : rk_out y) (h : post (-1)) : wpX_task post (nI L, p, m, c) (nI j) y := by
  unfold wpX_task
  dsimp only
  exact rk_xisr1 hL hj (br_f rk_n10 (rk_xon0 hy (br_t rfl h)))
theorem rx_task1 {post : Int32 → Prop} {p m c : Nat → Int32} {L j q t : Nat} (hL : L ≤ 120) (hj : j < L) (hq : q < 3125) (e : m j = nI q) (ht : t ≤ 4) (h : post (nI (q / 5 ^ t % 5))) : wpX_task post (nI L, p, m, c) (nI j) (nI (4 - t)) := by
  unfold wpX_task
  dsimp only
  rw [nI_clamp (by omega), e]
  refine rk_xisr1 hL hj (br_f rk_n10 (rk_xon1 (by omega) (br_f rk_n10 ⟨vp_in_nI (by omega) (by decide), ?_⟩)))
  exact rk_xtask (by omega) ht h
theorem ry_price0 {post : Int32 → SY → Prop} {f : Int32} {p m c : Nat → Int32} {x y z : Int32} (hx : rk_out x ∨ rk_out y) (h : post (-1) (f, p, m, c)) : wpY_price post (f, p, m, c) x y z := by
  unfold wpY_price
  dsimp only
  rcases rk_in5 x with o | ⟨i, hi, rfl⟩
  · exact rk_ybad1 o (br_f rk_n10 h)
  · exact rk_ybad0 hi (br_t rfl (rk_ybad1 (hx.resolve_left (rk_nout hi)) (br_f rk_n10 h)))
theorem ry_priceR {post : Int32 → SY → Prop} {f : Int32} {p m c : Nat → Int32} {i j : Nat} (hi : i < 5) (hj : j < 5) {z : Int32} (hz : z < 0 ∨ ¬ z ≤ 99) (h : post (-1) (f, p, m, c)) : wpY_price post (f, p, m, c) (nI i) (nI j) z := by
  unfold wpY_price
  dsimp only
  refine rk_ybad0 hi (br_t rfl (rk_ybad0 hj (br_t rfl ?_)))
  by_cases z0 : z < 0
  · exact br_t z0 h
  · exact br_f z0 (br_f (hz.resolve_left z0) h)
theorem ry_price1 {post : Int32 → SY → Prop} {f : Int32} {p m c : Nat → Int32} {i j : Nat} (hi : i < 5) (hj : j < 5) {x : Int32} (h3 : ¬ x < 0) (h99 : x ≤ 99) (h : post 0 (f, upd p (i * 5 + j) x, m, c)) : wpY_price post (f, p, m, c) (nI i) (nI j) x := by
  unfold wpY_price
  dsimp only
  rw [rk_ixY', nI_clamp (by omega)]
  exact rk_ybad0 hi (br_t rfl (rk_ybad0 hj (br_t rfl (br_f h3 (br_t h99 ⟨vp_in_nI (by omega) (by decide), nm_e h⟩)))))
theorem ry_bar0 {post : Int32 → SY → Prop} {f : Int32} {p m c : Nat → Int32} {x y : Int32} (hx : rk_out x ∨ rk_out y) (h : post (-1) (f, p, m, c)) : wpY_bar post (f, p, m, c) x y := by
  unfold wpY_bar
  dsimp only
  rcases rk_in5 x with o | ⟨i, hi, rfl⟩
  · exact rk_ybad1 o (br_f rk_n10 h)
  · exact rk_ybad0 hi (br_t rfl (rk_ybad1 (hx.resolve_left (rk_nout hi)) (br_f rk_n10 h)))
theorem ry_bar1 {post : Int32 → SY → Prop} {f : Int32} {p m c : Nat → Int32} {i j : Nat} (hi : i < 5) (hj : j < 5) (h : post 0 (f, upd p (i * 5 + j) (-1), m, c)) : wpY_bar post (f, p, m, c) (nI i) (nI j) := by
  unfold wpY_bar
  dsimp only
  rw [rk_ixY', nI_clamp (by omega)]
  exact rk_ybad0 hi (br_t rfl (rk_ybad0 hj (br_t rfl ⟨vp_in_nI (by omega) (by decide), nm_e h⟩)))
theorem ry_ch0 {post : Int32 → SY → Prop} {f : Int32} {p m c : Nat → Int32} {x y : Int32} (hx : rk_out x ∨ rk_out y) (h : post (-1) (f, p, m, c)) : wpY_cheapestWith post (f, p, m, c) x y := by
  unfold wpY_cheapestWith
  dsimp only
  rcases rk_in5 x with o | ⟨i, hi, rfl⟩
  · exact rk_ybad1 o (br_f rk_n10 h)
  · exact rk_ybad0 hi (br_t rfl (rk_ybad1 (hx.resolve_left (rk_nout hi)) (br_f rk_n10 h)))
theorem ry_ch1 {post : Int32 → SY → Prop} {f : Int32} {p m c : Nat → Int32} (hp : rk_Pr p) {i j : Nat} (hi : i < 5) (hj : j < 5) (h : ∀ cn c m, rk_H p cn c m → ∃ n : Nat, wY_cheapestWith_22 post (nI i) (nI j) cn p m c n 0) : wpY_cheapestWith post (f, p, m, c) (nI i) (nI j) := by
  unfold wpY_cheapestWith
  dsimp only
  exact rk_ybad0 hi (br_t rfl (rk_ybad0 hj (br_t rfl (rk_ylist hp h))))
theorem ry_plans {post : Int32 → SY → Prop} {f : Int32} {p m c : Nat → Int32} (hp : rk_Pr p) (h : ∀ cn c m, rk_H p cn c m → post cn (cn, p, m, c)) : wpY_plans post (f, p, m, c) := by
  unfold wpY_plans
  dsimp only
  exact rk_ylist hp h
theorem ry_within {post : Int32 → SY → Prop} {f : Int32} {p m c : Nat → Int32} (hp : rk_Pr p) {x : Int32} (h : ∀ cn c m, rk_H p cn c m → ∃ n : Nat, wY_within_8 post x cn p m c n 0 0) : wpY_within post (f, p, m, c) x := by
  unfold wpY_within
  dsimp only
  exact rk_ylist hp h
theorem ry_rank {post : Int32 → SY → Prop} {f : Int32} {p m c : Nat → Int32} (hp : rk_Pr p) {x : Int32} (h : ∀ cn c m, rk_H p cn c m → ∃ n : Nat, wY_rank_6 post x cn p m c n 0) : wpY_rank post (f, p, m, c) x := by
  unfold wpY_rank
  dsimp only
  exact rk_ylist hp h
theorem ry_cost0 {post : Int32 → SY → Prop} {f : Int32} {p m c : Nat → Int32} (hp : rk_Pr p) {x : Int32} (hx : x < 0 ∨ nI (rk_L p).1 ≤ x) (h : ∀ cn c m, rk_H p cn c m → post (-1) (cn, p, m, c)) : wpY_cost post (f, p, m, c) x := by
  unfold wpY_cost
  dsimp only
  refine rk_ylist hp (fun cn c m H => ?_)
  have h' := h cn c m H
  by_cases z : x < 0
  · exact br_t z h'
  · exact br_f z (br_f (by rw [H.1]; exact Int32.not_lt.mpr (hx.resolve_left z)) h')
theorem ry_cost1 {post : Int32 → SY → Prop} {f : Int32} {p m c : Nat → Int32} (hp : rk_Pr p) {j : Nat} (hj : j < (rk_L p).1) (h : ∀ cn c m, rk_H p cn c m → post (c j) (cn, p, m, c)) : wpY_cost post (f, p, m, c) (nI j) := by
  unfold wpY_cost
  dsimp only
  have hL := rk_L120 p
  rw [nI_clamp (by omega)]
  refine rk_ylist hp (fun cn c m H => ?_)
  have h' := h cn c m H
  exact br_f (nI_pos (by omega)) (br_t (by rw [H.1]; exact nI_lt hj (by omega)) ⟨vp_in_nI (by omega) (by decide), h'⟩)
theorem ry_plan0 {post : Int32 → SY → Prop} {f : Int32} {p m c : Nat → Int32} (hp : rk_Pr p) {x : Int32} (hx : x < 0 ∨ nI (rk_L p).1 ≤ x) (h : ∀ cn c m, rk_H p cn c m → post (-1) (cn, p, m, c)) : wpY_plan post (f, p, m, c) x := by
  unfold wpY_plan
  dsimp only
  refine rk_ylist hp (fun cn c m H => ?_)
  have h' := h cn c m H
  by_cases z : x < 0
  · exact br_t z h'
  · exact br_f z (br_f (by rw [H.1]; exact Int32.not_lt.mpr (hx.resolve_left z)) h')
theorem ry_plan1 {post : Int32 → SY → Prop} {f : Int32} {p m c : Nat → Int32} (hp : rk_Pr p) {j : Nat} (hj : j < (rk_L p).1) (h : ∀ cn c m, rk_H p cn c m → post (m j) (cn, p, m, c)) : wpY_plan post (f, p, m, c) (nI j) := by
  unfold wpY_plan
  dsimp only
  have hL := rk_L120 p
  rw [nI_clamp (by omega)]
  refine rk_ylist hp (fun cn c m H => ?_)
  have h' := h cn c m H
  exact br_f (nI_pos (by omega)) (br_t (by rw [H.1]; exact nI_lt hj (by omega)) ⟨vp_in_nI (by omega) (by decide), h'⟩)
theorem ry_taskW {post : Int32 → SY → Prop} {f : Int32} {p m c : Nat → Int32} (hp : rk_Pr p) {x y : Int32} (hy : rk_out y) (h : ∀ cn c m, rk_H p cn c m → post (-1) (cn, p, m, c)) : wpY_task post (f, p, m, c) x y := by
  unfold wpY_task
  dsimp only
  exact rk_ylist hp (fun cn c m H => rk_ybad1 hy (br_f rk_n10 (h cn c m H)))
theorem ry_task0 {post : Int32 → SY → Prop} {f : Int32} {p m c : Nat → Int32} (hp : rk_Pr p) {x : Int32} {w : Nat} (hw : w < 5) (hx : x < 0 ∨ nI (rk_L p).1 ≤ x) (h : ∀ cn c m, rk_H p cn c m → post (-1) (cn, p, m, c)) : wpY_task post (f, p, m, c) x (nI w) := by
  unfold wpY_task
  dsimp only
  refine rk_ylist hp (fun cn c m H => rk_ybad0 hw (br_t rfl ?_))
  have h' := h cn c m H
  by_cases z : x < 0
  · exact br_t z h'
  · exact br_f z (br_f (by rw [H.1]; exact Int32.not_lt.mpr (hx.resolve_left z)) h')
theorem ry_task1 {post : Int32 → SY → Prop} {f : Int32} {p m c : Nat → Int32} (hp : rk_Pr p) {j q t : Nat} (hj : j < (rk_L p).1) (hq : q < 3125) (e : (rk_L p).2.2 j = nI q) (ht : t ≤ 4) (h : ∀ cn c m, rk_H p cn c m → post (nI (q / 5 ^ t % 5)) (cn, p, m, c)) : wpY_task post (f, p, m, c) (nI j) (nI (4 - t)) := by
  unfold wpY_task
  dsimp only
  have hL := rk_L120 p
  rw [nI_clamp (by omega)]
  refine rk_ylist hp (fun cn c m H => rk_ybad0 (by omega) (br_t rfl ?_))
  have h' := h cn c m H
  refine br_f (nI_pos (by omega)) (br_t (by rw [H.1]; exact nI_lt hj (by omega)) ⟨vp_in_nI (by omega) (by decide), ?_⟩)
  dsimp only
  rw [← (H.2 j hj).2.1, e]
  exact rk_ydig (by omega) ht h'
end
section
/-- both sides have the same prices, each -1 or from 0 to 99, and the component holds their listing; what the reference's list holds between calls is free -/
def i_Rel (k : Nat) (u : SX) (v : SY) : Prop := ∃ (p c m c' m' : Nat → Int32) (cn f : Int32), u = (cn, p, m, c) ∧ v = (f, p, m', c') ∧ rk_Pr p ∧ rk_H p cn c m
theorem rk_rel {k : Nat} {p c m c' m' : Nat → Int32} {cn f : Int32} (hp : rk_Pr p) (H : rk_H p cn c m) : i_Rel k (cn, p, m, c) (f, p, m', c') := ⟨p, c, m, c', m', cn, f, rfl, rfl, hp, H⟩
theorem i_up {k : Nat} {u : SX} {v : SY} (h : i_Rel k u v) : i_Rel (k + 4) u v := h
theorem i_vc0 : wpX_init (fun u => wpY_init (fun v => i_Rel 0 u v)) := rk_xrank (fun cn c m H => rk_rel (k := 0) rk_Pr0 H)
theorem i_vc_price {k : Nat} {u : SX} {v : SY} (I : i_Rel k u v) (hk : k + 4 ≤ 2048) (v1 : Int32) (v2 : Int32) (v3 : Int32) : wpX_price (fun r u' => wpY_price (fun r' v' => r' = r ∧ i_Rel (k + 4) u' v') v v1 v2 v3) u v1 v2 v3 := by
  obtain ⟨p, c, m, c', m', cn, f, rfl, rfl, hp, H⟩ := I
  rcases rk_in5 v1 with z | ⟨i, hi, rfl⟩
  · exact rx_price0 (Or.inl z) (ry_price0 (Or.inl z) ⟨rfl, rk_rel hp H⟩)
  · rcases rk_in5 v2 with z | ⟨j, hj, rfl⟩
    · exact rx_price0 (Or.inr z) (ry_price0 (Or.inr z) ⟨rfl, rk_rel hp H⟩)
    · by_cases h3 : v3 < 0
      · exact rx_priceR hi hj (Or.inl h3) (ry_priceR hi hj (Or.inl h3) ⟨rfl, rk_rel hp H⟩)
      · by_cases h99 : v3 ≤ 99
        · have q : ∃ j, j ≤ 99 ∧ v3 = nI j := nI_of2 (M := 99) (n := 99) (by decide) h3 h99
          exact rx_price1 hi hj h3 h99 (fun cn' c'' m'' H' => ry_price1 hi hj h3 h99 ⟨rfl, rk_rel (rk_PrU hp (Or.inr q) _) H'⟩)
        · exact rx_priceR hi hj (Or.inr h99) (ry_priceR hi hj (Or.inr h99) ⟨rfl, rk_rel hp H⟩)
theorem i_vc_bar {k : Nat} {u : SX} {v : SY} (I : i_Rel k u v) (hk : k + 4 ≤ 2048) (v1 : Int32) (v2 : Int32) : wpX_bar (fun r u' => wpY_bar (fun r' v' => r' = r ∧ i_Rel (k + 4) u' v') v v1 v2) u v1 v2 := by
  obtain ⟨p, c, m, c', m', cn, f, rfl, rfl, hp, H⟩ := I
  rcases rk_in5 v1 with z | ⟨i, hi, rfl⟩
  · exact rx_bar0 (Or.inl z) (ry_bar0 (Or.inl z) ⟨rfl, rk_rel hp H⟩)
  · rcases rk_in5 v2 with z | ⟨j, hj, rfl⟩
    · exact rx_bar0 (Or.inr z) (ry_bar0 (Or.inr z) ⟨rfl, rk_rel hp H⟩)
    · exact rx_bar1 hi hj (fun cn' c'' m'' H' => ry_bar1 hi hj ⟨rfl, rk_rel (rk_PrU hp (Or.inl rfl) _) H'⟩)
theorem i_vc_plans {k : Nat} {u : SX} {v : SY} (I : i_Rel k u v) (hk : k + 4 ≤ 2048) : wpX_plans (fun r => wpY_plans (fun r' v' => r' = r ∧ i_Rel (k + 4) u v') v) u := by
  obtain ⟨p, c, m, c', m', cn, f, rfl, rfl, hp, H⟩ := I
  unfold wpX_plans
  dsimp only
  exact ry_plans hp (fun cn' c'' m'' H' => ⟨H'.1.trans H.1.symm, rk_rel hp H⟩)
theorem i_vc_cost {k : Nat} {u : SX} {v : SY} (I : i_Rel k u v) (hk : k + 4 ≤ 2048) (v1 : Int32) : wpX_cost (fun r => wpY_cost (fun r' v' => r' = r ∧ i_Rel (k + 4) u v') v v1) u v1 := by
  obtain ⟨p, c, m, c', m', cn, f, rfl, rfl, hp, H⟩ := I
  have hL := rk_L120 p
  obtain ⟨rfl, hR⟩ := id H
  rcases pk_ix v1 (n := (rk_L p).1) (by omega) with h | h | ⟨j, hj, rfl⟩
  · exact rx_cost0 (Or.inl h) (ry_cost0 hp (Or.inl h) (fun cn' c'' m'' H' => ⟨rfl, rk_rel hp H⟩))
  · exact rx_cost0 (Or.inr h) (ry_cost0 hp (Or.inr h) (fun cn' c'' m'' H' => ⟨rfl, rk_rel hp H⟩))
  · exact rx_cost1 hL hj (ry_cost1 hp hj (fun cn' c'' m'' H' => ⟨(H'.2 j hj).1.symm.trans (hR j hj).1, rk_rel hp H⟩))
theorem i_vc_plan {k : Nat} {u : SX} {v : SY} (I : i_Rel k u v) (hk : k + 4 ≤ 2048) (v1 : Int32) : wpX_plan (fun r => wpY_plan (fun r' v' => r' = r ∧ i_Rel (k + 4) u v') v v1) u v1 := by
  obtain ⟨p, c, m, c', m', cn, f, rfl, rfl, hp, H⟩ := I
  have hL := rk_L120 p
  obtain ⟨rfl, hR⟩ := id H
  rcases pk_ix v1 (n := (rk_L p).1) (by omega) with h | h | ⟨j, hj, rfl⟩
  · exact rx_plan0 (Or.inl h) (ry_plan0 hp (Or.inl h) (fun cn' c'' m'' H' => ⟨rfl, rk_rel hp H⟩))
  · exact rx_plan0 (Or.inr h) (ry_plan0 hp (Or.inr h) (fun cn' c'' m'' H' => ⟨rfl, rk_rel hp H⟩))
  · exact rx_plan1 hL hj (ry_plan1 hp hj (fun cn' c'' m'' H' => ⟨(H'.2 j hj).2.1.symm.trans (hR j hj).2.1, rk_rel hp H⟩))
theorem i_vc_task {k : Nat} {u : SX} {v : SY} (I : i_Rel k u v) (hk : k + 4 ≤ 2048) (v1 : Int32) (v2 : Int32) : wpX_task (fun r => wpY_task (fun r' v' => r' = r ∧ i_Rel (k + 4) u v') v v1 v2) u v1 v2 := by
  obtain ⟨p, c, m, c', m', cn, f, rfl, rfl, hp, H⟩ := I
  have hL := rk_L120 p
  obtain ⟨rfl, hR⟩ := id H
  rcases rk_in5 v2 with z | ⟨w, hw, rfl⟩
  · rcases pk_ix v1 (n := (rk_L p).1) (by omega) with h | h | ⟨j, hj, rfl⟩
    · exact rx_task0 (Or.inl h) (ry_taskW hp z (fun cn' c'' m'' H' => ⟨rfl, rk_rel hp H⟩))
    · exact rx_task0 (Or.inr h) (ry_taskW hp z (fun cn' c'' m'' H' => ⟨rfl, rk_rel hp H⟩))
    · exact rx_taskW hL hj z (ry_taskW hp z (fun cn' c'' m'' H' => ⟨rfl, rk_rel hp H⟩))
  · rcases pk_ix v1 (n := (rk_L p).1) (by omega) with h | h | ⟨j, hj, rfl⟩
    · exact rx_task0 (Or.inl h) (ry_task0 hp hw (Or.inl h) (fun cn' c'' m'' H' => ⟨rfl, rk_rel hp H⟩))
    · exact rx_task0 (Or.inr h) (ry_task0 hp hw (Or.inr h) (fun cn' c'' m'' H' => ⟨rfl, rk_rel hp H⟩))
    · obtain ⟨_, e, q, hq, eq⟩ := hR j hj
      obtain ⟨t, ht, rfl⟩ : ∃ t, t ≤ 4 ∧ w = 4 - t := ⟨4 - w, by omega, by omega⟩
      exact rx_task1 hL hj hq (e.symm.trans eq) ht (ry_task1 hp hj hq eq ht (fun cn' c'' m'' H' => ⟨rfl, rk_rel hp H⟩))
theorem i_vc_within {k : Nat} {u : SX} {v : SY} (I : i_Rel k u v) (hk : k + 4 ≤ 2048) (v1 : Int32) : wpX_within (fun r => wpY_within (fun r' v' => r' = r ∧ i_Rel (k + 4) u v') v v1) u v1 := by
  obtain ⟨p, c, m, c', m', cn, f, rfl, rfl, hp, H⟩ := I
  have hL := rk_L120 p
  obtain ⟨rfl, hR⟩ := id H
  refine ⟨(rk_L p).1 + 1, rk_xwi_loop hL ?_ (rk_L p).1 0 (Nat.zero_add _)⟩
  refine ry_within hp (fun cn' c'' m'' H' => ?_)
  obtain ⟨rfl, hR'⟩ := H'
  refine ⟨(rk_L p).1 + 1, rk_ywi_loop hL ⟨?_, rk_rel hp H⟩ (rk_L p).1 0 (Nat.zero_add _)⟩
  exact congrArg nI (rk_wi_c v1 _ (fun i hi => (hR' i hi).1.symm.trans (hR i hi).1))
theorem i_vc_rank {k : Nat} {u : SX} {v : SY} (I : i_Rel k u v) (hk : k + 4 ≤ 2048) (v1 : Int32) : wpX_rank (fun r => wpY_rank (fun r' v' => r' = r ∧ i_Rel (k + 4) u v') v v1) u v1 := by
  obtain ⟨p, c, m, c', m', cn, f, rfl, rfl, hp, H⟩ := I
  have hL := rk_L120 p
  obtain ⟨rfl, hR⟩ := id H
  refine ⟨(rk_L p).1 + 1, rk_xrk_loop hL (rk_L p).1 0 (Nat.zero_add _) ?_⟩
  refine ry_rank hp (fun cn' c'' m'' H' => ?_)
  obtain ⟨rfl, hR'⟩ := H'
  refine ⟨(rk_L p).1 + 1, rk_yrk_loop hL (rk_L p).1 0 (Nat.zero_add _) ⟨?_, rk_rel hp H⟩⟩
  refine rk_fi_c _ _ (fun i _ hi => ⟨?_, rfl⟩)
  have hi' : i < (rk_L p).1 := by omega
  show decide (m'' i = v1) = decide (m i = v1)
  rw [← (hR' i hi').2.1, (hR i hi').2.1]
theorem i_vc_cheapestWith {k : Nat} {u : SX} {v : SY} (I : i_Rel k u v) (hk : k + 4 ≤ 2048) (v1 : Int32) (v2 : Int32) : wpX_cheapestWith (fun r => wpY_cheapestWith (fun r' v' => r' = r ∧ i_Rel (k + 4) u v') v v1 v2) u v1 v2 := by
  obtain ⟨p, c, m, c', m', cn, f, rfl, rfl, hp, H⟩ := I
  have hL := rk_L120 p
  obtain ⟨rfl, hR⟩ := id H
  rcases rk_in5 v1 with z | ⟨w, hw, rfl⟩
  · exact rx_ch0 (Or.inl z) (ry_ch0 (Or.inl z) ⟨rfl, rk_rel hp H⟩)
  · rcases rk_in5 v2 with z | ⟨x, hx, rfl⟩
    · exact rx_ch0 (Or.inr z) (ry_ch0 (Or.inr z) ⟨rfl, rk_rel hp H⟩)
    · obtain ⟨t, ht, rfl⟩ : ∃ t, t ≤ 4 ∧ w = 4 - t := ⟨4 - w, by omega, by omega⟩
      have hm : ∀ i, i < (rk_L p).1 → ∃ q, q < 3125 ∧ m i = nI q := fun i hi => by
        rw [← (hR i hi).2.1]
        exact (hR i hi).2.2
      refine rx_ch1 hw hx ⟨(rk_L p).1 + 1, rk_xch_loop hL ht hm (rk_L p).1 0 (Nat.zero_add _) ?_⟩
      refine ry_ch1 hp hw hx (fun cn' c'' m'' H' => ?_)
      obtain ⟨rfl, hR'⟩ := H'
      have hm' : ∀ i, i < (rk_L p).1 → ∃ q, q < 3125 ∧ m'' i = nI q := fun i hi => by
        rw [← (hR' i hi).2.1]
        exact (hR' i hi).2.2
      refine ⟨(rk_L p).1 + 1, rk_ych_loop hL ht hm' (rk_L p).1 0 (Nat.zero_add _) ⟨?_, rk_rel hp H⟩⟩
      refine rk_fi_c _ _ (fun i _ hi => ?_)
      have hi' : i < (rk_L p).1 := by omega
      refine ⟨?_, (hR' i hi').1.symm.trans (hR i hi').1⟩
      unfold rk_has
      rw [← (hR' i hi').2.1, (hR i hi').2.1]
end
