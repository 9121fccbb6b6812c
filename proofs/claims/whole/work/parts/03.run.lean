/-! the insertion and the listing, as functions of the arrays -/
def rk_ins (a b : Int32) : Nat → (Nat → Int32) → (Nat → Int32) → (Nat → Int32) × (Nat → Int32)
  | 0, c, m => (upd c 0 a, upd m 0 b)
  | k + 1, c, m => if c k ≤ a then (upd c (k + 1) a, upd m (k + 1) b) else rk_ins a b k (upd c (k + 1) (c k)) (upd m (k + 1) (m k))
theorem rk_ins_0 (a b : Int32) (c m : Nat → Int32) : rk_ins a b 0 c m = (upd c 0 a, upd m 0 b) := rfl
theorem rk_ins_t {a : Int32} (b : Int32) {k : Nat} {c : Nat → Int32} (m : Nat → Int32) (h : c k ≤ a) : rk_ins a b (k + 1) c m = (upd c (k + 1) a, upd m (k + 1) b) := if_pos h
theorem rk_ins_f {a : Int32} (b : Int32) {k : Nat} {c : Nat → Int32} (m : Nat → Int32) (h : ¬ c k ≤ a) : rk_ins a b (k + 1) c m = rk_ins a b k (upd c (k + 1) (c k)) (upd m (k + 1) (m k)) := if_neg h
def rk_run (C : Nat → Int32) (c0 m0 : Nat → Int32) : Nat → Nat × (Nat → Int32) × (Nat → Int32)
  | 0 => (0, c0, m0)
  | n + 1 => if C n = -1 then rk_run C c0 m0 n else ((rk_run C c0 m0 n).1 + 1, rk_ins (C n) (nI n) (rk_run C c0 m0 n).1 (rk_run C c0 m0 n).2.1 (rk_run C c0 m0 n).2.2)
theorem rk_run_0 (C : Nat → Int32) (c0 m0 : Nat → Int32) : rk_run C c0 m0 0 = (0, c0, m0) := rfl
theorem rk_run_t {C : Nat → Int32} (c0 m0 : Nat → Int32) {n : Nat} (h : C n = -1) : rk_run C c0 m0 (n + 1) = rk_run C c0 m0 n := if_pos h
theorem rk_run_f {C : Nat → Int32} (c0 m0 : Nat → Int32) {n : Nat} (h : ¬ C n = -1) : rk_run C c0 m0 (n + 1) = ((rk_run C c0 m0 n).1 + 1, rk_ins (C n) (nI n) (rk_run C c0 m0 n).1 (rk_run C c0 m0 n).2.1 (rk_run C c0 m0 n).2.2) := if_neg h
def rk_R (c c' m m' : Nat → Int32) (i : Nat) : Prop := c i = c' i ∧ m i = m' i ∧ ∃ q, q < 3125 ∧ m i = nI q
theorem rk_ins_fin {a b : Int32} (hb : ∃ q, q < 3125 ∧ b = nI q) {N k : Nat} {c m c' m' : Nat → Int32} (h : ∀ i, i ≤ N → i ≠ k → rk_R c c' m m' i) : ∀ i, i ≤ N → rk_R (upd c k a) (upd c' k a) (upd m k b) (upd m' k b) i := by
  intro i hi
  by_cases e : i = k
  · subst e
    refine ⟨by rw [pk_us, pk_us], by rw [pk_us, pk_us], ?_⟩
    rw [pk_us]
    exact hb
  · obtain ⟨h1, h2, h3⟩ := h i hi e
    refine ⟨by rw [pk_un e, pk_un e, h1], by rw [pk_un e, pk_un e, h2], ?_⟩
    rw [pk_un e]
    exact h3
theorem rk_ins_sim {a b : Int32} (hb : ∃ q, q < 3125 ∧ b = nI q) (N : Nat) : ∀ (k : Nat) (c m c' m' : Nat → Int32), k ≤ N → (∀ i, i ≤ N → i ≠ k → rk_R c c' m m' i) → ∀ i, i ≤ N → rk_R (rk_ins a b k c m).1 (rk_ins a b k c' m').1 (rk_ins a b k c m).2 (rk_ins a b k c' m').2 i := by
  intro k
  induction k with
  | zero =>
    intro c m c' m' _ h
    exact rk_ins_fin hb h
  | succ k ih =>
    intro c m c' m' hk h i hi
    have hk' := h k (by omega) (by omega)
    by_cases z : c k ≤ a
    · have z' : c' k ≤ a := hk'.1 ▸ z
      rw [rk_ins_t b m z, rk_ins_t b m' z']
      exact rk_ins_fin hb h i hi
    · have z' : ¬ c' k ≤ a := hk'.1 ▸ z
      rw [rk_ins_f b m z, rk_ins_f b m' z']
      refine ih _ _ _ _ (by omega) ?_ i hi
      intro j hj hjk
      by_cases e : j = k + 1
      · subst e
        refine ⟨by rw [pk_us, pk_us]; exact hk'.1, by rw [pk_us, pk_us]; exact hk'.2.1, ?_⟩
        rw [pk_us]
        exact hk'.2.2
      · obtain ⟨h1, h2, h3⟩ := h j hj e
        refine ⟨by rw [pk_un e, pk_un e, h1], by rw [pk_un e, pk_un e, h2], ?_⟩
        rw [pk_un e]
        exact h3
theorem rk_run_sim (C c0 m0 c1 m1 : Nat → Int32) : ∀ n, n ≤ 3125 → (rk_run C c0 m0 n).1 = (rk_run C c1 m1 n).1 ∧ ∀ i, i < (rk_run C c0 m0 n).1 → rk_R (rk_run C c0 m0 n).2.1 (rk_run C c1 m1 n).2.1 (rk_run C c0 m0 n).2.2 (rk_run C c1 m1 n).2.2 i := by
  intro n
  induction n with
  | zero => intro _; exact ⟨rfl, fun i hi => absurd hi (Nat.not_lt_zero i)⟩
  | succ n ih =>
    intro hn
    obtain ⟨e, h⟩ := ih (by omega)
    by_cases z : C n = -1
    · rw [rk_run_t c0 m0 z, rk_run_t c1 m1 z]
      exact ⟨e, h⟩
    · rw [rk_run_f c0 m0 z, rk_run_f c1 m1 z, ← e]
      refine ⟨rfl, fun i hi => ?_⟩
      exact rk_ins_sim ⟨n, by omega, rfl⟩ _ _ _ _ _ _ (Nat.le_refl _) (fun j hj hne => h j (by omega)) i (Nat.le_of_lt_succ hi)
theorem rk_run_le {p : Nat → Int32} (c0 m0 : Nat → Int32) : ∀ n, (rk_run (rk_C p) c0 m0 n).1 ≤ rk_P 0 n := by
  intro n
  induction n with
  | zero => exact Nat.le_refl 0
  | succ n ih =>
    rw [rk_P, Nat.zero_add]
    by_cases z : rk_C p n = -1
    · rw [rk_run_t c0 m0 z]
      omega
    · rw [rk_run_f c0 m0 z, if_pos (rk_Cok z)]
      exact Nat.add_le_add_right ih 1
theorem rk_run_120 {p : Nat → Int32} (c0 m0 : Nat → Int32) {n : Nat} (h : n ≤ 3125) : (rk_run (rk_C p) c0 m0 n).1 ≤ 120 := Nat.le_trans (rk_run_le c0 m0 n) (rk_Ple h)
theorem rk_run_lt {p : Nat → Int32} (c0 m0 : Nat → Int32) {n : Nat} (h : n < 3125) (z : ¬ rk_C p n = -1) : (rk_run (rk_C p) c0 m0 n).1 < 120 := by
  have h1 := rk_run_120 (p := p) c0 m0 (n := n + 1) h
  rw [rk_run_f c0 m0 z] at h1
  exact h1
theorem rk_run_full {p : Nat → Int32} (c0 m0 : Nat → Int32) {n : Nat} (e : (rk_run (rk_C p) c0 m0 n).1 = 120) : ∀ k, n + k ≤ 3125 → rk_run (rk_C p) c0 m0 (n + k) = rk_run (rk_C p) c0 m0 n := by
  intro k
  induction k with
  | zero => intro _; rfl
  | succ k ih =>
    intro h
    have ih' := ih (by omega)
    by_cases z : rk_C p (n + k) = -1
    · rw [← Nat.add_assoc, rk_run_t c0 m0 z]
      exact ih'
    · have h1 := rk_run_lt c0 m0 (n := n + k) (by omega) z
      rw [ih', e] at h1
      exact absurd h1 (Nat.lt_irrefl _)
/-- the listing under the prices p -/
def rk_L (p : Nat → Int32) : Nat × (Nat → Int32) × (Nat → Int32) := rk_run (rk_C p) (fun _ => 0) (fun _ => 0) 3125
/-- cn, c, m hold the listing under p -/
def rk_H (p : Nat → Int32) (cn : Int32) (c m : Nat → Int32) : Prop := cn = nI (rk_L p).1 ∧ ∀ i, i < (rk_L p).1 → rk_R (rk_L p).2.1 c (rk_L p).2.2 m i
theorem rk_L120 (p : Nat → Int32) : (rk_L p).1 ≤ 120 := rk_run_120 _ _ (Nat.le_refl _)
theorem rk_run_H (p c0 m0 : Nat → Int32) : rk_H p (nI (rk_run (rk_C p) c0 m0 3125).1) (rk_run (rk_C p) c0 m0 3125).2.1 (rk_run (rk_C p) c0 m0 3125).2.2 := by
  have h := rk_run_sim (rk_C p) (fun _ => 0) (fun _ => 0) c0 m0 3125 (Nat.le_refl _)
  exact ⟨congrArg nI h.1.symm, h.2⟩
/-! scans over the listing -/
def rk_wi (c : Nat → Int32) (l : Int32) : Nat → Nat
  | 0 => 0
  | n + 1 => rk_wi c l n + (if c n ≤ l then 1 else 0)
theorem rk_wi_le (c : Nat → Int32) (l : Int32) : ∀ n, rk_wi c l n ≤ n := by
  intro n
  induction n with
  | zero => exact Nat.le_refl 0
  | succ n ih =>
    rw [rk_wi]
    split <;> omega
theorem rk_wi_c {c c' : Nat → Int32} (l : Int32) : ∀ n, (∀ i, i < n → c i = c' i) → rk_wi c l n = rk_wi c' l n := by
  intro n
  induction n with
  | zero => intro _; rfl
  | succ n ih =>
    intro h
    rw [rk_wi, rk_wi, ih (fun i hi => h i (by omega)), h n (by omega)]
def rk_fi (f : Nat → Bool) (g : Nat → Int32) : Nat → Nat → Int32
  | 0, _ => -1
  | k + 1, r => if f r = true then g r else rk_fi f g k (r + 1)
theorem rk_fi_t {f : Nat → Bool} (g : Nat → Int32) (k : Nat) {r : Nat} (h : f r = true) : rk_fi f g (k + 1) r = g r := if_pos h
theorem rk_fi_f {f : Nat → Bool} (g : Nat → Int32) (k : Nat) {r : Nat} (h : ¬ f r = true) : rk_fi f g (k + 1) r = rk_fi f g k (r + 1) := if_neg h
theorem rk_fi_c {f f' : Nat → Bool} {g g' : Nat → Int32} : ∀ k r, (∀ i, r ≤ i → i < r + k → f i = f' i ∧ g i = g' i) → rk_fi f g k r = rk_fi f' g' k r := by
  intro k
  induction k with
  | zero => intro _ _; rfl
  | succ k ih =>
    intro r h
    rw [rk_fi, rk_fi, (h r (Nat.le_refl _) (by omega)).1, (h r (Nat.le_refl _) (by omega)).2, ih (r + 1) (fun i h1 h2 => h i (by omega) (by omega))]
