/-! the price of a number, digit by digit: the component from the last worker on, the reference from the first -/
def rk_okX : Nat → Nat → Nat → Bool
  | 0, _, _ => true
  | k + 1, r, m => !(m.testBit (r % 5)) && rk_okX k (r / 5) (m ||| 2 ^ (r % 5))
def rk_brX (p : Nat → Int32) : Nat → Nat → Bool
  | 0, _ => true
  | k + 1, r => !(decide (p (k * 5 + r % 5) = -1)) && rk_brX p k (r / 5)
def rk_sumX (p : Nat → Int32) : Nat → Nat → Int32 → Int32
  | 0, _, s => s
  | k + 1, r, s => rk_sumX p k (r / 5) (s + p (k * 5 + r % 5))
def rk_cX (p : Nat → Int32) (k r m : Nat) (s : Int32) : Int32 := if (rk_okX k r m && rk_brX p k r) = true then rk_sumX p k r s else -1
def rk_okY (n : Nat) : Nat → Nat → Bool
  | 0, _ => true
  | k + 1, m => !(m.testBit (n / 5 ^ k % 5)) && rk_okY n k (m ||| 2 ^ (n / 5 ^ k % 5))
def rk_brY (p : Nat → Int32) (n : Nat) : Nat → Bool
  | 0 => true
  | k + 1 => !(decide (p (5 * (4 - k) + n / 5 ^ k % 5) = -1)) && rk_brY p n k
def rk_sumY (p : Nat → Int32) (n : Nat) : Nat → Int32 → Int32
  | 0, s => s
  | k + 1, s => rk_sumY p n k (s + p (5 * (4 - k) + n / 5 ^ k % 5))
def rk_cY (p : Nat → Int32) (n k m : Nat) (s : Int32) : Int32 := if (rk_okY n k m && rk_brY p n k) = true then rk_sumY p n k s else -1
theorem rk_cX_0 (p : Nat → Int32) (r m : Nat) (s : Int32) : rk_cX p 0 r m s = s := rfl
theorem rk_cX_b {p : Nat → Int32} {k r : Nat} (m : Nat) (s : Int32) (h : p (k * 5 + r % 5) = -1) : rk_cX p (k + 1) r m s = -1 := by
  unfold rk_cX rk_brX
  rw [h]
  simp
theorem rk_cX_t {p : Nat → Int32} {k r m : Nat} (s : Int32) (h : m.testBit (r % 5) = true) : rk_cX p (k + 1) r m s = -1 := by
  unfold rk_cX rk_okX
  rw [h]
  simp
theorem rk_cX_s {p : Nat → Int32} {k r m : Nat} (s : Int32) (h : ¬ p (k * 5 + r % 5) = -1) (t : m.testBit (r % 5) = false) : rk_cX p (k + 1) r m s = rk_cX p k (r / 5) (m ||| 2 ^ (r % 5)) (s + p (k * 5 + r % 5)) := by
  unfold rk_cX
  rw [rk_okX, rk_brX, rk_sumX, t, decide_eq_false h]
  rfl
theorem rk_cY_0 (p : Nat → Int32) (n m : Nat) (s : Int32) : rk_cY p n 0 m s = s := rfl
theorem rk_cY_b {p : Nat → Int32} {n k : Nat} (m : Nat) (s : Int32) (h : p (5 * (4 - k) + n / 5 ^ k % 5) = -1) : rk_cY p n (k + 1) m s = -1 := by
  unfold rk_cY rk_brY
  rw [h]
  simp
theorem rk_cY_t {p : Nat → Int32} {n k m : Nat} (s : Int32) (h : m.testBit (n / 5 ^ k % 5) = true) : rk_cY p n (k + 1) m s = -1 := by
  unfold rk_cY rk_okY
  rw [h]
  simp
theorem rk_cY_s {p : Nat → Int32} {n k m : Nat} (s : Int32) (h : ¬ p (5 * (4 - k) + n / 5 ^ k % 5) = -1) (t : m.testBit (n / 5 ^ k % 5) = false) : rk_cY p n (k + 1) m s = rk_cY p n k (m ||| 2 ^ (n / 5 ^ k % 5)) (s + p (5 * (4 - k) + n / 5 ^ k % 5)) := by
  unfold rk_cY
  rw [rk_okY, rk_brY, rk_sumY, t, decide_eq_false h]
  rfl
theorem rk_okXY : ∀ n, n < 3125 → rk_okX 5 n 0 = rk_okY n 5 0 := by decide +kernel
theorem rk_brXY (p : Nat → Int32) (n : Nat) : rk_brX p 5 n = rk_brY p n 5 := by
  simp only [rk_brX, rk_brY, Nat.div_div_eq_div_mul, Nat.reduceMul, Nat.reducePow, Nat.reduceSub, Nat.zero_mul, Nat.mul_zero, Nat.zero_add, Nat.div_one, Nat.pow_zero, Nat.sub_self, Nat.sub_zero, Bool.and_true]
  simp only [Bool.and_comm, Bool.and_left_comm, Bool.and_assoc]
theorem rk_sumXY (p : Nat → Int32) (n : Nat) : rk_sumX p 5 n 0 = rk_sumY p n 5 0 := by
  simp only [rk_sumX, rk_sumY, Nat.div_div_eq_div_mul, Nat.reduceMul, Nat.reducePow, Nat.reduceSub, Nat.zero_mul, Nat.mul_zero, Nat.zero_add, Nat.div_one, Nat.pow_zero, Nat.sub_self, Nat.sub_zero]
  grind
/-- the price of number n under the prices p, -1 where it is no plan's -/
def rk_C (p : Nat → Int32) (n : Nat) : Int32 := rk_cY p n 5 0 0
theorem rk_CX (p : Nat → Int32) {n : Nat} (h : n < 3125) : rk_cX p 5 n 0 0 = rk_C p n := by
  unfold rk_cX rk_C rk_cY
  rw [rk_okXY n h, rk_brXY, rk_sumXY]
def rk_Pr (p : Nat → Int32) : Prop := ∀ i, p i = -1 ∨ ∃ j, j ≤ 99 ∧ p i = nI j
theorem rk_sumR {p : Nat → Int32} (hp : rk_Pr p) (n : Nat) : ∀ k a, rk_brY p n k = true → ∃ b, b ≤ a + 99 * k ∧ rk_sumY p n k (nI a) = nI b := by
  intro k
  induction k with
  | zero => intro a _; exact ⟨a, by omega, rfl⟩
  | succ k ih =>
    intro a h
    rw [rk_brY, Bool.and_eq_true] at h
    obtain ⟨h1, h2⟩ := h
    rcases hp (5 * (4 - k) + n / 5 ^ k % 5) with e | ⟨j, hj, e⟩
    · rw [decide_eq_true e] at h1
      exact absurd h1 (by decide)
    · obtain ⟨b, hb, eb⟩ := ih (a + j) h2
      refine ⟨b, by omega, ?_⟩
      rw [rk_sumY, e, nI_add]
      exact eb
theorem rk_CR {p : Nat → Int32} (hp : rk_Pr p) (n : Nat) : rk_C p n = -1 ∨ ∃ b, b ≤ 495 ∧ rk_C p n = nI b := by
  unfold rk_C rk_cY
  by_cases h : (rk_okY n 5 0 && rk_brY p n 5) = true
  · right
    rw [if_pos h]
    rw [Bool.and_eq_true] at h
    obtain ⟨b, hb, e⟩ := rk_sumR hp n 5 0 h.2
    exact ⟨b, by omega, e⟩
  · left
    rw [if_neg h]
theorem rk_Cok {p : Nat → Int32} {n : Nat} (h : ¬ rk_C p n = -1) : rk_okY n 5 0 = true := by
  unfold rk_C rk_cY at h
  by_cases z : (rk_okY n 5 0 && rk_brY p n 5) = true
  · rw [Bool.and_eq_true] at z
    exact z.1
  · rw [if_neg z] at h
    exact absurd rfl h
/-! there are 120 numbers with five unlike digits -/
def rk_P (a : Nat) : Nat → Nat
  | 0 => 0
  | k + 1 => rk_P a k + (if rk_okY (a + k) 5 0 = true then 1 else 0)
theorem rk_P_add (a b : Nat) : ∀ c, rk_P a (b + c) = rk_P a b + rk_P (a + b) c := by
  intro c
  induction c with
  | zero => rfl
  | succ c ih =>
    show rk_P a (b + c) + (if rk_okY (a + (b + c)) 5 0 = true then 1 else 0) = rk_P a b + (rk_P (a + b) c + (if rk_okY (a + b + c) 5 0 = true then 1 else 0))
    rw [ih, Nat.add_assoc a b c, Nat.add_assoc]
theorem rk_P1 : rk_P 0 625 = 24 := by decide +kernel
theorem rk_P2 : rk_P 625 625 = 24 := by decide +kernel
theorem rk_P3 : rk_P 1250 625 = 24 := by decide +kernel
theorem rk_P4 : rk_P 1875 625 = 24 := by decide +kernel
theorem rk_P5 : rk_P 2500 625 = 24 := by decide +kernel
theorem rk_P120 : rk_P 0 3125 = 120 := by
  have e1 : rk_P 0 3125 = rk_P 0 625 + rk_P 625 2500 := rk_P_add 0 625 2500
  have e2 : rk_P 625 2500 = rk_P 625 625 + rk_P 1250 1875 := rk_P_add 625 625 1875
  have e3 : rk_P 1250 1875 = rk_P 1250 625 + rk_P 1875 1250 := rk_P_add 1250 625 1250
  have e4 : rk_P 1875 1250 = rk_P 1875 625 + rk_P 2500 625 := rk_P_add 1875 625 625
  rw [e1, e2, e3, e4, rk_P1, rk_P2, rk_P3, rk_P4, rk_P5]
theorem rk_Ple {n : Nat} (h : n ≤ 3125) : rk_P 0 n ≤ 120 := by
  have e := rk_P_add 0 n (3125 - n)
  rw [show n + (3125 - n) = 3125 from by omega, rk_P120] at e
  omega
