/-! the public methods that scan, each side against the same pure scan -/
theorem rk_xwi_loop {L : Nat} (hL : L ≤ 120) {p m c : Nat → Int32} {l : Int32} {post : Int32 → Prop} (h : post (nI (rk_wi c l L))) : ∀ (d j : Nat), j + d = L → wX_within_4 post l (nI L) p m c (d + 1) (nI (rk_wi c l j)) (nI j) := by
  intro d
  induction d with
  | zero =>
    intro j hj
    have e : j = L := hj
    subst e
    exact br_t (nI_le (Nat.le_refl _) (by omega)) h
  | succ d ih =>
    intro j hj
    refine br_f (nI_ge (by omega) (by omega)) ⟨vp_in_nI (by omega) (by decide), ?_⟩
    rw [nI_clamp (by omega), nI_1 j]
    have ih' := ih (j + 1) (by omega)
    by_cases z : c j ≤ l
    · rw [rk_wi, if_pos z] at ih'
      exact br_f (Int32.not_lt.mpr z) (nm_r (nI_1 _) (nm_e ih'))
    · rw [rk_wi, if_neg z] at ih'
      exact br_t (Int32.not_le.mp z) (nm_e ih')
theorem rk_ywi_loop {L : Nat} (hL : L ≤ 120) {p m c : Nat → Int32} {l : Int32} {post : Int32 → SY → Prop} (h : post (nI (rk_wi c l L)) (nI L, p, m, c)) : ∀ (d j : Nat), j + d = L → wY_within_8 post l (nI L) p m c (d + 1) (nI (rk_wi c l j)) (nI j) := by
  intro d
  induction d with
  | zero =>
    intro j hj
    have e : j = L := hj
    subst e
    exact br_t (nI_le (Nat.le_refl _) (by omega)) h
  | succ d ih =>
    intro j hj
    refine br_f (nI_ge (by omega) (by omega)) ⟨vp_in_nI (by omega) (by decide), ?_⟩
    rw [nI_clamp (by omega), nI_1 j]
    have ih' := ih (j + 1) (by omega)
    by_cases z : c j ≤ l
    · rw [rk_wi, if_pos z] at ih'
      exact br_f (Int32.not_lt.mpr z) (nm_r (nI_1 _) (nm_e ih'))
    · rw [rk_wi, if_neg z] at ih'
      exact br_t (Int32.not_le.mp z) (nm_e ih')
theorem rk_xrk_loop {L : Nat} (hL : L ≤ 120) {p m c : Nat → Int32} {x : Int32} {post : Int32 → Prop} : ∀ (d j : Nat), j + d = L → post (rk_fi (fun r => decide (m r = x)) nI d j) → wX_rank_2 post x (nI L) p m c (d + 1) (nI j) := by
  intro d
  induction d with
  | zero =>
    intro j hj h
    exact br_t (nI_le (by omega) (by omega)) h
  | succ d ih =>
    intro j hj h
    refine br_f (nI_ge (by omega) (by omega)) ⟨vp_in_nI (by omega) (by decide), ?_⟩
    rw [nI_clamp (by omega)]
    by_cases z : m j = x
    · rw [rk_fi_t (f := fun r => decide (m r = x)) nI d (decide_eq_true z)] at h
      exact br_t z h
    · rw [rk_fi_f (f := fun r => decide (m r = x)) nI d (fun q => z (of_decide_eq_true q))] at h
      exact br_f z (nm_r (nI_1 j) (ih (j + 1) (by omega) h))
theorem rk_yrk_loop {L : Nat} (hL : L ≤ 120) {p m c : Nat → Int32} {x : Int32} {post : Int32 → SY → Prop} : ∀ (d j : Nat), j + d = L → post (rk_fi (fun r => decide (m r = x)) nI d j) (nI L, p, m, c) → wY_rank_6 post x (nI L) p m c (d + 1) (nI j) := by
  intro d
  induction d with
  | zero =>
    intro j hj h
    exact br_t (nI_le (by omega) (by omega)) h
  | succ d ih =>
    intro j hj h
    refine br_f (nI_ge (by omega) (by omega)) ⟨vp_in_nI (by omega) (by decide), ?_⟩
    rw [nI_clamp (by omega)]
    by_cases z : m j = x
    · rw [rk_fi_t (f := fun r => decide (m r = x)) nI d (decide_eq_true z)] at h
      exact br_t z h
    · rw [rk_fi_f (f := fun r => decide (m r = x)) nI d (fun q => z (of_decide_eq_true q))] at h
      exact br_f z (nm_r (nI_1 j) (ih (j + 1) (by omega) h))
def rk_has (m : Nat → Int32) (k : Nat) (x : Int32) (r : Nat) : Bool := decide (nI ((m r).toNatClampNeg / 5 ^ k % 5) = x)
theorem rk_has_q {m : Nat → Int32} {k r q : Nat} {x : Int32} (hq : q < 3125) (e : m r = nI q) : rk_has m k x r = decide (nI (q / 5 ^ k % 5) = x) := by
  unfold rk_has
  rw [e, nI_clamp (by omega)]
theorem rk_xch_loop {L k : Nat} (hL : L ≤ 120) (hk : k ≤ 4) {p m c : Nat → Int32} {x : Int32} (hm : ∀ i, i < L → ∃ q, q < 3125 ∧ m i = nI q) {post : Int32 → Prop} : ∀ (d j : Nat), j + d = L → post (rk_fi (rk_has m k x) c d j) → wX_cheapestWith_12 post (nI (4 - k)) x (nI L) p m c (d + 1) (nI j) := by
  intro d
  induction d with
  | zero =>
    intro j hj h
    exact br_t (nI_le (by omega) (by omega)) h
  | succ d ih =>
    intro j hj h
    have hi : vp_in (nI j) 120 := vp_in_nI (by omega) (by decide)
    refine br_f (nI_ge (by omega) (by omega)) ⟨hi, ?_⟩
    obtain ⟨q, hq, e⟩ := hm j (by omega)
    rw [nI_clamp (by omega), e]
    refine rk_xtask (by omega) hk ?_
    have ef := rk_has_q (k := k) (x := x) hq e
    by_cases z : nI (q / 5 ^ k % 5) = x
    · rw [rk_fi_t c d (by rw [ef]; exact decide_eq_true z)] at h
      exact br_t z ⟨hi, h⟩
    · rw [rk_fi_f c d (by rw [ef]; exact fun w => z (of_decide_eq_true w))] at h
      exact br_f z (nm_r (nI_1 j) (ih (j + 1) (by omega) h))
theorem rk_ych_loop {L k : Nat} (hL : L ≤ 120) (hk : k ≤ 4) {p m c : Nat → Int32} {x : Int32} (hm : ∀ i, i < L → ∃ q, q < 3125 ∧ m i = nI q) {post : Int32 → SY → Prop} : ∀ (d j : Nat), j + d = L → post (rk_fi (rk_has m k x) c d j) (nI L, p, m, c) → wY_cheapestWith_22 post (nI (4 - k)) x (nI L) p m c (d + 1) (nI j) := by
  intro d
  induction d with
  | zero =>
    intro j hj h
    exact br_t (nI_le (by omega) (by omega)) h
  | succ d ih =>
    intro j hj h
    have hi : vp_in (nI j) 120 := vp_in_nI (by omega) (by decide)
    refine br_f (nI_ge (by omega) (by omega)) ⟨hi, ?_⟩
    obtain ⟨q, hq, e⟩ := hm j (by omega)
    rw [nI_clamp (by omega), e]
    refine rk_ydig (by omega) hk ?_
    have ef := rk_has_q (k := k) (x := x) hq e
    by_cases z : nI (q / 5 ^ k % 5) = x
    · rw [rk_fi_t c d (by rw [ef]; exact decide_eq_true z)] at h
      exact br_t z ⟨hi, h⟩
    · rw [rk_fi_f c d (by rw [ef]; exact fun w => z (of_decide_eq_true w))] at h
      exact br_f z (nm_r (nI_1 j) (ih (j + 1) (by omega) h))
