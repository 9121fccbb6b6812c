/-! the component's private methods, each with a general post -/
theorem rk_n5 : ¬ (5 : Int32) = 0 := by decide
theorem rk_rem5 {r : Nat} (hr : r < 2 ^ 31) : nI r - nI r / 5 * 5 = nI (r % 5) := pk_rem (d := 5) hr (by decide) (by decide)
theorem rk_div5 {r : Nat} (hr : r < 2 ^ 31) : nI r / 5 = nI (r / 5) := pk_div (d := 5) hr (by decide) (by decide)
theorem rk_ixX (k t : Nat) : nI k * 5 + nI t = nI (k * 5 + t) := by
  rw [← nI_add, ← pk_mul, rk_5]
theorem rk_ixY (k t : Nat) : 5 * nI k + nI t = nI (5 * k + t) := by
  rw [← nI_add, ← pk_mul, rk_5]
theorem rk_xcost_loop {p : Nat → Int32} {f : Int32} {m c : Nat → Int32} {post : Int32 → Prop} : ∀ (k r t : Nat) (s : Int32), k ≤ 5 → r < 2 ^ 31 → t < 32 → post (rk_cX p k r t s) → wX_costOfNumber_10 post f p m c (k + 1) (nI r) (nI t) s (nI k + (-1)) := by
  intro k
  induction k with
  | zero =>
    intro r t s _ _ _ h
    exact br_t (by rw [rk_m1]; decide) h
  | succ k ih =>
    intro r t s hk hr ht h
    rw [pk_m1]
    have hd : r % 5 < 5 := Nat.mod_lt _ (by decide)
    refine br_f (nI_pos (by omega)) ⟨rk_n5, nm_r (rk_rem5 hr) (nm_e ⟨?_, ?_⟩)⟩
    · rw [rk_ixX]
      exact vp_in_nI (by omega) (by decide)
    · rw [rk_ixX, nI_clamp (by omega)]
      refine nm_e ?_
      by_cases hb : p (k * 5 + r % 5) = -1
      · rw [rk_cX_b t s hb] at h
        exact br_t hb h
      · refine br_f hb ?_
        by_cases hz : t.testBit (r % 5) = true
        · rw [rk_cX_t s hz] at h
          exact br_f (by rw [rk_b1 t ht _ hd, hz]; decide) h
        · have hz' : t.testBit (r % 5) = false := by simpa using hz
          rw [rk_cX_s s hb hz'] at h
          exact br_t ((rk_b1 t ht _ hd).mpr hz') (nm_r (rk_b2 t ht _ hd) (nm_e ⟨rk_n5, nm_r (rk_div5 hr) (nm_e (ih _ _ _ (by omega) (by omega) (rk_b4 t ht _ hd) h))⟩))
theorem rk_4 : (4 : Int32) = nI 5 + (-1) := by decide
theorem rk_xcost {p : Nat → Int32} {f : Int32} {m c : Nat → Int32} {post : Int32 → Prop} {n : Nat} (hn : n < 3125) (h : post (rk_C p n)) : wpX_costOfNumber post (f, p, m, c) (nI n) := by
  rw [← rk_CX p hn] at h
  have w := rk_xcost_loop (f := f) (m := m) (c := c) 5 n 0 0 (by decide) (by omega) (by decide) h
  rw [← rk_4] at w
  exact ⟨6, w⟩
theorem rk_xins_end {f : Int32} {p c m : Nat → Int32} {post : SX → Prop} {a b : Int32} {k : Nat} (hk : k < 120) (h : post (f + 1, p, upd m k b, upd c k a)) : wX_insertPlan_55 post b a (nI k) f p m c := by
  have hi : vp_in (nI k) 120 := vp_in_nI hk (by decide)
  unfold wX_insertPlan_55
  rw [nI_clamp (by omega)]
  exact ⟨hi, nm_e ⟨hi, nm_e (nm_e h)⟩⟩
theorem rk_xins_loop {f : Int32} {p : Nat → Int32} {post : SX → Prop} {a b : Int32} : ∀ (k : Nat) (c m : Nat → Int32), k < 120 → post (f + 1, p, (rk_ins a b k c m).2, (rk_ins a b k c m).1) → wX_insertPlan_5 post b a f (k + 1) (nI k) p m c := by
  intro k
  induction k with
  | zero =>
    intro c m hk h
    exact br_t (by decide) (rk_xins_end hk h)
  | succ k ih =>
    intro c m hk h
    have hi : vp_in (nI k) 120 := vp_in_nI (by omega) (by decide)
    have hi' : vp_in (nI (k + 1)) 120 := vp_in_nI hk (by decide)
    refine br_f (nI_nle (by omega) (by omega)) ?_
    rw [nI_pred, nI_clamp (n := k) (by omega), nI_clamp (n := k + 1) (by omega), pk_m1]
    by_cases z : c k ≤ a
    · rw [rk_ins_t b m z] at h
      exact ⟨hi, br_t z (rk_xins_end hk h)⟩
    · rw [rk_ins_f b m z] at h
      exact ⟨hi, br_f z ⟨hi, hi', nm_e ⟨hi, hi', nm_e (nm_e (ih _ _ (by omega) h))⟩⟩⟩
theorem rk_xins {p c m : Nat → Int32} {post : SX → Prop} {a b : Int32} {k : Nat} (hk : k < 120) (h : post (nI (k + 1), p, (rk_ins a b k c m).2, (rk_ins a b k c m).1)) : wpX_insertPlan post (nI k, p, m, c) b a := by
  rw [← nI_1] at h
  exact ⟨k + 1, rk_xins_loop k c m hk h⟩
theorem rk_xrank_loop {p c0 m0 : Nat → Int32} {post : SX → Prop} {N : Nat} (hN : N = 3125) (h : post (nI (rk_run (rk_C p) c0 m0 N).1, p, (rk_run (rk_C p) c0 m0 N).2.2, (rk_run (rk_C p) c0 m0 N).2.1)) : ∀ (d j : Nat), j + d = N → wX_rankPlans_7 post (d + 1) (nI j) (nI (rk_run (rk_C p) c0 m0 j).1) p (rk_run (rk_C p) c0 m0 j).2.2 (rk_run (rk_C p) c0 m0 j).2.1 := by
  intro d
  induction d with
  | zero =>
    intro j hj
    have e : j = N := hj
    subst e
    exact br_t (by rw [hN, rk_3125]; decide) h
  | succ d ih =>
    intro j hj
    have hj' : ¬ (3125 : Int32) ≤ nI j := by
      rw [← rk_3125]
      exact nI_ge (by omega) (by decide)
    refine br_f hj' ?_
    by_cases hf : (rk_run (rk_C p) c0 m0 j).1 = 120
    · refine br_t (by rw [hf, rk_120]; decide) ?_
      have e := rk_run_full c0 m0 hf (d + 1) (by omega)
      rw [hj] at e
      rw [e] at h
      exact h
    · have h1 := rk_run_120 (p := p) c0 m0 (n := j) (by omega)
      have h2 : ¬ (120 : Int32) ≤ nI (rk_run (rk_C p) c0 m0 j).1 := by
        rw [← rk_120]
        exact nI_ge (by omega) (by decide)
      refine br_f h2 (rk_xcost (by omega) ?_)
      have ih' := ih (j + 1) (by omega)
      by_cases z : rk_C p j = -1
      · rw [rk_run_t c0 m0 z] at ih'
        exact br_t z (nm_r (nI_1 j) ih')
      · rw [rk_run_f c0 m0 z] at ih'
        refine br_f z (rk_xins (by omega) ?_)
        exact nm_r (nI_1 j) ih'
theorem rk_xrank {p c0 m0 : Nat → Int32} {f : Int32} {post : SX → Prop} (h : ∀ cn c m, rk_H p cn c m → post (cn, p, m, c)) : wpX_rankPlans post (f, p, m0, c0) := by
  have h' := h _ _ _ (rk_run_H p c0 m0)
  generalize hN : (3125 : Nat) = N at h'
  exact ⟨N + 1, rk_xrank_loop hN.symm h' N 0 (Nat.zero_add N)⟩
theorem rk_xtask_loop {post : Int32 → Prop} {w : Nat} : ∀ (d r : Nat), w + d ≤ 4 → r < 2 ^ 31 → post (nI (r / 5 ^ d % 5)) → wX_taskInNumber_4 post (nI w) (d + 1) (nI r) (nI (w + d)) := by
  intro d
  induction d with
  | zero =>
    intro r hw hr h
    refine br_t (nI_le (by omega) (by omega)) ⟨rk_n5, ?_⟩
    rw [rk_rem5 hr]
    rw [Nat.pow_zero, Nat.div_one] at h
    exact h
  | succ d ih =>
    intro r hw hr h
    refine br_f (nI_ge (by omega) (by omega)) ⟨rk_n5, nm_r (rk_div5 hr) (nm_r (pk_m1 (w + d)) (ih (r / 5) (by omega) (by omega) ?_))⟩
    rw [Nat.div_div_eq_div_mul, Nat.mul_comm, ← Nat.pow_succ]
    exact h
theorem rk_xtask {post : Int32 → Prop} {n k : Nat} (hn : n < 2 ^ 31) (hk : k ≤ 4) (h : post (nI (n / 5 ^ k % 5))) : wpX_taskInNumber post (nI n) (nI (4 - k)) := by
  have w := rk_xtask_loop (w := 4 - k) k n (by omega) hn h
  rw [show 4 - k + k = 4 from by omega] at w
  exact ⟨k + 1, w⟩
def rk_out (x : Int32) : Prop := x < 0 ∨ 5 ≤ x
theorem rk_in5 (x : Int32) : rk_out x ∨ ∃ j : Nat, j < 5 ∧ x = nI j := by
  rcases pk_ix x (n := 5) (by decide) with h | h | h
  · exact Or.inl (Or.inl h)
  · exact Or.inl (Or.inr (by rw [rk_5] at h; exact h))
  · exact Or.inr h
theorem rk_xon0 {post : Int32 → Prop} {x : Int32} (hx : rk_out x) (h : post 0) : wpX_isOnSide post x := by
  by_cases z : x < 0
  · exact br_t z h
  · exact br_f z (br_t (hx.resolve_left z) h)
theorem rk_xon1 {post : Int32 → Prop} {j : Nat} (hj : j < 5) (h : post 1) : wpX_isOnSide post (nI j) := by
  refine br_f (nI_pos (by omega)) (br_f ?_ h)
  rw [← rk_5]
  exact nI_ge hj (by decide)
theorem rk_n10 : ¬ (1 : Int32) = 0 := by decide
theorem rk_xpair0 {post : Int32 → Prop} {x y : Int32} (hx : rk_out x ∨ rk_out y) (h : post 0) : wpX_isPair post x y := by
  rcases rk_in5 x with z | ⟨i, hi, rfl⟩
  · exact rk_xon0 z (br_t rfl h)
  · rcases rk_in5 y with z | ⟨j, hj, rfl⟩
    · exact rk_xon1 hi (br_f rk_n10 (rk_xon0 z (br_t rfl h)))
    · exact rk_xon1 hi (br_f rk_n10 (rk_xon1 hj (br_f rk_n10 (False.elim (by
        have q : ∀ i, i < 5 → ¬ rk_out (nI i) := by
          intro i hi hx
          rcases hx with h1 | h1
          · exact nI_pos (by omega) h1
          · rw [← rk_5] at h1
            exact nI_ge hi (by decide) h1
        exact hx.elim (q i hi) (q j hj))))))
theorem rk_xpair1 {post : Int32 → Prop} {i j : Nat} (hi : i < 5) (hj : j < 5) (h : post 1) : wpX_isPair post (nI i) (nI j) :=
  rk_xon1 hi (br_f rk_n10 (rk_xon1 hj (br_f rk_n10 h)))
theorem rk_xisr0 {post : Int32 → Prop} {cn x : Int32} {p m c : Nat → Int32} (hx : x < 0 ∨ cn ≤ x) (h : post 0) : wpX_isRank post (cn, p, m, c) x := by
  by_cases z : x < 0
  · exact br_t z h
  · exact br_f z (br_t (hx.resolve_left z) h)
theorem rk_xisr1 {post : Int32 → Prop} {L j : Nat} {p m c : Nat → Int32} (hL : L ≤ 120) (hj : j < L) (h : post 1) : wpX_isRank post (nI L, p, m, c) (nI j) :=
  br_f (nI_pos (by omega)) (br_f (nI_ge hj (by omega)) h)
