/-! the reference's private methods, each with a general post -/
theorem rk_ydig_loop {n : Nat} (hn : n < 2 ^ 31) {post : Int32 → Prop} : ∀ (d i a : Nat), i + d = 4 → 0 < a → a * 5 ^ d < 2 ^ 31 → post (nI (n / (a * 5 ^ d) % 5)) → wY_digit_4 post (nI n) (d + 1) (nI a) (nI i) := by
  intro d
  induction d with
  | zero =>
    intro i a hi h0 ha h
    rw [Nat.pow_zero, Nat.mul_one] at ha h
    have e : i = 4 := hi
    subst e
    refine br_t (by decide) (br_f (nI_nle h0 ha) ⟨nI_ne0 h0 ha, rk_n5, ?_⟩)
    rw [pk_div hn h0 ha, rk_rem5 (Nat.lt_of_le_of_lt (Nat.div_le_self n a) hn)]
    exact h
  | succ d ih =>
    intro i a hi h0 ha h
    have e : a * 5 ^ (d + 1) = 5 * a * 5 ^ d := by
      rw [Nat.pow_succ, Nat.mul_comm 5 a, Nat.mul_assoc, Nat.mul_comm 5 (5 ^ d)]
    rw [e] at ha h
    have h4 : ¬ (4 : Int32) ≤ nI i := by
      have : ¬ nI 4 ≤ nI i := nI_ge (by omega) (by decide)
      exact this
    refine br_f h4 (nm_r (pk_mul 5 a) (nm_r (nI_1 i) (ih (i + 1) (5 * a) (by omega) (by omega) ha h)))
theorem rk_p5 : ∀ k, k ≤ 4 → 5 ^ k < 2 ^ 31 := by decide
theorem rk_ydig {post : Int32 → Prop} {n k : Nat} (hn : n < 2 ^ 31) (hk : k ≤ 4) (h : post (nI (n / 5 ^ k % 5))) : wpY_digit post (nI n) (nI (4 - k)) := by
  refine ⟨k + 1, rk_ydig_loop hn k (4 - k) 1 (by omega) (by decide) ?_ ?_⟩
  · rw [Nat.one_mul]
    exact rk_p5 k hk
  · rw [Nat.one_mul]
    exact h
theorem rk_ycost_loop {p : Nat → Int32} (hp : rk_Pr p) {f : Int32} {m c : Nat → Int32} {n : Nat} (hn : n < 2 ^ 31) {post : Int32 → Prop} : ∀ (k t : Nat) (s : Int32), k ≤ 5 → t < 32 → post (rk_cY p n k t s) → wY_costOf_7 post (nI n) f p m c (k + 1) (nI t) s (nI (5 - k)) := by
  intro k
  induction k with
  | zero =>
    intro t s _ _ h
    exact br_t (by decide) h
  | succ k ih =>
    intro t s hk ht h
    rw [show 5 - (k + 1) = 4 - k from by omega]
    have hd : n / 5 ^ k % 5 < 5 := Nat.mod_lt _ (by decide)
    have h5 : ¬ (5 : Int32) ≤ nI (4 - k) := by
      rw [← rk_5]
      exact nI_ge (by omega) (by decide)
    refine br_f h5 (rk_ydig hn (by omega) ?_)
    rw [rk_ixY, nI_clamp (by omega), nI_1, show 4 - k + 1 = 5 - k from by omega]
    have hi : vp_in (nI (5 * (4 - k) + n / 5 ^ k % 5)) 25 := vp_in_nI (by omega) (by decide)
    by_cases hz : t.testBit (n / 5 ^ k % 5) = true
    · rw [rk_cY_t s hz] at h
      exact br_t ((rk_b3 t ht _ hd).mpr hz) h
    · refine br_f (fun z => hz ((rk_b3 t ht _ hd).mp z)) ⟨hi, ?_⟩
      have hz' : t.testBit (n / 5 ^ k % 5) = false := by simpa using hz
      rcases hp (5 * (4 - k) + n / 5 ^ k % 5) with hb | ⟨q, hq, eq⟩
      · rw [rk_cY_b t s hb] at h
        exact br_f (by rw [hb]; decide) h
      · have hb : ¬ p (5 * (4 - k) + n / 5 ^ k % 5) = -1 := by
          rw [eq]
          exact rk_nm1 (by omega)
        rw [rk_cY_s s hb hz'] at h
        refine br_t (by rw [eq]; exact nI_pos' (by omega)) (nm_r (rk_b2 t ht _ hd) ⟨hi, nm_e (nm_e (ih _ _ (by omega) (rk_b4 t ht _ hd) h))⟩)
theorem rk_ycost {p : Nat → Int32} (hp : rk_Pr p) {f : Int32} {m c : Nat → Int32} {post : Int32 → Prop} {n : Nat} (hn : n < 3125) (h : post (rk_C p n)) : wpY_costOf post (f, p, m, c) (nI n) :=
  ⟨6, rk_ycost_loop hp (by omega) 5 0 0 (by decide) (by decide) h⟩
theorem rk_yins_end {f : Int32} {p c m : Nat → Int32} {post : SY → Prop} {J : Int32 → Int32 → (Nat → Int32) → (Nat → Int32) → (Nat → Int32) → Prop} {a b : Int32} {k : Nat} (hk : k < 120) (h : J (b + 1) (f + 1) p (upd m k b) (upd c k a)) : wY_list_79 post J b a (nI k) f p m c := by
  have hi : vp_in (nI k) 120 := vp_in_nI hk (by decide)
  unfold wY_list_79
  rw [nI_clamp (by omega)]
  exact ⟨hi, nm_e ⟨hi, nm_e (nm_e (nm_e h))⟩⟩
theorem rk_yins_loop {f : Int32} {p : Nat → Int32} {post : SY → Prop} {J : Int32 → Int32 → (Nat → Int32) → (Nat → Int32) → (Nat → Int32) → Prop} {a b : Int32} : ∀ (k : Nat) (c m : Nat → Int32), k < 120 → J (b + 1) (f + 1) p (rk_ins a b k c m).2 (rk_ins a b k c m).1 → wY_list_29 post J b a f (k + 1) (nI k) p m c := by
  intro k
  induction k with
  | zero =>
    intro c m hk h
    exact br_t (by decide) (rk_yins_end hk h)
  | succ k ih =>
    intro c m hk h
    have hi : vp_in (nI k) 120 := vp_in_nI (by omega) (by decide)
    have hi' : vp_in (nI (k + 1)) 120 := vp_in_nI hk (by decide)
    refine br_f (nI_nle (by omega) (by omega)) ?_
    rw [nI_pred, nI_clamp (n := k) (by omega), nI_clamp (n := k + 1) (by omega), pk_m1]
    by_cases z : c k ≤ a
    · rw [rk_ins_t b m z] at h
      exact ⟨hi, br_t z (rk_yins_end hk h)⟩
    · rw [rk_ins_f b m z] at h
      exact ⟨hi, br_f z ⟨hi, hi', nm_e ⟨hi, hi', nm_e (nm_e (ih _ _ (by omega) h))⟩⟩⟩
theorem rk_ylist_loop {p c0 m0 : Nat → Int32} (hp : rk_Pr p) {post : SY → Prop} {N : Nat} (hN : N = 3125) (h : post (nI (rk_run (rk_C p) c0 m0 N).1, p, (rk_run (rk_C p) c0 m0 N).2.2, (rk_run (rk_C p) c0 m0 N).2.1)) : ∀ (d j : Nat), j + d = N → wY_list_7 post (d + 1) (nI j) (nI (rk_run (rk_C p) c0 m0 j).1) p (rk_run (rk_C p) c0 m0 j).2.2 (rk_run (rk_C p) c0 m0 j).2.1 := by
  intro d
  induction d with
  | zero =>
    intro j hj
    have e : j = N := hj
    subst e
    exact br_t (by rw [hN, rk_3125]; decide) h
  | succ d ih =>
    intro j hj
    have hj' : ¬ (3125 : Int32) ≤ nI j := by
      rw [← rk_3125]
      exact nI_ge (by omega) (by decide)
    refine br_f hj' (rk_ycost hp (by omega) ?_)
    have ih' := ih (j + 1) (by omega)
    by_cases z : rk_C p j = -1
    · rw [rk_run_t c0 m0 z] at ih'
      exact br_t (by rw [z]; decide) (nm_r (nI_1 j) ih')
    · have h0 : ¬ rk_C p j < 0 := by
        rcases rk_CR hp j with e | ⟨b, hb, e⟩
        · exact absurd e z
        · rw [e]
          exact nI_pos (by omega)
      rw [rk_run_f c0 m0 z] at ih'
      refine br_f h0 ⟨(rk_run (rk_C p) c0 m0 j).1 + 1, rk_yins_loop _ _ _ (rk_run_lt c0 m0 (by omega) z) ?_⟩
      rw [nI_1, nI_1]
      exact ih'
theorem rk_ylist {p c0 m0 : Nat → Int32} (hp : rk_Pr p) {f : Int32} {post : SY → Prop} (h : ∀ cn c m, rk_H p cn c m → post (cn, p, m, c)) : wpY_list post (f, p, m0, c0) := by
  have h' := h _ _ _ (rk_run_H p c0 m0)
  generalize hN : (3125 : Nat) = N at h'
  exact ⟨N + 1, rk_ylist_loop hp hN.symm h' N 0 (Nat.zero_add N)⟩
theorem rk_ybad1 {post : Int32 → Prop} {x : Int32} (hx : rk_out x) (h : post 1) : wpY_bad post x := by
  by_cases z : x < 0
  · exact br_t z h
  · refine br_f z (br_f ?_ h)
    have h5 := hx.resolve_left z
    intro h4
    exact absurd (Int32.le_trans h5 h4) (by decide)
theorem rk_ybad0 {post : Int32 → Prop} {j : Nat} (hj : j < 5) (h : post 0) : wpY_bad post (nI j) := by
  refine br_f (nI_pos (by omega)) (br_t ?_ h)
  have : nI j ≤ nI 4 := nI_le (by omega) (by decide)
  exact this
