/-! the public methods at their own names, each with a general post -/
theorem rk_ixY' (k t : Nat) : 5 * nI k + nI t = nI (k * 5 + t) := by
  rw [rk_ixY, Nat.mul_comm]
theorem rk_PrU {p : Nat → Int32} (hp : rk_Pr p) {x : Int32} (hx : x = -1 ∨ ∃ j, j ≤ 99 ∧ x = nI j) (k : Nat) : rk_Pr (upd p k x) := by
  intro i
  by_cases e : i = k
  · rw [e, pk_us]
    exact hx
  · rw [pk_un e]
    exact hp i
theorem rk_Pr0 : rk_Pr (fun _ => 0) := fun _ => Or.inr ⟨0, by decide, rfl⟩
theorem rk_nout {i : Nat} (hi : i < 5) : ¬ rk_out (nI i) := by
  intro hx
  rcases hx with h1 | h1
  · exact nI_pos (by omega) h1
  · rw [← rk_5] at h1
    exact nI_ge hi (by decide) h1
theorem rx_price0 {post : Int32 → SX → Prop} {f : Int32} {p m c : Nat → Int32} {x y z : Int32} (hx : rk_out x ∨ rk_out y) (h : post (-1) (f, p, m, c)) : wpX_price post (f, p, m, c) x y z := by
  unfold wpX_price
  dsimp only
  exact rk_xpair0 hx (br_t rfl h)
theorem rx_priceR {post : Int32 → SX → Prop} {f : Int32} {p m c : Nat → Int32} {i j : Nat} (hi : i < 5) (hj : j < 5) {z : Int32} (hz : z < 0 ∨ ¬ z ≤ 99) (h : post (-1) (f, p, m, c)) : wpX_price post (f, p, m, c) (nI i) (nI j) z := by
  unfold wpX_price
  dsimp only
  refine rk_xpair1 hi hj (br_f rk_n10 ?_)
  by_cases z0 : z < 0
  · exact br_t z0 h
  · exact br_f z0 (br_f (hz.resolve_left z0) h)
theorem rx_price1 {post : Int32 → SX → Prop} {f : Int32} {p m c : Nat → Int32} {i j : Nat} (hi : i < 5) (hj : j < 5) {x : Int32} (h3 : ¬ x < 0) (h99 : x ≤ 99) (h : ∀ cn c m, rk_H (upd p (i * 5 + j) x) cn c m → post 0 (cn, upd p (i * 5 + j) x, m, c)) : wpX_price post (f, p, m, c) (nI i) (nI j) x := by
  unfold wpX_price
  dsimp only
  rw [rk_ixX, nI_clamp (by omega)]
  exact rk_xpair1 hi hj (br_f rk_n10 (br_f h3 (br_t h99 ⟨vp_in_nI (by omega) (by decide), nm_e (rk_xrank h)⟩)))
theorem rx_bar0 {post : Int32 → SX → Prop} {f : Int32} {p m c : Nat → Int32} {x y : Int32} (hx : rk_out x ∨ rk_out y) (h : post (-1) (f, p, m, c)) : wpX_bar post (f, p, m, c) x y := by
  unfold wpX_bar
  dsimp only
  exact rk_xpair0 hx (br_t rfl h)
theorem rx_bar1 {post : Int32 → SX → Prop} {f : Int32} {p m c : Nat → Int32} {i j : Nat} (hi : i < 5) (hj : j < 5) (h : ∀ cn c m, rk_H (upd p (i * 5 + j) (-1)) cn c m → post 0 (cn, upd p (i * 5 + j) (-1), m, c)) : wpX_bar post (f, p, m, c) (nI i) (nI j) := by
  unfold wpX_bar
  dsimp only
  rw [rk_ixX, nI_clamp (by omega)]
  exact rk_xpair1 hi hj (br_f rk_n10 ⟨vp_in_nI (by omega) (by decide), nm_e (rk_xrank h)⟩)
theorem rx_ch0 {post : Int32 → Prop} {f : Int32} {p m c : Nat → Int32} {x y : Int32} (hx : rk_out x ∨ rk_out y) (h : post (-1)) : wpX_cheapestWith post (f, p, m, c) x y := by
  unfold wpX_cheapestWith
  dsimp only
  exact rk_xpair0 hx (br_t rfl h)
theorem rx_ch1 {post : Int32 → Prop} {f : Int32} {p m c : Nat → Int32} {i j : Nat} (hi : i < 5) (hj : j < 5) (h : ∃ n : Nat, wX_cheapestWith_12 post (nI i) (nI j) f p m c n 0) : wpX_cheapestWith post (f, p, m, c) (nI i) (nI j) := by
  unfold wpX_cheapestWith
  dsimp only
  exact rk_xpair1 hi hj (br_f rk_n10 h)
theorem rx_cost0 {post : Int32 → Prop} {f : Int32} {p m c : Nat → Int32} {x : Int32} (hx : x < 0 ∨ f ≤ x) (h : post (-1)) : wpX_cost post (f, p, m, c) x := by
  unfold wpX_cost
  dsimp only
  exact rk_xisr0 hx (br_t rfl h)
theorem rx_cost1 {post : Int32 → Prop} {p m c : Nat → Int32} {L j : Nat} (hL : L ≤ 120) (hj : j < L) (h : post (c j)) : wpX_cost post (nI L, p, m, c) (nI j) := by
  unfold wpX_cost
  dsimp only
  rw [nI_clamp (by omega)]
  exact rk_xisr1 hL hj (br_f rk_n10 ⟨vp_in_nI (by omega) (by decide), h⟩)
theorem rx_plan0 {post : Int32 → Prop} {f : Int32} {p m c : Nat → Int32} {x : Int32} (hx : x < 0 ∨ f ≤ x) (h : post (-1)) : wpX_plan post (f, p, m, c) x := by
  unfold wpX_plan
  dsimp only
  exact rk_xisr0 hx (br_t rfl h)
theorem rx_plan1 {post : Int32 → Prop} {p m c : Nat → Int32} {L j : Nat} (hL : L ≤ 120) (hj : j < L) (h : post (m j)) : wpX_plan post (nI L, p, m, c) (nI j) := by
  unfold wpX_plan
  dsimp only
  rw [nI_clamp (by omega)]
  exact rk_xisr1 hL hj (br_f rk_n10 ⟨vp_in_nI (by omega) (by decide), h⟩)
theorem rx_task0 {post : Int32 → Prop} {f : Int32} {p m c : Nat → Int32} {x y : Int32} (hx : x < 0 ∨ f ≤ x) (h : post (-1)) : wpX_task post (f, p, m, c) x y := by
  unfold wpX_task
  dsimp only
  exact rk_xisr0 hx (br_t rfl h)
theorem rx_taskW {post : Int32 → Prop} {p m c : Nat → Int32} {L j : Nat} (hL : L ≤ 120) (hj : j < L) {y : Int32} (hy : rk_out y) (h : post (-1)) : wpX_task post (nI L, p, m, c) (nI j) y := by
  unfold wpX_task
  dsimp only
  exact rk_xisr1 hL hj (br_f rk_n10 (rk_xon0 hy (br_t rfl h)))
theorem rx_task1 {post : Int32 → Prop} {p m c : Nat → Int32} {L j q t : Nat} (hL : L ≤ 120) (hj : j < L) (hq : q < 3125) (e : m j = nI q) (ht : t ≤ 4) (h : post (nI (q / 5 ^ t % 5))) : wpX_task post (nI L, p, m, c) (nI j) (nI (4 - t)) := by
  unfold wpX_task
  dsimp only
  rw [nI_clamp (by omega), e]
  refine rk_xisr1 hL hj (br_f rk_n10 (rk_xon1 (by omega) (br_f rk_n10 ⟨vp_in_nI (by omega) (by decide), ?_⟩)))
  exact rk_xtask (by omega) ht h
theorem ry_price0 {post : Int32 → SY → Prop} {f : Int32} {p m c : Nat → Int32} {x y z : Int32} (hx : rk_out x ∨ rk_out y) (h : post (-1) (f, p, m, c)) : wpY_price post (f, p, m, c) x y z := by
  unfold wpY_price
  dsimp only
  rcases rk_in5 x with o | ⟨i, hi, rfl⟩
  · exact rk_ybad1 o (br_f rk_n10 h)
  · exact rk_ybad0 hi (br_t rfl (rk_ybad1 (hx.resolve_left (rk_nout hi)) (br_f rk_n10 h)))
theorem ry_priceR {post : Int32 → SY → Prop} {f : Int32} {p m c : Nat → Int32} {i j : Nat} (hi : i < 5) (hj : j < 5) {z : Int32} (hz : z < 0 ∨ ¬ z ≤ 99) (h : post (-1) (f, p, m, c)) : wpY_price post (f, p, m, c) (nI i) (nI j) z := by
  unfold wpY_price
  dsimp only
  refine rk_ybad0 hi (br_t rfl (rk_ybad0 hj (br_t rfl ?_)))
  by_cases z0 : z < 0
  · exact br_t z0 h
  · exact br_f z0 (br_f (hz.resolve_left z0) h)
theorem ry_price1 {post : Int32 → SY → Prop} {f : Int32} {p m c : Nat → Int32} {i j : Nat} (hi : i < 5) (hj : j < 5) {x : Int32} (h3 : ¬ x < 0) (h99 : x ≤ 99) (h : post 0 (f, upd p (i * 5 + j) x, m, c)) : wpY_price post (f, p, m, c) (nI i) (nI j) x := by
  unfold wpY_price
  dsimp only
  rw [rk_ixY', nI_clamp (by omega)]
  exact rk_ybad0 hi (br_t rfl (rk_ybad0 hj (br_t rfl (br_f h3 (br_t h99 ⟨vp_in_nI (by omega) (by decide), nm_e h⟩)))))
theorem ry_bar0 {post : Int32 → SY → Prop} {f : Int32} {p m c : Nat → Int32} {x y : Int32} (hx : rk_out x ∨ rk_out y) (h : post (-1) (f, p, m, c)) : wpY_bar post (f, p, m, c) x y := by
  unfold wpY_bar
  dsimp only
  rcases rk_in5 x with o | ⟨i, hi, rfl⟩
  · exact rk_ybad1 o (br_f rk_n10 h)
  · exact rk_ybad0 hi (br_t rfl (rk_ybad1 (hx.resolve_left (rk_nout hi)) (br_f rk_n10 h)))
theorem ry_bar1 {post : Int32 → SY → Prop} {f : Int32} {p m c : Nat → Int32} {i j : Nat} (hi : i < 5) (hj : j < 5) (h : post 0 (f, upd p (i * 5 + j) (-1), m, c)) : wpY_bar post (f, p, m, c) (nI i) (nI j) := by
  unfold wpY_bar
  dsimp only
  rw [rk_ixY', nI_clamp (by omega)]
  exact rk_ybad0 hi (br_t rfl (rk_ybad0 hj (br_t rfl ⟨vp_in_nI (by omega) (by decide), nm_e h⟩)))
theorem ry_ch0 {post : Int32 → SY → Prop} {f : Int32} {p m c : Nat → Int32} {x y : Int32} (hx : rk_out x ∨ rk_out y) (h : post (-1) (f, p, m, c)) : wpY_cheapestWith post (f, p, m, c) x y := by
  unfold wpY_cheapestWith
  dsimp only
  rcases rk_in5 x with o | ⟨i, hi, rfl⟩
  · exact rk_ybad1 o (br_f rk_n10 h)
  · exact rk_ybad0 hi (br_t rfl (rk_ybad1 (hx.resolve_left (rk_nout hi)) (br_f rk_n10 h)))
theorem ry_ch1 {post : Int32 → SY → Prop} {f : Int32} {p m c : Nat → Int32} (hp : rk_Pr p) {i j : Nat} (hi : i < 5) (hj : j < 5) (h : ∀ cn c m, rk_H p cn c m → ∃ n : Nat, wY_cheapestWith_22 post (nI i) (nI j) cn p m c n 0) : wpY_cheapestWith post (f, p, m, c) (nI i) (nI j) := by
  unfold wpY_cheapestWith
  dsimp only
  exact rk_ybad0 hi (br_t rfl (rk_ybad0 hj (br_t rfl (rk_ylist hp h))))
theorem ry_plans {post : Int32 → SY → Prop} {f : Int32} {p m c : Nat → Int32} (hp : rk_Pr p) (h : ∀ cn c m, rk_H p cn c m → post cn (cn, p, m, c)) : wpY_plans post (f, p, m, c) := by
  unfold wpY_plans
  dsimp only
  exact rk_ylist hp h
theorem ry_within {post : Int32 → SY → Prop} {f : Int32} {p m c : Nat → Int32} (hp : rk_Pr p) {x : Int32} (h : ∀ cn c m, rk_H p cn c m → ∃ n : Nat, wY_within_8 post x cn p m c n 0 0) : wpY_within post (f, p, m, c) x := by
  unfold wpY_within
  dsimp only
  exact rk_ylist hp h
theorem ry_rank {post : Int32 → SY → Prop} {f : Int32} {p m c : Nat → Int32} (hp : rk_Pr p) {x : Int32} (h : ∀ cn c m, rk_H p cn c m → ∃ n : Nat, wY_rank_6 post x cn p m c n 0) : wpY_rank post (f, p, m, c) x := by
  unfold wpY_rank
  dsimp only
  exact rk_ylist hp h
theorem ry_cost0 {post : Int32 → SY → Prop} {f : Int32} {p m c : Nat → Int32} (hp : rk_Pr p) {x : Int32} (hx : x < 0 ∨ nI (rk_L p).1 ≤ x) (h : ∀ cn c m, rk_H p cn c m → post (-1) (cn, p, m, c)) : wpY_cost post (f, p, m, c) x := by
  unfold wpY_cost
  dsimp only
  refine rk_ylist hp (fun cn c m H => ?_)
  have h' := h cn c m H
  by_cases z : x < 0
  · exact br_t z h'
  · exact br_f z (br_f (by rw [H.1]; exact Int32.not_lt.mpr (hx.resolve_left z)) h')
theorem ry_cost1 {post : Int32 → SY → Prop} {f : Int32} {p m c : Nat → Int32} (hp : rk_Pr p) {j : Nat} (hj : j < (rk_L p).1) (h : ∀ cn c m, rk_H p cn c m → post (c j) (cn, p, m, c)) : wpY_cost post (f, p, m, c) (nI j) := by
  unfold wpY_cost
  dsimp only
  have hL := rk_L120 p
  rw [nI_clamp (by omega)]
  refine rk_ylist hp (fun cn c m H => ?_)
  have h' := h cn c m H
  exact br_f (nI_pos (by omega)) (br_t (by rw [H.1]; exact nI_lt hj (by omega)) ⟨vp_in_nI (by omega) (by decide), h'⟩)
theorem ry_plan0 {post : Int32 → SY → Prop} {f : Int32} {p m c : Nat → Int32} (hp : rk_Pr p) {x : Int32} (hx : x < 0 ∨ nI (rk_L p).1 ≤ x) (h : ∀ cn c m, rk_H p cn c m → post (-1) (cn, p, m, c)) : wpY_plan post (f, p, m, c) x := by
  unfold wpY_plan
  dsimp only
  refine rk_ylist hp (fun cn c m H => ?_)
  have h' := h cn c m H
  by_cases z : x < 0
  · exact br_t z h'
  · exact br_f z (br_f (by rw [H.1]; exact Int32.not_lt.mpr (hx.resolve_left z)) h')
theorem ry_plan1 {post : Int32 → SY → Prop} {f : Int32} {p m c : Nat → Int32} (hp : rk_Pr p) {j : Nat} (hj : j < (rk_L p).1) (h : ∀ cn c m, rk_H p cn c m → post (m j) (cn, p, m, c)) : wpY_plan post (f, p, m, c) (nI j) := by
  unfold wpY_plan
  dsimp only
  have hL := rk_L120 p
  rw [nI_clamp (by omega)]
  refine rk_ylist hp (fun cn c m H => ?_)
  have h' := h cn c m H
  exact br_f (nI_pos (by omega)) (br_t (by rw [H.1]; exact nI_lt hj (by omega)) ⟨vp_in_nI (by omega) (by decide), h'⟩)
theorem ry_taskW {post : Int32 → SY → Prop} {f : Int32} {p m c : Nat → Int32} (hp : rk_Pr p) {x y : Int32} (hy : rk_out y) (h : ∀ cn c m, rk_H p cn c m → post (-1) (cn, p, m, c)) : wpY_task post (f, p, m, c) x y := by
  unfold wpY_task
  dsimp only
  exact rk_ylist hp (fun cn c m H => rk_ybad1 hy (br_f rk_n10 (h cn c m H)))
theorem ry_task0 {post : Int32 → SY → Prop} {f : Int32} {p m c : Nat → Int32} (hp : rk_Pr p) {x : Int32} {w : Nat} (hw : w < 5) (hx : x < 0 ∨ nI (rk_L p).1 ≤ x) (h : ∀ cn c m, rk_H p cn c m → post (-1) (cn, p, m, c)) : wpY_task post (f, p, m, c) x (nI w) := by
  unfold wpY_task
  dsimp only
  refine rk_ylist hp (fun cn c m H => rk_ybad0 hw (br_t rfl ?_))
  have h' := h cn c m H
  by_cases z : x < 0
  · exact br_t z h'
  · exact br_f z (br_f (by rw [H.1]; exact Int32.not_lt.mpr (hx.resolve_left z)) h')
theorem ry_task1 {post : Int32 → SY → Prop} {f : Int32} {p m c : Nat → Int32} (hp : rk_Pr p) {j q t : Nat} (hj : j < (rk_L p).1) (hq : q < 3125) (e : (rk_L p).2.2 j = nI q) (ht : t ≤ 4) (h : ∀ cn c m, rk_H p cn c m → post (nI (q / 5 ^ t % 5)) (cn, p, m, c)) : wpY_task post (f, p, m, c) (nI j) (nI (4 - t)) := by
  unfold wpY_task
  dsimp only
  have hL := rk_L120 p
  rw [nI_clamp (by omega)]
  refine rk_ylist hp (fun cn c m H => rk_ybad0 (by omega) (br_t rfl ?_))
  have h' := h cn c m H
  refine br_f (nI_pos (by omega)) (br_t (by rw [H.1]; exact nI_lt hj (by omega)) ⟨vp_in_nI (by omega) (by decide), ?_⟩)
  dsimp only
  rw [← (H.2 j hj).2.1, e]
  exact rk_ydig (by omega) ht h'
