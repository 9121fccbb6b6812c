/-- both sides have the same prices, each -1 or from 0 to 99, and the component holds their listing; what the reference's list holds between calls is free -/
def i_Rel (k : Nat) (u : SX) (v : SY) : Prop := ∃ (p c m c' m' : Nat → Int32) (cn f : Int32), u = (cn, p, m, c) ∧ v = (f, p, m', c') ∧ rk_Pr p ∧ rk_H p cn c m
theorem rk_rel {k : Nat} {p c m c' m' : Nat → Int32} {cn f : Int32} (hp : rk_Pr p) (H : rk_H p cn c m) : i_Rel k (cn, p, m, c) (f, p, m', c') := ⟨p, c, m, c', m', cn, f, rfl, rfl, hp, H⟩
theorem i_up {k : Nat} {u : SX} {v : SY} (h : i_Rel k u v) : i_Rel (k + 4) u v := h
theorem i_vc0 : wpX_init (fun u => wpY_init (fun v => i_Rel 0 u v)) := rk_xrank (fun cn c m H => rk_rel (k := 0) rk_Pr0 H)
theorem i_vc_price {k : Nat} {u : SX} {v : SY} (I : i_Rel k u v) (hk : k + 4 ≤ 2048) (v1 : Int32) (v2 : Int32) (v3 : Int32) : wpX_price (fun r u' => wpY_price (fun r' v' => r' = r ∧ i_Rel (k + 4) u' v') v v1 v2 v3) u v1 v2 v3 := by
  obtain ⟨p, c, m, c', m', cn, f, rfl, rfl, hp, H⟩ := I
  rcases rk_in5 v1 with z | ⟨i, hi, rfl⟩
  · exact rx_price0 (Or.inl z) (ry_price0 (Or.inl z) ⟨rfl, rk_rel hp H⟩)
  · rcases rk_in5 v2 with z | ⟨j, hj, rfl⟩
    · exact rx_price0 (Or.inr z) (ry_price0 (Or.inr z) ⟨rfl, rk_rel hp H⟩)
    · by_cases h3 : v3 < 0
      · exact rx_priceR hi hj (Or.inl h3) (ry_priceR hi hj (Or.inl h3) ⟨rfl, rk_rel hp H⟩)
      · by_cases h99 : v3 ≤ 99
        · have q : ∃ j, j ≤ 99 ∧ v3 = nI j := nI_of2 (M := 99) (n := 99) (by decide) h3 h99
          exact rx_price1 hi hj h3 h99 (fun cn' c'' m'' H' => ry_price1 hi hj h3 h99 ⟨rfl, rk_rel (rk_PrU hp (Or.inr q) _) H'⟩)
        · exact rx_priceR hi hj (Or.inr h99) (ry_priceR hi hj (Or.inr h99) ⟨rfl, rk_rel hp H⟩)
theorem i_vc_bar {k : Nat} {u : SX} {v : SY} (I : i_Rel k u v) (hk : k + 4 ≤ 2048) (v1 : Int32) (v2 : Int32) : wpX_bar (fun r u' => wpY_bar (fun r' v' => r' = r ∧ i_Rel (k + 4) u' v') v v1 v2) u v1 v2 := by
  obtain ⟨p, c, m, c', m', cn, f, rfl, rfl, hp, H⟩ := I
  rcases rk_in5 v1 with z | ⟨i, hi, rfl⟩
  · exact rx_bar0 (Or.inl z) (ry_bar0 (Or.inl z) ⟨rfl, rk_rel hp H⟩)
  · rcases rk_in5 v2 with z | ⟨j, hj, rfl⟩
    · exact rx_bar0 (Or.inr z) (ry_bar0 (Or.inr z) ⟨rfl, rk_rel hp H⟩)
    · exact rx_bar1 hi hj (fun cn' c'' m'' H' => ry_bar1 hi hj ⟨rfl, rk_rel (rk_PrU hp (Or.inl rfl) _) H'⟩)
theorem i_vc_plans {k : Nat} {u : SX} {v : SY} (I : i_Rel k u v) (hk : k + 4 ≤ 2048) : wpX_plans (fun r => wpY_plans (fun r' v' => r' = r ∧ i_Rel (k + 4) u v') v) u := by
  obtain ⟨p, c, m, c', m', cn, f, rfl, rfl, hp, H⟩ := I
  unfold wpX_plans
  dsimp only
  exact ry_plans hp (fun cn' c'' m'' H' => ⟨H'.1.trans H.1.symm, rk_rel hp H⟩)
theorem i_vc_cost {k : Nat} {u : SX} {v : SY} (I : i_Rel k u v) (hk : k + 4 ≤ 2048) (v1 : Int32) : wpX_cost (fun r => wpY_cost (fun r' v' => r' = r ∧ i_Rel (k + 4) u v') v v1) u v1 := by
  obtain ⟨p, c, m, c', m', cn, f, rfl, rfl, hp, H⟩ := I
  have hL := rk_L120 p
  obtain ⟨rfl, hR⟩ := id H
  rcases pk_ix v1 (n := (rk_L p).1) (by omega) with h | h | ⟨j, hj, rfl⟩
  · exact rx_cost0 (Or.inl h) (ry_cost0 hp (Or.inl h) (fun cn' c'' m'' H' => ⟨rfl, rk_rel hp H⟩))
  · exact rx_cost0 (Or.inr h) (ry_cost0 hp (Or.inr h) (fun cn' c'' m'' H' => ⟨rfl, rk_rel hp H⟩))
  · exact rx_cost1 hL hj (ry_cost1 hp hj (fun cn' c'' m'' H' => ⟨(H'.2 j hj).1.symm.trans (hR j hj).1, rk_rel hp H⟩))
theorem i_vc_plan {k : Nat} {u : SX} {v : SY} (I : i_Rel k u v) (hk : k + 4 ≤ 2048) (v1 : Int32) : wpX_plan (fun r => wpY_plan (fun r' v' => r' = r ∧ i_Rel (k + 4) u v') v v1) u v1 := by
  obtain ⟨p, c, m, c', m', cn, f, rfl, rfl, hp, H⟩ := I
  have hL := rk_L120 p
  obtain ⟨rfl, hR⟩ := id H
  rcases pk_ix v1 (n := (rk_L p).1) (by omega) with h | h | ⟨j, hj, rfl⟩
  · exact rx_plan0 (Or.inl h) (ry_plan0 hp (Or.inl h) (fun cn' c'' m'' H' => ⟨rfl, rk_rel hp H⟩))
  · exact rx_plan0 (Or.inr h) (ry_plan0 hp (Or.inr h) (fun cn' c'' m'' H' => ⟨rfl, rk_rel hp H⟩))
  · exact rx_plan1 hL hj (ry_plan1 hp hj (fun cn' c'' m'' H' => ⟨(H'.2 j hj).2.1.symm.trans (hR j hj).2.1, rk_rel hp H⟩))
theorem i_vc_task {k : Nat} {u : SX} {v : SY} (I : i_Rel k u v) (hk : k + 4 ≤ 2048) (v1 : Int32) (v2 : Int32) : wpX_task (fun r => wpY_task (fun r' v' => r' = r ∧ i_Rel (k + 4) u v') v v1 v2) u v1 v2 := by
  obtain ⟨p, c, m, c', m', cn, f, rfl, rfl, hp, H⟩ := I
  have hL := rk_L120 p
  obtain ⟨rfl, hR⟩ := id H
  rcases rk_in5 v2 with z | ⟨w, hw, rfl⟩
  · rcases pk_ix v1 (n := (rk_L p).1) (by omega) with h | h | ⟨j, hj, rfl⟩
    · exact rx_task0 (Or.inl h) (ry_taskW hp z (fun cn' c'' m'' H' => ⟨rfl, rk_rel hp H⟩))
    · exact rx_task0 (Or.inr h) (ry_taskW hp z (fun cn' c'' m'' H' => ⟨rfl, rk_rel hp H⟩))
    · exact rx_taskW hL hj z (ry_taskW hp z (fun cn' c'' m'' H' => ⟨rfl, rk_rel hp H⟩))
  · rcases pk_ix v1 (n := (rk_L p).1) (by omega) with h | h | ⟨j, hj, rfl⟩
    · exact rx_task0 (Or.inl h) (ry_task0 hp hw (Or.inl h) (fun cn' c'' m'' H' => ⟨rfl, rk_rel hp H⟩))
    · exact rx_task0 (Or.inr h) (ry_task0 hp hw (Or.inr h) (fun cn' c'' m'' H' => ⟨rfl, rk_rel hp H⟩))
    · obtain ⟨_, e, q, hq, eq⟩ := hR j hj
      obtain ⟨t, ht, rfl⟩ : ∃ t, t ≤ 4 ∧ w = 4 - t := ⟨4 - w, by omega, by omega⟩
      exact rx_task1 hL hj hq (e.symm.trans eq) ht (ry_task1 hp hj hq eq ht (fun cn' c'' m'' H' => ⟨rfl, rk_rel hp H⟩))
theorem i_vc_within {k : Nat} {u : SX} {v : SY} (I : i_Rel k u v) (hk : k + 4 ≤ 2048) (v1 : Int32) : wpX_within (fun r => wpY_within (fun r' v' => r' = r ∧ i_Rel (k + 4) u v') v v1) u v1 := by
  obtain ⟨p, c, m, c', m', cn, f, rfl, rfl, hp, H⟩ := I
  have hL := rk_L120 p
  obtain ⟨rfl, hR⟩ := id H
  refine ⟨(rk_L p).1 + 1, rk_xwi_loop hL ?_ (rk_L p).1 0 (Nat.zero_add _)⟩
  refine ry_within hp (fun cn' c'' m'' H' => ?_)
  obtain ⟨rfl, hR'⟩ := H'
  refine ⟨(rk_L p).1 + 1, rk_ywi_loop hL ⟨?_, rk_rel hp H⟩ (rk_L p).1 0 (Nat.zero_add _)⟩
  exact congrArg nI (rk_wi_c v1 _ (fun i hi => (hR' i hi).1.symm.trans (hR i hi).1))
theorem i_vc_rank {k : Nat} {u : SX} {v : SY} (I : i_Rel k u v) (hk : k + 4 ≤ 2048) (v1 : Int32) : wpX_rank (fun r => wpY_rank (fun r' v' => r' = r ∧ i_Rel (k + 4) u v') v v1) u v1 := by
  obtain ⟨p, c, m, c', m', cn, f, rfl, rfl, hp, H⟩ := I
  have hL := rk_L120 p
  obtain ⟨rfl, hR⟩ := id H
  refine ⟨(rk_L p).1 + 1, rk_xrk_loop hL (rk_L p).1 0 (Nat.zero_add _) ?_⟩
  refine ry_rank hp (fun cn' c'' m'' H' => ?_)
  obtain ⟨rfl, hR'⟩ := H'
  refine ⟨(rk_L p).1 + 1, rk_yrk_loop hL (rk_L p).1 0 (Nat.zero_add _) ⟨?_, rk_rel hp H⟩⟩
  refine rk_fi_c _ _ (fun i _ hi => ⟨?_, rfl⟩)
  have hi' : i < (rk_L p).1 := by omega
  show decide (m'' i = v1) = decide (m i = v1)
  rw [← (hR' i hi').2.1, (hR i hi').2.1]
theorem i_vc_cheapestWith {k : Nat} {u : SX} {v : SY} (I : i_Rel k u v) (hk : k + 4 ≤ 2048) (v1 : Int32) (v2 : Int32) : wpX_cheapestWith (fun r => wpY_cheapestWith (fun r' v' => r' = r ∧ i_Rel (k + 4) u v') v v1 v2) u v1 v2 := by
  obtain ⟨p, c, m, c', m', cn, f, rfl, rfl, hp, H⟩ := I
  have hL := rk_L120 p
  obtain ⟨rfl, hR⟩ := id H
  rcases rk_in5 v1 with z | ⟨w, hw, rfl⟩
  · exact rx_ch0 (Or.inl z) (ry_ch0 (Or.inl z) ⟨rfl, rk_rel hp H⟩)
  · rcases rk_in5 v2 with z | ⟨x, hx, rfl⟩
    · exact rx_ch0 (Or.inr z) (ry_ch0 (Or.inr z) ⟨rfl, rk_rel hp H⟩)
    · obtain ⟨t, ht, rfl⟩ : ∃ t, t ≤ 4 ∧ w = 4 - t := ⟨4 - w, by omega, by omega⟩
      have hm : ∀ i, i < (rk_L p).1 → ∃ q, q < 3125 ∧ m i = nI q := fun i hi => by
        rw [← (hR i hi).2.1]
        exact (hR i hi).2.2
      refine rx_ch1 hw hx ⟨(rk_L p).1 + 1, rk_xch_loop hL ht hm (rk_L p).1 0 (Nat.zero_add _) ?_⟩
      refine ry_ch1 hp hw hx (fun cn' c'' m'' H' => ?_)
      obtain ⟨rfl, hR'⟩ := H'
      have hm' : ∀ i, i < (rk_L p).1 → ∃ q, q < 3125 ∧ m'' i = nI q := fun i hi => by
        rw [← (hR' i hi).2.1]
        exact (hR' i hi).2.2
      refine ⟨(rk_L p).1 + 1, rk_ych_loop hL ht hm' (rk_L p).1 0 (Nat.zero_add _) ⟨?_, rk_rel hp H⟩⟩
      refine rk_fi_c _ _ (fun i _ hi => ?_)
      have hi' : i < (rk_L p).1 := by omega
      refine ⟨?_, (hR' i hi').1.symm.trans (hR i hi').1⟩
      unfold rk_has
      rw [← (hR' i hi').2.1, (hR i hi').2.1]
