/-! the owed statements of the small methods -/
theorem wr_q {f : Nat → Int32} {b : Nat} {x : Int32} {w : Nat} (hw : w ≤ 100000) (hx : x = nI w) (h : ∀ k, ∃ w, w ≤ 100000 ∧ f k = nI w) : ∀ k, ∃ w, w ≤ 100000 ∧ upd f b x k = nI w := by
  intro k
  by_cases e : k = b
  · rw [e, pk_us]; exact ⟨w, hw, hx⟩
  · rw [pk_un e]; exact h k
theorem wr_of {x : Int32} {c : Nat} (hc : c < 2 ^ 31) (h0 : ¬ x < 0) (h : x ≤ nI c) : ∃ w, w ≤ c ∧ x = nI w := by
  obtain ⟨w, hw, rfl⟩ := nI_of h0
  exact ⟨w, (nI_leI hw hc).mp h, rfl⟩
theorem i_vc_getCount {k : Nat} {u : SX} {v : SY} (I : i_Rel k u v) (hk : k + 5 ≤ 2562) (v1 : Int32) : wpX_getCount (fun r => wpY_getCount (fun r' => r' = r ∧ i_Rel (k + 5) u v) v v1) u v1 := by
  have J : i_Rel (k + 5) u v := i_up I
  obtain ⟨n, p, m, P, C, U, Q, Ld, L, cu, hp, a_leads, a_rules, a_params, a_onHands, a_demands, a_receipts, a_usages, a_levels, a_reached, a_ep, a_ec, a_eu, a_lvl, a_reach, xgr, xne, xpl, xrl, xpj, xpd, xst, ygr, yne, ypl, yrl, ypj, ypd, yst, rfl, rfl, S, H⟩ := I
  unfold wpX_getCount
  dsimp only
  by_cases c0 : v1 = 0
  · subst c0
    exact br_f (by decide) (br_f (by decide) (br_t rfl (br_t rfl ⟨rfl, J⟩)))
  · by_cases c1 : v1 = 1
    · subst c1
      exact br_f (by decide) (br_f (by decide) (br_f c0 (br_t rfl (br_f c0 (br_t rfl ⟨rfl, J⟩)))))
    · by_cases c2 : v1 = 2
      · subst c2
        exact br_f (by decide) (br_f (by decide) (br_f c0 (br_f c1 (br_t rfl (br_f c0 (br_f c1 (br_t rfl ⟨rfl, J⟩)))))))
      · by_cases c3 : v1 = 3
        · subst c3
          exact br_f (by decide) (br_f (by decide) (br_f c0 (br_f c1 (br_f c2 (br_t rfl (br_f c0 (br_f c1 (br_f c2 (br_t rfl ⟨rfl, J⟩)))))))))
        · have y : wpY_getCount (fun r' => r' = 0 ∧ i_Rel (k + 5) ((nI n), (nI p), (nI m), cu, a_leads, a_rules, a_params, a_onHands, a_demands, a_receipts, a_usages, a_levels, a_reached, xgr, xne, xpl, xrl, xpj, xpd, xst) ((nI n), (nI p), (nI m), hp, cu, a_leads, a_rules, a_params, a_onHands, a_demands, a_receipts, a_ep, a_ec, a_eu, ygr, yne, ypl, yrl, ypj, ypd, yst, a_lvl, a_reach)) ((nI n), (nI p), (nI m), hp, cu, a_leads, a_rules, a_params, a_onHands, a_demands, a_receipts, a_ep, a_ec, a_eu, ygr, yne, ypl, yrl, ypj, ypd, yst, a_lvl, a_reach) v1 := br_f c0 (br_f c1 (br_f c2 (br_f c3 ⟨rfl, J⟩)))
          exact br_c (fun _ => y) (fun _ => br_c (fun _ => y) (fun _ => br_f c0 (br_f c1 (br_f c2 (br_f c3 trivial)))))
theorem i_vc_setOnHand {k : Nat} {u : SX} {v : SY} (I : i_Rel k u v) (hk : k + 5 ≤ 2562) (v1 : Int32) (v2 : Int32) : wpX_setOnHand (fun r u' => wpY_setOnHand (fun r' v' => r' = r ∧ i_Rel (k + 5) u' v') v v1 v2) u v1 v2 := by
  have J : i_Rel (k + 5) u v := i_up I
  obtain ⟨n, p, m, P, C, U, Q, Ld, L, cu, hp, a_leads, a_rules, a_params, a_onHands, a_demands, a_receipts, a_usages, a_levels, a_reached, a_ep, a_ec, a_eu, a_lvl, a_reach, xgr, xne, xpl, xrl, xpj, xpd, xst, ygr, yne, ypl, yrl, ypj, ypd, yst, rfl, rfl, S, H⟩ := I
  obtain ⟨s1, s2, s3, s4, s5, s6, s7, s8, s9, w1, w2, w3, w4⟩ := S
  unfold wpX_setOnHand
  rcases pk_ix v1 (n := n) (by omega) with a | a | ⟨j, hj, rfl⟩
  · exact xa_item0 (Or.inl a) (br_t rfl (br_t a ⟨rfl, J⟩))
  · exact xa_item0 (Or.inr a) (br_t rfl (br_f (xa_nn s2 a) (br_t a ⟨rfl, J⟩)))
  · have p1 : ¬ nI j < 0 := nI_pos (by omega)
    have p2 : ¬ nI n ≤ nI j := xa_nge s2 hj
    have vj : vp_in (nI j) 16 := vp_in_nI (by omega) (by omega)
    refine xa_item1 s2 hj (br_f (by decide) ?_)
    by_cases b : v2 < 0
    · exact xa_in0 (Or.inl b) (br_t rfl (br_f p1 (br_f p2 (br_t b ⟨rfl, J⟩))))
    · by_cases b2 : v2 ≤ 100000
      · obtain ⟨w, hw, ew⟩ := wr_of (c := 100000) (by omega) b b2
        refine xa_in1 b (Int32.not_lt.mpr b2) (br_f (by decide) ⟨vj, nm_r (xh_up (by omega) rfl) ?_⟩)
        unfold wpX_discardPlan
        refine br_f p1 (br_f p2 (br_f b (br_t b2 ⟨vj, nm_r (xh_up (by omega) rfl) ?_⟩)))
        unfold wpY_discard
        exact ⟨rfl, rl_mk ⟨s1, s2, s3, s4, s5, s6, s7, s8, s9, w1, wr_q hw ew w2, w3, w4⟩ (Or.inl ⟨rfl, rfl⟩)⟩
      · exact xa_in0 (Or.inr (Int32.not_le.mp b2)) (br_t rfl (br_f p1 (br_f p2 (br_f b (br_f b2 ⟨rfl, J⟩)))))
theorem i_vc_setReceipt {k : Nat} {u : SX} {v : SY} (I : i_Rel k u v) (hk : k + 5 ≤ 2562) (v1 : Int32) (v2 : Int32) (v3 : Int32) : wpX_setReceipt (fun r u' => wpY_setReceipt (fun r' v' => r' = r ∧ i_Rel (k + 5) u' v') v v1 v2 v3) u v1 v2 v3 := by
  have J : i_Rel (k + 5) u v := i_up I
  obtain ⟨n, p, m, P, C, U, Q, Ld, L, cu, hp, a_leads, a_rules, a_params, a_onHands, a_demands, a_receipts, a_usages, a_levels, a_reached, a_ep, a_ec, a_eu, a_lvl, a_reach, xgr, xne, xpl, xrl, xpj, xpd, xst, ygr, yne, ypl, yrl, ypj, ypd, yst, rfl, rfl, S, H⟩ := I
  obtain ⟨s1, s2, s3, s4, s5, s6, s7, s8, s9, w1, w2, w3, w4⟩ := S
  unfold wpX_setReceipt
  rcases pk_ix v1 (n := n) (by omega) with a | a | ⟨j, hj, rfl⟩
  · exact xa_item0 (Or.inl a) (br_t rfl (br_t a ⟨rfl, J⟩))
  · exact xa_item0 (Or.inr a) (br_t rfl (br_f (xa_nn s2 a) (br_t a ⟨rfl, J⟩)))
  · have p1 : ¬ nI j < 0 := nI_pos (by omega)
    have p2 : ¬ nI n ≤ nI j := xa_nge s2 hj
    refine xa_item1 s2 hj (br_f (by decide) ?_)
    rcases pk_ix v2 (n := p) (by omega) with a | a | ⟨t, ht, rfl⟩
    · exact xa_per0 (Or.inl a) (br_t rfl (br_f p1 (br_f p2 (br_t a ⟨rfl, J⟩))))
    · exact xa_per0 (Or.inr a) (br_t rfl (br_f p1 (br_f p2 (br_f (xa_nn s4 a) (br_t a ⟨rfl, J⟩)))))
    · have p3 : ¬ nI t < 0 := nI_pos (by omega)
      have p4 : ¬ nI p ≤ nI t := xa_nge s4 ht
      have vc : vp_in (nI (j * 16 + t)) 256 := vp_in_nI (by omega) (by omega)
      refine xa_per1 s4 ht (br_f (by decide) ?_)
      by_cases b : v3 < 0
      · exact xa_in0 (Or.inl b) (br_t rfl (br_f p1 (br_f p2 (br_f p3 (br_f p4 (br_t b ⟨rfl, J⟩))))))
      · by_cases b2 : v3 ≤ 100000
        · obtain ⟨w, hw, ew⟩ := wr_of (c := 100000) (by omega) b b2
          refine xa_in1 b (Int32.not_lt.mpr b2) (br_f (by decide) (xh_cell ⟨vc, nm_r (xh_up (by omega) rfl) ?_⟩))
          unfold wpX_discardPlan
          refine br_f p1 (br_f p2 (br_f p3 (br_f p4 (br_f b (br_t b2 ?_)))))
          rw [xh_ix]
          refine ⟨vc, nm_r (xh_up (by omega) rfl) ?_⟩
          unfold wpY_discard
          exact ⟨rfl, rl_mk ⟨s1, s2, s3, s4, s5, s6, s7, s8, s9, w1, w2, w3, wr_q hw ew w4⟩ (Or.inl ⟨rfl, rfl⟩)⟩
        · exact xa_in0 (Or.inr (Int32.not_le.mp b2)) (br_t rfl (br_f p1 (br_f p2 (br_f p3 (br_f p4 (br_f b (br_f b2 ⟨rfl, J⟩)))))))
theorem i_vc_setDemand {k : Nat} {u : SX} {v : SY} (I : i_Rel k u v) (hk : k + 5 ≤ 2562) (v1 : Int32) (v2 : Int32) (v3 : Int32) : wpX_setDemand (fun r u' => wpY_setDemand (fun r' v' => r' = r ∧ i_Rel (k + 5) u' v') v v1 v2 v3) u v1 v2 v3 := by
  have J : i_Rel (k + 5) u v := i_up I
  obtain ⟨n, p, m, P, C, U, Q, Ld, L, cu, hp, a_leads, a_rules, a_params, a_onHands, a_demands, a_receipts, a_usages, a_levels, a_reached, a_ep, a_ec, a_eu, a_lvl, a_reach, xgr, xne, xpl, xrl, xpj, xpd, xst, ygr, yne, ypl, yrl, ypj, ypd, yst, rfl, rfl, S, H⟩ := I
  obtain ⟨s1, s2, s3, s4, s5, s6, s7, s8, s9, w1, w2, w3, w4⟩ := S
  unfold wpX_setDemand
  rcases pk_ix v1 (n := n) (by omega) with a | a | ⟨j, hj, rfl⟩
  · exact xa_item0 (Or.inl a) (br_t rfl (br_t a ⟨rfl, J⟩))
  · exact xa_item0 (Or.inr a) (br_t rfl (br_f (xa_nn s2 a) (br_t a ⟨rfl, J⟩)))
  · have p1 : ¬ nI j < 0 := nI_pos (by omega)
    have p2 : ¬ nI n ≤ nI j := xa_nge s2 hj
    refine xa_item1 s2 hj (br_f (by decide) ?_)
    rcases pk_ix v2 (n := p) (by omega) with a | a | ⟨t, ht, rfl⟩
    · exact xa_per0 (Or.inl a) (br_t rfl (br_f p1 (br_f p2 (br_t a ⟨rfl, J⟩))))
    · exact xa_per0 (Or.inr a) (br_t rfl (br_f p1 (br_f p2 (br_f (xa_nn s4 a) (br_t a ⟨rfl, J⟩)))))
    · have p3 : ¬ nI t < 0 := nI_pos (by omega)
      have p4 : ¬ nI p ≤ nI t := xa_nge s4 ht
      have vc : vp_in (nI (j * 16 + t)) 256 := vp_in_nI (by omega) (by omega)
      refine xa_per1 s4 ht (br_f (by decide) ?_)
      by_cases b : v3 < 0
      · exact xa_in0 (Or.inl b) (br_t rfl (br_f p1 (br_f p2 (br_f p3 (br_f p4 (br_t b ⟨rfl, J⟩))))))
      · by_cases b2 : v3 ≤ 100000
        · obtain ⟨w, hw, ew⟩ := wr_of (c := 100000) (by omega) b b2
          refine xa_in1 b (Int32.not_lt.mpr b2) (br_f (by decide) (xh_cell ⟨vc, nm_r (xh_up (by omega) rfl) ?_⟩))
          unfold wpX_discardPlan
          refine br_f p1 (br_f p2 (br_f p3 (br_f p4 (br_f b (br_t b2 ?_)))))
          rw [xh_ix]
          refine ⟨vc, nm_r (xh_up (by omega) rfl) ?_⟩
          unfold wpY_discard
          exact ⟨rfl, rl_mk ⟨s1, s2, s3, s4, s5, s6, s7, s8, s9, w1, w2, wr_q hw ew w3, w4⟩ (Or.inl ⟨rfl, rfl⟩)⟩
        · exact xa_in0 (Or.inr (Int32.not_le.mp b2)) (br_t rfl (br_f p1 (br_f p2 (br_f p3 (br_f p4 (br_f b (br_f b2 ⟨rfl, J⟩)))))))
theorem i_vc_scrap {k : Nat} {u : SX} {v : SY} (I : i_Rel k u v) (hk : k + 5 ≤ 2562) (v1 : Int32) (v2 : Int32) : wpX_scrap (fun r u' => wpY_scrap (fun r' v' => r' = r ∧ i_Rel (k + 5) u' v') v v1 v2) u v1 v2 := by
  have J : i_Rel (k + 5) u v := i_up I
  obtain ⟨n, p, m, P, C, U, Q, Ld, L, cu, hp, a_leads, a_rules, a_params, a_onHands, a_demands, a_receipts, a_usages, a_levels, a_reached, a_ep, a_ec, a_eu, a_lvl, a_reach, xgr, xne, xpl, xrl, xpj, xpd, xst, ygr, yne, ypl, yrl, ypj, ypd, yst, rfl, rfl, S, H⟩ := I
  have s2 := S.2.1
  have s4 := S.2.2.2.1
  unfold wpX_scrap
  rcases H with ⟨rfl, rfl⟩ | ⟨rfl, c, hc, rfl, K⟩
  · exact xa_plan0 rfl (br_t rfl (br_t rfl ⟨rfl, J⟩))
  · have h1 : ¬ (1 : Int32) = 0 := by decide
    refine xa_plan1 (xa_mone (by omega)) (br_f h1 ?_)
    rcases pk_ix v1 (n := n) (by omega) with a | a | ⟨j, hj, rfl⟩
    · exact xa_item0 (Or.inl a) (br_t rfl (br_f h1 (br_t a ⟨rfl, J⟩)))
    · exact xa_item0 (Or.inr a) (br_t rfl (br_f h1 (br_f (xa_nn s2 a) (br_t a ⟨rfl, J⟩))))
    · have p1 : ¬ nI j < 0 := nI_pos (by omega)
      have p2 : ¬ nI n ≤ nI j := xa_nge s2 hj
      have vj : vp_in (nI j) 16 := vp_in_nI (by omega) (by omega)
      refine xa_item1 s2 hj (br_f h1 ?_)
      by_cases b : v2 < 1
      · exact xa_in0 (Or.inl b) (br_t rfl (br_f h1 (br_f p1 (br_f p2 (br_t b ⟨rfl, J⟩)))))
      · by_cases b2 : v2 ≤ 100000
        · refine xa_in1 b (Int32.not_lt.mpr b2) (br_f h1 ⟨vj, vj, nm_r (xh_upL (y := xst j - v2.toInt64) (by omega) (by rw [nI_clamp (by omega)])) ?_⟩)
          refine br_f h1 (br_f p1 (br_f p2 (br_f b (br_t b2 ⟨vj, vj, nm_r (xh_upL (y := yst j - v2.toInt64) (by omega) (by rw [nI_clamp (by omega)])) ?_⟩))))
          refine ⟨rfl, rl_mk S (Or.inr ⟨rfl, c, hc, rfl, fun i hi => ?_⟩)⟩
          obtain ⟨k1, k2, k3⟩ := K i hi
          refine ⟨k1, ?_, k3⟩
          by_cases e : i = j
          · rw [e, pk_uLs, pk_uLs, ← e, k2]
          · rw [pk_uLn e, pk_uLn e]; exact k2
        · exact xa_in0 (Or.inr (Int32.not_le.mp b2)) (br_t rfl (br_f h1 (br_f p1 (br_f p2 (br_f b (br_f b2 ⟨rfl, J⟩))))))
theorem i_vc_getCell {k : Nat} {u : SX} {v : SY} (I : i_Rel k u v) (hk : k + 5 ≤ 2562) (v1 : Int32) (v2 : Int32) (v3 : Int32) : wpX_getCell (fun r => wpY_getCell (fun r' => r' = r ∧ i_Rel (k + 5) u v) v v1 v2 v3) u v1 v2 v3 := by
  have J : i_Rel (k + 5) u v := i_up I
  obtain ⟨n, p, m, P, C, U, Q, Ld, L, cu, hp, a_leads, a_rules, a_params, a_onHands, a_demands, a_receipts, a_usages, a_levels, a_reached, a_ep, a_ec, a_eu, a_lvl, a_reach, xgr, xne, xpl, xrl, xpj, xpd, xst, ygr, yne, ypl, yrl, ypj, ypd, yst, rfl, rfl, S, H⟩ := I
  have s2 := S.2.1
  have s4 := S.2.2.2.1
  unfold wpX_getCell
  rcases pk_ix v1 (n := n) (by omega) with a | a | ⟨j, hj, rfl⟩
  · exact xa_item0 (Or.inl a) (br_t rfl (br_t a ⟨rfl, J⟩))
  · exact xa_item0 (Or.inr a) (br_t rfl (br_f (xa_nn s2 a) (br_t a ⟨rfl, J⟩)))
  · have p1 : ¬ nI j < 0 := nI_pos (by omega)
    have p2 : ¬ nI n ≤ nI j := xa_nge s2 hj
    refine xa_item1 s2 hj (br_f (by decide) ?_)
    rcases pk_ix v2 (n := p) (by omega) with a | a | ⟨t, ht, rfl⟩
    · exact xa_per0 (Or.inl a) (br_t rfl (br_f p1 (br_f p2 (br_t a ⟨rfl, J⟩))))
    · exact xa_per0 (Or.inr a) (br_t rfl (br_f p1 (br_f p2 (br_f (xa_nn s4 a) (br_f (Int32.not_lt.mpr a) ⟨rfl, J⟩)))))
    · have p3 : ¬ nI t < 0 := nI_pos (by omega)
      have p4 : nI t < nI p := nI_lt ht (by omega)
      have vc : vp_in (nI (j * 16 + t)) 256 := vp_in_nI (by omega) (by omega)
      have ec : (nI (j * 16 + t)).toNatClampNeg = j * 16 + t := nI_clamp (by omega)
      refine xa_per1 s4 ht (br_f (by decide) (xh_cell ?_))
      by_cases c0 : v3 = 0
      · exact br_t c0 ⟨vc, br_f p1 (br_f p2 (br_f p3 (br_t p4 (nm_r (xh_ix j t) (br_t c0 ⟨vc, rfl, J⟩)))))⟩
      · by_cases c1 : v3 = 1
        · exact br_f c0 (br_t c1 ⟨vc, br_f p1 (br_f p2 (br_f p3 (br_t p4 (nm_r (xh_ix j t) (br_f c0 (br_t c1 ⟨vc, rfl, J⟩))))))⟩)
        · refine br_f c0 (br_f c1 ?_)
          rcases H with ⟨rfl, rfl⟩ | ⟨rfl, c, hc, rfl, K⟩
          · exact xa_plan0 rfl (br_t rfl (br_f p1 (br_f p2 (br_f p3 (br_t p4 (nm_r (xh_ix j t) (br_f c0 (br_f c1 (br_t rfl ⟨rfl, J⟩)))))))))
          · have h1 : ¬ (1 : Int32) = 0 := by decide
            obtain ⟨q1, q2, q3, q4, q5, _⟩ := (K j hj).2.2 t ht
            refine xa_plan1 (xa_mone (by omega)) (br_f h1 ?_)
            unfold wpX_planValue
            by_cases d2 : v3 = 2
            · subst d2
              exact br_f (by decide) (br_f (by decide) (br_t rfl ⟨vc, br_f p1 (br_f p2 (br_f p3 (br_t p4 (nm_r (xh_ix j t) (br_f c0 (br_f c1 (br_f h1 (br_t rfl ⟨vc, by rw [ec]; exact q1.symm, J⟩))))))))⟩))
            · by_cases d3 : v3 = 3
              · subst d3
                exact br_f (by decide) (br_f (by decide) (br_f d2 (br_t rfl ⟨vc, br_f p1 (br_f p2 (br_f p3 (br_t p4 (nm_r (xh_ix j t) (br_f c0 (br_f c1 (br_f h1 (br_f d2 (br_t rfl ⟨vc, by rw [ec]; exact q2.symm, J⟩)))))))))⟩)))
              · by_cases d4 : v3 = 4
                · subst d4
                  exact br_f (by decide) (br_f (by decide) (br_f d2 (br_f d3 (br_t rfl ⟨vc, br_f p1 (br_f p2 (br_f p3 (br_t p4 (nm_r (xh_ix j t) (br_f c0 (br_f c1 (br_f h1 (br_f d2 (br_f d3 (br_t rfl ⟨vc, by rw [ec]; exact q3.symm, J⟩))))))))))⟩))))
                · by_cases d5 : v3 = 5
                  · subst d5
                    exact br_f (by decide) (br_f (by decide) (br_f d2 (br_f d3 (br_f d4 (br_t rfl ⟨vc, br_f p1 (br_f p2 (br_f p3 (br_t p4 (nm_r (xh_ix j t) (br_f c0 (br_f c1 (br_f h1 (br_f d2 (br_f d3 (br_f d4 (br_t rfl ⟨vc, by rw [ec]; exact q4.symm, J⟩)))))))))))⟩)))))
                  · by_cases d6 : v3 = 6
                    · subst d6
                      exact br_f (by decide) (br_f (by decide) (br_f d2 (br_f d3 (br_f d4 (br_f d5 (br_t rfl ⟨vc, br_f p1 (br_f p2 (br_f p3 (br_t p4 (nm_r (xh_ix j t) (br_f c0 (br_f c1 (br_f h1 (br_f d2 (br_f d3 (br_f d4 (br_f d5 (br_t rfl ⟨vc, by rw [ec]; exact q5.symm, J⟩))))))))))))⟩))))))
                    · have y : wpY_getCell (fun r' => r' = 0 ∧ i_Rel (k + 5) ((nI n), (nI p), (nI m), (nI c), a_leads, a_rules, a_params, a_onHands, a_demands, a_receipts, a_usages, a_levels, a_reached, xgr, xne, xpl, xrl, xpj, xpd, xst) ((nI n), (nI p), (nI m), 1, (nI c), a_leads, a_rules, a_params, a_onHands, a_demands, a_receipts, a_ep, a_ec, a_eu, ygr, yne, ypl, yrl, ypj, ypd, yst, a_lvl, a_reach)) ((nI n), (nI p), (nI m), 1, (nI c), a_leads, a_rules, a_params, a_onHands, a_demands, a_receipts, a_ep, a_ec, a_eu, ygr, yne, ypl, yrl, ypj, ypd, yst, a_lvl, a_reach) (nI j) (nI t) v3 :=
                        br_f p1 (br_f p2 (br_f p3 (br_t p4 (nm_r (xh_ix j t) (br_f c0 (br_f c1 (br_f h1 (br_f d2 (br_f d3 (br_f d4 (br_f d5 (br_f d6 ⟨rfl, J⟩))))))))))))
                      exact br_c (fun _ => y) (fun _ => br_c (fun _ => y) (fun _ => br_f d2 (br_f d3 (br_f d4 (br_f d5 (br_f d6 trivial))))))
theorem i_vc_getItem {k : Nat} {u : SX} {v : SY} (I : i_Rel k u v) (hk : k + 5 ≤ 2562) (v1 : Int32) (v2 : Int32) : wpX_getItem (fun r => wpY_getItem (fun r' v' => r' = r ∧ i_Rel (k + 5) u v') v v1 v2) u v1 v2 := by
  have J : i_Rel (k + 5) u v := i_up I
  obtain ⟨n, p, m, P, C, U, Q, Ld, L, cu, hp, a_leads, a_rules, a_params, a_onHands, a_demands, a_receipts, a_usages, a_levels, a_reached, a_ep, a_ec, a_eu, a_lvl, a_reach, xgr, xne, xpl, xrl, xpj, xpd, xst, ygr, yne, ypl, yrl, ypj, ypd, yst, rfl, rfl, S, H⟩ := I
  have S' := S
  obtain ⟨s1, s2, s3, s4, s5, s6, s7, s8, s9, s10⟩ := S'
  unfold wpX_getItem
  rcases pk_ix v1 (n := n) (by omega) with a | a | ⟨j, hj, rfl⟩
  · exact xa_item0 (Or.inl a) (br_t rfl (br_t a ⟨rfl, J⟩))
  · exact xa_item0 (Or.inr a) (br_t rfl (br_f (xa_nn s2 a) (br_f (Int32.not_lt.mpr a) ⟨rfl, J⟩)))
  · have p1 : ¬ nI j < 0 := nI_pos (by omega)
    have p2 : nI j < nI n := nI_lt hj (by omega)
    have vj : vp_in (nI j) 16 := vp_in_nI (by omega) (by omega)
    have ej : (nI j).toNatClampNeg = j := nI_clamp (by omega)
    refine xa_item1 s2 hj (br_f (by decide) ?_)
    by_cases c0 : v2 = 0
    · subst c0
      exact br_f (by decide) (br_f (by decide) (br_t rfl ⟨vj, br_f p1 (br_t p2 (br_t rfl ⟨vj, rfl, J⟩))⟩))
    · by_cases c1 : v2 = 1
      · subst c1
        exact br_f (by decide) (br_f (by decide) (br_f c0 (br_t rfl ⟨vj, br_f p1 (br_t p2 (br_f c0 (br_t rfl ⟨vj, rfl, J⟩)))⟩)))
      · by_cases c2 : v2 = 2
        · subst c2
          exact br_f (by decide) (br_f (by decide) (br_f c0 (br_f c1 (br_t rfl ⟨vj, br_f p1 (br_t p2 (br_f c0 (br_f c1 (br_t rfl ⟨vj, rfl, J⟩))))⟩))))
        · by_cases c3 : v2 = 3
          · subst c3
            exact br_f (by decide) (br_f (by decide) (br_f c0 (br_f c1 (br_f c2 (br_t rfl ⟨vj, br_f p1 (br_t p2 (br_f c0 (br_f c1 (br_f c2 (br_t rfl ⟨vj, rfl, J⟩)))))⟩)))))
          · by_cases c4 : v2 = 4
            · subst c4
              refine br_f (by decide) (br_f (by decide) (br_f c0 (br_f c1 (br_f c2 (br_f c3 (br_t rfl ⟨vj, br_f p1 (br_t p2 (br_f c0 (br_f c1 (br_f c2 (br_f c3 (br_t rfl ?_))))))⟩))))))
              refine yl_comp s2 s5 s8 s6 (fun lv' hv => ⟨vj, ?_, rl_mk S H⟩)
              rw [ej, hv j hj, s9 j hj]
            · by_cases c5 : v2 = 5
              · subst c5
                refine br_f (by decide) (br_f (by decide) (br_f c0 (br_f c1 (br_f c2 (br_f c3 (br_f c4 (br_t rfl ?_)))))))
                rcases H with ⟨rfl, rfl⟩ | ⟨rfl, c, hc, rfl, K⟩
                · exact xa_plan0 rfl (br_t rfl (br_f p1 (br_t p2 (br_f c0 (br_f c1 (br_f c2 (br_f c3 (br_f c4 (br_t rfl (br_t rfl ⟨rfl, J⟩))))))))))
                · have h1 : ¬ (1 : Int32) = 0 := by decide
                  exact xa_plan1 (xa_mone (by omega)) (br_f h1 ⟨vj, br_f p1 (br_t p2 (br_f c0 (br_f c1 (br_f c2 (br_f c3 (br_f c4 (br_t rfl (br_f h1 ⟨vj, by rw [ej]; exact (K j hj).1.symm, J⟩))))))))⟩)
              · by_cases c6 : v2 = 6
                · subst c6
                  refine br_f (by decide) (br_f (by decide) (br_f c0 (br_f c1 (br_f c2 (br_f c3 (br_f c4 (br_f c5 (br_t rfl ?_))))))))
                  rcases H with ⟨rfl, rfl⟩ | ⟨rfl, c, hc, rfl, K⟩
                  · exact xa_plan0 rfl (br_t rfl (br_f p1 (br_t p2 (br_f c0 (br_f c1 (br_f c2 (br_f c3 (br_f c4 (br_f c5 (br_t rfl (br_t rfl ⟨rfl, J⟩)))))))))))
                  · have h1 : ¬ (1 : Int32) = 0 := by decide
                    exact xa_plan1 (xa_mone (by omega)) (br_f h1 ⟨vj, br_f p1 (br_t p2 (br_f c0 (br_f c1 (br_f c2 (br_f c3 (br_f c4 (br_f c5 (br_t rfl (br_f h1 ⟨vj, by rw [ej]; exact (K j hj).2.1.symm, J⟩)))))))))⟩)
                · have y : wpY_getItem (fun r' v' => r' = 0 ∧ i_Rel (k + 5) ((nI n), (nI p), (nI m), cu, a_leads, a_rules, a_params, a_onHands, a_demands, a_receipts, a_usages, a_levels, a_reached, xgr, xne, xpl, xrl, xpj, xpd, xst) v') ((nI n), (nI p), (nI m), hp, cu, a_leads, a_rules, a_params, a_onHands, a_demands, a_receipts, a_ep, a_ec, a_eu, ygr, yne, ypl, yrl, ypj, ypd, yst, a_lvl, a_reach) (nI j) v2 :=
                    br_f p1 (br_t p2 (br_f c0 (br_f c1 (br_f c2 (br_f c3 (br_f c4 (br_f c5 (br_f c6 ⟨rfl, J⟩))))))))
                  exact br_c (fun _ => y) (fun _ => br_c (fun _ => y) (fun _ => br_f c0 (br_f c1 (br_f c2 (br_f c3 (br_f c4 (br_f c5 (br_f c6 trivial))))))))
theorem i_vc_getUsage {k : Nat} {u : SX} {v : SY} (I : i_Rel k u v) (hk : k + 5 ≤ 2562) (v1 : Int32) (v2 : Int32) : wpX_getUsage (fun r => wpY_getUsage (fun r' => r' = r ∧ i_Rel (k + 5) u v) v v1 v2) u v1 v2 := by
  have J : i_Rel (k + 5) u v := i_up I
  obtain ⟨n, p, m, P, C, U, Q, Ld, L, cu, hp, a_leads, a_rules, a_params, a_onHands, a_demands, a_receipts, a_usages, a_levels, a_reached, a_ep, a_ec, a_eu, a_lvl, a_reach, xgr, xne, xpl, xrl, xpj, xpd, xst, ygr, yne, ypl, yrl, ypj, ypd, yst, rfl, rfl, S, H⟩ := I
  obtain ⟨s1, s2, s3, s4, s5, s6, s7, s8, s9, s10⟩ := S
  unfold wpX_getUsage
  rcases pk_ix v1 (n := n) (by omega) with a | a | ⟨i, hi, rfl⟩
  · exact xa_item0 (Or.inl a) (br_t rfl (br_t a ⟨rfl, J⟩))
  · exact xa_item0 (Or.inr a) (br_t rfl (br_f (xa_nn s2 a) (br_t a ⟨rfl, J⟩)))
  · have p1 : ¬ nI i < 0 := nI_pos (by omega)
    have p2 : ¬ nI n ≤ nI i := xa_nge s2 hi
    refine xa_item1 s2 hi (br_f (by decide) ?_)
    rcases pk_ix v2 (n := n) (by omega) with a | a | ⟨j, hj, rfl⟩
    · exact xa_item0 (Or.inl a) (br_t rfl (br_f p1 (br_f p2 (br_t a ⟨rfl, J⟩))))
    · exact xa_item0 (Or.inr a) (br_t rfl (br_f p1 (br_f p2 (br_f (xa_nn s2 a) (br_f (Int32.not_lt.mpr a) ⟨rfl, J⟩)))))
    · have p3 : ¬ nI j < 0 := nI_pos (by omega)
      have p4 : nI j < nI n := nI_lt hj (by omega)
      have ec : (nI (i * 16 + j)).toNatClampNeg = i * 16 + j := nI_clamp (by omega)
      refine xa_item1 s2 hj (br_f (by decide) (xh_pair ⟨vp_in_nI (by omega) (by omega), ?_⟩))
      rw [ec]
      refine br_f p1 (br_f p2 (br_f p3 (br_t p4 (yf_find s2 s5 s6 hi hj (fun e he h1 h2 => ?_) (fun h0 => ?_)))))
      · refine br_t (nI_pos' (by omega)) ⟨vp_in_nI (by omega) (by omega), ?_, J⟩
        have q := s7.1 e he
        rw [h1, h2] at q
        rw [nI_clamp (by omega), q]
        exact (s6 e he).2.2.1
      · refine br_f (by decide) ⟨?_, J⟩
        exact (s7.2.1 i j hi hj h0).symm
