/-! the owed statements of setItem, plan and step -/
theorem wr_item {n j l q : Nat} {Q Ld : Nat → Nat} {led rul par onH dem rcp : Nat → Int32} {r : Int32} (hl : l ≤ 8) (hq : q ≤ 10000) (h1 : r = 1 → 1 ≤ q) (h2 : r = 2 → 1 ≤ q ∧ q ≤ 8)
    (W : pp_W n Q Ld led rul par onH dem rcp) : pp_W n (fun i => if i = j then q else Q i) (fun i => if i = j then l else Ld i) (upd led j (nI l)) (upd rul j r) (upd par j (nI q)) onH dem rcp := by
  obtain ⟨W1, W2⟩ := W
  refine ⟨fun i hi => ?_, W2⟩
  by_cases e : i = j
  · dsimp only
    rw [if_pos e, if_pos e, e, pk_us, pk_us, pk_us]
    exact ⟨rfl, hl, rfl, hq, h1, h2⟩
  · dsimp only
    rw [if_neg e, if_neg e, pk_un e, pk_un e, pk_un e]
    exact W1 i hi
theorem i_vc_setItem {k : Nat} {u : SX} {v : SY} (I : i_Rel k u v) (hk : k + 5 ≤ 2562) (v1 : Int32) (v2 : Int32) (v3 : Int32) (v4 : Int32) : wpX_setItem (fun r u' => wpY_setItem (fun r' v' => r' = r ∧ i_Rel (k + 5) u' v') v v1 v2 v3 v4) u v1 v2 v3 v4 := by
  have J : i_Rel (k + 5) u v := i_up I
  obtain ⟨n, p, m, P, C, U, Q, Ld, L, cu, hp, a_leads, a_rules, a_params, a_onHands, a_demands, a_receipts, a_usages, a_levels, a_reached, a_ep, a_ec, a_eu, a_lvl, a_reach, xgr, xne, xpl, xrl, xpj, xpd, xst, ygr, yne, ypl, yrl, ypj, ypd, yst, rfl, rfl, S, H⟩ := I
  obtain ⟨s1, s2, s3, s4, s5, s6, s7, s8, s9, s10⟩ := S
  have h1 : ¬ (1 : Int32) = 0 := by decide
  unfold wpX_setItem
  rcases pk_ix v1 (n := n) (by omega) with a | a | ⟨j, hj, rfl⟩
  · exact xa_item0 (Or.inl a) (br_t rfl (br_t a ⟨rfl, J⟩))
  · exact xa_item0 (Or.inr a) (br_t rfl (br_f (xa_nn s2 a) (br_t a ⟨rfl, J⟩)))
  · have p1 : ¬ nI j < 0 := nI_pos (by omega)
    have p2 : ¬ nI n ≤ nI j := xa_nge s2 hj
    have vj : vp_in (nI j) 16 := vp_in_nI (by omega) (by omega)
    refine xa_item1 s2 hj (br_f h1 ?_)
    by_cases b : v2 < 0
    · exact xa_in0 (Or.inl b) (br_t rfl (br_f p1 (br_f p2 (br_t b ⟨rfl, J⟩))))
    · by_cases b2 : v2 ≤ 8
      · obtain ⟨l, hl, rfl⟩ := wr_of (c := 8) (by omega) b b2
        refine xa_in1 b (Int32.not_lt.mpr b2) (br_f h1 ?_)
        unfold wpX_isLotRule
        by_cases r0 : v3 = 0
        · subst r0
          refine br_f (by decide) (br_f (by decide) (br_t rfl (br_f h1 ?_)))
          refine ⟨vj, nm_r (xh_up (by omega) rfl) ⟨vj, nm_r (xh_up (by omega) rfl) (br_t rfl ?_)⟩⟩
          unfold wX_setItem_58
          refine ⟨vj, nm_r (xh_up (y := nI 0) (by omega) rfl) ?_⟩
          unfold wpX_discardPlan
          refine br_f p1 (br_f p2 (br_f b (br_t b2 (br_t rfl ?_))))
          unfold wY_setItem_40
          refine br_f (by decide) ?_
          unfold wY_setItem_61
          refine br_f (by decide) ?_
          unfold wY_setItem_81
          refine ⟨vj, nm_r (xh_up (by omega) rfl) ⟨vj, nm_r (xh_up (by omega) rfl) (br_t rfl ?_)⟩⟩
          unfold wY_setItem_110
          refine ⟨vj, nm_r (xh_up (y := nI 0) (by omega) rfl) ?_⟩
          unfold wpY_discard
          exact ⟨rfl, rl_mk ⟨s1, s2, s3, s4, s5, s6, s7, s8, s9, wr_item hl (by omega) (fun z => absurd z (by decide)) (fun z => absurd z (by decide)) s10⟩ (Or.inl ⟨rfl, rfl⟩)⟩
        · by_cases r1 : v3 = 1
          · subst r1
            refine br_f (by decide) (br_f (by decide) (br_f r0 (br_t rfl ?_)))
            by_cases d : v4 < 1
            · refine xa_in0 (Or.inl d) ⟨by decide, br_t rfl ?_⟩
              refine br_f p1 (br_f p2 (br_f b (br_t b2 (br_f r0 (br_t rfl ?_)))))
              unfold wY_setItem_40
              exact br_t rfl (br_t d ⟨rfl, J⟩)
            · by_cases d2 : v4 ≤ 10000
              · obtain ⟨q, hq, rfl⟩ := wr_of (c := 10000) (by omega) (fun z => d (Int32.lt_trans z (by decide))) d2
                have hq1 : 1 ≤ q := by
                  have z := Int32.not_lt.mp d
                  exact (nI_leI (a := 1) (by omega) (by omega)).mp z
                refine xa_in1 d (Int32.not_lt.mpr d2) ⟨by decide, br_f h1 ?_⟩
                refine ⟨vj, nm_r (xh_up (by omega) rfl) ⟨vj, nm_r (xh_up (by omega) rfl) (br_f r0 ?_)⟩⟩
                unfold wX_setItem_58
                refine ⟨vj, nm_r (xh_up (by omega) rfl) ?_⟩
                unfold wpX_discardPlan
                refine br_f p1 (br_f p2 (br_f b (br_t b2 (br_f r0 (br_t rfl ?_)))))
                unfold wY_setItem_40
                refine br_t rfl (br_f d (br_t d2 ?_))
                unfold wY_setItem_61
                refine br_f (by decide) ?_
                unfold wY_setItem_81
                refine ⟨vj, nm_r (xh_up (by omega) rfl) ⟨vj, nm_r (xh_up (by omega) rfl) (br_f r0 ?_)⟩⟩
                unfold wY_setItem_110
                refine ⟨vj, nm_r (xh_up (by omega) rfl) ?_⟩
                unfold wpY_discard
                exact ⟨rfl, rl_mk ⟨s1, s2, s3, s4, s5, s6, s7, s8, s9, wr_item hl hq (fun _ => hq1) (fun z => absurd z (by decide)) s10⟩ (Or.inl ⟨rfl, rfl⟩)⟩
              · refine xa_in0 (Or.inr (Int32.not_le.mp d2)) ⟨by decide, br_t rfl ?_⟩
                refine br_f p1 (br_f p2 (br_f b (br_t b2 (br_f r0 (br_t rfl ?_)))))
                unfold wY_setItem_40
                exact br_t rfl (br_f d (br_f d2 ⟨rfl, J⟩))
          · by_cases r2 : v3 = 2
            · subst r2
              refine br_f (by decide) (br_f (by decide) (br_f r0 (br_f r1 (br_t rfl ?_))))
              by_cases d : v4 < 1
              · refine xa_in0 (Or.inl d) ⟨by decide, br_t rfl ?_⟩
                refine br_f p1 (br_f p2 (br_f b (br_t b2 (br_f r0 (br_f r1 (br_t rfl ?_))))))
                unfold wY_setItem_40
                refine br_f r1 ?_
                unfold wY_setItem_61
                exact br_t rfl (br_t d ⟨rfl, J⟩)
              · by_cases d2 : v4 ≤ 8
                · obtain ⟨q, hq, rfl⟩ := wr_of (c := 8) (by omega) (fun z => d (Int32.lt_trans z (by decide))) d2
                  have hq1 : 1 ≤ q := by
                    have z := Int32.not_lt.mp d
                    exact (nI_leI (a := 1) (by omega) (by omega)).mp z
                  refine xa_in1 d (Int32.not_lt.mpr d2) ⟨by decide, br_f h1 ?_⟩
                  refine ⟨vj, nm_r (xh_up (by omega) rfl) ⟨vj, nm_r (xh_up (by omega) rfl) (br_f r0 ?_)⟩⟩
                  unfold wX_setItem_58
                  refine ⟨vj, nm_r (xh_up (by omega) rfl) ?_⟩
                  unfold wpX_discardPlan
                  refine br_f p1 (br_f p2 (br_f b (br_t b2 (br_f r0 (br_f r1 (br_t rfl ?_))))))
                  unfold wY_setItem_40
                  refine br_f r1 ?_
                  unfold wY_setItem_61
                  refine br_t rfl (br_f d (br_t d2 ?_))
                  unfold wY_setItem_81
                  refine ⟨vj, nm_r (xh_up (by omega) rfl) ⟨vj, nm_r (xh_up (by omega) rfl) (br_f r0 ?_)⟩⟩
                  unfold wY_setItem_110
                  refine ⟨vj, nm_r (xh_up (by omega) rfl) ?_⟩
                  unfold wpY_discard
                  exact ⟨rfl, rl_mk ⟨s1, s2, s3, s4, s5, s6, s7, s8, s9, wr_item hl (by omega) (fun z => absurd z (by decide)) (fun _ => ⟨hq1, hq⟩) s10⟩ (Or.inl ⟨rfl, rfl⟩)⟩
                · refine xa_in0 (Or.inr (Int32.not_le.mp d2)) ⟨by decide, br_t rfl ?_⟩
                  refine br_f p1 (br_f p2 (br_f b (br_t b2 (br_f r0 (br_f r1 (br_t rfl ?_))))))
                  unfold wY_setItem_40
                  refine br_f r1 ?_
                  unfold wY_setItem_61
                  exact br_t rfl (br_f d (br_f d2 ⟨rfl, J⟩))
            · have y : wpY_setItem (fun r' v' => r' = 0 ∧ i_Rel (k + 5) ((nI n), (nI p), (nI m), cu, a_leads, a_rules, a_params, a_onHands, a_demands, a_receipts, a_usages, a_levels, a_reached, xgr, xne, xpl, xrl, xpj, xpd, xst) v') ((nI n), (nI p), (nI m), hp, cu, a_leads, a_rules, a_params, a_onHands, a_demands, a_receipts, a_ep, a_ec, a_eu, ygr, yne, ypl, yrl, ypj, ypd, yst, a_lvl, a_reach) (nI j) (nI l) v3 v4 := br_f p1 (br_f p2 (br_f b (br_t b2 (br_f r0 (br_f r1 (br_f r2 ⟨rfl, J⟩))))))
              exact br_c (fun _ => br_t rfl y) (fun _ => br_c (fun _ => br_t rfl y) (fun _ => br_f r0 (br_f r1 (br_f r2 trivial))))
      · exact xa_in0 (Or.inr (Int32.not_le.mp b2)) (br_t rfl (br_f p1 (br_f p2 (br_f b (br_f b2 ⟨rfl, J⟩)))))
theorem i_vc_plan {k : Nat} {u : SX} {v : SY} (I : i_Rel k u v) (hk : k + 5 ≤ 2562) : wpX_plan (fun r u' => wpY_plan (fun r' v' => r' = r ∧ i_Rel (k + 5) u' v') v) u := by
  obtain ⟨n, p, m, P, C, U, Q, Ld, L, cu, hp, a_leads, a_rules, a_params, a_onHands, a_demands, a_receipts, a_usages, a_levels, a_reached, a_ep, a_ec, a_eu, a_lvl, a_reach, xgr, xne, xpl, xrl, xpj, xpd, xst, ygr, yne, ypl, yrl, ypj, ypd, yst, rfl, rfl, S, H⟩ := I
  have S' := S
  obtain ⟨s1, s2, s3, s4, s5, s6, s7, s8, s9, s10⟩ := S'
  have hL : ∀ e, e < m → L (P e) < L (C e) := fun e he => s8.1 _ _ ⟨e, he, rfl, rfl⟩
  have hP : ∀ e, e < m → P e < n := fun e he => (s6 e he).2.2.2.1
  have hU : ∀ e, e < m → 1 ≤ U e ∧ U e ≤ 9 := fun e he => (s6 e he).2.2.2.2.2
  obtain ⟨Gr, Ne, Pl, Rl, Pj, Pd, Z⟩ := pp_ex (n := n) (p := p) (m := m) (P := P) (C := C) (U := U) (Q := Q) (Ld := Ld) (L := L) (rul := a_rules) (onH := a_onHands) (dem := a_demands) (rcp := a_receipts) hL
  refine xp_plan s2 s4 hP hL hU s8.2.2 s9 s7 s10 Z (fun gr ne pl rl pj pd st R O hs => ?_) (fun gr ne pl rl pj pd q => ?_)
  · refine yp_plan s2 s4 s5 s8 s6 s10 Z (fun gr' ne' pl' rl' pj' pd' st' lv' R' O' hs' => ?_) (fun gr' ne' pl' rl' pj' pd' st' lv' q => absurd O q)
    refine ⟨rfl, rl_mk S (Or.inr ⟨rfl, 0, by omega, rfl, fun i hi => ?_⟩)⟩
    obtain ⟨a1, a2⟩ := R i hi trivial
    obtain ⟨b1, b2⟩ := R' i hi trivial
    refine ⟨a1.trans b1.symm, (hs i hi).trans (hs' i hi).symm, fun t ht => ?_⟩
    obtain ⟨c1, c2, c3, c4, c5⟩ := a2 t ht
    obtain ⟨d1, d2, d3, d4, d5⟩ := b2 t ht
    refine ⟨c1.trans d1.symm, c2.trans d2.symm, c3.trans d3.symm, c4.trans d4.symm, c5.trans d5.symm, ?_⟩
    rw [c1, (Z i hi).1 t ht]
    unfold pp_g
    refine congrArg (fun z => (a_demands (i * 16 + t)).toInt64 + z) (ms_congr m fun e he => ?_)
    show (if C e = i then lN (U e) * Rl (P e) t else 0) = (if C e = i then lN (U e) * rl' (P e * 16 + t) else 0)
    rw [((R' (P e) (hP e he) trivial).2 t ht).2.2.2.1]
  · refine yp_plan s2 s4 s5 s8 s6 s10 Z (fun gr' ne' pl' rl' pj' pd' st' lv' R' O' hs' => absurd O' q) (fun gr' ne' pl' rl' pj' pd' st' lv' q' => ?_)
    exact ⟨rfl, rl_mk S (Or.inl ⟨rfl, rfl⟩)⟩
/-! step -/
def sp_c (s : Nat → Int64) : Nat → Nat
  | 0 => 0
  | k + 1 => if 0 ≤ s k then sp_c s k else sp_c s k + 1
theorem sp_le (s : Nat → Int64) : ∀ k, sp_c s k ≤ k := by
  intro k
  induction k with
  | zero => exact Nat.le_refl 0
  | succ k ih =>
    show (if 0 ≤ s k then sp_c s k else sp_c s k + 1) ≤ k + 1
    split <;> omega
section
variable {n p c : Nat} {f_edgeCount : Int32} {a_leads a_rules a_params a_onHands a_demands a_receipts a_usages a_levels a_reached : Nat → Int32} {a_gross a_net a_planned a_release a_projected a_pastDue a_stock : Nat → Int64}
theorem xs_27 {post : Int32 → SX → Prop} {s : Nat → Int64} (hn16 : n ≤ 16) (hc : c < 16)
    (hs : ∀ i, i < n → a_stock i + ((a_receipts (i * 16 + c)).toInt64 + a_planned (i * 16 + c) - a_gross (i * 16 + c)) = s i)
    (h : ∀ st', (∀ i, i < n → st' i = s i) → post (nI (sp_c s n)) ((nI n), (nI p), f_edgeCount, (nI (c + 1)), a_leads, a_rules, a_params, a_onHands, a_demands, a_receipts, a_usages, a_levels, a_reached, a_gross, a_net, a_planned, a_release, a_projected, a_pastDue, st')) :
    ∀ d i st, i + d = n → (∀ j, j < i → st j = s j) → (∀ j, i ≤ j → st j = a_stock j) → wX_step_27 post (nI n) (nI p) f_edgeCount (nI c) (d + 1) (nI (sp_c s i)) (nI i) a_leads a_rules a_params a_onHands a_demands a_receipts a_usages a_levels a_reached a_gross a_net a_planned a_release a_projected a_pastDue st := by
  intro d
  induction d with
  | zero =>
    intro i st hi z1 z2
    have e : i = n := by omega
    rw [e]
    exact br_t (nI_le (by omega) (by omega)) (nm_r (nI_1 c) (h st fun j hj => z1 j (by omega)))
  | succ d ih =>
    intro i st hi z1 z2
    have ei : (nI i).toNatClampNeg = i := nI_clamp (by omega)
    have ec : (nI (i * 16 + c)).toNatClampNeg = i * 16 + c := nI_clamp (by omega)
    have vi : vp_in (nI i) 16 := vp_in_nI (by omega) (by omega)
    have vc : vp_in (nI (i * 16 + c)) 256 := vp_in_nI (by omega) (by omega)
    have I := ih (i + 1) (vp_updL st i (s i)) (by omega) (fun j hj => by
      by_cases e : j = i
      · rw [e, pk_uLs]
      · rw [pk_uLn e]; exact z1 j (by omega)) (fun j hj => by rw [pk_uLn (by omega)]; exact z2 j (by omega))
    have es : sp_c s (i + 1) = if 0 ≤ s i then sp_c s i else sp_c s i + 1 := rfl
    rw [es] at I
    refine br_f (nI_ge (by omega) (by omega)) (xh_cell ?_)
    refine ⟨vi, vc, vc, vc, vi, nm_r (xh_upL (y := s i) (by omega) (by rw [ei, ec, z2 i (by omega), hs i (by omega)])) ⟨vi, ?_⟩⟩
    rw [ei, pk_uLs]
    by_cases q : 0 ≤ s i
    · rw [if_pos q] at I
      exact br_t q (nm_r (nI_1 i) I)
    · rw [if_neg q] at I
      exact br_f q (nm_r (nI_1 _) (nm_r (nI_1 i) I))
end
section
variable {n p m c : Nat} {P C U : Nat → Nat} {f_hasPlan f_current : Int32} {a_lead a_rule a_param a_onHand a_demand a_receipt a_ep a_ec a_eu a_lvl a_reach : Nat → Int32} {a_gross a_net a_planned a_release a_projected a_pastDue a_stock : Nat → Int64}
theorem ys_89 {post : Int32 → SY → Prop} {J32 : Int32 → Int32 → (Nat → Int32) → (Nat → Int32) → (Nat → Int32) → (Nat → Int32) → (Nat → Int32) → (Nat → Int32) → (Nat → Int32) → (Nat → Int32) → (Nat → Int32) → (Nat → Int64) → (Nat → Int64) → (Nat → Int64) → (Nat → Int64) → (Nat → Int64) → (Nat → Int64) → (Nat → Int64) → (Nat → Int32) → (Nat → Int32) → Prop} {b : Int32} {i : Nat} {z s : Int64} (hn16 : n ≤ 16) (hm : m ≤ 32) (hi : i < n) (hc : c < 16) (E : ye_E n m P C U a_ep a_ec a_eu)
    (hs : z - ms_s (fun e => if C e = i then lN (U e) * a_release (P e * 16 + c) else 0) m = s)
    (h1 : 0 ≤ s → J32 b (nI (i + 1)) a_lead a_rule a_param a_onHand a_demand a_receipt a_ep a_ec a_eu a_gross a_net a_planned a_release a_projected a_pastDue (vp_updL a_stock i s) a_lvl a_reach) (h0 : ¬ 0 ≤ s → J32 (b + 1) (nI (i + 1)) a_lead a_rule a_param a_onHand a_demand a_receipt a_ep a_ec a_eu a_gross a_net a_planned a_release a_projected a_pastDue (vp_updL a_stock i s) a_lvl a_reach) :
    ∀ d e, e + d = m → wY_step_89 post J32 (nI c) b (nI i) (nI n) (nI p) (nI m) f_hasPlan f_current a_lead a_rule a_param a_onHand a_demand a_receipt a_ep a_ec a_eu a_gross a_net a_planned a_release a_projected a_pastDue a_stock a_lvl a_reach (d + 1) (z - ms_s (fun e => if C e = i then lN (U e) * a_release (P e * 16 + c) else 0) e) (nI e) := by
  intro d
  induction d with
  | zero =>
    intro e he
    have q : e = m := by omega
    rw [q, hs]
    refine br_t (nI_le (by omega) (by omega)) ⟨vp_in_nI (by omega) (by omega), nm_r (xh_upL (by omega) rfl) ?_⟩
    by_cases c0 : 0 ≤ s
    · exact br_t c0 (nm_r (nI_1 i) (h1 c0))
    · exact br_f c0 (nm_e (nm_r (nI_1 i) (h0 c0)))
  | succ d ih =>
    intro e he
    have hem : e < m := by omega
    obtain ⟨p1, p2, p3, hP, hC, u1, u2⟩ := E e hem
    have i1 : a_ep (nI e).toNatClampNeg = nI (P e) := (xh_at (by omega)).trans p1
    have i2 : a_ec (nI e).toNatClampNeg = nI (C e) := (xh_at (by omega)).trans p2
    have i3 : a_eu (nI e).toNatClampNeg = nI (U e) := (xh_at (by omega)).trans p3
    have ve : vp_in (nI e) 32 := vp_in_nI (by omega) (by omega)
    have I := ih (e + 1) (by omega)
    have es : ms_s (fun e => if C e = i then lN (U e) * a_release (P e * 16 + c) else 0) (e + 1) = ms_s (fun e => if C e = i then lN (U e) * a_release (P e * 16 + c) else 0) e + (if C e = i then lN (U e) * a_release (P e * 16 + c) else 0) := rfl
    rw [es] at I
    refine br_f (nI_ge hem (by omega)) ⟨ve, ?_⟩
    rw [i1, i2, i3]
    by_cases q : C e = i
    · rw [if_pos q] at I
      refine br_t (by rw [q]) ⟨ve, ve, ?_⟩
      rw [xh_ix]
      refine ⟨vp_in_nI (by omega) (by omega), nm_r ?_ (nm_r (nI_1 e) I)⟩
      rw [nI_clamp (by omega), nI_l (by omega)]
      grind
    · rw [if_neg q, Int64.add_zero] at I
      exact br_f (fun w => q ((nI_eq (by omega) (by omega)).mp w)) (nm_r (nI_1 e) I)
theorem ys_32 {post : Int32 → SY → Prop} {s : Nat → Int64} (hn16 : n ≤ 16) (hm : m ≤ 32) (hc : c < 16) (E : ye_E n m P C U a_ep a_ec a_eu)
    (hs : ∀ i, i < n → a_stock i + (a_receipt (i * 16 + c)).toInt64 + a_planned (i * 16 + c) - (a_demand (i * 16 + c)).toInt64 - ms_s (fun e => if C e = i then lN (U e) * a_release (P e * 16 + c) else 0) m = s i)
    (h : ∀ st', (∀ i, i < n → st' i = s i) → post (nI (sp_c s n)) ((nI n), (nI p), (nI m), f_hasPlan, (nI (c + 1)), a_lead, a_rule, a_param, a_onHand, a_demand, a_receipt, a_ep, a_ec, a_eu, a_gross, a_net, a_planned, a_release, a_projected, a_pastDue, st', a_lvl, a_reach)) :
    ∀ d i st, i + d = n → (∀ j, j < i → st j = s j) → (∀ j, i ≤ j → st j = a_stock j) → wY_step_32 post (nI c) (nI n) (nI p) (nI m) f_hasPlan f_current (d + 1) (nI (sp_c s i)) (nI i) a_lead a_rule a_param a_onHand a_demand a_receipt a_ep a_ec a_eu a_gross a_net a_planned a_release a_projected a_pastDue st a_lvl a_reach := by
  intro d
  induction d with
  | zero =>
    intro i st hi z1 z2
    have e : i = n := by omega
    rw [e]
    exact br_t (nI_le (by omega) (by omega)) (nm_r (nI_1 c) (h st fun j hj => z1 j (by omega)))
  | succ d ih =>
    intro i st hi z1 z2
    have ei : (nI i).toNatClampNeg = i := nI_clamp (by omega)
    have ec : (nI (i * 16 + c)).toNatClampNeg = i * 16 + c := nI_clamp (by omega)
    have vi : vp_in (nI i) 16 := vp_in_nI (by omega) (by omega)
    have vc : vp_in (nI (i * 16 + c)) 256 := vp_in_nI (by omega) (by omega)
    have I := ih (i + 1) (vp_updL st i (s i)) (by omega) (fun j hj => by
      by_cases e : j = i
      · rw [e, pk_uLs]
      · rw [pk_uLn e]; exact z1 j (by omega)) (fun j hj => by rw [pk_uLn (by omega)]; exact z2 j (by omega))
    have es : sp_c s (i + 1) = if 0 ≤ s i then sp_c s i else sp_c s i + 1 := rfl
    rw [es] at I
    refine br_f (nI_ge (by omega) (by omega)) ?_
    rw [xh_ix]
    refine ⟨vi, vc, vc, vc, nm_r (e' := a_stock i + (a_receipt (i * 16 + c)).toInt64 + a_planned (i * 16 + c) - (a_demand (i * 16 + c)).toInt64 - 0) (by rw [ei, ec, z2 i (by omega)]; grind) ⟨m + 1, ?_⟩⟩
    refine ys_89 (s := s i) hn16 hm (by omega) hc E (hs i (by omega)) (fun q => ?_) (fun q => ?_) m 0 (by omega)
    · rw [if_pos q] at I
      exact I
    · rw [if_neg q] at I
      rw [nI_1]
      exact I
end
theorem i_vc_step {k : Nat} {u : SX} {v : SY} (I : i_Rel k u v) (hk : k + 5 ≤ 2562) : wpX_step (fun r u' => wpY_step (fun r' v' => r' = r ∧ i_Rel (k + 5) u' v') v) u := by
  have J : i_Rel (k + 5) u v := i_up I
  obtain ⟨n, p, m, P, C, U, Q, Ld, L, cu, hp, a_leads, a_rules, a_params, a_onHands, a_demands, a_receipts, a_usages, a_levels, a_reached, a_ep, a_ec, a_eu, a_lvl, a_reach, xgr, xne, xpl, xrl, xpj, xpd, xst, ygr, yne, ypl, yrl, ypj, ypd, yst, rfl, rfl, S, H⟩ := I
  have S' := S
  obtain ⟨s1, s2, s3, s4, s5, s6, s7, s8, s9, s10⟩ := S'
  have h1 : ¬ (1 : Int32) = 0 := by decide
  unfold wpX_step
  rcases H with ⟨rfl, rfl⟩ | ⟨rfl, c, hc, rfl, K⟩
  · exact xa_plan0 rfl (br_t rfl (br_t rfl ⟨rfl, J⟩))
  · refine xa_plan1 (xa_mone (by omega)) (br_f h1 ?_)
    by_cases q : c < p
    · refine br_t (nI_lt q (by omega)) ⟨n + 1, ?_⟩
      refine xs_27 (s := fun i => xst i + ((a_receipts (i * 16 + c)).toInt64 + xpl (i * 16 + c) - xgr (i * 16 + c))) s2 (by omega) (fun _ _ => rfl) (fun st' e1 => ?_) n 0 xst (by omega) (fun j hj => absurd hj (by omega)) (fun _ _ => rfl)
      refine br_f h1 (br_f (fun w => absurd ((nI_eq (by omega) (by omega)).mp w) (by omega)) ⟨n + 1, ?_⟩)
      refine ys_32 (s := fun i => xst i + ((a_receipts (i * 16 + c)).toInt64 + xpl (i * 16 + c) - xgr (i * 16 + c))) s2 s5 (by omega) s6 (fun i hi => ?_) (fun st'' e2 => ?_) n 0 yst (by omega) (fun j hj => absurd hj (by omega)) (fun _ _ => rfl)
      · obtain ⟨k1, k2, k3⟩ := K i hi
        obtain ⟨q1, q2, q3, q4, q5, q6⟩ := k3 c q
        show _ = xst i + ((a_receipts (i * 16 + c)).toInt64 + xpl (i * 16 + c) - xgr (i * 16 + c))
        rw [q6, k2, q3]
        generalize ms_s (fun e => if C e = i then lN (U e) * yrl (P e * 16 + c) else 0) m = z
        grind
      · refine ⟨rfl, rl_mk S (Or.inr ⟨rfl, c + 1, by omega, rfl, fun i hi => ?_⟩)⟩
        obtain ⟨k1, k2, k3⟩ := K i hi
        exact ⟨k1, (e1 i hi).trans (e2 i hi).symm, k3⟩
    · have e : c = p := by omega
      exact br_f (nI_nlt (by omega) (by omega)) (br_f h1 (br_t (by rw [e]) ⟨rfl, J⟩))
