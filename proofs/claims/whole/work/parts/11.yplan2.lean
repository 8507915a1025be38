/-! the reference's plan: items, levels, the whole -/
/-- rows not yet planned are zero -/
def yp_Z (n p : Nat) (D : Nat → Prop) (rl pd : Nat → Int64) : Prop := ∀ a, a < n → ¬ D a → pd a = 0 ∧ ∀ t, t < p → rl (a * 16 + t) = 0
def yp_B (n p : Nat) (D : Nat → Prop) (Rl : Nat → Nat → Int64) : Prop := ∀ a, a < n → D a → pp_b p (Rl a)
section
variable {n p m : Nat} {P C U Q Ld L : Nat → Nat} {Gr Ne Pl Rl Pj : Nat → Nat → Int64} {Pd : Nat → Int64} {f_hasPlan f_current : Int32} {a_lead a_rule a_param a_onHand a_demand a_receipt a_ep a_ec a_eu a_lvl a_reach : Nat → Int32} {a_gross a_net a_planned a_release a_projected a_pastDue a_stock : Nat → Int64}
theorem yp_item {post : Int32 → SY → Prop} {i : Nat} {D : Nat → Prop} (hn16 : n ≤ 16) (hp16 : p ≤ 16) (hm : m ≤ 32) (hi : i < n) (E : ye_E n m P C U a_ep a_ec a_eu)
    (W : pp_W n Q Ld a_lead a_rule a_param a_onHand a_demand a_receipt) (Z : pp_P n p m P C U Q Ld a_rule a_onHand a_demand a_receipt Gr Ne Pl Rl Pj Pd)
    (hD : ∀ e, e < m → C e = i → D (P e)) (hDi : ¬ D i) (R : pp_R n p D Gr Ne Pl Rl Pj Pd a_gross a_net a_planned a_release a_projected a_pastDue) (B : yp_B n p D Rl) (Y0 : yp_Z n p D a_release a_pastDue)
    (h1 : ∀ gr' ne' pl' rl' pj' pd', (∀ t, t < p → Gr i t ≤ 1000000000000) → pp_b p (Rl i) →
      (∀ t, t < p → gr' (i * 16 + t) = Gr i t) → (∀ t, t < p → ne' (i * 16 + t) = Ne i t) → (∀ t, t < p → pl' (i * 16 + t) = Pl i t) → (∀ t, t < p → rl' (i * 16 + t) = Rl i t) → (∀ t, t < p → pj' (i * 16 + t) = Pj i t) → pd' i = Pd i →
      pp_o i a_gross gr' → pp_o i a_net ne' → pp_o i a_planned pl' → pp_o i a_release rl' → pp_o i a_projected pj' → (∀ a, a ≠ i → pd' a = a_pastDue a) →
      post 1 ((nI n), (nI p), (nI m), f_hasPlan, f_current, a_lead, a_rule, a_param, a_onHand, a_demand, a_receipt, a_ep, a_ec, a_eu, gr', ne', pl', rl', pj', pd', a_stock, a_lvl, a_reach))
    (h0 : ∀ gr', (∃ t, t < p ∧ ¬ Gr i t ≤ 1000000000000) → post 0 ((nI n), (nI p), (nI m), f_hasPlan, f_current, a_lead, a_rule, a_param, a_onHand, a_demand, a_receipt, a_ep, a_ec, a_eu, gr', a_net, a_planned, a_release, a_projected, a_pastDue, a_stock, a_lvl, a_reach)) : wpY_planItem post ((nI n), (nI p), (nI m), f_hasPlan, f_current, a_lead, a_rule, a_param, a_onHand, a_demand, a_receipt, a_ep, a_ec, a_eu, a_gross, a_net, a_planned, a_release, a_projected, a_pastDue, a_stock, a_lvl, a_reach) (nI i) := by
  obtain ⟨z1, z2, z3, z4, z5, z6⟩ := Z i hi
  obtain ⟨w1, w2, w3, w4, w5, w6⟩ := W.1 i hi
  have hPn : ∀ e, e < m → P e < n := fun e he => (E e he).2.2.2.1
  unfold wpY_planItem
  refine nm_r (e' := nI (i * 16)) (by rw [show (16 : Int32) = nI 16 from rfl, pk_mul]) ⟨p + 1, ?_⟩
  refine yg_7 (g := Gr i) (Rl := Rl) hn16 hp16 hm hi E (fun e t he ht hc => ((R (P e) (hPn e he) (hD e he hc)).2 t ht).2.2.2.1) (fun t ht => (z1 t ht).symm) (fun gr' k1 k2 k3 => ?_) h0 p 0 a_gross (by omega) (fun s hs => absurd hs (by omega)) (pp_or i _)
  obtain ⟨b1, b2⟩ := pp_row hp16 hm hi W (fun e he => (E e he).2.2.2.2.2.2) Z (fun e he hc => B (P e) (hPn e he) (hD e he hc)) k1
  refine yg_124 (q := Q i) (g := Gr i) (rc := pp_rc a_receipt i) (by omega) hp16 k2 (fun _ _ => rfl) w3 w4 w5 w6 (fun ne' pl' pj' n1 n2 n3 o1 o2 o3 => ?_) p 0 a_net a_planned a_projected (by omega) (fun s hs => absurd hs (by omega)) (fun s hs => absurd hs (by omega)) (fun s hs => absurd hs (by omega)) (pp_or i _) (pp_or i _) (pp_or i _)
  refine yg_410 (l := Ld i) (lot := Pl i) (by omega) hp16 w1 w2 (fun s hs => (n2 s hs).trans (z3 s hs).symm) b1 (fun rl' pd' r1 r2 o4 o5 => ?_) p 0 a_release a_pastDue (by omega) (fun s hs => (Y0 i hi hDi).2 s hs) (Y0 i hi hDi).1 (pp_or i _) (fun _ _ => rfl)
  exact h1 gr' ne' pl' rl' pj' pd' k1 b2 k2 (fun t ht => (n1 t ht).trans (z2 t ht).symm) (fun t ht => (n2 t ht).trans (z3 t ht).symm) (fun t ht => (r1 t ht).trans (z4 t ht).symm) (fun t ht => (n3 t ht).trans (z5 t ht).symm) (r2.trans z6.symm) k3 o1 o2 o4 o3 o5
theorem yp_100z {post : Int32 → SY → Prop} {J86 : Int32 → Int32 → Int32 → Int32 → Int32 → Int32 → Int32 → (Nat → Int32) → (Nat → Int32) → (Nat → Int32) → (Nat → Int32) → (Nat → Int32) → (Nat → Int32) → (Nat → Int32) → (Nat → Int32) → (Nat → Int32) → (Nat → Int64) → (Nat → Int64) → (Nat → Int64) → (Nat → Int64) → (Nat → Int64) → (Nat → Int64) → (Nat → Int64) → (Nat → Int32) → (Nat → Int32) → Prop} {lev f : Nat} {x3 : Int32} (h : J86 0 (nI (lev + 1)) (nI n) (nI p) (nI m) f_hasPlan f_current a_lead a_rule a_param a_onHand a_demand a_receipt a_ep a_ec a_eu a_gross a_net a_planned a_release a_projected a_pastDue a_stock a_lvl a_reach) : wY_plan_100 post J86 (nI lev) (f + 1) 0 x3 (nI n) (nI p) (nI m) f_hasPlan f_current a_lead a_rule a_param a_onHand a_demand a_receipt a_ep a_ec a_eu a_gross a_net a_planned a_release a_projected a_pastDue a_stock a_lvl a_reach :=
  br_c (fun _ => nm_r (nI_1 lev) h) (fun _ => br_t rfl (nm_r (nI_1 lev) h))
theorem yp_100 {post : Int32 → SY → Prop} {J86 : Int32 → Int32 → Int32 → Int32 → Int32 → Int32 → Int32 → (Nat → Int32) → (Nat → Int32) → (Nat → Int32) → (Nat → Int32) → (Nat → Int32) → (Nat → Int32) → (Nat → Int32) → (Nat → Int32) → (Nat → Int32) → (Nat → Int64) → (Nat → Int64) → (Nat → Int64) → (Nat → Int64) → (Nat → Int64) → (Nat → Int64) → (Nat → Int64) → (Nat → Int32) → (Nat → Int32) → Prop} {lev : Nat} (hn16 : n ≤ 16) (hp16 : p ≤ 16) (hm : m ≤ 32) (hlev : lev < n) (hL : ∀ e, e < m → L (P e) < L (C e)) (hLn : ∀ a, a < n → L a < n) (E : ye_E n m P C U a_ep a_ec a_eu) (hV : xr_V n a_lvl L)
    (W : pp_W n Q Ld a_lead a_rule a_param a_onHand a_demand a_receipt) (Z : pp_P n p m P C U Q Ld a_rule a_onHand a_demand a_receipt Gr Ne Pl Rl Pj Pd)
    (h1 : ∀ gr ne pl rl pj pd, pp_R n p (pp_D L (lev + 1) 0) Gr Ne Pl Rl Pj Pd gr ne pl rl pj pd → pp_ok n p (pp_D L (lev + 1) 0) Gr → yp_B n p (pp_D L (lev + 1) 0) Rl → yp_Z n p (pp_D L (lev + 1) 0) rl pd → J86 1 (nI (lev + 1)) (nI n) (nI p) (nI m) f_hasPlan f_current a_lead a_rule a_param a_onHand a_demand a_receipt a_ep a_ec a_eu gr ne pl rl pj pd a_stock a_lvl a_reach)
    (h0 : ∀ gr ne pl rl pj pd, (¬ pp_ok n p (fun _ => True) Gr) → J86 0 (nI (lev + 1)) (nI n) (nI p) (nI m) f_hasPlan f_current a_lead a_rule a_param a_onHand a_demand a_receipt a_ep a_ec a_eu gr ne pl rl pj pd a_stock a_lvl a_reach) :
    ∀ d it gr ne pl rl pj pd, it + d = n → pp_R n p (pp_D L lev it) Gr Ne Pl Rl Pj Pd gr ne pl rl pj pd → pp_ok n p (pp_D L lev it) Gr → yp_B n p (pp_D L lev it) Rl → yp_Z n p (pp_D L lev it) rl pd →
      wY_plan_100 post J86 (nI lev) (d + 1) 1 (nI it) (nI n) (nI p) (nI m) f_hasPlan f_current a_lead a_rule a_param a_onHand a_demand a_receipt a_ep a_ec a_eu gr ne pl rl pj pd a_stock a_lvl a_reach := by
  intro d
  induction d with
  | zero =>
    intro it gr ne pl rl pj pd hit R O B Y0
    have e : it = n := by omega
    rw [e] at R O B Y0
    refine br_t (nI_le (by omega) (by omega)) (nm_r (nI_1 lev) (h1 gr ne pl rl pj pd (pp_Rany R fun a ha q => pp_Dn ha q) (fun a ha q => O a ha (pp_Dn ha q)) (fun a ha q => B a ha (pp_Dn ha q)) (fun a ha q => Y0 a ha fun w => q ?_)))
    unfold pp_D at *
    omega
  | succ d ih =>
    intro it gr ne pl rl pj pd hit R O B Y0
    have hi : it < n := by omega
    have el : a_lvl (nI it).toNatClampNeg = nI (L it) := (xh_at (by omega)).trans (hV it hi)
    have hl := hLn it hi
    refine br_f (nI_ge hi (by omega)) (br_f (by decide) ⟨vp_in_nI (by omega) (by omega), ?_⟩)
    by_cases c : L it = lev
    · refine br_t (by rw [el, c]) ?_
      have hDi : ¬ pp_D L lev it it := by unfold pp_D; omega
      refine yp_item (D := pp_D L lev it) hn16 hp16 hm hi E W Z (fun e he hc => Or.inl (by have := hL e he; rw [hc, c] at this; exact this)) hDi R B Y0 (fun gr' ne' pl' rl' pj' pd' k1 k2 r1 r2 r3 r4 r5 r6 o1 o2 o3 o4 o5 o6 => ?_) (fun gr' k1 => ?_)
      · refine nm_r (nI_1 it) (ih (it + 1) gr' ne' pl' rl' pj' pd' (by omega) ?_ ?_ ?_ ?_)
        · exact pp_Rput hp16 R o1 o2 o3 o4 o5 o6 r1 r2 r3 r4 r5 r6 (fun a q => (pp_Ds q).imp id (fun w => w.1))
        · intro a ha q t ht
          rcases pp_Ds q with q | q
          · exact O a ha q t ht
          · rw [q.1]; exact k1 t ht
        · intro a ha q
          rcases pp_Ds q with q | q
          · exact B a ha q
          · rw [q.1]; exact k2
        · intro a ha q
          have hne : a ≠ it := by
            intro e
            apply q
            unfold pp_D
            subst e
            omega
          have q' : ¬ pp_D L lev it a := by
            intro w
            apply q
            unfold pp_D at *
            omega
          obtain ⟨y1, y2⟩ := Y0 a ha q'
          exact ⟨(o6 a hne).trans y1, fun t ht => (o4 a t hne (by omega)).trans (y2 t ht)⟩
      · obtain ⟨t, ht, q⟩ := k1
        refine nm_r (nI_1 it) (yp_100z (h0 gr' ne pl rl pj pd fun w => q (w it hi trivial t ht)))
    · refine br_f (fun q => c ?_) (nm_r (nI_1 it) (ih (it + 1) gr ne pl rl pj pd (by omega) (pp_Rany R fun a _ q => ?_) (fun a ha q => O a ha ?_) (fun a ha q => B a ha ?_) (fun a ha q => Y0 a ha fun w => q ?_)))
      · rw [el] at q
        exact (nI_eq (by omega) (by omega)).mp q
      · exact (pp_Ds q).resolve_right fun w => c w.2
      · exact (pp_Ds q).resolve_right fun w => c w.2
      · exact (pp_Ds q).resolve_right fun w => c w.2
      · unfold pp_D at *; omega
theorem yp_163 {post : Int32 → SY → Prop} (hn16 : n ≤ 16) (h : ∀ st', (∀ i, i < n → st' i = (a_onHand i).toInt64) → post 0 ((nI n), (nI p), (nI m), f_hasPlan, f_current, a_lead, a_rule, a_param, a_onHand, a_demand, a_receipt, a_ep, a_ec, a_eu, a_gross, a_net, a_planned, a_release, a_projected, a_pastDue, st', a_lvl, a_reach)) :
    ∀ d i st, i + d = n → (∀ j, j < i → st j = (a_onHand j).toInt64) → wY_plan_163 post (nI n) (nI p) (nI m) f_hasPlan f_current (d + 1) (nI i) a_lead a_rule a_param a_onHand a_demand a_receipt a_ep a_ec a_eu a_gross a_net a_planned a_release a_projected a_pastDue st a_lvl a_reach := by
  intro d
  induction d with
  | zero =>
    intro i st hi hz
    exact br_t (nI_le (by omega) (by omega)) (h st fun j hj => hz j (by omega))
  | succ d ih =>
    intro i st hi hz
    have vi : vp_in (nI i) 16 := vp_in_nI (by omega) (by omega)
    refine br_f (nI_ge (by omega) (by omega)) ⟨vi, vi, nm_r (xh_upL (y := (a_onHand i).toInt64) (by omega) (by rw [nI_clamp (by omega)])) (nm_r (nI_1 i) (ih (i + 1) _ (by omega) fun j hj => ?_))⟩
    by_cases e : j = i
    · rw [e, pk_uLs]
    · rw [pk_uLn e]; exact hz j (by omega)
theorem yp_140z {post : Int32 → SY → Prop} (h : post (-4) ((nI n), (nI p), (nI m), 0, (-1), a_lead, a_rule, a_param, a_onHand, a_demand, a_receipt, a_ep, a_ec, a_eu, a_gross, a_net, a_planned, a_release, a_projected, a_pastDue, a_stock, a_lvl, a_reach)) : wY_plan_140 post 0 (nI n) (nI p) (nI m) f_hasPlan f_current a_lead a_rule a_param a_onHand a_demand a_receipt a_ep a_ec a_eu a_gross a_net a_planned a_release a_projected a_pastDue a_stock a_lvl a_reach := by
  unfold wY_plan_140
  refine br_t rfl ?_
  unfold wpY_discard
  exact h
theorem yp_86z {post : Int32 → SY → Prop} {f : Nat} {x2 : Int32} (h : post (-4) ((nI n), (nI p), (nI m), 0, (-1), a_lead, a_rule, a_param, a_onHand, a_demand, a_receipt, a_ep, a_ec, a_eu, a_gross, a_net, a_planned, a_release, a_projected, a_pastDue, a_stock, a_lvl, a_reach)) : wY_plan_86 post (f + 1) 0 x2 (nI n) (nI p) (nI m) f_hasPlan f_current a_lead a_rule a_param a_onHand a_demand a_receipt a_ep a_ec a_eu a_gross a_net a_planned a_release a_projected a_pastDue a_stock a_lvl a_reach :=
  br_c (fun _ => yp_140z h) (fun _ => br_t rfl (yp_140z h))
theorem yp_86 {post : Int32 → SY → Prop} (hn16 : n ≤ 16) (hp16 : p ≤ 16) (hm : m ≤ 32) (hL : ∀ e, e < m → L (P e) < L (C e)) (hLn : ∀ a, a < n → L a < n) (E : ye_E n m P C U a_ep a_ec a_eu) (hV : xr_V n a_lvl L)
    (W : pp_W n Q Ld a_lead a_rule a_param a_onHand a_demand a_receipt) (Z : pp_P n p m P C U Q Ld a_rule a_onHand a_demand a_receipt Gr Ne Pl Rl Pj Pd)
    (h1 : ∀ gr ne pl rl pj pd st, pp_R n p (fun _ => True) Gr Ne Pl Rl Pj Pd gr ne pl rl pj pd → pp_ok n p (fun _ => True) Gr → (∀ i, i < n → st i = (a_onHand i).toInt64) → post 0 ((nI n), (nI p), (nI m), 1, 0, a_lead, a_rule, a_param, a_onHand, a_demand, a_receipt, a_ep, a_ec, a_eu, gr, ne, pl, rl, pj, pd, st, a_lvl, a_reach))
    (h0 : ∀ gr ne pl rl pj pd, (¬ pp_ok n p (fun _ => True) Gr) → post (-4) ((nI n), (nI p), (nI m), 0, (-1), a_lead, a_rule, a_param, a_onHand, a_demand, a_receipt, a_ep, a_ec, a_eu, gr, ne, pl, rl, pj, pd, a_stock, a_lvl, a_reach)) :
    ∀ d lev gr ne pl rl pj pd, lev + d = n → pp_R n p (pp_D L lev 0) Gr Ne Pl Rl Pj Pd gr ne pl rl pj pd → pp_ok n p (pp_D L lev 0) Gr → yp_B n p (pp_D L lev 0) Rl → yp_Z n p (pp_D L lev 0) rl pd →
      wY_plan_86 post (d + 1) 1 (nI lev) (nI n) (nI p) (nI m) f_hasPlan f_current a_lead a_rule a_param a_onHand a_demand a_receipt a_ep a_ec a_eu gr ne pl rl pj pd a_stock a_lvl a_reach := by
  intro d
  induction d with
  | zero =>
    intro lev gr ne pl rl pj pd hlev R O B Y0
    have e : lev = n := by omega
    rw [e] at R O
    refine br_t (nI_le (by omega) (by omega)) ?_
    unfold wY_plan_140
    refine br_f (by decide) ⟨n + 1, ?_⟩
    refine yp_163 hn16 (fun st' hs => ?_) n 0 a_stock (by omega) (fun j hj => absurd hj (by omega))
    exact h1 gr ne pl rl pj pd st' (pp_Rany R fun a ha _ => Or.inl (hLn a ha)) (fun a ha _ => O a ha (Or.inl (hLn a ha))) hs
  | succ d ih =>
    intro lev gr ne pl rl pj pd hlev R O B Y0
    refine br_f (nI_ge (by omega) (by omega)) (br_f (by decide) ⟨n + 1, ?_⟩)
    refine yp_100 hn16 hp16 hm (by omega) hL hLn E hV W Z (fun gr' ne' pl' rl' pj' pd' R' O' B' Y' => ?_) (fun gr' ne' pl' rl' pj' pd' q => ?_) n 0 gr ne pl rl pj pd (by omega) R O B Y0
    · exact ih (lev + 1) gr' ne' pl' rl' pj' pd' (by omega) R' O' B' Y'
    · exact yp_86z (h0 gr' ne' pl' rl' pj' pd' q)
theorem yp_52 {post : Int32 → SY → Prop} (hn16 : n ≤ 16) (hp16 : p ≤ 16) (hm : m ≤ 32) (T : mg_T n (ye_G m P C) L) (E : ye_E n m P C U a_ep a_ec a_eu)
    (W : pp_W n Q Ld a_lead a_rule a_param a_onHand a_demand a_receipt) (Z : pp_P n p m P C U Q Ld a_rule a_onHand a_demand a_receipt Gr Ne Pl Rl Pj Pd)
    (h1 : ∀ gr ne pl rl pj pd st lv, pp_R n p (fun _ => True) Gr Ne Pl Rl Pj Pd gr ne pl rl pj pd → pp_ok n p (fun _ => True) Gr → (∀ i, i < n → st i = (a_onHand i).toInt64) → post 0 ((nI n), (nI p), (nI m), 1, 0, a_lead, a_rule, a_param, a_onHand, a_demand, a_receipt, a_ep, a_ec, a_eu, gr, ne, pl, rl, pj, pd, st, lv, a_reach))
    (h0 : ∀ gr ne pl rl pj pd st lv, (¬ pp_ok n p (fun _ => True) Gr) → post (-4) ((nI n), (nI p), (nI m), 0, (-1), a_lead, a_rule, a_param, a_onHand, a_demand, a_receipt, a_ep, a_ec, a_eu, gr, ne, pl, rl, pj, pd, st, lv, a_reach))
    (hz : ∀ j, j < 256 → a_release j = 0) :
    ∀ d i pd st, i + d = 16 → (∀ j, j < i → pd j = 0) → wY_plan_52 post (nI n) (nI p) (nI m) f_hasPlan f_current (d + 1) (nI i) a_lead a_rule a_param a_onHand a_demand a_receipt a_ep a_ec a_eu a_gross a_net a_planned a_release a_projected pd st a_lvl a_reach := by
  intro d
  induction d with
  | zero =>
    intro i pd st hi hp
    refine br_t (nI_le (a := 16) (by omega) (by omega)) (yl_comp hn16 hm T E (fun lv' hv => ⟨n + 1, ?_⟩))
    refine yp_86 hn16 hp16 hm (fun e he => T.1 _ _ ⟨e, he, rfl, rfl⟩) T.2.2 E hv W Z (fun gr ne pl rl pj pd st R O S => h1 gr ne pl rl pj pd st lv' R O S) (fun gr ne pl rl pj pd q => h0 gr ne pl rl pj pd st lv' q) n 0 a_gross a_net a_planned a_release a_projected pd (by omega)
      (fun a _ q => (pp_D0 q).elim) (fun a _ q => (pp_D0 q).elim) (fun a _ q => (pp_D0 q).elim) (fun a ha _ => ⟨hp a (by omega), fun t ht => hz _ (by omega)⟩)
  | succ d ih =>
    intro i pd st hi hp
    have vi : vp_in (nI i) 16 := vp_in_nI (by omega) (by omega)
    refine br_f (nI_ge (b := 16) (by omega) (by omega)) ⟨vi, nm_r (xh_upL (by omega) rfl) ⟨vi, nm_r (xh_upL (by omega) rfl) (nm_r (nI_1 i) (ih (i + 1) _ _ (by omega) fun j hj => ?_))⟩⟩
    by_cases e : j = i
    · rw [e, pk_uLs]
    · rw [pk_uLn e]; exact hp j (by omega)
theorem yp_2 {post : Int32 → SY → Prop} (hn16 : n ≤ 16) (hp16 : p ≤ 16) (hm : m ≤ 32) (T : mg_T n (ye_G m P C) L) (E : ye_E n m P C U a_ep a_ec a_eu)
    (W : pp_W n Q Ld a_lead a_rule a_param a_onHand a_demand a_receipt) (Z : pp_P n p m P C U Q Ld a_rule a_onHand a_demand a_receipt Gr Ne Pl Rl Pj Pd)
    (h1 : ∀ gr ne pl rl pj pd st lv, pp_R n p (fun _ => True) Gr Ne Pl Rl Pj Pd gr ne pl rl pj pd → pp_ok n p (fun _ => True) Gr → (∀ i, i < n → st i = (a_onHand i).toInt64) → post 0 ((nI n), (nI p), (nI m), 1, 0, a_lead, a_rule, a_param, a_onHand, a_demand, a_receipt, a_ep, a_ec, a_eu, gr, ne, pl, rl, pj, pd, st, lv, a_reach))
    (h0 : ∀ gr ne pl rl pj pd st lv, (¬ pp_ok n p (fun _ => True) Gr) → post (-4) ((nI n), (nI p), (nI m), 0, (-1), a_lead, a_rule, a_param, a_onHand, a_demand, a_receipt, a_ep, a_ec, a_eu, gr, ne, pl, rl, pj, pd, st, lv, a_reach)) :
    ∀ d i gr ne pl rl pj, i + d = 256 → (∀ j, j < i → rl j = 0) → wY_plan_2 post (nI n) (nI p) (nI m) f_hasPlan f_current (d + 1) (nI i) a_lead a_rule a_param a_onHand a_demand a_receipt a_ep a_ec a_eu gr ne pl rl pj a_pastDue a_stock a_lvl a_reach := by
  intro d
  induction d with
  | zero =>
    intro i gr ne pl rl pj hi hz
    refine br_t (nI_le (a := 256) (by omega) (by omega)) ⟨17, ?_⟩
    exact yp_52 hn16 hp16 hm T E W Z h1 h0 (fun j hj => hz j (by omega)) 16 0 a_pastDue a_stock (by omega) (fun j hj => absurd hj (by omega))
  | succ d ih =>
    intro i gr ne pl rl pj hi hz
    have vi : vp_in (nI i) 256 := vp_in_nI (by omega) (by omega)
    refine br_f (nI_ge (b := 256) (by omega) (by omega)) ⟨vi, nm_r (xh_upL (by omega) rfl) ⟨vi, nm_r (xh_upL (by omega) rfl) ⟨vi, nm_r (xh_upL (by omega) rfl) ⟨vi, nm_r (xh_upL (by omega) rfl) ⟨vi, nm_r (xh_upL (by omega) rfl) (nm_r (nI_1 i) (ih (i + 1) _ _ _ _ _ (by omega) fun j hj => ?_))⟩⟩⟩⟩⟩
    by_cases e : j = i
    · rw [e, pk_uLs]
    · rw [pk_uLn e]; exact hz j (by omega)
/-- the reference's plan -/
theorem yp_plan {post : Int32 → SY → Prop} (hn16 : n ≤ 16) (hp16 : p ≤ 16) (hm : m ≤ 32) (T : mg_T n (ye_G m P C) L) (E : ye_E n m P C U a_ep a_ec a_eu)
    (W : pp_W n Q Ld a_lead a_rule a_param a_onHand a_demand a_receipt) (Z : pp_P n p m P C U Q Ld a_rule a_onHand a_demand a_receipt Gr Ne Pl Rl Pj Pd)
    (h1 : ∀ gr ne pl rl pj pd st lv, pp_R n p (fun _ => True) Gr Ne Pl Rl Pj Pd gr ne pl rl pj pd → pp_ok n p (fun _ => True) Gr → (∀ i, i < n → st i = (a_onHand i).toInt64) → post 0 ((nI n), (nI p), (nI m), 1, 0, a_lead, a_rule, a_param, a_onHand, a_demand, a_receipt, a_ep, a_ec, a_eu, gr, ne, pl, rl, pj, pd, st, lv, a_reach))
    (h0 : ∀ gr ne pl rl pj pd st lv, (¬ pp_ok n p (fun _ => True) Gr) → post (-4) ((nI n), (nI p), (nI m), 0, (-1), a_lead, a_rule, a_param, a_onHand, a_demand, a_receipt, a_ep, a_ec, a_eu, gr, ne, pl, rl, pj, pd, st, lv, a_reach)) : wpY_plan post ((nI n), (nI p), (nI m), f_hasPlan, f_current, a_lead, a_rule, a_param, a_onHand, a_demand, a_receipt, a_ep, a_ec, a_eu, a_gross, a_net, a_planned, a_release, a_projected, a_pastDue, a_stock, a_lvl, a_reach) := by
  unfold wpY_plan
  exact ⟨257, yp_2 hn16 hp16 hm T E W Z h1 h0 256 0 a_gross a_net a_planned a_release a_projected (by omega) (fun j hj => absurd hj (by omega))⟩
end
