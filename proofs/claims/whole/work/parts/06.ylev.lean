/-! the reference: levels, what is reached and findEdge, over its list of edges -/
def ye_E (n m : Nat) (P C U : Nat → Nat) (ep ec eu : Nat → Int32) : Prop :=
  ∀ e, e < m → ep e = nI (P e) ∧ ec e = nI (C e) ∧ eu e = nI (U e) ∧ P e < n ∧ C e < n ∧ 1 ≤ U e ∧ U e ≤ 9
def ye_G (m : Nat) (P C : Nat → Nat) (a b : Nat) : Prop := ∃ e, e < m ∧ P e = a ∧ C e = b
theorem ye_Gs {e : Nat} {P C : Nat → Nat} {x y : Nat} (h : ye_G (e + 1) P C x y) : ye_G e P C x y ∨ (x = P e ∧ y = C e) := by
  obtain ⟨j, hj, h1, h2⟩ := h
  by_cases q : j = e
  · subst q; exact Or.inr ⟨h1.symm, h2.symm⟩
  · exact Or.inl ⟨j, by omega, h1, h2⟩
theorem ye_G0 {P C : Nat → Nat} {x y : Nat} (h : ye_G 0 P C x y) : False := by
  obtain ⟨j, hj, _⟩ := h; omega
theorem ye_Gn {n m : Nat} {P C U : Nat → Nat} {ep ec eu : Nat → Int32} (E : ye_E n m P C U ep ec eu) : ∀ a b, ye_G m P C a b → a < n ∧ b < n := by
  intro a b ⟨e, he, h1, h2⟩
  obtain ⟨_, _, _, q1, q2, _⟩ := E e he
  omega
section
variable {n m k : Nat} {P C U : Nat → Nat} {L : Nat → Nat} {f_p f_hasPlan f_current : Int32} {a_lead a_rule a_param a_onHand a_demand a_receipt a_ep a_ec a_eu a_lvl a_reach : Nat → Int32} {a_gross a_net a_planned a_release a_projected a_pastDue a_stock : Nat → Int64}
theorem yl_33 {post : SY → Prop} {J23 : Int32 → (Nat → Int32) → (Nat → Int32) → (Nat → Int32) → (Nat → Int32) → (Nat → Int32) → (Nat → Int32) → (Nat → Int32) → (Nat → Int32) → (Nat → Int32) → (Nat → Int64) → (Nat → Int64) → (Nat → Int64) → (Nat → Int64) → (Nat → Int64) → (Nat → Int64) → (Nat → Int64) → (Nat → Int32) → (Nat → Int32) → Prop} {x1 : Nat} (hn16 : n ≤ 16) (hm : m ≤ 32) (T : mg_T n (ye_G m P C) L) (E : ye_E n m P C U a_ep a_ec a_eu) :
    ∀ d e lv v, e + d = m → xr_V n lv v → mg_I n (ye_G m P C) L k (ye_G e P C) v →
    (∀ lv' v', xr_V n lv' v' → mg_I n (ye_G m P C) L k (ye_G m P C) v' → J23 (nI (x1 + 1)) a_lead a_rule a_param a_onHand a_demand a_receipt a_ep a_ec a_eu a_gross a_net a_planned a_release a_projected a_pastDue a_stock lv' a_reach) →
    wY_computeLevels_33 post J23 (nI x1) (nI n) f_p (nI m) f_hasPlan f_current (d + 1) (nI e) a_lead a_rule a_param a_onHand a_demand a_receipt a_ep a_ec a_eu a_gross a_net a_planned a_release a_projected a_pastDue a_stock lv a_reach := by
  intro d
  induction d with
  | zero =>
    intro e lv v he hv I hJ
    have q : e = m := by omega
    rw [q] at I
    exact br_t (nI_le (by omega) (by omega)) (nm_r (nI_1 x1) (hJ lv v hv I))
  | succ d ih =>
    intro e lv v he hv I hJ
    have hem : e < m := by omega
    obtain ⟨p1, p2, p3, hP, hC, _, _⟩ := E e hem
    have i1 : a_ep (nI e).toNatClampNeg = nI (P e) := (xh_at (by omega)).trans p1
    have i2 : a_ec (nI e).toNatClampNeg = nI (C e) := (xh_at (by omega)).trans p2
    have e1 : lv (nI (P e)).toNatClampNeg = nI (v (P e)) := (xh_at (by omega)).trans (hv _ hP)
    have e2 : lv (nI (C e)).toNatClampNeg = nI (v (C e)) := (xh_at (by omega)).trans (hv _ hC)
    have hg : ye_G m P C (P e) (C e) := ⟨e, hem, rfl, rfl⟩
    have la := I.1 _ hP
    have lb := I.1 _ hC
    have ta := T.2.2 _ hP
    have tb := T.2.2 _ hC
    have ve : vp_in (nI e) 32 := vp_in_nI (by omega) (by omega)
    have vP : vp_in (nI (P e)) 16 := vp_in_nI (by omega) (by omega)
    have vC : vp_in (nI (C e)) 16 := vp_in_nI (by omega) (by omega)
    refine br_f (nI_ge hem (by omega)) ?_
    rw [i1, i2]
    refine ⟨ve, vC, ve, vP, ?_⟩
    by_cases h : v (P e) < v (C e)
    · refine br_t (by rw [e1, e2, nI_1]; exact nI_le (by omega) (by omega)) (nm_r (nI_1 e) ?_)
      exact ih (e + 1) lv v (by omega) hv (mg_Ikeep (ye_Gn E) I (fun _ => h) (fun x y q => ye_Gs q)) hJ
    · refine br_f (by rw [e1, e2, nI_1]; exact nI_ge (by omega) (by omega)) ⟨ve, ve, vP, vC, ?_⟩
      refine nm_r (xh_up (y := nI (v (P e) + 1)) (by omega) (by rw [e1, nI_1])) (nm_r (nI_1 e) ?_)
      refine ih (e + 1) (upd lv (C e) (nI (v (P e) + 1))) (fun i => if i = C e then v (P e) + 1 else v i) (by omega) (xr_Vput hv) ?_ hJ
      exact mg_Iput T (ye_Gn E) I hg (by omega) (if_pos rfl) (fun i _ q => if_neg q) (fun x y q => ye_Gs q)
theorem yl_23 {post : SY → Prop} (hn16 : n ≤ 16) (hm : m ≤ 32) (T : mg_T n (ye_G m P C) L) (E : ye_E n m P C U a_ep a_ec a_eu)
    (h : ∀ lv', xr_V n lv' L → post ((nI n), f_p, (nI m), f_hasPlan, f_current, a_lead, a_rule, a_param, a_onHand, a_demand, a_receipt, a_ep, a_ec, a_eu, a_gross, a_net, a_planned, a_release, a_projected, a_pastDue, a_stock, lv', a_reach)) :
    ∀ d k lv v, k + d = n → xr_V n lv v → mg_I n (ye_G m P C) L k (fun _ _ => False) v → wY_computeLevels_23 post (nI n) f_p (nI m) f_hasPlan f_current (d + 1) (nI k) a_lead a_rule a_param a_onHand a_demand a_receipt a_ep a_ec a_eu a_gross a_net a_planned a_release a_projected a_pastDue a_stock lv a_reach := by
  intro d
  induction d with
  | zero =>
    intro k lv v hk hv I
    refine br_t (nI_le (by omega) (by omega)) (h lv fun i hi => ?_)
    rw [hv i hi, mg_Iend T I (by omega) i hi]
  | succ d ih =>
    intro k lv v hk hv I
    refine br_f (nI_ge (by omega) (by omega)) ⟨m + 1, ?_⟩
    exact yl_33 hn16 hm T E m 0 lv v (by omega) hv (mg_Iany I fun x y _ q => ye_G0 q) fun lv' v' hv' I' =>
      ih (k + 1) lv' v' (by omega) hv' (mg_Iround T I' fun x y g => g)
theorem yl_2 {post : SY → Prop} (hn16 : n ≤ 16) (hm : m ≤ 32) (T : mg_T n (ye_G m P C) L) (E : ye_E n m P C U a_ep a_ec a_eu)
    (h : ∀ lv', xr_V n lv' L → post ((nI n), f_p, (nI m), f_hasPlan, f_current, a_lead, a_rule, a_param, a_onHand, a_demand, a_receipt, a_ep, a_ec, a_eu, a_gross, a_net, a_planned, a_release, a_projected, a_pastDue, a_stock, lv', a_reach)) :
    ∀ d i lv, i + d = 16 → (∀ j, j < i → lv j = 0) → wY_computeLevels_2 post (nI n) f_p (nI m) f_hasPlan f_current (d + 1) (nI i) a_lead a_rule a_param a_onHand a_demand a_receipt a_ep a_ec a_eu a_gross a_net a_planned a_release a_projected a_pastDue a_stock lv a_reach := by
  intro d
  induction d with
  | zero =>
    intro i lv hi hz
    refine br_t (nI_le (a := 16) (by omega) (by omega)) ⟨n + 1, ?_⟩
    exact yl_23 hn16 hm T E h n 0 lv (fun _ => 0) (by omega) (fun j hj => hz j (by omega)) (mg_I0 fun _ _ => rfl)
  | succ d ih =>
    intro i lv hi hz
    refine br_f (nI_ge (b := 16) (by omega) (by omega)) ⟨vp_in_nI (by omega) (by omega), nm_r (xh_up (by omega) rfl) (nm_r (nI_1 i) ?_)⟩
    refine ih (i + 1) (upd lv i 0) (by omega) fun j hj => ?_
    by_cases e : j = i
    · rw [e, pk_us]
    · rw [pk_un e]; exact hz j (by omega)
/-- computeLevels ends with the levels -/
theorem yl_comp {post : SY → Prop} (hn16 : n ≤ 16) (hm : m ≤ 32) (T : mg_T n (ye_G m P C) L) (E : ye_E n m P C U a_ep a_ec a_eu)
    (h : ∀ lv', xr_V n lv' L → post ((nI n), f_p, (nI m), f_hasPlan, f_current, a_lead, a_rule, a_param, a_onHand, a_demand, a_receipt, a_ep, a_ec, a_eu, a_gross, a_net, a_planned, a_release, a_projected, a_pastDue, a_stock, lv', a_reach)) : wpY_computeLevels post ((nI n), f_p, (nI m), f_hasPlan, f_current, a_lead, a_rule, a_param, a_onHand, a_demand, a_receipt, a_ep, a_ec, a_eu, a_gross, a_net, a_planned, a_release, a_projected, a_pastDue, a_stock, a_lvl, a_reach) := by
  unfold wpY_computeLevels
  exact ⟨17, yl_2 hn16 hm T E h 16 0 a_lvl (by omega) (fun j hj => absurd hj (by omega))⟩
theorem yf_2 {post : Int32 → Prop} {a c : Nat} (hn16 : n ≤ 16) (hm : m ≤ 32) (E : ye_E n m P C U a_ep a_ec a_eu) (ha : a < n) (hc : c < n)
    (h1 : ∀ e, e < m → P e = a → C e = c → post (nI e)) (h0 : (∀ e, e < m → ¬ (P e = a ∧ C e = c)) → post (-1)) :
    ∀ d e, e + d = m → (∀ j, j < e → ¬ (P j = a ∧ C j = c)) → wY_findEdge_2 post (nI a) (nI c) (nI n) f_p (nI m) f_hasPlan f_current a_lead a_rule a_param a_onHand a_demand a_receipt a_ep a_ec a_eu a_gross a_net a_planned a_release a_projected a_pastDue a_stock a_lvl a_reach (d + 1) (nI e) := by
  intro d
  induction d with
  | zero =>
    intro e he hz
    exact br_t (nI_le (by omega) (by omega)) (h0 fun j hj => hz j (by omega))
  | succ d ih =>
    intro e he hz
    have hem : e < m := by omega
    obtain ⟨p1, p2, p3, hP, hC, _, _⟩ := E e hem
    have i1 : a_ep (nI e).toNatClampNeg = nI (P e) := (xh_at (by omega)).trans p1
    have i2 : a_ec (nI e).toNatClampNeg = nI (C e) := (xh_at (by omega)).trans p2
    have ve : vp_in (nI e) 32 := vp_in_nI (by omega) (by omega)
    refine br_f (nI_ge hem (by omega)) ⟨ve, ?_⟩
    rw [i1, i2]
    by_cases q : P e = a
    · refine br_t (by rw [q]) ⟨ve, ?_⟩
      by_cases q2 : C e = c
      · exact br_t (by rw [q2]) (h1 e hem q q2)
      · refine br_f (fun z => q2 ((nI_eq (by omega) (by omega)).mp z)) (nm_r (nI_1 e) ?_)
        exact ih (e + 1) (by omega) fun j hj => by
          by_cases z : j = e
          · rw [z]; exact fun w => q2 w.2
          · exact hz j (by omega)
    · refine br_f (fun z => q ((nI_eq (by omega) (by omega)).mp z)) (nm_r (nI_1 e) ?_)
      exact ih (e + 1) (by omega) fun j hj => by
        by_cases z : j = e
        · rw [z]; exact fun w => q w.1
        · exact hz j (by omega)
theorem yf_find {post : Int32 → Prop} {a c : Nat} (hn16 : n ≤ 16) (hm : m ≤ 32) (E : ye_E n m P C U a_ep a_ec a_eu) (ha : a < n) (hc : c < n)
    (h1 : ∀ e, e < m → P e = a → C e = c → post (nI e)) (h0 : (∀ e, e < m → ¬ (P e = a ∧ C e = c)) → post (-1)) :
    wpY_findEdge post ((nI n), f_p, (nI m), f_hasPlan, f_current, a_lead, a_rule, a_param, a_onHand, a_demand, a_receipt, a_ep, a_ec, a_eu, a_gross, a_net, a_planned, a_release, a_projected, a_pastDue, a_stock, a_lvl, a_reach) (nI a) (nI c) := by
  unfold wpY_findEdge
  exact ⟨m + 1, yf_2 hn16 hm E ha hc h1 h0 m 0 (by omega) (fun j hj => absurd hj (by omega))⟩
/-! what is reached: the loops of addComponent -/
theorem yq_130 {post : Int32 → SY → Prop} {J118 : Int32 → (Nat → Int32) → (Nat → Int32) → (Nat → Int32) → (Nat → Int32) → (Nat → Int32) → (Nat → Int32) → (Nat → Int32) → (Nat → Int32) → (Nat → Int32) → (Nat → Int64) → (Nat → Int64) → (Nat → Int64) → (Nat → Int64) → (Nat → Int64) → (Nat → Int64) → (Nat → Int64) → (Nat → Int32) → (Nat → Int32) → Prop} {x1 x2 x3 : Int32} {x5 s : Nat} (hn16 : n ≤ 16) (hm : m ≤ 32) (E : ye_E n m P C U a_ep a_ec a_eu) :
    ∀ d e re, e + d = m → xr_B n re → mg_J (ye_G m P C) s k (ye_G e P C) (fun i => i < n ∧ re i = 1) →
    (∀ re', xr_B n re' → mg_J (ye_G m P C) s k (ye_G m P C) (fun i => i < n ∧ re' i = 1) → J118 (nI (x5 + 1)) a_lead a_rule a_param a_onHand a_demand a_receipt a_ep a_ec a_eu a_gross a_net a_planned a_release a_projected a_pastDue a_stock a_lvl re') →
    wY_addComponent_130 post J118 x1 x2 x3 (nI x5) (nI n) f_p (nI m) f_hasPlan f_current (d + 1) (nI e) a_lead a_rule a_param a_onHand a_demand a_receipt a_ep a_ec a_eu a_gross a_net a_planned a_release a_projected a_pastDue a_stock a_lvl re := by
  intro d
  induction d with
  | zero =>
    intro e re he hB J hJ
    have q : e = m := by omega
    rw [q] at J
    exact br_t (nI_le (by omega) (by omega)) (nm_r (nI_1 x5) (hJ re hB J))
  | succ d ih =>
    intro e re he hB J hJ
    have hem : e < m := by omega
    obtain ⟨p1, p2, p3, hP, hC, _, _⟩ := E e hem
    have i1 : a_ep (nI e).toNatClampNeg = nI (P e) := (xh_at (by omega)).trans p1
    have i2 : a_ec (nI e).toNatClampNeg = nI (C e) := (xh_at (by omega)).trans p2
    have e1 : re (nI (P e)).toNatClampNeg = re (P e) := xh_at (by omega)
    have hg : ye_G m P C (P e) (C e) := ⟨e, hem, rfl, rfl⟩
    have ve : vp_in (nI e) 32 := vp_in_nI (by omega) (by omega)
    have vP : vp_in (nI (P e)) 16 := vp_in_nI (by omega) (by omega)
    have vC : vp_in (nI (C e)) 16 := vp_in_nI (by omega) (by omega)
    refine br_f (nI_ge hem (by omega)) ?_
    rw [i1, i2]
    refine ⟨ve, vP, ?_⟩
    by_cases hr : re (P e) = 0
    · refine br_t (e1.trans hr) (nm_r (nI_1 e) ?_)
      refine ih (e + 1) re (by omega) hB (mg_Jkeep J (fun _ q => ?_) (fun x y q => ye_Gs q)) hJ
      exact absurd (hr.symm.trans q.2) xr_01
    · have hr1 : re (P e) = 1 := (hB _ hP).resolve_left hr
      refine br_f (fun q => hr (e1.symm.trans q)) ⟨ve, vC, ?_⟩
      refine nm_r (xh_up (by omega) xh_vb1) (nm_r (nI_1 e) ?_)
      exact ih (e + 1) (upd re (C e) 1) (by omega) (xr_Bput hB) (mg_Jput J hg ⟨hP, hr1⟩ (fun i => xr_rput hC i) (fun x y q => ye_Gs q)) hJ
/-- addComponent's loops: whether the parent is reached decides -/
theorem yq_118 {post : Int32 → SY → Prop} {s t : Nat} {x3 : Int32} (hn16 : n ≤ 16) (hm : m < 32) (T : mg_T n (ye_G m P C) L) (E : ye_E n m P C U a_ep a_ec a_eu) (hs : s < n) (ht : t < n)
    (h1 : ∀ re', (∃ j, mg_R (ye_G m P C) s j t) → post (-2) ((nI n), f_p, (nI m), f_hasPlan, f_current, a_lead, a_rule, a_param, a_onHand, a_demand, a_receipt, a_ep, a_ec, a_eu, a_gross, a_net, a_planned, a_release, a_projected, a_pastDue, a_stock, a_lvl, re'))
    (h0 : ∀ re', (¬ ∃ j, mg_R (ye_G m P C) s j t) → post 0 ((nI n), f_p, (nI (m + 1)), 0, (-1), a_lead, a_rule, a_param, a_onHand, a_demand, a_receipt, (upd a_ep m (nI t)), (upd a_ec m (nI s)), (upd a_eu m x3), a_gross, a_net, a_planned, a_release, a_projected, a_pastDue, a_stock, a_lvl, re')) :
    ∀ d k re, k + d = n → xr_B n re → mg_J (ye_G m P C) s k (fun _ _ => False) (fun i => i < n ∧ re i = 1) → wY_addComponent_118 post (nI t) (nI s) x3 (nI n) f_p (nI m) f_hasPlan f_current (d + 1) (nI k) a_lead a_rule a_param a_onHand a_demand a_receipt a_ep a_ec a_eu a_gross a_net a_planned a_release a_projected a_pastDue a_stock a_lvl re := by
  intro d
  induction d with
  | zero =>
    intro k re hk hB J
    have e1 : re (nI t).toNatClampNeg = re t := xh_at (by omega)
    have hJ := mg_Jend T hs (ye_Gn E) J (by omega) t
    have vm : vp_in (nI m) 32 := vp_in_nI (by omega) (by omega)
    refine br_t (nI_le (by omega) (by omega)) ⟨vp_in_nI (by omega) (by omega), ?_⟩
    rcases hB t ht with e | e
    · refine br_t (e1.trans e) ⟨vm, nm_r (xh_up (by omega) rfl) ⟨vm, nm_r (xh_up (by omega) rfl) ⟨vm, nm_r (xh_up (by omega) rfl) (nm_r (nI_1 m) ?_)⟩⟩⟩
      exact h0 re fun q => xr_01 (e.symm.trans (hJ.mpr q).2)
    · refine br_f (fun q => xr_01 (q.symm.trans (e1.trans e))) (h1 re (hJ.mp ⟨ht, e⟩))
  | succ d ih =>
    intro k re hk hB J
    refine br_f (nI_ge (by omega) (by omega)) ⟨m + 1, ?_⟩
    exact yq_130 hn16 (by omega) E m 0 re (by omega) hB (mg_Jany J fun x y _ q => ye_G0 q) fun re' hB' J' =>
      ih (k + 1) re' (by omega) hB' (mg_Jround J' fun x y g => g)
theorem yq_87 {post : Int32 → SY → Prop} {s t : Nat} {x3 : Int32} (hn16 : n ≤ 16) (hm : m < 32) (T : mg_T n (ye_G m P C) L) (E : ye_E n m P C U a_ep a_ec a_eu) (hs : s < n) (ht : t < n)
    (h1 : ∀ re', (∃ j, mg_R (ye_G m P C) s j t) → post (-2) ((nI n), f_p, (nI m), f_hasPlan, f_current, a_lead, a_rule, a_param, a_onHand, a_demand, a_receipt, a_ep, a_ec, a_eu, a_gross, a_net, a_planned, a_release, a_projected, a_pastDue, a_stock, a_lvl, re'))
    (h0 : ∀ re', (¬ ∃ j, mg_R (ye_G m P C) s j t) → post 0 ((nI n), f_p, (nI (m + 1)), 0, (-1), a_lead, a_rule, a_param, a_onHand, a_demand, a_receipt, (upd a_ep m (nI t)), (upd a_ec m (nI s)), (upd a_eu m x3), a_gross, a_net, a_planned, a_release, a_projected, a_pastDue, a_stock, a_lvl, re')) :
    ∀ d i re, i + d = 16 → (∀ j, j < i → re j = 0) → wY_addComponent_87 post (nI t) (nI s) x3 (nI n) f_p (nI m) f_hasPlan f_current (d + 1) (nI i) a_lead a_rule a_param a_onHand a_demand a_receipt a_ep a_ec a_eu a_gross a_net a_planned a_release a_projected a_pastDue a_stock a_lvl re := by
  intro d
  induction d with
  | zero =>
    intro i re hi hz
    refine br_t (nI_le (a := 16) (by omega) (by omega)) ⟨vp_in_nI (by omega) (by omega), nm_r (xh_up (by omega) xh_vb1) ⟨n + 1, ?_⟩⟩
    refine yq_118 hn16 hm T E hs ht h1 h0 n 0 (upd re s 1) (by omega) (fun j hj => ?_) (mg_J0 fun j => ?_)
    · by_cases e : j = s
      · rw [e, pk_us]; exact Or.inr rfl
      · rw [pk_un e]; exact Or.inl (hz j (by omega))
    · by_cases e : j = s
      · rw [e, pk_us]; exact ⟨fun _ => rfl, fun _ => ⟨hs, rfl⟩⟩
      · rw [pk_un e]
        exact ⟨fun q => absurd ((hz j (by have := q.1; omega)).symm.trans q.2) xr_01, fun q => absurd q e⟩
  | succ d ih =>
    intro i re hi hz
    refine br_f (nI_ge (b := 16) (by omega) (by omega)) ⟨vp_in_nI (by omega) (by omega), nm_r (xh_up (by omega) xh_vb0) (nm_r (nI_1 i) ?_)⟩
    refine ih (i + 1) (upd re i 0) (by omega) fun j hj => ?_
    by_cases e : j = i
    · rw [e, pk_us]
    · rw [pk_un e]; exact hz j (by omega)
end
