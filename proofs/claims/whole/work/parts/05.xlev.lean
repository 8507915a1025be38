/-! the component: levels and what is reached, over its table -/
theorem xh_ix (a b : Nat) : nI a * 16 + nI b = nI (a * 16 + b) := by
  rw [show (16 : Int32) = nI 16 from rfl, pk_mul, nI_add]
theorem xh_pair {post : Int32 → Prop} {a b : Nat} (h : post (nI (a * 16 + b))) : wpX_pairIndex post (nI a) (nI b) := by
  unfold wpX_pairIndex; rw [xh_ix]; exact h
theorem xh_cell {post : Int32 → Prop} {a b : Nat} (h : post (nI (a * 16 + b))) : wpX_cellIndex post (nI a) (nI b) := by
  unfold wpX_cellIndex; rw [xh_ix]; exact h
theorem xh_at {f : Nat → Int32} {k : Nat} (h : k < 2 ^ 31) : f (nI k).toNatClampNeg = f k := congrArg f (nI_clamp h)
theorem xh_atL {f : Nat → Int64} {k : Nat} (h : k < 2 ^ 31) : f (nI k).toNatClampNeg = f k := congrArg f (nI_clamp h)
theorem xh_up {f : Nat → Int32} {k : Nat} {x y : Int32} (h : k < 2 ^ 31) (e : x = y) : upd f (nI k).toNatClampNeg x = upd f k y := by rw [nI_clamp h, e]
theorem xh_upL {f : Nat → Int64} {k : Nat} {x y : Int64} (h : k < 2 ^ 31) (e : x = y) : vp_updL f (nI k).toNatClampNeg x = vp_updL f k y := by rw [nI_clamp h, e]
theorem xh_vb1 : vp_nar .boolean 1 = 1 := by decide
theorem xh_vb0 : vp_nar .boolean 0 = 0 := by decide
def xr_U (n : Nat) (G : Nat → Nat → Prop) (us : Nat → Int32) : Prop := ∀ a b, a < n → b < n → (¬ us (a * 16 + b) ≤ 0 ↔ G a b)
def xr_V (n : Nat) (lv : Nat → Int32) (v : Nat → Nat) : Prop := ∀ i, i < n → lv i = nI (v i)
theorem xr_Vput {n : Nat} {lv : Nat → Int32} {v : Nat → Nat} {b w : Nat} (h : xr_V n lv v) : xr_V n (upd lv b (nI w)) (fun i => if i = b then w else v i) := by
  intro i hi
  show upd lv b (nI w) i = nI (if i = b then w else v i)
  by_cases e : i = b
  · rw [if_pos e, e, pk_us]
  · rw [if_neg e, pk_un e, h i hi]
section
variable {n k : Nat} {G : Nat → Nat → Prop} {L : Nat → Nat} {f_periodCount f_edgeCount f_current : Int32} {a_leads a_rules a_params a_onHands a_demands a_receipts a_usages a_levels a_reached : Nat → Int32} {a_gross a_net a_planned a_release a_projected a_pastDue a_stock : Nat → Int64}
theorem xl_in {post : SX → Prop} {J2 : Int32 → (Nat → Int32) → (Nat → Int32) → (Nat → Int32) → (Nat → Int32) → (Nat → Int32) → (Nat → Int32) → (Nat → Int32) → (Nat → Int32) → (Nat → Int32) → (Nat → Int64) → (Nat → Int64) → (Nat → Int64) → (Nat → Int64) → (Nat → Int64) → (Nat → Int64) → (Nat → Int64) → Prop} {a : Nat} (hn16 : n ≤ 16) (T : mg_T n G L) (hn : ∀ a b, G a b → a < n ∧ b < n) (hU : xr_U n G a_usages) (ha : a < n) :
    ∀ d b lv v, b + d = n → xr_V n lv v → mg_I n G L k (mg_D a b) v →
    (∀ lv' v', xr_V n lv' v' → mg_I n G L k (mg_D a n) v' → J2 (nI (a + 1)) a_leads a_rules a_params a_onHands a_demands a_receipts a_usages lv' a_reached a_gross a_net a_planned a_release a_projected a_pastDue a_stock) →
    wX_pushChildrenDown_12 post J2 (nI a) (nI n) f_periodCount f_edgeCount f_current (d + 1) (nI b) a_leads a_rules a_params a_onHands a_demands a_receipts a_usages lv a_reached a_gross a_net a_planned a_release a_projected a_pastDue a_stock := by
  intro d
  induction d with
  | zero =>
    intro b lv v hb hv I hJ
    have e : b = n := by omega
    rw [e] at I
    exact br_t (nI_le (by omega) (by omega)) (nm_r (nI_1 a) (hJ lv v hv I))
  | succ d ih =>
    intro b lv v hb hv I hJ
    have hbn : b < n := by omega
    have hu : a_usages (nI (a * 16 + b)).toNatClampNeg = a_usages (a * 16 + b) := xh_at (by omega)
    have e1 : lv (nI a).toNatClampNeg = nI (v a) := (xh_at (by omega)).trans (hv a ha)
    have e2 : lv (nI b).toNatClampNeg = nI (v b) := (xh_at (by omega)).trans (hv b hbn)
    have la := I.1 a ha
    have lb := I.1 b hbn
    have ta := T.2.2 a ha
    have tb := T.2.2 b hbn
    refine br_f (nI_ge hbn (by omega)) (xh_pair ?_)
    refine ⟨vp_in_nI (by omega) (by omega), ?_⟩
    by_cases hg : G a b
    · refine br_f (by rw [hu]; exact (hU a b ha hbn).mpr hg) ⟨vp_in_nI (by omega) (by omega), vp_in_nI (by omega) (by omega), ?_⟩
      by_cases h : v a < v b
      · refine br_t (by rw [e1, e2]; exact nI_lt h (by omega)) (nm_r (nI_1 b) ?_)
        exact ih (b + 1) lv v (by omega) hv (mg_Ikeep hn I (fun _ => h) (fun x y q => mg_Ds q)) hJ
      · refine br_f (by rw [e1, e2]; exact nI_nlt (by omega) (by omega)) ⟨vp_in_nI (by omega) (by omega), vp_in_nI (by omega) (by omega), ?_⟩
        refine nm_r (xh_up (y := nI (v a + 1)) (by omega) (by rw [e1, nI_1])) (nm_r (nI_1 b) ?_)
        refine ih (b + 1) (upd lv b (nI (v a + 1))) (fun i => if i = b then v a + 1 else v i) (by omega) (xr_Vput hv) ?_ hJ
        exact mg_Iput T hn I hg (by omega) (if_pos rfl) (fun i _ q => if_neg q) (fun x y q => mg_Ds q)
    · refine br_t (by rw [hu]; exact Decidable.byContradiction fun q => hg ((hU a b ha hbn).mp q)) (nm_r (nI_1 b) ?_)
      exact ih (b + 1) lv v (by omega) hv (mg_Ikeep hn I (fun q => absurd q hg) (fun x y q => mg_Ds q)) hJ
theorem xl_out {post : SX → Prop} (hn16 : n ≤ 16) (T : mg_T n G L) (hn : ∀ a b, G a b → a < n ∧ b < n) (hU : xr_U n G a_usages) :
    ∀ d a lv v, a + d = n → xr_V n lv v → mg_I n G L k (mg_D a 0) v →
    (∀ lv' v', xr_V n lv' v' → mg_I n G L (k + 1) (fun _ _ => False) v' → post ((nI n), f_periodCount, f_edgeCount, f_current, a_leads, a_rules, a_params, a_onHands, a_demands, a_receipts, a_usages, lv', a_reached, a_gross, a_net, a_planned, a_release, a_projected, a_pastDue, a_stock)) →
    wX_pushChildrenDown_2 post (nI n) f_periodCount f_edgeCount f_current (d + 1) (nI a) a_leads a_rules a_params a_onHands a_demands a_receipts a_usages lv a_reached a_gross a_net a_planned a_release a_projected a_pastDue a_stock := by
  intro d
  induction d with
  | zero =>
    intro a lv v hb hv I h
    have e : a = n := by omega
    rw [e] at I
    exact br_t (nI_le (by omega) (by omega)) (h lv v hv (mg_Iround T I fun x y g => mg_De (hn x y g).1))
  | succ d ih =>
    intro a lv v hb hv I h
    refine br_f (nI_ge (by omega) (by omega)) ⟨n + 1, ?_⟩
    exact xl_in hn16 T hn hU (by omega) n 0 lv v (by omega) hv I fun lv' v' hv' I' =>
      ih (a + 1) lv' v' (by omega) hv' (mg_Iany I' fun x y g q => mg_Dr (hn x y g).2 q) h
theorem xl_push {post : SX → Prop} {lv : Nat → Int32} {v : Nat → Nat} (hn16 : n ≤ 16) (T : mg_T n G L) (hn : ∀ a b, G a b → a < n ∧ b < n) (hU : xr_U n G a_usages)
    (hv : xr_V n lv v) (I : mg_I n G L k (fun _ _ => False) v) (h : ∀ lv' v', xr_V n lv' v' → mg_I n G L (k + 1) (fun _ _ => False) v' → post ((nI n), f_periodCount, f_edgeCount, f_current, a_leads, a_rules, a_params, a_onHands, a_demands, a_receipts, a_usages, lv', a_reached, a_gross, a_net, a_planned, a_release, a_projected, a_pastDue, a_stock)) :
    wpX_pushChildrenDown post ((nI n), f_periodCount, f_edgeCount, f_current, a_leads, a_rules, a_params, a_onHands, a_demands, a_receipts, a_usages, lv, a_reached, a_gross, a_net, a_planned, a_release, a_projected, a_pastDue, a_stock) := by
  unfold wpX_pushChildrenDown
  exact ⟨n + 1, xl_out hn16 T hn hU n 0 lv v (by omega) hv (mg_Iany I fun x y _ q => mg_Df q) h⟩
theorem xl_25 {post : SX → Prop} (hn16 : n ≤ 16) (T : mg_T n G L) (hn : ∀ a b, G a b → a < n ∧ b < n) (hU : xr_U n G a_usages)
    (h : ∀ lv', xr_V n lv' L → post ((nI n), f_periodCount, f_edgeCount, f_current, a_leads, a_rules, a_params, a_onHands, a_demands, a_receipts, a_usages, lv', a_reached, a_gross, a_net, a_planned, a_release, a_projected, a_pastDue, a_stock)) :
    ∀ d k lv v, k + 1 + d = n → xr_V n lv v → mg_I n G L k (fun _ _ => False) v → wX_findLevels_25 post (d + 1) (nI (k + 1)) (nI n) f_periodCount f_edgeCount f_current a_leads a_rules a_params a_onHands a_demands a_receipts a_usages lv a_reached a_gross a_net a_planned a_release a_projected a_pastDue a_stock := by
  intro d
  induction d with
  | zero =>
    intro k lv v hb hv I
    refine br_t (nI_le (by omega) (by omega)) (h lv fun i hi => ?_)
    rw [hv i hi, mg_Iend T I (by omega) i hi]
  | succ d ih =>
    intro k lv v hb hv I
    refine br_f (nI_ge (by omega) (by omega)) (xl_push hn16 T hn hU hv I fun lv' v' hv' I' => ?_)
    exact nm_r (nI_1 (k + 1)) (ih (k + 1) lv' v' (by omega) hv' I')
theorem xl_2 {post : SX → Prop} (hn1 : 1 ≤ n) (hn16 : n ≤ 16) (T : mg_T n G L) (hn : ∀ a b, G a b → a < n ∧ b < n) (hU : xr_U n G a_usages)
    (h : ∀ lv', xr_V n lv' L → post ((nI n), f_periodCount, f_edgeCount, f_current, a_leads, a_rules, a_params, a_onHands, a_demands, a_receipts, a_usages, lv', a_reached, a_gross, a_net, a_planned, a_release, a_projected, a_pastDue, a_stock)) :
    ∀ d i lv, i + d = n → (∀ j, j < i → lv j = 0) → wX_findLevels_2 post (nI n) f_periodCount f_edgeCount f_current (d + 1) (nI i) a_leads a_rules a_params a_onHands a_demands a_receipts a_usages lv a_reached a_gross a_net a_planned a_release a_projected a_pastDue a_stock := by
  intro d
  induction d with
  | zero =>
    intro i lv hb hz
    refine br_t (nI_le (by omega) (by omega)) ⟨n - 1 + 1, ?_⟩
    exact xl_25 hn16 T hn hU h (n - 1) 0 lv (fun _ => 0) (by omega) (fun j hj => hz j (by omega)) (mg_I0 fun _ _ => rfl)
  | succ d ih =>
    intro i lv hb hz
    refine br_f (nI_ge (by omega) (by omega)) ⟨vp_in_nI (by omega) (by omega), nm_r (xh_up (by omega) rfl) (nm_r (nI_1 i) ?_)⟩
    refine ih (i + 1) (upd lv i 0) (by omega) fun j hj => ?_
    by_cases e : j = i
    · rw [e, pk_us]
    · rw [pk_un e]; exact hz j (by omega)
/-- findLevels ends with the levels -/
theorem xl_find {post : SX → Prop} (hn1 : 1 ≤ n) (hn16 : n ≤ 16) (T : mg_T n G L) (hn : ∀ a b, G a b → a < n ∧ b < n) (hU : xr_U n G a_usages)
    (h : ∀ lv', xr_V n lv' L → post ((nI n), f_periodCount, f_edgeCount, f_current, a_leads, a_rules, a_params, a_onHands, a_demands, a_receipts, a_usages, lv', a_reached, a_gross, a_net, a_planned, a_release, a_projected, a_pastDue, a_stock)) : wpX_findLevels post ((nI n), f_periodCount, f_edgeCount, f_current, a_leads, a_rules, a_params, a_onHands, a_demands, a_receipts, a_usages, a_levels, a_reached, a_gross, a_net, a_planned, a_release, a_projected, a_pastDue, a_stock) := by
  unfold wpX_findLevels
  exact ⟨n + 1, xl_2 hn1 hn16 T hn hU h n 0 a_levels (by omega) (fun j hj => absurd hj (by omega))⟩

def xr_B (n : Nat) (re : Nat → Int32) : Prop := ∀ i, i < n → re i = 0 ∨ re i = 1
theorem xr_Bput {re : Nat → Int32} {b : Nat} (h : xr_B n re) : xr_B n (upd re b 1) := by
  intro i hi
  by_cases e : i = b
  · rw [e, pk_us]; exact Or.inr rfl
  · rw [pk_un e]; exact h i hi
theorem xr_rput {re : Nat → Int32} {b : Nat} (hb : b < n) (i : Nat) : (i < n ∧ upd re b 1 i = 1) ↔ (i = b ∨ (i < n ∧ re i = 1)) := by
  by_cases e : i = b
  · rw [e, pk_us]; exact ⟨fun _ => Or.inl rfl, fun _ => ⟨hb, rfl⟩⟩
  · rw [pk_un e]; exact ⟨Or.inr, fun q => q.resolve_left e⟩
theorem xr_01 : ¬ ((0 : Int32) = 1) := by decide
theorem xq_in {post : SX → Prop} {J2 : Int32 → (Nat → Int32) → (Nat → Int32) → (Nat → Int32) → (Nat → Int32) → (Nat → Int32) → (Nat → Int32) → (Nat → Int32) → (Nat → Int32) → (Nat → Int32) → (Nat → Int64) → (Nat → Int64) → (Nat → Int64) → (Nat → Int64) → (Nat → Int64) → (Nat → Int64) → (Nat → Int64) → Prop} {a s : Nat} (hn16 : n ≤ 16) (hU : xr_U n G a_usages) (ha : a < n) :
    ∀ d b re, b + d = n → xr_B n re → mg_J G s k (mg_D a b) (fun i => i < n ∧ re i = 1) →
    (∀ re', xr_B n re' → mg_J G s k (mg_D a n) (fun i => i < n ∧ re' i = 1) → J2 (nI (a + 1)) a_leads a_rules a_params a_onHands a_demands a_receipts a_usages a_levels re' a_gross a_net a_planned a_release a_projected a_pastDue a_stock) →
    wX_reachChildren_12 post J2 (nI a) (nI n) f_periodCount f_edgeCount f_current (d + 1) (nI b) a_leads a_rules a_params a_onHands a_demands a_receipts a_usages a_levels re a_gross a_net a_planned a_release a_projected a_pastDue a_stock := by
  intro d
  induction d with
  | zero =>
    intro b re hb hB J hJ
    have e : b = n := by omega
    rw [e] at J
    exact br_t (nI_le (by omega) (by omega)) (nm_r (nI_1 a) (hJ re hB J))
  | succ d ih =>
    intro b re hb hB J hJ
    have hbn : b < n := by omega
    have hu : a_usages (nI (a * 16 + b)).toNatClampNeg = a_usages (a * 16 + b) := xh_at (by omega)
    have e1 : re (nI a).toNatClampNeg = re a := xh_at (by omega)
    refine br_f (nI_ge hbn (by omega)) ⟨vp_in_nI (by omega) (by omega), ?_⟩
    by_cases hr : re a = 0
    · refine br_t (e1.trans hr) (nm_r (nI_1 b) ?_)
      refine ih (b + 1) re (by omega) hB (mg_Jkeep J (fun _ q => ?_) (fun x y q => mg_Ds q)) hJ
      exact absurd (hr.symm.trans q.2) xr_01
    · have hr1 : re a = 1 := (hB a ha).resolve_left hr
      refine br_f (fun q => hr (e1.symm.trans q)) (xh_pair ?_)
      refine ⟨vp_in_nI (by omega) (by omega), ?_⟩
      by_cases hg : G a b
      · refine br_f (by rw [hu]; exact (hU a b ha hbn).mpr hg) ⟨vp_in_nI (by omega) (by omega), ?_⟩
        refine nm_r (xh_up (by omega) xh_vb1) (nm_r (nI_1 b) ?_)
        exact ih (b + 1) (upd re b 1) (by omega) (xr_Bput hB) (mg_Jput J hg ⟨ha, hr1⟩ (fun i => xr_rput hbn i) (fun x y q => mg_Ds q)) hJ
      · refine br_t (by rw [hu]; exact Decidable.byContradiction fun q => hg ((hU a b ha hbn).mp q)) (nm_r (nI_1 b) ?_)
        exact ih (b + 1) re (by omega) hB (mg_Jkeep J (fun q => absurd q hg) (fun x y q => mg_Ds q)) hJ
theorem xq_out {post : SX → Prop} {s : Nat} (hn16 : n ≤ 16) (hn : ∀ a b, G a b → a < n ∧ b < n) (hU : xr_U n G a_usages) :
    ∀ d a re, a + d = n → xr_B n re → mg_J G s k (mg_D a 0) (fun i => i < n ∧ re i = 1) →
    (∀ re', xr_B n re' → mg_J G s (k + 1) (fun _ _ => False) (fun i => i < n ∧ re' i = 1) → post ((nI n), f_periodCount, f_edgeCount, f_current, a_leads, a_rules, a_params, a_onHands, a_demands, a_receipts, a_usages, a_levels, re', a_gross, a_net, a_planned, a_release, a_projected, a_pastDue, a_stock)) →
    wX_reachChildren_2 post (nI n) f_periodCount f_edgeCount f_current (d + 1) (nI a) a_leads a_rules a_params a_onHands a_demands a_receipts a_usages a_levels re a_gross a_net a_planned a_release a_projected a_pastDue a_stock := by
  intro d
  induction d with
  | zero =>
    intro a re hb hB J h
    have e : a = n := by omega
    rw [e] at J
    exact br_t (nI_le (by omega) (by omega)) (h re hB (mg_Jround J fun x y g => mg_De (hn x y g).1))
  | succ d ih =>
    intro a re hb hB J h
    refine br_f (nI_ge (by omega) (by omega)) ⟨n + 1, ?_⟩
    exact xq_in hn16 hU (by omega) n 0 re (by omega) hB J fun re' hB' J' =>
      ih (a + 1) re' (by omega) hB' (mg_Jany J' fun x y g q => mg_Dr (hn x y g).2 q) h
theorem xq_reach {post : SX → Prop} {s : Nat} {re : Nat → Int32} (hn16 : n ≤ 16) (hn : ∀ a b, G a b → a < n ∧ b < n) (hU : xr_U n G a_usages)
    (hB : xr_B n re) (J : mg_J G s k (fun _ _ => False) (fun i => i < n ∧ re i = 1))
    (h : ∀ re', xr_B n re' → mg_J G s (k + 1) (fun _ _ => False) (fun i => i < n ∧ re' i = 1) → post ((nI n), f_periodCount, f_edgeCount, f_current, a_leads, a_rules, a_params, a_onHands, a_demands, a_receipts, a_usages, a_levels, re', a_gross, a_net, a_planned, a_release, a_projected, a_pastDue, a_stock)) :
    wpX_reachChildren post ((nI n), f_periodCount, f_edgeCount, f_current, a_leads, a_rules, a_params, a_onHands, a_demands, a_receipts, a_usages, a_levels, re, a_gross, a_net, a_planned, a_release, a_projected, a_pastDue, a_stock) := by
  unfold wpX_reachChildren
  exact ⟨n + 1, xq_out hn16 hn hU n 0 re (by omega) hB (mg_Jany J fun x y _ q => mg_Df q) h⟩
theorem xq_34 {post : Int32 → SX → Prop} {s t : Nat} (hn16 : n ≤ 16) (T : mg_T n G L) (hn : ∀ a b, G a b → a < n ∧ b < n) (hU : xr_U n G a_usages) (hs : s < n) (ht : t < n)
    (h1 : ∀ re', (∃ j, mg_R G s j t) → post 1 ((nI n), f_periodCount, f_edgeCount, f_current, a_leads, a_rules, a_params, a_onHands, a_demands, a_receipts, a_usages, a_levels, re', a_gross, a_net, a_planned, a_release, a_projected, a_pastDue, a_stock)) (h0 : ∀ re', (¬ ∃ j, mg_R G s j t) → post 0 ((nI n), f_periodCount, f_edgeCount, f_current, a_leads, a_rules, a_params, a_onHands, a_demands, a_receipts, a_usages, a_levels, re', a_gross, a_net, a_planned, a_release, a_projected, a_pastDue, a_stock)) :
    ∀ d k re, k + 1 + d = n → xr_B n re → mg_J G s k (fun _ _ => False) (fun i => i < n ∧ re i = 1) → wX_leadsDownTo_34 post (nI t) (d + 1) (nI (k + 1)) (nI n) f_periodCount f_edgeCount f_current a_leads a_rules a_params a_onHands a_demands a_receipts a_usages a_levels re a_gross a_net a_planned a_release a_projected a_pastDue a_stock := by
  intro d
  induction d with
  | zero =>
    intro k re hb hB J
    have e1 : re (nI t).toNatClampNeg = re t := xh_at (by omega)
    have hJ := mg_Jend T hs hn J (by omega) t
    refine br_t (nI_le (by omega) (by omega)) ⟨vp_in_nI (by omega) (by omega), ?_⟩
    rw [e1]
    rcases hB t ht with e | e
    · rw [e]
      exact ⟨by decide, h0 re fun q => xr_01 (e.symm.trans (hJ.mpr q).2)⟩
    · rw [e]
      exact ⟨by decide, h1 re (hJ.mp ⟨ht, e⟩)⟩
  | succ d ih =>
    intro k re hb hB J
    refine br_f (nI_ge (by omega) (by omega)) (xq_reach hn16 hn hU hB J fun re' hB' J' => ?_)
    exact nm_r (nI_1 (k + 1)) (ih (k + 1) re' (by omega) hB' J')
theorem xq_2 {post : Int32 → SX → Prop} {s t : Nat} (hn16 : n ≤ 16) (T : mg_T n G L) (hn : ∀ a b, G a b → a < n ∧ b < n) (hU : xr_U n G a_usages) (hs : s < n) (ht : t < n)
    (h1 : ∀ re', (∃ j, mg_R G s j t) → post 1 ((nI n), f_periodCount, f_edgeCount, f_current, a_leads, a_rules, a_params, a_onHands, a_demands, a_receipts, a_usages, a_levels, re', a_gross, a_net, a_planned, a_release, a_projected, a_pastDue, a_stock)) (h0 : ∀ re', (¬ ∃ j, mg_R G s j t) → post 0 ((nI n), f_periodCount, f_edgeCount, f_current, a_leads, a_rules, a_params, a_onHands, a_demands, a_receipts, a_usages, a_levels, re', a_gross, a_net, a_planned, a_release, a_projected, a_pastDue, a_stock)) :
    ∀ d i re, i + d = n → (∀ j, j < i → re j = if j = s then 1 else 0) → wX_leadsDownTo_2 post (nI s) (nI t) (nI n) f_periodCount f_edgeCount f_current (d + 1) (nI i) a_leads a_rules a_params a_onHands a_demands a_receipts a_usages a_levels re a_gross a_net a_planned a_release a_projected a_pastDue a_stock := by
  intro d
  induction d with
  | zero =>
    intro i re hb hz
    refine br_t (nI_le (by omega) (by omega)) ⟨n - 1 + 1, ?_⟩
    refine xq_34 hn16 T hn hU hs ht h1 h0 (n - 1) 0 re (by omega) (fun j hj => ?_) (mg_J0 fun j => ?_)
    · rw [hz j (by omega)]
      by_cases e : j = s
      · rw [if_pos e]; exact Or.inr rfl
      · rw [if_neg e]; exact Or.inl rfl
    · refine ⟨fun ⟨q1, q2⟩ => ?_, fun q => ⟨by omega, ?_⟩⟩
      · rw [hz j (by omega)] at q2
        by_cases e : j = s
        · exact e
        · rw [if_neg e] at q2; exact absurd q2 xr_01
      · rw [hz j (by omega), if_pos q]
  | succ d ih =>
    intro i re hb hz
    refine br_f (nI_ge (by omega) (by omega)) ?_
    by_cases e : i = s
    · refine br_t (by rw [e]) ⟨vp_in_nI (by omega) (by omega), nm_r (xh_up (by omega) xh_vb1) (nm_r (nI_1 i) ?_)⟩
      refine ih (i + 1) (upd re i 1) (by omega) fun j hj => ?_
      by_cases e' : j = i
      · rw [e', pk_us, if_pos e]
      · rw [pk_un e']; exact hz j (by omega)
    · refine br_f (fun q => e ((nI_eq (by omega) (by omega)).mp q)) ⟨vp_in_nI (by omega) (by omega), nm_r (xh_up (by omega) xh_vb0) (nm_r (nI_1 i) ?_)⟩
      refine ih (i + 1) (upd re i 0) (by omega) fun j hj => ?_
      by_cases e' : j = i
      · rw [e', pk_us, if_neg e]
      · rw [pk_un e']; exact hz j (by omega)
theorem xq_lead {post : Int32 → SX → Prop} {s t : Nat} (hn1 : 1 ≤ n) (hn16 : n ≤ 16) (T : mg_T n G L) (hn : ∀ a b, G a b → a < n ∧ b < n) (hU : xr_U n G a_usages) (hs : s < n) (ht : t < n)
    (h1 : ∀ re', (∃ j, mg_R G s j t) → post 1 ((nI n), f_periodCount, f_edgeCount, f_current, a_leads, a_rules, a_params, a_onHands, a_demands, a_receipts, a_usages, a_levels, re', a_gross, a_net, a_planned, a_release, a_projected, a_pastDue, a_stock)) (h0 : ∀ re', (¬ ∃ j, mg_R G s j t) → post 0 ((nI n), f_periodCount, f_edgeCount, f_current, a_leads, a_rules, a_params, a_onHands, a_demands, a_receipts, a_usages, a_levels, re', a_gross, a_net, a_planned, a_release, a_projected, a_pastDue, a_stock)) :
    wpX_leadsDownTo post ((nI n), f_periodCount, f_edgeCount, f_current, a_leads, a_rules, a_params, a_onHands, a_demands, a_receipts, a_usages, a_levels, a_reached, a_gross, a_net, a_planned, a_release, a_projected, a_pastDue, a_stock) (nI s) (nI t) := by
  unfold wpX_leadsDownTo
  exact ⟨n + 1, xq_2 hn16 T hn hU hs ht h1 h0 n 0 a_reached (by omega) (fun j hj => absurd hj (by omega))⟩
end
