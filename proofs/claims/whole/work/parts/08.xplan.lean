/-! the component's plan, row by row, against the picture -/
section
variable {n p : Nat} {f_edgeCount f_current : Int32} {a_leads a_rules a_params a_onHands a_demands a_receipts a_usages a_levels a_reached : Nat → Int32} {a_gross a_net a_planned a_release a_projected a_pastDue a_stock : Nat → Int64}
theorem xg_take {post : Int64 → Prop} {i t : Nat} (hn16 : n ≤ 16) (hi : i < n) (ht : t < 16) (h : post (ms_s (fun a => (a_usages (a * 16 + i)).toInt64 * a_release (a * 16 + t)) n)) :
    ∀ d a, a + d = n → wX_parentsTake_5 post (nI i) (nI t) (nI n) (nI p) f_edgeCount f_current a_leads a_rules a_params a_onHands a_demands a_receipts a_usages a_levels a_reached a_gross a_net a_planned a_release a_projected a_pastDue a_stock (d + 1) (ms_s (fun a => (a_usages (a * 16 + i)).toInt64 * a_release (a * 16 + t)) a) (nI a) := by
  intro d
  induction d with
  | zero =>
    intro a ha
    have e : a = n := by omega
    rw [e]
    exact br_t (nI_le (by omega) (by omega)) h
  | succ d ih =>
    intro a ha
    refine br_f (nI_ge (by omega) (by omega)) (xh_pair ?_)
    refine ⟨vp_in_nI (by omega) (by omega), xh_cell ?_⟩
    refine ⟨vp_in_nI (by omega) (by omega), nm_r (e' := ms_s (fun a => (a_usages (a * 16 + i)).toInt64 * a_release (a * 16 + t)) (a + 1)) ?_ (nm_r (nI_1 a) (ih (a + 1) (by omega)))⟩
    rw [nI_clamp (by omega), nI_clamp (by omega)]
    rfl
theorem xg_takes {post : Int64 → Prop} {i t : Nat} (hn16 : n ≤ 16) (hi : i < n) (ht : t < 16) (h : post (ms_s (fun a => (a_usages (a * 16 + i)).toInt64 * a_release (a * 16 + t)) n)) :
    wpX_parentsTake post ((nI n), (nI p), f_edgeCount, f_current, a_leads, a_rules, a_params, a_onHands, a_demands, a_receipts, a_usages, a_levels, a_reached, a_gross, a_net, a_planned, a_release, a_projected, a_pastDue, a_stock) (nI i) (nI t) := by
  unfold wpX_parentsTake
  exact ⟨n + 1, xg_take hn16 hi ht h n 0 (by omega)⟩
theorem xg_gross2 {post : Int32 → SX → Prop} {i : Nat} {g : Nat → Int64} (hn16 : n ≤ 16) (hp16 : p ≤ 16) (hi : i < n)
    (hg : ∀ t, t < p → (a_demands (i * 16 + t)).toInt64 + ms_s (fun a => (a_usages (a * 16 + i)).toInt64 * a_release (a * 16 + t)) n = g t)
    (h1 : ∀ gr', (∀ t, t < p → g t ≤ 1000000000000) → (∀ t, t < p → gr' (i * 16 + t) = g t) → pp_o i a_gross gr' → post 1 ((nI n), (nI p), f_edgeCount, f_current, a_leads, a_rules, a_params, a_onHands, a_demands, a_receipts, a_usages, a_levels, a_reached, gr', a_net, a_planned, a_release, a_projected, a_pastDue, a_stock))
    (h0 : ∀ gr', (∃ t, t < p ∧ ¬ g t ≤ 1000000000000) → post 0 ((nI n), (nI p), f_edgeCount, f_current, a_leads, a_rules, a_params, a_onHands, a_demands, a_receipts, a_usages, a_levels, a_reached, gr', a_net, a_planned, a_release, a_projected, a_pastDue, a_stock)) :
    ∀ d t gr, t + d = p → (∀ s, s < t → gr (i * 16 + s) = g s ∧ g s ≤ 1000000000000) → pp_o i a_gross gr → wX_findGross_2 post (nI i) (nI n) (nI p) f_edgeCount f_current (d + 1) (nI t) a_leads a_rules a_params a_onHands a_demands a_receipts a_usages a_levels a_reached gr a_net a_planned a_release a_projected a_pastDue a_stock := by
  intro d
  induction d with
  | zero =>
    intro t gr ht hz ho
    exact br_t (nI_le (by omega) (by omega)) (h1 gr (fun s hs => (hz s (by omega)).2) (fun s hs => (hz s (by omega)).1) ho)
  | succ d ih =>
    intro t gr ht hz ho
    have htp : t < p := by omega
    have vc : vp_in (nI (i * 16 + t)) 256 := vp_in_nI (by omega) (by omega)
    have ec : (nI (i * 16 + t)).toNatClampNeg = i * 16 + t := nI_clamp (by omega)
    refine br_f (nI_ge (by omega) (by omega)) (xh_cell ?_)
    refine ⟨vc, xg_takes hn16 hi (by omega) ?_⟩
    refine ⟨vc, nm_r (e' := vp_updL gr (i * 16 + t) (g t)) (by rw [ec, hg t htp]) ⟨vc, ?_⟩⟩
    have e2 : vp_updL gr (i * 16 + t) (g t) (nI (i * 16 + t)).toNatClampNeg = g t := by rw [ec, pk_uLs]
    by_cases q : g t ≤ 1000000000000
    · refine br_t (by rw [e2]; exact q) (nm_r (nI_1 t) (ih (t + 1) _ (by omega) (fun s hs => ?_) (pp_op ho (by omega))))
      by_cases e : s = t
      · rw [e, pk_uLs]; exact ⟨rfl, q⟩
      · rw [pk_uLn (by omega)]; exact hz s (by omega)
    · exact br_f (by rw [e2]; exact q) (h0 _ ⟨t, htp, q⟩)
theorem xg_gross {post : Int32 → SX → Prop} {i : Nat} {g : Nat → Int64} (hn16 : n ≤ 16) (hp16 : p ≤ 16) (hi : i < n)
    (hg : ∀ t, t < p → (a_demands (i * 16 + t)).toInt64 + ms_s (fun a => (a_usages (a * 16 + i)).toInt64 * a_release (a * 16 + t)) n = g t)
    (h1 : ∀ gr', (∀ t, t < p → g t ≤ 1000000000000) → (∀ t, t < p → gr' (i * 16 + t) = g t) → pp_o i a_gross gr' → post 1 ((nI n), (nI p), f_edgeCount, f_current, a_leads, a_rules, a_params, a_onHands, a_demands, a_receipts, a_usages, a_levels, a_reached, gr', a_net, a_planned, a_release, a_projected, a_pastDue, a_stock))
    (h0 : ∀ gr', (∃ t, t < p ∧ ¬ g t ≤ 1000000000000) → post 0 ((nI n), (nI p), f_edgeCount, f_current, a_leads, a_rules, a_params, a_onHands, a_demands, a_receipts, a_usages, a_levels, a_reached, gr', a_net, a_planned, a_release, a_projected, a_pastDue, a_stock)) : wpX_findGross post ((nI n), (nI p), f_edgeCount, f_current, a_leads, a_rules, a_params, a_onHands, a_demands, a_receipts, a_usages, a_levels, a_reached, a_gross, a_net, a_planned, a_release, a_projected, a_pastDue, a_stock) (nI i) := by
  unfold wpX_findGross
  exact ⟨p + 1, xg_gross2 hn16 hp16 hi hg h1 h0 p 0 a_gross (by omega) (fun s hs => absurd hs (by omega)) (pp_or i a_gross)⟩
/-! lots -/
theorem xg_gl {post : Int64 → Prop} {i t w : Nat} {g rc : Nat → Int64} {pv : Int64} (hi : i < 16) (hp16 : p ≤ 16) (hw : t + w ≤ p)
    (hg : ∀ s, s < p → a_gross (i * 16 + s) = g s) (hr : ∀ s, s < p → (a_receipts (i * 16 + s)).toInt64 = rc s)
    (h : post (mr_mx (mr_lk g rc pv t) 0 w)) :
    ∀ d k, k + d = w → wX_greatestLack_10 post (nI (i * 16 + t)) (nI w) (nI n) (nI p) f_edgeCount f_current a_leads a_rules a_params a_onHands a_demands a_receipts a_usages a_levels a_reached a_gross a_net a_planned a_release a_projected a_pastDue a_stock (d + 1) (mr_lk g rc pv t k) (mr_mx (mr_lk g rc pv t) 0 k) (nI k) := by
  intro d
  induction d with
  | zero =>
    intro k hk
    have e : k = w := by omega
    rw [e]
    exact br_t (nI_le (by omega) (by omega)) h
  | succ d ih =>
    intro k hk
    have ec : (nI (i * 16 + (t + k))).toNatClampNeg = i * 16 + (t + k) := nI_clamp (by omega)
    have vc : vp_in (nI (i * 16 + (t + k))) 256 := vp_in_nI (by omega) (by omega)
    refine br_f (nI_ge (by omega) (by omega)) (nm_r (e' := nI (i * 16 + (t + k))) (by rw [nI_add, Nat.add_assoc]) ⟨vc, vc, ?_⟩)
    refine nm_r (e' := mr_lk g rc pv t (k + 1)) (by rw [ec, hg _ (by omega), hr _ (by omega)]; rfl) ?_
    have em : mr_mx (mr_lk g rc pv t) 0 (k + 1) = if mr_mx (mr_lk g rc pv t) 0 k < mr_lk g rc pv t (k + 1) then mr_lk g rc pv t (k + 1) else mr_mx (mr_lk g rc pv t) 0 k := rfl
    have I := ih (k + 1) (by omega)
    by_cases q : mr_mx (mr_lk g rc pv t) 0 k < mr_lk g rc pv t (k + 1)
    · rw [em, if_pos q] at I
      exact br_f (Int64.not_le.mpr q) (nm_r (nI_1 k) I)
    · rw [em, if_neg q] at I
      exact br_t (Int64.not_lt.mp q) (nm_r (nI_1 k) I)
theorem xg_gls {post : Int64 → Prop} {i t w : Nat} {g rc : Nat → Int64} {pv : Int64} (hi : i < 16) (hp16 : p ≤ 16) (hw : t + w ≤ p)
    (hg : ∀ s, s < p → a_gross (i * 16 + s) = g s) (hr : ∀ s, s < p → (a_receipts (i * 16 + s)).toInt64 = rc s)
    (h : post (mr_mx (mr_lk g rc pv t) 0 w)) : wpX_greatestLack post ((nI n), (nI p), f_edgeCount, f_current, a_leads, a_rules, a_params, a_onHands, a_demands, a_receipts, a_usages, a_levels, a_reached, a_gross, a_net, a_planned, a_release, a_projected, a_pastDue, a_stock) (nI (i * 16 + t)) (nI w) pv := by
  unfold wpX_greatestLack
  exact nm_e ⟨w + 1, xg_gl hi hp16 hw hg hr h w 0 (by omega)⟩
theorem xg_lot {post : Int64 → Prop} {i t q : Nat} {g rc : Nat → Int64} {pv : Int64} (hi : i < 16) (hp16 : p ≤ 16) (ht : t < p)
    (hg : ∀ s, s < p → a_gross (i * 16 + s) = g s) (hr : ∀ s, s < p → (a_receipts (i * 16 + s)).toInt64 = rc s)
    (hq : a_params i = nI q) (hq1 : q ≤ 10000) (hq2 : a_rules i = 1 → 1 ≤ q) (hq3 : a_rules i = 2 → 1 ≤ q ∧ q ≤ 8) (hl : 0 < mr_lack g rc t pv) (hnet : a_net (i * 16 + t) = mr_lack g rc t pv)
    (h : post (mr_lot (a_rules i) q p g rc t pv (mr_lack g rc t pv))) : wpX_lotSize post ((nI n), (nI p), f_edgeCount, f_current, a_leads, a_rules, a_params, a_onHands, a_demands, a_receipts, a_usages, a_levels, a_reached, a_gross, a_net, a_planned, a_release, a_projected, a_pastDue, a_stock) (nI i) (nI t) pv := by
  have vi : vp_in (nI i) 16 := vp_in_nI hi (by omega)
  have ei : (nI i).toNatClampNeg = i := nI_clamp (by omega)
  have ec : (nI (i * 16 + t)).toNatClampNeg = i * 16 + t := nI_clamp (by omega)
  have vc : vp_in (nI (i * 16 + t)) 256 := vp_in_nI (by omega) (by omega)
  unfold wpX_lotSize
  refine xh_cell ?_
  refine ⟨vi, nm_r (e' := nI q) (by rw [ei, hq]) ⟨vi, ?_⟩⟩
  rw [ei]
  unfold mr_lot at h
  by_cases c1 : a_rules i = 1
  · have q1 := hq2 c1
    rw [if_pos c1] at h
    refine br_t c1 (br_f (fun z => absurd ((nI_leI (b := 0) (by omega) (by omega)).mp z) (by omega)) ⟨vc, ?_⟩)
    rw [nI_l (by omega)]
    refine ⟨fun z => absurd ((lN_eq (b := 0) (by omega) (by omega)).mp z) (by omega), ?_⟩
    rw [ec, hnet]
    exact h
  · rw [if_neg c1] at h
    refine br_f c1 ?_
    unfold wX_lotSize_52
    refine ⟨vi, ?_⟩
    rw [ei]
    by_cases c2 : a_rules i = 2
    · have q1 := hq3 c2
      rw [if_pos c2] at h
      have hw : ∀ w, w = (if q < p - t then q else p - t) → post (mr_mx (mr_lk g rc pv t) 0 w) := by
        intro w ew
        rw [← ew] at h
        obtain ⟨w', rfl⟩ : ∃ w', w = w' + 1 := ⟨w - 1, by rw [ew]; split <;> omega⟩
        rw [mr_mx1 (z := mr_lack g rc t pv) (mr_lk1 g rc pv t) hl]
        exact h
      refine br_t c2 (nm_r (e' := nI (p - t)) (pk_sub (by omega)) ?_)
      by_cases c3 : p - t ≤ q
      · refine br_t (nI_le c3 (by omega)) ?_
        unfold wX_lotSize_84
        exact xg_gls hi hp16 (by omega) hg hr (hw (p - t) (by rw [if_neg (by omega)]))
      · refine br_f (nI_ge (by omega) (by omega)) ?_
        unfold wX_lotSize_84
        exact xg_gls hi hp16 (by omega) hg hr (hw q (by rw [if_pos (by omega)]))
    · rw [if_neg c2] at h
      refine br_f c2 ⟨vc, ?_⟩
      rw [ec, hnet]
      exact h
theorem xg_93 {post : SX → Prop} {J11 : Int64 → Int32 → (Nat → Int32) → (Nat → Int32) → (Nat → Int32) → (Nat → Int32) → (Nat → Int32) → (Nat → Int32) → (Nat → Int32) → (Nat → Int32) → (Nat → Int32) → (Nat → Int64) → (Nat → Int64) → (Nat → Int64) → (Nat → Int64) → (Nat → Int64) → (Nat → Int64) → (Nat → Int64) → Prop} {i t : Nat} {g rc : Nat → Int64} {pv z : Int64} (hi : i < 16) (hp16 : p ≤ 16) (ht : t < p)
    (hg : ∀ s, s < p → a_gross (i * 16 + s) = g s) (hr : ∀ s, s < p → (a_receipts (i * 16 + s)).toInt64 = rc s)
    (h : J11 (pv + rc t + z - g t) (nI (t + 1)) a_leads a_rules a_params a_onHands a_demands a_receipts a_usages a_levels a_reached a_gross a_net (vp_updL a_planned (i * 16 + t) z) a_release (vp_updL a_projected (i * 16 + t) (pv + rc t + z - g t)) a_pastDue a_stock) :
    wX_findPlanned_93 post J11 (nI i) pv (nI t) (nI (i * 16 + t)) z (nI (i * 16 + t)) (nI n) (nI p) f_edgeCount f_current a_leads a_rules a_params a_onHands a_demands a_receipts a_usages a_levels a_reached a_gross a_net a_planned a_release a_projected a_pastDue a_stock := by
  have ec : (nI (i * 16 + t)).toNatClampNeg = i * 16 + t := nI_clamp (by omega)
  have vc : vp_in (nI (i * 16 + t)) 256 := vp_in_nI (by omega) (by omega)
  unfold wX_findPlanned_93
  refine ⟨vc, nm_r (xh_upL (by omega) rfl) ⟨vc, vc, vc, vc, nm_r (xh_upL (y := pv + rc t + z - g t) (by omega) ?_) ⟨vc, nm_r (e' := pv + rc t + z - g t) ?_ (nm_r (nI_1 t) h)⟩⟩⟩
  · rw [ec, hr t ht, pk_uLs, hg t ht]
  · rw [ec, pk_uLs]
theorem xg_plan11 {post : SX → Prop} {i q : Nat} {g rc : Nat → Int64} (hi : i < 16) (hp16 : p ≤ 16)
    (hg : ∀ s, s < p → a_gross (i * 16 + s) = g s) (hr : ∀ s, s < p → (a_receipts (i * 16 + s)).toInt64 = rc s)
    (hq : a_params i = nI q) (hq1 : q ≤ 10000) (hq2 : a_rules i = 1 → 1 ≤ q) (hq3 : a_rules i = 2 → 1 ≤ q ∧ q ≤ 8)
    (h : ∀ ne' pl' pj', (∀ t, t < p → ne' (i * 16 + t) = mr_net g rc t (mr_pv (a_rules i) q p g rc (a_onHands i).toInt64 t)) → (∀ t, t < p → pl' (i * 16 + t) = mr_P (a_rules i) q p g rc (a_onHands i).toInt64 t) →
      (∀ t, t < p → pj' (i * 16 + t) = mr_pv (a_rules i) q p g rc (a_onHands i).toInt64 (t + 1)) → pp_o i a_net ne' → pp_o i a_planned pl' → pp_o i a_projected pj' → post ((nI n), (nI p), f_edgeCount, f_current, a_leads, a_rules, a_params, a_onHands, a_demands, a_receipts, a_usages, a_levels, a_reached, a_gross, ne', pl', a_release, pj', a_pastDue, a_stock)) :
    ∀ d t ne pl pj, t + d = p → (∀ s, s < t → ne (i * 16 + s) = mr_net g rc s (mr_pv (a_rules i) q p g rc (a_onHands i).toInt64 s)) → (∀ s, s < t → pl (i * 16 + s) = mr_P (a_rules i) q p g rc (a_onHands i).toInt64 s) →
      (∀ s, s < t → pj (i * 16 + s) = mr_pv (a_rules i) q p g rc (a_onHands i).toInt64 (s + 1)) → pp_o i a_net ne → pp_o i a_planned pl → pp_o i a_projected pj →
      wX_findPlanned_11 post (nI i) (nI n) (nI p) f_edgeCount f_current (d + 1) (mr_pv (a_rules i) q p g rc (a_onHands i).toInt64 t) (nI t) a_leads a_rules a_params a_onHands a_demands a_receipts a_usages a_levels a_reached a_gross ne pl a_release pj a_pastDue a_stock := by
  intro d
  induction d with
  | zero =>
    intro t ne pl pj ht z1 z2 z3 o1 o2 o3
    exact br_t (nI_le (by omega) (by omega)) (h ne pl pj (fun s hs => z1 s (by omega)) (fun s hs => z2 s (by omega)) (fun s hs => z3 s (by omega)) o1 o2 o3)
  | succ d ih =>
    intro t ne pl pj ht z1 z2 z3 o1 o2 o3
    have htp : t < p := by omega
    have ec : (nI (i * 16 + t)).toNatClampNeg = i * 16 + t := nI_clamp (by omega)
    have vc : vp_in (nI (i * 16 + t)) 256 := vp_in_nI (by omega) (by omega)
    have key : ∀ (nt lot : Int64), nt = mr_net g rc t (mr_pv (a_rules i) q p g rc (a_onHands i).toInt64 t) → lot = mr_P (a_rules i) q p g rc (a_onHands i).toInt64 t →
        wX_findPlanned_11 post (nI i) (nI n) (nI p) f_edgeCount f_current (d + 1) (mr_pv (a_rules i) q p g rc (a_onHands i).toInt64 t + rc t + lot - g t) (nI (t + 1)) a_leads a_rules a_params a_onHands a_demands a_receipts a_usages a_levels a_reached a_gross (vp_updL ne (i * 16 + t) nt) (vp_updL pl (i * 16 + t) lot) a_release (vp_updL pj (i * 16 + t) (mr_pv (a_rules i) q p g rc (a_onHands i).toInt64 t + rc t + lot - g t)) a_pastDue a_stock := by
      intro nt lot e1 e2
      have e3 : mr_pv (a_rules i) q p g rc (a_onHands i).toInt64 t + rc t + lot - g t = mr_pv (a_rules i) q p g rc (a_onHands i).toInt64 (t + 1) := by rw [e2]; rfl
      rw [e3]
      refine ih (t + 1) _ _ _ (by omega) (fun s hs => ?_) (fun s hs => ?_) (fun s hs => ?_) (pp_op o1 (by omega)) (pp_op o2 (by omega)) (pp_op o3 (by omega))
      · by_cases e : s = t
        · rw [e, pk_uLs]; exact e1
        · rw [pk_uLn (by omega)]; exact z1 s (by omega)
      · by_cases e : s = t
        · rw [e, pk_uLs]; exact e2
        · rw [pk_uLn (by omega)]; exact z2 s (by omega)
      · by_cases e : s = t
        · rw [e, pk_uLs]
        · rw [pk_uLn (by omega)]; exact z3 s (by omega)
    refine br_f (nI_ge (by omega) (by omega)) (xh_cell ?_)
    refine ⟨vc, vc, nm_r (e' := mr_lack g rc t (mr_pv (a_rules i) q p g rc (a_onHands i).toInt64 t)) (by rw [ec, hg t htp, hr t htp]; rfl) ?_⟩
    by_cases c : 0 < mr_lack g rc t (mr_pv (a_rules i) q p g rc (a_onHands i).toInt64 t)
    · refine br_f (Int64.not_le.mpr c) ?_
      unfold wX_findPlanned_67
      refine ⟨vc, nm_r (xh_upL (by omega) rfl) (br_f (Int64.not_le.mpr c) ?_)⟩
      refine xg_lot hi hp16 htp hg hr hq hq1 hq2 hq3 c pk_uLs ?_
      refine xg_93 hi hp16 htp hg hr (key _ _ ?_ ?_)
      · unfold mr_net; rw [if_pos c]
      · unfold mr_P mr_pl; rw [if_pos c]
    · refine br_t (Int64.not_lt.mp c) ?_
      unfold wX_findPlanned_67
      refine ⟨vc, nm_r (xh_upL (by omega) rfl) (br_t (Int64.not_lt.mp c) ?_)⟩
      refine xg_93 hi hp16 htp hg hr (key _ _ ?_ ?_)
      · unfold mr_net; rw [if_neg c]
      · unfold mr_P mr_pl; rw [if_neg c]
theorem xg_plan {post : SX → Prop} {i q : Nat} {g rc : Nat → Int64} (hi : i < 16) (hp16 : p ≤ 16)
    (hg : ∀ s, s < p → a_gross (i * 16 + s) = g s) (hr : ∀ s, s < p → (a_receipts (i * 16 + s)).toInt64 = rc s)
    (hq : a_params i = nI q) (hq1 : q ≤ 10000) (hq2 : a_rules i = 1 → 1 ≤ q) (hq3 : a_rules i = 2 → 1 ≤ q ∧ q ≤ 8)
    (h : ∀ ne' pl' pj', (∀ t, t < p → ne' (i * 16 + t) = mr_net g rc t (mr_pv (a_rules i) q p g rc (a_onHands i).toInt64 t)) → (∀ t, t < p → pl' (i * 16 + t) = mr_P (a_rules i) q p g rc (a_onHands i).toInt64 t) →
      (∀ t, t < p → pj' (i * 16 + t) = mr_pv (a_rules i) q p g rc (a_onHands i).toInt64 (t + 1)) → pp_o i a_net ne' → pp_o i a_planned pl' → pp_o i a_projected pj' → post ((nI n), (nI p), f_edgeCount, f_current, a_leads, a_rules, a_params, a_onHands, a_demands, a_receipts, a_usages, a_levels, a_reached, a_gross, ne', pl', a_release, pj', a_pastDue, a_stock)) :
    wpX_findPlanned post ((nI n), (nI p), f_edgeCount, f_current, a_leads, a_rules, a_params, a_onHands, a_demands, a_receipts, a_usages, a_levels, a_reached, a_gross, a_net, a_planned, a_release, a_projected, a_pastDue, a_stock) (nI i) := by
  unfold wpX_findPlanned
  refine ⟨vp_in_nI hi (by omega), nm_r (e' := (a_onHands i).toInt64) (by rw [nI_clamp (by omega)]) ⟨p + 1, ?_⟩⟩
  exact xg_plan11 hi hp16 hg hr hq hq1 hq2 hq3 h p 0 a_net a_planned a_projected (by omega) (fun s hs => absurd hs (by omega)) (fun s hs => absurd hs (by omega)) (fun s hs => absurd hs (by omega)) (pp_or i _) (pp_or i _) (pp_or i _)
/-! releases -/
theorem xg_83 {post : SX → Prop} {J36 : Int32 → (Nat → Int32) → (Nat → Int32) → (Nat → Int32) → (Nat → Int32) → (Nat → Int32) → (Nat → Int32) → (Nat → Int32) → (Nat → Int32) → (Nat → Int32) → (Nat → Int64) → (Nat → Int64) → (Nat → Int64) → (Nat → Int64) → (Nat → Int64) → (Nat → Int64) → (Nat → Int64) → Prop} {i t s : Nat} {z : Int64} (hi : i < 16) (hs : s < 16)
    (h : J36 (nI (t + 1)) a_leads a_rules a_params a_onHands a_demands a_receipts a_usages a_levels a_reached a_gross a_net a_planned (vp_updL a_release (i * 16 + s) (a_release (i * 16 + s) + z)) a_projected a_pastDue a_stock) :
    wX_findReleases_83 post J36 (nI i) (nI t) z (nI s) (nI n) (nI p) f_edgeCount f_current a_leads a_rules a_params a_onHands a_demands a_receipts a_usages a_levels a_reached a_gross a_net a_planned a_release a_projected a_pastDue a_stock := by
  have ec : (nI (i * 16 + s)).toNatClampNeg = i * 16 + s := nI_clamp (by omega)
  have vc : vp_in (nI (i * 16 + s)) 256 := vp_in_nI (by omega) (by omega)
  unfold wX_findReleases_83
  refine xh_cell ?_
  exact ⟨vc, vc, nm_r (xh_upL (by omega) (by rw [ec])) (nm_r (nI_1 t) h)⟩
theorem xg_rel36 {post : SX → Prop} {i l : Nat} {lot : Nat → Int64} (hi : i < 16) (hp16 : p ≤ 16) (hl : a_leads i = nI l) (hl8 : l ≤ 8) (hlot : ∀ s, s < p → a_planned (i * 16 + s) = lot s)
    (h : ∀ rl' pd', (∀ s, s < p → rl' (i * 16 + s) = mr_rl lot l s p) → pd' i = mr_pd lot l p → pp_o i a_release rl' → (∀ a, a ≠ i → pd' a = a_pastDue a) → post ((nI n), (nI p), f_edgeCount, f_current, a_leads, a_rules, a_params, a_onHands, a_demands, a_receipts, a_usages, a_levels, a_reached, a_gross, a_net, a_planned, rl', a_projected, pd', a_stock)) :
    ∀ d t rl pd, t + d = p → (∀ s, s < p → rl (i * 16 + s) = mr_rl lot l s t) → pd i = mr_pd lot l t → pp_o i a_release rl → (∀ a, a ≠ i → pd a = a_pastDue a) →
      wX_findReleases_36 post (nI i) (nI n) (nI p) f_edgeCount f_current (d + 1) (nI t) a_leads a_rules a_params a_onHands a_demands a_receipts a_usages a_levels a_reached a_gross a_net a_planned rl a_projected pd a_stock := by
  intro d
  induction d with
  | zero =>
    intro t rl pd ht z1 z2 o1 o2
    have e : t = p := by omega
    rw [e] at z1 z2
    exact br_t (nI_le (by omega) (by omega)) (h rl pd z1 z2 o1 o2)
  | succ d ih =>
    intro t rl pd ht z1 z2 o1 o2
    have htp : t < p := by omega
    have ec : (nI (i * 16 + t)).toNatClampNeg = i * 16 + t := nI_clamp (by omega)
    have ei : (nI i).toNatClampNeg = i := nI_clamp (by omega)
    have vc : vp_in (nI (i * 16 + t)) 256 := vp_in_nI (by omega) (by omega)
    have vi : vp_in (nI i) 16 := vp_in_nI (by omega) (by omega)
    have key : ∀ s, s < p → vp_updL rl (i * 16 + (t - l)) (rl (i * 16 + (t - l)) + lot t) (i * 16 + s) = mr_rl lot l s (t + 1) := by
      intro s hs
      show _ = mr_rl lot l s t + (if t - l = s then lot t else 0)
      by_cases e : t - l = s
      · rw [if_pos e, e, pk_uLs, z1 s hs]
      · rw [if_neg e, pk_uLn (by omega), z1 s hs, Int64.add_zero]
    refine br_f (nI_ge (by omega) (by omega)) (xh_cell ?_)
    refine ⟨vc, nm_r (e' := lot t) (by rw [ec, hlot t htp]) ⟨vi, ?_⟩⟩
    by_cases c : l ≤ t
    · refine nm_r (e' := nI (t - l)) (by rw [ei, hl, pk_sub c]) (br_t (nI_pos' (by omega)) (xg_83 hi (by omega) ?_))
      refine ih (t + 1) _ _ (by omega) key ?_ (pp_op o1 (by omega)) o2
      show pd i = mr_pd lot l t + (if t < l then lot t else 0)
      rw [if_neg (by omega), z2, Int64.add_zero]
    · refine nm_e (br_f ?_ ⟨vi, vi, nm_r (xh_upL (by omega) rfl) (xg_83 (s := 0) hi (by omega) ?_)⟩)
      · rw [ei, hl]; exact Int32.not_le.mpr (pk_sneg (by omega) (by omega))
      · rw [ei]
        have e0 : t - l = 0 := by omega
        rw [e0] at key
        refine ih (t + 1) _ _ (by omega) key ?_ (pp_op o1 (by omega)) (fun a ha => ?_)
        · rw [pk_uLs, z2]
          show _ = mr_pd lot l t + (if t < l then lot t else 0)
          rw [if_pos (by omega)]
        · rw [pk_uLn ha]; exact o2 a ha
theorem xg_rel9 {post : SX → Prop} {i l : Nat} {lot : Nat → Int64} (hi : i < 16) (hp16 : p ≤ 16) (hl : a_leads i = nI l) (hl8 : l ≤ 8) (hlot : ∀ s, s < p → a_planned (i * 16 + s) = lot s)
    (h : ∀ rl' pd', (∀ s, s < p → rl' (i * 16 + s) = mr_rl lot l s p) → pd' i = mr_pd lot l p → pp_o i a_release rl' → (∀ a, a ≠ i → pd' a = a_pastDue a) → post ((nI n), (nI p), f_edgeCount, f_current, a_leads, a_rules, a_params, a_onHands, a_demands, a_receipts, a_usages, a_levels, a_reached, a_gross, a_net, a_planned, rl', a_projected, pd', a_stock)) :
    ∀ d t rl, t + d = p → (∀ s, s < t → rl (i * 16 + s) = 0) → pp_o i a_release rl →
      wX_findReleases_9 post (nI i) (nI n) (nI p) f_edgeCount f_current (d + 1) (nI t) a_leads a_rules a_params a_onHands a_demands a_receipts a_usages a_levels a_reached a_gross a_net a_planned rl a_projected (vp_updL a_pastDue i 0) a_stock := by
  intro d
  induction d with
  | zero =>
    intro t rl ht z1 o1
    refine br_t (nI_le (by omega) (by omega)) ⟨p + 1, ?_⟩
    exact xg_rel36 hi hp16 hl hl8 hlot h p 0 rl _ (by omega) (fun s hs => z1 s (by omega)) pk_uLs o1 (fun a ha => pk_uLn ha)
  | succ d ih =>
    intro t rl ht z1 o1
    refine br_f (nI_ge (by omega) (by omega)) (xh_cell ?_)
    refine ⟨vp_in_nI (by omega) (by omega), nm_r (xh_upL (by omega) rfl) (nm_r (nI_1 t) (ih (t + 1) _ (by omega) (fun s hs => ?_) (pp_op o1 (by omega))))⟩
    by_cases e : s = t
    · rw [e, pk_uLs]
    · rw [pk_uLn (by omega)]; exact z1 s (by omega)
theorem xg_rel {post : SX → Prop} {i l : Nat} {lot : Nat → Int64} (hi : i < 16) (hp16 : p ≤ 16) (hl : a_leads i = nI l) (hl8 : l ≤ 8) (hlot : ∀ s, s < p → a_planned (i * 16 + s) = lot s)
    (h : ∀ rl' pd', (∀ s, s < p → rl' (i * 16 + s) = mr_rl lot l s p) → pd' i = mr_pd lot l p → pp_o i a_release rl' → (∀ a, a ≠ i → pd' a = a_pastDue a) → post ((nI n), (nI p), f_edgeCount, f_current, a_leads, a_rules, a_params, a_onHands, a_demands, a_receipts, a_usages, a_levels, a_reached, a_gross, a_net, a_planned, rl', a_projected, pd', a_stock)) :
    wpX_findReleases post ((nI n), (nI p), f_edgeCount, f_current, a_leads, a_rules, a_params, a_onHands, a_demands, a_receipts, a_usages, a_levels, a_reached, a_gross, a_net, a_planned, a_release, a_projected, a_pastDue, a_stock) (nI i) := by
  unfold wpX_findReleases
  exact ⟨vp_in_nI hi (by omega), nm_r (xh_upL (by omega) rfl) ⟨p + 1, xg_rel9 hi hp16 hl hl8 hlot h p 0 a_release (by omega) (fun s hs => absurd hs (by omega)) (pp_or i _)⟩⟩
end
