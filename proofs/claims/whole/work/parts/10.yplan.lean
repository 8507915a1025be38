/-! the reference's plan of one item -/
section
variable {n p m : Nat} {P C U : Nat → Nat} {f_hasPlan f_current : Int32} {a_lead a_rule a_param a_onHand a_demand a_receipt a_ep a_ec a_eu a_lvl a_reach : Nat → Int32} {a_gross a_net a_planned a_release a_projected a_pastDue a_stock : Nat → Int64}
theorem yg_29 {post : Int32 → SY → Prop} {J7 : Int32 → (Nat → Int32) → (Nat → Int32) → (Nat → Int32) → (Nat → Int32) → (Nat → Int32) → (Nat → Int32) → (Nat → Int32) → (Nat → Int32) → (Nat → Int32) → (Nat → Int64) → (Nat → Int64) → (Nat → Int64) → (Nat → Int64) → (Nat → Int64) → (Nat → Int64) → (Nat → Int64) → (Nat → Int32) → (Nat → Int32) → Prop} {i t : Nat} {Rl : Nat → Nat → Int64} {g : Int64} (hn16 : n ≤ 16) (hm : m ≤ 32) (hi : i < n) (ht : t < 16) (E : ye_E n m P C U a_ep a_ec a_eu)
    (hR : ∀ e, e < m → C e = i → a_release (P e * 16 + t) = Rl (P e) t)
    (hg : (a_demand (i * 16 + t)).toInt64 + ms_s (fun e => if C e = i then lN (U e) * Rl (P e) t else 0) m = g)
    (h1 : g ≤ 1000000000000 → J7 (nI (t + 1)) a_lead a_rule a_param a_onHand a_demand a_receipt a_ep a_ec a_eu (vp_updL a_gross (i * 16 + t) g) a_net a_planned a_release a_projected a_pastDue a_stock a_lvl a_reach)
    (h0 : ¬ g ≤ 1000000000000 → post 0 ((nI n), (nI p), (nI m), f_hasPlan, f_current, a_lead, a_rule, a_param, a_onHand, a_demand, a_receipt, a_ep, a_ec, a_eu, (vp_updL a_gross (i * 16 + t) g), a_net, a_planned, a_release, a_projected, a_pastDue, a_stock, a_lvl, a_reach)) :
    ∀ d e, e + d = m → wY_planItem_29 post J7 (nI i) (nI (i * 16)) (nI t) (nI n) (nI p) (nI m) f_hasPlan f_current a_lead a_rule a_param a_onHand a_demand a_receipt a_ep a_ec a_eu a_gross a_net a_planned a_release a_projected a_pastDue a_stock a_lvl a_reach (d + 1) ((a_demand (i * 16 + t)).toInt64 + ms_s (fun e => if C e = i then lN (U e) * Rl (P e) t else 0) e) (nI e) := by
  intro d
  induction d with
  | zero =>
    intro e he
    have q : e = m := by omega
    rw [q, hg]
    refine br_t (nI_le (by omega) (by omega)) ?_
    rw [nI_add]
    refine ⟨vp_in_nI (by omega) (by omega), nm_r (xh_upL (by omega) rfl) ?_⟩
    by_cases c : g ≤ 1000000000000
    · exact br_t c (nm_r (nI_1 t) (h1 c))
    · exact br_f c (h0 c)
  | succ d ih =>
    intro e he
    have hem : e < m := by omega
    obtain ⟨p1, p2, p3, hP, hC, u1, u2⟩ := E e hem
    have i1 : a_ep (nI e).toNatClampNeg = nI (P e) := (xh_at (by omega)).trans p1
    have i2 : a_ec (nI e).toNatClampNeg = nI (C e) := (xh_at (by omega)).trans p2
    have i3 : a_eu (nI e).toNatClampNeg = nI (U e) := (xh_at (by omega)).trans p3
    have ve : vp_in (nI e) 32 := vp_in_nI (by omega) (by omega)
    have I := ih (e + 1) (by omega)
    have es : ms_s (fun e => if C e = i then lN (U e) * Rl (P e) t else 0) (e + 1) = ms_s (fun e => if C e = i then lN (U e) * Rl (P e) t else 0) e + (if C e = i then lN (U e) * Rl (P e) t else 0) := rfl
    rw [es] at I
    refine br_f (nI_ge hem (by omega)) ⟨ve, ?_⟩
    rw [i1, i2, i3]
    by_cases c : C e = i
    · rw [if_pos c, ← Int64.add_assoc] at I
      refine br_t (by rw [c]) ⟨ve, ve, ?_⟩
      rw [xh_ix]
      refine ⟨vp_in_nI (by omega) (by omega), ?_⟩
      rw [nI_clamp (by omega), hR e hem c, nI_l (by omega)]
      exact nm_e (nm_r (nI_1 e) I)
    · rw [if_neg c, Int64.add_zero] at I
      exact br_f (fun q => c ((nI_eq (by omega) (by omega)).mp q)) (nm_r (nI_1 e) I)
theorem yg_7 {post : Int32 → SY → Prop} {i : Nat} {Rl : Nat → Nat → Int64} {g : Nat → Int64} (hn16 : n ≤ 16) (hp16 : p ≤ 16) (hm : m ≤ 32) (hi : i < n) (E : ye_E n m P C U a_ep a_ec a_eu)
    (hR : ∀ e t, e < m → t < p → C e = i → a_release (P e * 16 + t) = Rl (P e) t)
    (hg : ∀ t, t < p → (a_demand (i * 16 + t)).toInt64 + ms_s (fun e => if C e = i then lN (U e) * Rl (P e) t else 0) m = g t)
    (h1 : ∀ gr', (∀ t, t < p → g t ≤ 1000000000000) → (∀ t, t < p → gr' (i * 16 + t) = g t) → pp_o i a_gross gr' → wY_planItem_124 post (nI i) (nI (i * 16)) (nI n) (nI p) (nI m) f_hasPlan f_current (p + 1) (a_onHand i).toInt64 0 a_lead a_rule a_param a_onHand a_demand a_receipt a_ep a_ec a_eu gr' a_net a_planned a_release a_projected a_pastDue a_stock a_lvl a_reach)
    (h0 : ∀ gr', (∃ t, t < p ∧ ¬ g t ≤ 1000000000000) → post 0 ((nI n), (nI p), (nI m), f_hasPlan, f_current, a_lead, a_rule, a_param, a_onHand, a_demand, a_receipt, a_ep, a_ec, a_eu, gr', a_net, a_planned, a_release, a_projected, a_pastDue, a_stock, a_lvl, a_reach)) :
    ∀ d t gr, t + d = p → (∀ s, s < t → gr (i * 16 + s) = g s ∧ g s ≤ 1000000000000) → pp_o i a_gross gr → wY_planItem_7 post (nI i) (nI (i * 16)) (nI n) (nI p) (nI m) f_hasPlan f_current (d + 1) (nI t) a_lead a_rule a_param a_onHand a_demand a_receipt a_ep a_ec a_eu gr a_net a_planned a_release a_projected a_pastDue a_stock a_lvl a_reach := by
  intro d
  induction d with
  | zero =>
    intro t gr ht hz ho
    refine br_t (nI_le (by omega) (by omega)) ⟨vp_in_nI (by omega) (by omega), nm_r (e' := (a_onHand i).toInt64) (by rw [nI_clamp (by omega)]) ⟨p + 1, ?_⟩⟩
    exact h1 gr (fun s hs => (hz s (by omega)).2) (fun s hs => (hz s (by omega)).1) ho
  | succ d ih =>
    intro t gr ht hz ho
    have htp : t < p := by omega
    refine br_f (nI_ge (by omega) (by omega)) ?_
    rw [nI_add]
    refine ⟨vp_in_nI (by omega) (by omega), nm_r (e' := (a_demand (i * 16 + t)).toInt64 + 0) (by rw [nI_clamp (by omega), Int64.add_zero]) ⟨m + 1, ?_⟩⟩
    refine yg_29 hn16 hm hi (by omega) E (fun e he hc => hR e t he htp hc) (hg t htp) (fun q => ?_) (fun q => h0 _ ⟨t, htp, q⟩) m 0 (by omega)
    refine ih (t + 1) _ (by omega) (fun s hs => ?_) (pp_op ho (by omega))
    by_cases e : s = t
    · rw [e, pk_uLs]; exact ⟨rfl, q⟩
    · rw [pk_uLn (by omega)]; exact hz s (by omega)
/-! lots -/
theorem yg_346 {post : Int32 → SY → Prop} {J124 : Int64 → Int32 → (Nat → Int32) → (Nat → Int32) → (Nat → Int32) → (Nat → Int32) → (Nat → Int32) → (Nat → Int32) → (Nat → Int32) → (Nat → Int32) → (Nat → Int32) → (Nat → Int64) → (Nat → Int64) → (Nat → Int64) → (Nat → Int64) → (Nat → Int64) → (Nat → Int64) → (Nat → Int64) → (Nat → Int32) → (Nat → Int32) → Prop} {i t : Nat} {g rc : Nat → Int64} {pv z : Int64} (hi : i < 16) (hp16 : p ≤ 16) (ht : t < p)
    (hg : ∀ s, s < p → a_gross (i * 16 + s) = g s) (hr : ∀ s, s < p → (a_receipt (i * 16 + s)).toInt64 = rc s)
    (h : J124 (pv + rc t + z - g t) (nI (t + 1)) a_lead a_rule a_param a_onHand a_demand a_receipt a_ep a_ec a_eu a_gross a_net (vp_updL a_planned (i * 16 + t) z) a_release (vp_updL a_projected (i * 16 + t) (pv + rc t + z - g t)) a_pastDue a_stock a_lvl a_reach) :
    wY_planItem_346 post J124 (nI i) (nI (i * 16)) pv (nI t) z (nI n) (nI p) (nI m) f_hasPlan f_current a_lead a_rule a_param a_onHand a_demand a_receipt a_ep a_ec a_eu a_gross a_net a_planned a_release a_projected a_pastDue a_stock a_lvl a_reach := by
  have ec : (nI (i * 16 + t)).toNatClampNeg = i * 16 + t := nI_clamp (by omega)
  have vc : vp_in (nI (i * 16 + t)) 256 := vp_in_nI (by omega) (by omega)
  unfold wY_planItem_346
  rw [nI_add]
  refine ⟨vc, nm_r (xh_upL (by omega) rfl) ⟨vc, vc, vc, nm_r (xh_upL (y := pv + rc t + z - g t) (by omega) ?_) ⟨vc, nm_r (e' := pv + rc t + z - g t) ?_ (nm_r (nI_1 t) h)⟩⟩⟩
  · rw [ec, hr t ht, hg t ht]
  · rw [ec, pk_uLs]
theorem yg_289 {post : Int32 → SY → Prop} {J124 : Int64 → Int32 → (Nat → Int32) → (Nat → Int32) → (Nat → Int32) → (Nat → Int32) → (Nat → Int32) → (Nat → Int32) → (Nat → Int32) → (Nat → Int32) → (Nat → Int32) → (Nat → Int64) → (Nat → Int64) → (Nat → Int64) → (Nat → Int64) → (Nat → Int64) → (Nat → Int64) → (Nat → Int64) → (Nat → Int32) → (Nat → Int32) → Prop} {i t w : Nat} {g rc : Nat → Int64} {pv nt : Int64} (hi : i < 16) (hp16 : p ≤ 16) (hw1 : 1 ≤ w) (hw : t + w ≤ p)
    (hg : ∀ s, s < p → a_gross (i * 16 + s) = g s) (hr : ∀ s, s < p → (a_receipt (i * 16 + s)).toInt64 = rc s)
    (h : wY_planItem_346 post J124 (nI i) (nI (i * 16)) pv (nI t) (mr_mx (mr_lk g rc pv t) nt w) (nI n) (nI p) (nI m) f_hasPlan f_current a_lead a_rule a_param a_onHand a_demand a_receipt a_ep a_ec a_eu a_gross a_net a_planned a_release a_projected a_pastDue a_stock a_lvl a_reach) :
    ∀ d k, k + d = w → wY_planItem_289 post J124 (nI i) (nI (i * 16)) pv (nI t) (nI (t + w - 1)) (nI n) (nI p) (nI m) f_hasPlan f_current a_lead a_rule a_param a_onHand a_demand a_receipt a_ep a_ec a_eu a_gross a_net a_planned a_release a_projected a_pastDue a_stock a_lvl a_reach (d + 1) (mr_mx (mr_lk g rc pv t) nt k) (mr_lk g rc pv t k) (nI (t + k)) := by
  intro d
  induction d with
  | zero =>
    intro k hk
    have e : k = w := by omega
    rw [e]
    exact br_t (nI_lt (by omega) (by omega)) h
  | succ d ih =>
    intro k hk
    have ec : (nI (i * 16 + (t + k))).toNatClampNeg = i * 16 + (t + k) := nI_clamp (by omega)
    have vc : vp_in (nI (i * 16 + (t + k))) 256 := vp_in_nI (by omega) (by omega)
    have em : mr_mx (mr_lk g rc pv t) nt (k + 1) = if mr_mx (mr_lk g rc pv t) nt k < mr_lk g rc pv t (k + 1) then mr_lk g rc pv t (k + 1) else mr_mx (mr_lk g rc pv t) nt k := rfl
    have I := ih (k + 1) (by omega)
    refine br_f (nI_nlt (by omega) (by omega)) ?_
    rw [nI_add]
    refine ⟨vc, vc, nm_r (e' := mr_lk g rc pv t (k + 1)) (by rw [ec, hg _ (by omega), hr _ (by omega)]; rfl) ?_⟩
    by_cases q : mr_mx (mr_lk g rc pv t) nt k < mr_lk g rc pv t (k + 1)
    · rw [em, if_pos q] at I
      exact br_f (Int64.not_le.mpr q) (nm_r (nI_1 (t + k)) I)
    · rw [em, if_neg q] at I
      exact br_t (Int64.not_lt.mp q) (nm_r (nI_1 (t + k)) I)
theorem yg_167 {post : Int32 → SY → Prop} {J124 : Int64 → Int32 → (Nat → Int32) → (Nat → Int32) → (Nat → Int32) → (Nat → Int32) → (Nat → Int32) → (Nat → Int32) → (Nat → Int32) → (Nat → Int32) → (Nat → Int32) → (Nat → Int64) → (Nat → Int64) → (Nat → Int64) → (Nat → Int64) → (Nat → Int64) → (Nat → Int64) → (Nat → Int64) → (Nat → Int32) → (Nat → Int32) → Prop} {i t q : Nat} {g rc : Nat → Int64} {pv : Int64} (hi : i < 16) (hp16 : p ≤ 16) (ht : t < p)
    (hg : ∀ s, s < p → a_gross (i * 16 + s) = g s) (hr : ∀ s, s < p → (a_receipt (i * 16 + s)).toInt64 = rc s)
    (hq : a_param i = nI q) (hq1 : q ≤ 10000) (hq2 : a_rule i = 1 → 1 ≤ q) (hq3 : a_rule i = 2 → 1 ≤ q ∧ q ≤ 8) (hl : 0 < mr_lack g rc t pv)
    (h : wY_planItem_346 post J124 (nI i) (nI (i * 16)) pv (nI t) (mr_lot (a_rule i) q p g rc t pv (mr_lack g rc t pv)) (nI n) (nI p) (nI m) f_hasPlan f_current a_lead a_rule a_param a_onHand a_demand a_receipt a_ep a_ec a_eu a_gross (vp_updL a_net (i * 16 + t) (mr_lack g rc t pv)) a_planned a_release a_projected a_pastDue a_stock a_lvl a_reach) :
    wY_planItem_167 post J124 (nI i) (nI (i * 16)) pv (nI t) (mr_lack g rc t pv) (nI n) (nI p) (nI m) f_hasPlan f_current a_lead a_rule a_param a_onHand a_demand a_receipt a_ep a_ec a_eu a_gross a_net a_planned a_release a_projected a_pastDue a_stock a_lvl a_reach := by
  have vi : vp_in (nI i) 16 := vp_in_nI hi (by omega)
  have ei : (nI i).toNatClampNeg = i := nI_clamp (by omega)
  have ec : (nI (i * 16 + t)).toNatClampNeg = i * 16 + t := nI_clamp (by omega)
  have vc : vp_in (nI (i * 16 + t)) 256 := vp_in_nI (by omega) (by omega)
  unfold wY_planItem_167
  rw [nI_add]
  refine ⟨vc, nm_r (xh_upL (by omega) rfl) (br_f (Int64.not_le.mpr hl) ⟨vi, ?_⟩)⟩
  rw [ei]
  unfold mr_lot at h
  by_cases c1 : a_rule i = 1
  · have q1 := hq2 c1
    rw [if_pos c1] at h
    refine br_t c1 ⟨vi, nm_r (e' := lN q) (by rw [hq, nI_l (by omega)]) (br_t ((lN_le (a := 1) (by omega) (by omega)).mpr (by omega)) ?_)⟩
    unfold wY_planItem_217
    exact ⟨fun z => absurd ((lN_eq (b := 0) (by omega) (by omega)).mp z) (by omega), nm_e h⟩
  · rw [if_neg c1] at h
    refine br_f c1 ⟨vi, ?_⟩
    by_cases c2 : a_rule i = 2
    · have q1 := hq3 c2
      rw [if_pos c2] at h
      have e1 : nI t + nI q - 1 = nI (t + q - 1) := by
        rw [nI_add, show (1 : Int32) = nI 1 from rfl, pk_sub (by omega)]
      have e2 : nI p - 1 = nI (p - 1) := by
        rw [show (1 : Int32) = nI 1 from rfl, pk_sub (by omega)]
      refine br_t c2 ⟨vi, nm_r (e' := nI (t + q - 1)) (by rw [hq, e1]) ?_⟩
      rw [e2]
      by_cases c3 : q < p - t
      · rw [if_pos c3] at h
        refine br_t (nI_le (by omega) (by omega)) (nm_e ⟨q + 1, ?_⟩)
        exact yg_289 hi hp16 (by omega) (by omega) hg hr h q 0 (by omega)
      · rw [if_neg c3] at h
        have e3 : t + (p - t) - 1 = p - 1 := by omega
        by_cases c4 : t + q - 1 ≤ p - 1
        · have e4 : t + q - 1 = t + (p - t) - 1 := by omega
          refine br_t (nI_le c4 (by omega)) (nm_e ⟨p - t + 1, ?_⟩)
          rw [e4]
          exact yg_289 hi hp16 (by omega) (by omega) hg hr h (p - t) 0 (by omega)
        · refine br_f (nI_ge (by omega) (by omega)) (nm_r (e' := nI (t + (p - t) - 1)) (by rw [e3]) (nm_e ⟨p - t + 1, ?_⟩))
          exact yg_289 hi hp16 (by omega) (by omega) hg hr h (p - t) 0 (by omega)
    · rw [if_neg c2] at h
      exact br_f c2 h
theorem yg_124 {post : Int32 → SY → Prop} {i q : Nat} {g rc : Nat → Int64} (hi : i < 16) (hp16 : p ≤ 16)
    (hg : ∀ s, s < p → a_gross (i * 16 + s) = g s) (hr : ∀ s, s < p → (a_receipt (i * 16 + s)).toInt64 = rc s)
    (hq : a_param i = nI q) (hq1 : q ≤ 10000) (hq2 : a_rule i = 1 → 1 ≤ q) (hq3 : a_rule i = 2 → 1 ≤ q ∧ q ≤ 8)
    (h : ∀ ne' pl' pj', (∀ t, t < p → ne' (i * 16 + t) = mr_net g rc t (mr_pv (a_rule i) q p g rc (a_onHand i).toInt64 t)) → (∀ t, t < p → pl' (i * 16 + t) = mr_P (a_rule i) q p g rc (a_onHand i).toInt64 t) →
      (∀ t, t < p → pj' (i * 16 + t) = mr_pv (a_rule i) q p g rc (a_onHand i).toInt64 (t + 1)) → pp_o i a_net ne' → pp_o i a_planned pl' → pp_o i a_projected pj' →
      wY_planItem_410 post (nI i) (nI (i * 16)) (nI n) (nI p) (nI m) f_hasPlan f_current (p + 1) 0 a_lead a_rule a_param a_onHand a_demand a_receipt a_ep a_ec a_eu a_gross ne' pl' a_release pj' a_pastDue a_stock a_lvl a_reach) :
    ∀ d t ne pl pj, t + d = p → (∀ s, s < t → ne (i * 16 + s) = mr_net g rc s (mr_pv (a_rule i) q p g rc (a_onHand i).toInt64 s)) → (∀ s, s < t → pl (i * 16 + s) = mr_P (a_rule i) q p g rc (a_onHand i).toInt64 s) →
      (∀ s, s < t → pj (i * 16 + s) = mr_pv (a_rule i) q p g rc (a_onHand i).toInt64 (s + 1)) → pp_o i a_net ne → pp_o i a_planned pl → pp_o i a_projected pj →
      wY_planItem_124 post (nI i) (nI (i * 16)) (nI n) (nI p) (nI m) f_hasPlan f_current (d + 1) (mr_pv (a_rule i) q p g rc (a_onHand i).toInt64 t) (nI t) a_lead a_rule a_param a_onHand a_demand a_receipt a_ep a_ec a_eu a_gross ne pl a_release pj a_pastDue a_stock a_lvl a_reach := by
  intro d
  induction d with
  | zero =>
    intro t ne pl pj ht z1 z2 z3 o1 o2 o3
    exact br_t (nI_le (by omega) (by omega)) ⟨p + 1, h ne pl pj (fun s hs => z1 s (by omega)) (fun s hs => z2 s (by omega)) (fun s hs => z3 s (by omega)) o1 o2 o3⟩
  | succ d ih =>
    intro t ne pl pj ht z1 z2 z3 o1 o2 o3
    have htp : t < p := by omega
    have ec : (nI (i * 16 + t)).toNatClampNeg = i * 16 + t := nI_clamp (by omega)
    have vc : vp_in (nI (i * 16 + t)) 256 := vp_in_nI (by omega) (by omega)
    have key : ∀ (nt lot : Int64), nt = mr_net g rc t (mr_pv (a_rule i) q p g rc (a_onHand i).toInt64 t) → lot = mr_P (a_rule i) q p g rc (a_onHand i).toInt64 t →
        wY_planItem_124 post (nI i) (nI (i * 16)) (nI n) (nI p) (nI m) f_hasPlan f_current (d + 1) (mr_pv (a_rule i) q p g rc (a_onHand i).toInt64 t + rc t + lot - g t) (nI (t + 1)) a_lead a_rule a_param a_onHand a_demand a_receipt a_ep a_ec a_eu a_gross (vp_updL ne (i * 16 + t) nt) (vp_updL pl (i * 16 + t) lot) a_release (vp_updL pj (i * 16 + t) (mr_pv (a_rule i) q p g rc (a_onHand i).toInt64 t + rc t + lot - g t)) a_pastDue a_stock a_lvl a_reach := by
      intro nt lot e1 e2
      have e3 : mr_pv (a_rule i) q p g rc (a_onHand i).toInt64 t + rc t + lot - g t = mr_pv (a_rule i) q p g rc (a_onHand i).toInt64 (t + 1) := by rw [e2]; rfl
      rw [e3]
      refine ih (t + 1) _ _ _ (by omega) (fun s hs => ?_) (fun s hs => ?_) (fun s hs => ?_) (pp_op o1 (by omega)) (pp_op o2 (by omega)) (pp_op o3 (by omega))
      · by_cases e : s = t
        · rw [e, pk_uLs]; exact e1
        · rw [pk_uLn (by omega)]; exact z1 s (by omega)
      · by_cases e : s = t
        · rw [e, pk_uLs]; exact e2
        · rw [pk_uLn (by omega)]; exact z2 s (by omega)
      · by_cases e : s = t
        · rw [e, pk_uLs]
        · rw [pk_uLn (by omega)]; exact z3 s (by omega)
    refine br_f (nI_ge (by omega) (by omega)) ?_
    rw [nI_add]
    refine ⟨vc, vc, nm_r (e' := mr_lack g rc t (mr_pv (a_rule i) q p g rc (a_onHand i).toInt64 t)) (by rw [ec, hg t htp, hr t htp]; rfl) ?_⟩
    by_cases c : 0 < mr_lack g rc t (mr_pv (a_rule i) q p g rc (a_onHand i).toInt64 t)
    · refine br_t (Int64.le_of_lt c) ?_
      refine yg_167 hi hp16 htp hg hr hq hq1 hq2 hq3 c (yg_346 hi hp16 htp hg hr (key _ _ ?_ ?_))
      · unfold mr_net; rw [if_pos c]
      · unfold mr_P mr_pl; rw [if_pos c]
    · have k0 : wY_planItem_167 post (wY_planItem_124 post (nI i) (nI (i * 16)) (nI n) (nI p) (nI m) f_hasPlan f_current (d + 1)) (nI i) (nI (i * 16)) (mr_pv (a_rule i) q p g rc (a_onHand i).toInt64 t) (nI t) 0 (nI n) (nI p) (nI m) f_hasPlan f_current a_lead a_rule a_param a_onHand a_demand a_receipt a_ep a_ec a_eu a_gross ne pl a_release pj a_pastDue a_stock a_lvl a_reach := by
        unfold wY_planItem_167
        rw [nI_add]
        refine ⟨vc, nm_r (xh_upL (by omega) rfl) (br_t (Int64.le_refl 0) (yg_346 hi hp16 htp hg hr (key _ _ ?_ ?_)))⟩
        · unfold mr_net; rw [if_neg c]
        · unfold mr_P mr_pl; rw [if_neg c]
      by_cases c0 : 0 ≤ mr_lack g rc t (mr_pv (a_rule i) q p g rc (a_onHand i).toInt64 t)
      · have e0 : mr_lack g rc t (mr_pv (a_rule i) q p g rc (a_onHand i).toInt64 t) = 0 := Int64.le_antisymm (Int64.not_lt.mp c) c0
        refine br_t c0 ?_
        rw [e0]
        exact k0
      · exact br_f c0 k0
/-! releases -/
theorem yg_467 {post : Int32 → SY → Prop} {J410 : Int32 → (Nat → Int32) → (Nat → Int32) → (Nat → Int32) → (Nat → Int32) → (Nat → Int32) → (Nat → Int32) → (Nat → Int32) → (Nat → Int32) → (Nat → Int32) → (Nat → Int64) → (Nat → Int64) → (Nat → Int64) → (Nat → Int64) → (Nat → Int64) → (Nat → Int64) → (Nat → Int64) → (Nat → Int32) → (Nat → Int32) → Prop} {i t s : Nat} {z : Int64} (hi : i < 16) (hs : s < 16)
    (h : J410 (nI (t + 1)) a_lead a_rule a_param a_onHand a_demand a_receipt a_ep a_ec a_eu a_gross a_net a_planned (vp_updL a_release (i * 16 + s) (a_release (i * 16 + s) + z)) a_projected a_pastDue a_stock a_lvl a_reach) :
    wY_planItem_467 post J410 (nI i) (nI (i * 16)) (nI t) z (nI s) (nI n) (nI p) (nI m) f_hasPlan f_current a_lead a_rule a_param a_onHand a_demand a_receipt a_ep a_ec a_eu a_gross a_net a_planned a_release a_projected a_pastDue a_stock a_lvl a_reach := by
  have ec : (nI (i * 16 + s)).toNatClampNeg = i * 16 + s := nI_clamp (by omega)
  have vc : vp_in (nI (i * 16 + s)) 256 := vp_in_nI (by omega) (by omega)
  unfold wY_planItem_467
  rw [nI_add]
  exact ⟨vc, vc, nm_r (xh_upL (by omega) (by rw [ec])) (nm_r (nI_1 t) h)⟩
theorem yg_410 {post : Int32 → SY → Prop} {i l : Nat} {lot : Nat → Int64} (hi : i < 16) (hp16 : p ≤ 16) (hl : a_lead i = nI l) (hl8 : l ≤ 8) (hlot : ∀ s, s < p → a_planned (i * 16 + s) = lot s) (hw : ∀ s, s < p → ∃ w, w ≤ 17000000000000 ∧ lot s = lN w)
    (h : ∀ rl' pd', (∀ s, s < p → rl' (i * 16 + s) = mr_rl lot l s p) → pd' i = mr_pd lot l p → pp_o i a_release rl' → (∀ a, a ≠ i → pd' a = a_pastDue a) → post 1 ((nI n), (nI p), (nI m), f_hasPlan, f_current, a_lead, a_rule, a_param, a_onHand, a_demand, a_receipt, a_ep, a_ec, a_eu, a_gross, a_net, a_planned, rl', a_projected, pd', a_stock, a_lvl, a_reach)) :
    ∀ d t rl pd, t + d = p → (∀ s, s < p → rl (i * 16 + s) = mr_rl lot l s t) → pd i = mr_pd lot l t → pp_o i a_release rl → (∀ a, a ≠ i → pd a = a_pastDue a) →
      wY_planItem_410 post (nI i) (nI (i * 16)) (nI n) (nI p) (nI m) f_hasPlan f_current (d + 1) (nI t) a_lead a_rule a_param a_onHand a_demand a_receipt a_ep a_ec a_eu a_gross a_net a_planned rl a_projected pd a_stock a_lvl a_reach := by
  intro d
  induction d with
  | zero =>
    intro t rl pd ht z1 z2 o1 o2
    have e : t = p := by omega
    rw [e] at z1 z2
    exact br_t (nI_le (by omega) (by omega)) (h rl pd z1 z2 o1 o2)
  | succ d ih =>
    intro t rl pd ht z1 z2 o1 o2
    have htp : t < p := by omega
    have ec : (nI (i * 16 + t)).toNatClampNeg = i * 16 + t := nI_clamp (by omega)
    have ei : (nI i).toNatClampNeg = i := nI_clamp (by omega)
    have vc : vp_in (nI (i * 16 + t)) 256 := vp_in_nI (by omega) (by omega)
    have vi : vp_in (nI i) 16 := vp_in_nI (by omega) (by omega)
    have key : ∀ s, s < p → vp_updL rl (i * 16 + (t - l)) (rl (i * 16 + (t - l)) + lot t) (i * 16 + s) = mr_rl lot l s (t + 1) := by
      intro s hs
      show _ = mr_rl lot l s t + (if t - l = s then lot t else 0)
      by_cases e : t - l = s
      · rw [if_pos e, e, pk_uLs, z1 s hs]
      · rw [if_neg e, pk_uLn (by omega), z1 s hs, Int64.add_zero]
    refine br_f (nI_ge (by omega) (by omega)) ?_
    rw [nI_add]
    refine ⟨vc, nm_r (e' := lot t) (by rw [ec, hlot t htp]) ?_⟩
    by_cases c0 : lot t ≤ 0
    · have e0 : lot t = 0 := by
        obtain ⟨w, hw1, e⟩ := hw t htp
        rw [e] at c0 ⊢
        have q := (pk_lLE (b := 0) (by omega) (by omega)).mp c0
        have q' : w = 0 := by omega
        rw [q']; rfl
      refine br_t c0 (nm_r (nI_1 t) (ih (t + 1) rl pd (by omega) (fun s hs => ?_) ?_ o1 o2))
      · show _ = mr_rl lot l s t + (if t - l = s then lot t else 0)
        rw [e0, ite_self, Int64.add_zero, z1 s hs]
      · show _ = mr_pd lot l t + (if t < l then lot t else 0)
        rw [e0, ite_self, Int64.add_zero, z2]
    · refine br_f c0 ⟨vi, ?_⟩
      by_cases c : l ≤ t
      · refine nm_r (e' := nI (t - l)) (by rw [ei, hl, pk_sub c]) (br_t (nI_pos' (by omega)) (yg_467 hi (by omega) ?_))
        refine ih (t + 1) _ _ (by omega) key ?_ (pp_op o1 (by omega)) o2
        show pd i = mr_pd lot l t + (if t < l then lot t else 0)
        rw [if_neg (by omega), z2, Int64.add_zero]
      · refine nm_e (br_f ?_ ⟨vi, vi, nm_r (xh_upL (by omega) rfl) (yg_467 (s := 0) hi (by omega) ?_)⟩)
        · rw [ei, hl]; exact Int32.not_le.mpr (pk_sneg (by omega) (by omega))
        · rw [ei]
          have e0 : t - l = 0 := by omega
          rw [e0] at key
          refine ih (t + 1) _ _ (by omega) key ?_ (pp_op o1 (by omega)) (fun a ha => ?_)
          · rw [pk_uLs, z2]
            show _ = mr_pd lot l t + (if t < l then lot t else 0)
            rw [if_pos (by omega)]
          · rw [pk_uLn ha]; exact o2 a ha
end
