/-! the relation -/
def rl_S (n p m : Nat) (P C U Q Ld L : Nat → Nat) (led rul par onH dem rcp us lv ep ec eu : Nat → Int32) : Prop :=
  1 ≤ n ∧ n ≤ 16 ∧ 4 ≤ p ∧ p ≤ 16 ∧ m ≤ 32 ∧ ye_E n m P C U ep ec eu ∧ xr_M n m P C U us ∧ mg_T n (ye_G m P C) L ∧ xr_V n lv L ∧ pp_W n Q Ld led rul par onH dem rcp
def rl_C (n p m : Nat) (P C U : Nat → Nat) (dem : Nat → Int32) (xgr xne xpl xrl xpj xpd xst ygr yne ypl yrl ypj ypd yst : Nat → Int64) : Prop :=
  ∀ i, i < n → xpd i = ypd i ∧ xst i = yst i ∧ ∀ t, t < p → xgr (i * 16 + t) = ygr (i * 16 + t) ∧ xne (i * 16 + t) = yne (i * 16 + t) ∧ xpl (i * 16 + t) = ypl (i * 16 + t) ∧ xrl (i * 16 + t) = yrl (i * 16 + t) ∧ xpj (i * 16 + t) = ypj (i * 16 + t) ∧
    xgr (i * 16 + t) = (dem (i * 16 + t)).toInt64 + ms_s (fun e => if C e = i then lN (U e) * yrl (P e * 16 + t) else 0) m
def rl_P (n p m : Nat) (P C U : Nat → Nat) (dem : Nat → Int32) (cu hp : Int32) (xgr xne xpl xrl xpj xpd xst ygr yne ypl yrl ypj ypd yst : Nat → Int64) : Prop :=
  (hp = 0 ∧ cu = -1) ∨ (hp = 1 ∧ ∃ c, c ≤ p ∧ cu = nI c ∧ rl_C n p m P C U dem xgr xne xpl xrl xpj xpd xst ygr yne ypl yrl ypj ypd yst)
def i_Rel (_ : Nat) (u : SX) (v : SY) : Prop :=
  ∃ (n p m : Nat) (P C U Q Ld L : Nat → Nat) (cu hp : Int32) (a_leads a_rules a_params a_onHands a_demands a_receipts a_usages a_levels a_reached a_ep a_ec a_eu a_lvl a_reach : Nat → Int32) (xgr xne xpl xrl xpj xpd xst ygr yne ypl yrl ypj ypd yst : Nat → Int64),
    u = ((nI n), (nI p), (nI m), cu, a_leads, a_rules, a_params, a_onHands, a_demands, a_receipts, a_usages, a_levels, a_reached, xgr, xne, xpl, xrl, xpj, xpd, xst) ∧ v = ((nI n), (nI p), (nI m), hp, cu, a_leads, a_rules, a_params, a_onHands, a_demands, a_receipts, a_ep, a_ec, a_eu, ygr, yne, ypl, yrl, ypj, ypd, yst, a_lvl, a_reach) ∧ rl_S n p m P C U Q Ld L a_leads a_rules a_params a_onHands a_demands a_receipts a_usages a_levels a_ep a_ec a_eu ∧ rl_P n p m P C U a_demands cu hp xgr xne xpl xrl xpj xpd xst ygr yne ypl yrl ypj ypd yst
section
variable {k n p m : Nat} {P C U Q Ld L : Nat → Nat} {cu hp : Int32} {a_leads a_rules a_params a_onHands a_demands a_receipts a_usages a_levels a_reached a_ep a_ec a_eu a_lvl a_reach : Nat → Int32} {xgr xne xpl xrl xpj xpd xst ygr yne ypl yrl ypj ypd yst : Nat → Int64}
theorem rl_mk (S : rl_S n p m P C U Q Ld L a_leads a_rules a_params a_onHands a_demands a_receipts a_usages a_levels a_ep a_ec a_eu) (H : rl_P n p m P C U a_demands cu hp xgr xne xpl xrl xpj xpd xst ygr yne ypl yrl ypj ypd yst) : i_Rel k ((nI n), (nI p), (nI m), cu, a_leads, a_rules, a_params, a_onHands, a_demands, a_receipts, a_usages, a_levels, a_reached, xgr, xne, xpl, xrl, xpj, xpd, xst) ((nI n), (nI p), (nI m), hp, cu, a_leads, a_rules, a_params, a_onHands, a_demands, a_receipts, a_ep, a_ec, a_eu, ygr, yne, ypl, yrl, ypj, ypd, yst, a_lvl, a_reach) :=
  ⟨n, p, m, P, C, U, Q, Ld, L, cu, hp, a_leads, a_rules, a_params, a_onHands, a_demands, a_receipts, a_usages, a_levels, a_reached, a_ep, a_ec, a_eu, a_lvl, a_reach, xgr, xne, xpl, xrl, xpj, xpd, xst, ygr, yne, ypl, yrl, ypj, ypd, yst, rfl, rfl, S, H⟩
end
theorem i_up {k : Nat} {u : SX} {v : SY} (h : i_Rel k u v) : i_Rel (k + 5) u v := h
/-! the component's small methods -/
section
variable {n p : Nat} {f_edgeCount f_current : Int32} {a_leads a_rules a_params a_onHands a_demands a_receipts a_usages a_levels a_reached : Nat → Int32} {a_gross a_net a_planned a_release a_projected a_pastDue a_stock : Nat → Int64}
theorem xa_item0 {post : Int32 → Prop} {x : Int32} (h : x < 0 ∨ nI n ≤ x) (q : post 0) : wpX_isItem post ((nI n), (nI p), f_edgeCount, f_current, a_leads, a_rules, a_params, a_onHands, a_demands, a_receipts, a_usages, a_levels, a_reached, a_gross, a_net, a_planned, a_release, a_projected, a_pastDue, a_stock) x := by
  unfold wpX_isItem
  exact br_c (fun _ => q) (fun a => br_t (h.resolve_left a) q)
theorem xa_item1 {post : Int32 → Prop} {j : Nat} (hn16 : n ≤ 16) (h : j < n) (q : post 1) : wpX_isItem post ((nI n), (nI p), f_edgeCount, f_current, a_leads, a_rules, a_params, a_onHands, a_demands, a_receipts, a_usages, a_levels, a_reached, a_gross, a_net, a_planned, a_release, a_projected, a_pastDue, a_stock) (nI j) := by
  unfold wpX_isItem
  exact br_f (nI_pos (by omega)) (br_f (nI_ge h (by omega)) q)
theorem xa_per0 {post : Int32 → Prop} {x : Int32} (h : x < 0 ∨ nI p ≤ x) (q : post 0) : wpX_isPeriod post ((nI n), (nI p), f_edgeCount, f_current, a_leads, a_rules, a_params, a_onHands, a_demands, a_receipts, a_usages, a_levels, a_reached, a_gross, a_net, a_planned, a_release, a_projected, a_pastDue, a_stock) x := by
  unfold wpX_isPeriod
  exact br_c (fun _ => q) (fun a => br_t (h.resolve_left a) q)
theorem xa_per1 {post : Int32 → Prop} {j : Nat} (hp16 : p ≤ 16) (h : j < p) (q : post 1) : wpX_isPeriod post ((nI n), (nI p), f_edgeCount, f_current, a_leads, a_rules, a_params, a_onHands, a_demands, a_receipts, a_usages, a_levels, a_reached, a_gross, a_net, a_planned, a_release, a_projected, a_pastDue, a_stock) (nI j) := by
  unfold wpX_isPeriod
  exact br_f (nI_pos (by omega)) (br_f (nI_ge h (by omega)) q)
theorem xa_plan0 {post : Int32 → Prop} (h : f_current = -1) (q : post 0) : wpX_hasPlan post ((nI n), (nI p), f_edgeCount, f_current, a_leads, a_rules, a_params, a_onHands, a_demands, a_receipts, a_usages, a_levels, a_reached, a_gross, a_net, a_planned, a_release, a_projected, a_pastDue, a_stock) := by
  unfold wpX_hasPlan
  exact br_t h q
theorem xa_plan1 {post : Int32 → Prop} (h : ¬ f_current = -1) (q : post 1) : wpX_hasPlan post ((nI n), (nI p), f_edgeCount, f_current, a_leads, a_rules, a_params, a_onHands, a_demands, a_receipts, a_usages, a_levels, a_reached, a_gross, a_net, a_planned, a_release, a_projected, a_pastDue, a_stock) := by
  unfold wpX_hasPlan
  exact br_f h q
end
theorem xa_in0 {post : Int32 → Prop} {x lo hi : Int32} (h : x < lo ∨ hi < x) (q : post 0) : wpX_isWithin post x lo hi := by
  unfold wpX_isWithin
  exact br_c (fun _ => q) (fun a => br_t (h.resolve_left a) q)
theorem xa_in1 {post : Int32 → Prop} {x lo hi : Int32} (h1 : ¬ x < lo) (h2 : ¬ hi < x) (q : post 1) : wpX_isWithin post x lo hi := by
  unfold wpX_isWithin
  exact br_f h1 (br_f h2 q)
theorem xa_nn {n : Nat} {x : Int32} (hn : n ≤ 16) (h : nI n ≤ x) : ¬ x < 0 := by
  intro q
  have a := Int32.lt_of_lt_of_le q (Int32.le_trans (nI_pos' (n := n) (by omega)) h)
  exact Int32.lt_irrefl a
theorem xa_nge {n j : Nat} (hn : n ≤ 16) (h : j < n) : ¬ nI n ≤ nI j := nI_ge h (by omega)
theorem xa_mone {c : Nat} (h : c ≤ 16) : ¬ nI c = -1 := by
  intro q
  have a := nI_pos (n := c) (by omega)
  rw [q] at a
  exact a (by decide)
/-! the constructors -/
theorem vc_clamp (x : Int32) (lo hi : Nat) (h : lo ≤ hi) (h16 : hi ≤ 16) : ∃ j, lo ≤ j ∧ j ≤ hi ∧ (∀ post : Int32 → Prop, post (nI j) → wpX_clamp post x (nI lo) (nI hi)) ∧
    (∀ A : Int32 → Prop, A (nI j) → ((nI lo ≤ x → ((x ≤ nI hi → A x) ∧ (¬ x ≤ nI hi → A (nI hi)))) ∧ (¬ nI lo ≤ x → A (nI lo)))) := by
  by_cases a : nI lo ≤ x
  · by_cases b : x ≤ nI hi
    · have hx : ¬ x < 0 := xa_nn (by omega) a
      obtain ⟨j, hj, rfl⟩ := nI_of hx
      rw [nI_leI (by omega) hj] at a
      rw [nI_leI hj (by omega)] at b
      refine ⟨j, a, b, fun post q => ?_, fun A q => ?_⟩
      · unfold wpX_clamp
        exact br_t (nI_le a hj) (br_t (nI_le b (by omega)) q)
      · exact br_t (nI_le a hj) (br_t (nI_le b (by omega)) q)
    · refine ⟨hi, h, Nat.le_refl _, fun post q => ?_, fun A q => ?_⟩
      · unfold wpX_clamp
        exact br_t a (br_f b q)
      · exact br_t a (br_f b q)
  · refine ⟨lo, Nat.le_refl _, h, fun post q => ?_, fun A q => ?_⟩
    · unfold wpX_clamp
      exact br_f a q
    · exact br_f a q
theorem vc_zero {k n p : Nat} (h1 : 1 ≤ n) (h2 : n ≤ 16) (h3 : 4 ≤ p) (h4 : p ≤ 16) :
    i_Rel k (nI n, nI p, 0, (-1), (fun _ => 0), (fun _ => 0), (fun _ => 0), (fun _ => 0), (fun _ => 0), (fun _ => 0), (fun _ => 0), (fun _ => 0), (fun _ => 0), (fun _ => 0), (fun _ => 0), (fun _ => 0), (fun _ => 0), (fun _ => 0), (fun _ => 0), (fun _ => 0))
      (nI n, nI p, 0, 0, (-1), (fun _ => 0), (fun _ => 0), (fun _ => 0), (fun _ => 0), (fun _ => 0), (fun _ => 0), (fun _ => 0), (fun _ => 0), (fun _ => 0), (fun _ => 0), (fun _ => 0), (fun _ => 0), (fun _ => 0), (fun _ => 0), (fun _ => 0), (fun _ => 0), (fun _ => 0), (fun _ => 0)) := by
  refine rl_mk (m := 0) (P := fun _ => 0) (C := fun _ => 0) (U := fun _ => 0) (Q := fun _ => 0) (Ld := fun _ => 0) (L := fun _ => 0) ?_ (Or.inl ⟨rfl, rfl⟩)
  refine ⟨h1, h2, h3, h4, by omega, fun e he => absurd he (by omega), ⟨fun e he => absurd he (by omega), fun _ _ _ _ _ => rfl, fun e _ he => absurd he (by omega)⟩, ⟨fun a b g => (ye_G0 g).elim, fun b _ => Or.inl rfl, fun b hb => (show 0 < n from by omega)⟩, fun i _ => rfl, ?_⟩
  exact ⟨fun i _ => ⟨rfl, Nat.zero_le 8, rfl, Nat.zero_le 10000, fun q => absurd q (show ¬ (0 : Int32) = 1 from by decide), fun q => absurd q (show ¬ (0 : Int32) = 2 from by decide)⟩, fun _ => ⟨0, by omega, rfl⟩, fun _ => ⟨0, by omega, rfl⟩, fun _ => ⟨0, by omega, rfl⟩⟩
theorem i_vc0 (k0 : Int32) (k1 : Int32) : wpX_init (fun u => wpY_init (fun v => i_Rel 2 u v) k0 k1) k0 k1 := by
  obtain ⟨n, h1, h2, x0, y0⟩ := vc_clamp k0 1 16 (by omega) (by omega)
  obtain ⟨p, h3, h4, x1, y1⟩ := vc_clamp k1 4 16 (by omega) (by omega)
  unfold wpX_init
  refine x0 _ (x1 _ ?_)
  show wpY_init (fun v => i_Rel 2 (nI n, nI p, 0, (-1), (fun _ => 0), (fun _ => 0), (fun _ => 0), (fun _ => 0), (fun _ => 0), (fun _ => 0), (fun _ => 0), (fun _ => 0), (fun _ => 0), (fun _ => 0), (fun _ => 0), (fun _ => 0), (fun _ => 0), (fun _ => 0), (fun _ => 0), (fun _ => 0)) v) k0 k1
  unfold wpY_init
  refine y0 (fun z => wY_init_177 (fun v => i_Rel 2 (nI n, nI p, 0, (-1), (fun _ => 0), (fun _ => 0), (fun _ => 0), (fun _ => 0), (fun _ => 0), (fun _ => 0), (fun _ => 0), (fun _ => 0), (fun _ => 0), (fun _ => 0), (fun _ => 0), (fun _ => 0), (fun _ => 0), (fun _ => 0), (fun _ => 0), (fun _ => 0)) v) k1 z 0 0 0 0 0 (fun _ => 0) (fun _ => 0) (fun _ => 0) (fun _ => 0) (fun _ => 0) (fun _ => 0) (fun _ => 0) (fun _ => 0) (fun _ => 0) (fun _ => 0) (fun _ => 0) (fun _ => 0) (fun _ => 0) (fun _ => 0) (fun _ => 0) (fun _ => 0) (fun _ => 0) (fun _ => 0)) ?_
  show wY_init_177 (fun v => i_Rel 2 (nI n, nI p, 0, (-1), (fun _ => 0), (fun _ => 0), (fun _ => 0), (fun _ => 0), (fun _ => 0), (fun _ => 0), (fun _ => 0), (fun _ => 0), (fun _ => 0), (fun _ => 0), (fun _ => 0), (fun _ => 0), (fun _ => 0), (fun _ => 0), (fun _ => 0), (fun _ => 0)) v) k1 (nI n) 0 0 0 0 0 (fun _ => 0) (fun _ => 0) (fun _ => 0) (fun _ => 0) (fun _ => 0) (fun _ => 0) (fun _ => 0) (fun _ => 0) (fun _ => 0) (fun _ => 0) (fun _ => 0) (fun _ => 0) (fun _ => 0) (fun _ => 0) (fun _ => 0) (fun _ => 0) (fun _ => 0) (fun _ => 0)
  unfold wY_init_177
  exact y1 (fun z => i_Rel 2 (nI n, nI p, 0, (-1), (fun _ => 0), (fun _ => 0), (fun _ => 0), (fun _ => 0), (fun _ => 0), (fun _ => 0), (fun _ => 0), (fun _ => 0), (fun _ => 0), (fun _ => 0), (fun _ => 0), (fun _ => 0), (fun _ => 0), (fun _ => 0), (fun _ => 0), (fun _ => 0)) (nI n, z, 0, 0, (-1), (fun _ => 0), (fun _ => 0), (fun _ => 0), (fun _ => 0), (fun _ => 0), (fun _ => 0), (fun _ => 0), (fun _ => 0), (fun _ => 0), (fun _ => 0), (fun _ => 0), (fun _ => 0), (fun _ => 0), (fun _ => 0), (fun _ => 0), (fun _ => 0), (fun _ => 0), (fun _ => 0))) (vc_zero h1 h2 h3 h4)
