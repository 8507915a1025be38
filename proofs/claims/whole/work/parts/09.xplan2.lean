/-! the component's plan: levels, items, the whole -/
def xr_M (n m : Nat) (P C U : Nat → Nat) (us : Nat → Int32) : Prop :=
  (∀ e, e < m → us (P e * 16 + C e) = nI (U e)) ∧ (∀ a b, a < n → b < n → (∀ e, e < m → ¬ (P e = a ∧ C e = b)) → us (a * 16 + b) = 0) ∧
  (∀ e f, e < m → f < m → P e = P f → C e = C f → e = f)
theorem xr_MU {n m : Nat} {P C U : Nat → Nat} {us : Nat → Int32} (hU : ∀ e, e < m → 1 ≤ U e ∧ U e ≤ 9) (M : xr_M n m P C U us) : xr_U n (ye_G m P C) us := by
  intro a b ha hb
  by_cases h : ∃ e, e < m ∧ P e = a ∧ C e = b
  · refine ⟨fun _ => h, fun _ => ?_⟩
    obtain ⟨e, he, h1, h2⟩ := h
    have q := M.1 e he
    rw [h1, h2] at q
    rw [q]
    exact nI_nle (hU e he).1 (by have := hU e he; omega)
  · have q := M.2.1 a b ha hb fun e he w => h ⟨e, he, w.1, w.2⟩
    rw [q]
    exact ⟨fun w => absurd (by decide) w, fun w => absurd w h⟩
theorem xg_col {n p m i t : Nat} {P C U : Nat → Nat} {D : Nat → Prop} {us : Nat → Int32} {Gr Ne Pl Rl Pj : Nat → Nat → Int64} {Pd : Nat → Int64} {gr ne pl rl pj pd : Nat → Int64}
    (hP : ∀ e, e < m → P e < n) (hU : ∀ e, e < m → 1 ≤ U e ∧ U e ≤ 9) (M : xr_M n m P C U us) (hi : i < n) (ht : t < p) (hD : ∀ e, e < m → C e = i → D (P e))
    (R : pp_R n p D Gr Ne Pl Rl Pj Pd gr ne pl rl pj pd) :
    ms_s (fun a => (us (a * 16 + i)).toInt64 * rl (a * 16 + t)) n = ms_s (fun e => if C e = i then lN (U e) * Rl (P e) t else 0) m := by
  rw [← ms_col (U := fun a => (us (a * 16 + i)).toInt64) (u := fun e => lN (U e)) (R := fun a => Rl a t) (n := n) hP ?_ ?_ ?_]
  · refine ms_congr n fun a ha => ?_
    show (us (a * 16 + i)).toInt64 * rl (a * 16 + t) = (us (a * 16 + i)).toInt64 * Rl a t
    by_cases h : ∃ e, e < m ∧ P e = a ∧ C e = i
    · obtain ⟨e, he, h1, h2⟩ := h
      have hd := hD e he h2
      rw [h1] at hd
      rw [((R a ha hd).2 t ht).2.2.2.1]
    · rw [M.2.1 a i ha hi fun e he w => h ⟨e, he, w.1, w.2⟩]
      show (0 : Int64) * _ = (0 : Int64) * _
      rw [Int64.zero_mul, Int64.zero_mul]
  · intro e he hc
    show (us (P e * 16 + i)).toInt64 = lN (U e)
    have q := M.1 e he
    rw [hc] at q
    rw [q, nI_l (by have := hU e he; omega)]
  · intro a ha h
    show (us (a * 16 + i)).toInt64 = 0
    rw [M.2.1 a i ha hi fun e he w => h e he w.2 w.1]
    rfl
  · intro e f he hf c1 c2 h
    exact M.2.2 e f he hf h (c1.trans c2.symm)
section
variable {n p m : Nat} {P C U Q Ld L : Nat → Nat} {Gr Ne Pl Rl Pj : Nat → Nat → Int64} {Pd : Nat → Int64} {f_edgeCount f_current : Int32} {a_leads a_rules a_params a_onHands a_demands a_receipts a_usages a_levels a_reached : Nat → Int32} {a_gross a_net a_planned a_release a_projected a_pastDue a_stock : Nat → Int64}
theorem xp_lev {post : Int32 → SX → Prop} {lev : Nat} (hn16 : n ≤ 16) (hp16 : p ≤ 16) (hlev : lev < n) (hP : ∀ e, e < m → P e < n) (hL : ∀ e, e < m → L (P e) < L (C e)) (hU : ∀ e, e < m → 1 ≤ U e ∧ U e ≤ 9)
    (hLn : ∀ a, a < n → L a < n) (hV : xr_V n a_levels L) (M : xr_M n m P C U a_usages) (W : pp_W n Q Ld a_leads a_rules a_params a_onHands a_demands a_receipts)
    (Z : pp_P n p m P C U Q Ld a_rules a_onHands a_demands a_receipts Gr Ne Pl Rl Pj Pd)
    (h1 : ∀ gr ne pl rl pj pd, pp_R n p (pp_D L (lev + 1) 0) Gr Ne Pl Rl Pj Pd gr ne pl rl pj pd → pp_ok n p (pp_D L (lev + 1) 0) Gr → post 1 ((nI n), (nI p), f_edgeCount, f_current, a_leads, a_rules, a_params, a_onHands, a_demands, a_receipts, a_usages, a_levels, a_reached, gr, ne, pl, rl, pj, pd, a_stock))
    (h0 : ∀ gr ne pl rl pj pd, (¬ pp_ok n p (fun _ => True) Gr) → post 0 ((nI n), (nI p), f_edgeCount, f_current, a_leads, a_rules, a_params, a_onHands, a_demands, a_receipts, a_usages, a_levels, a_reached, gr, ne, pl, rl, pj, pd, a_stock)) :
    ∀ d it gr ne pl rl pj pd, it + d = n → pp_R n p (pp_D L lev it) Gr Ne Pl Rl Pj Pd gr ne pl rl pj pd → pp_ok n p (pp_D L lev it) Gr →
      wX_planLevel_2 post (nI lev) (d + 1) (nI it) (nI n) (nI p) f_edgeCount f_current a_leads a_rules a_params a_onHands a_demands a_receipts a_usages a_levels a_reached gr ne pl rl pj pd a_stock := by
  intro d
  induction d with
  | zero =>
    intro it gr ne pl rl pj pd hit R O
    have e : it = n := by omega
    rw [e] at R O
    exact br_t (nI_le (by omega) (by omega)) (h1 gr ne pl rl pj pd (pp_Rany R fun a ha q => pp_Dn ha q) (fun a ha q => O a ha (pp_Dn ha q)))
  | succ d ih =>
    intro it gr ne pl rl pj pd hit R O
    have hi : it < n := by omega
    have el : a_levels (nI it).toNatClampNeg = nI (L it) := (xh_at (by omega)).trans (hV it hi)
    have hl := hLn it hi
    refine br_f (nI_ge hi (by omega)) ⟨vp_in_nI (by omega) (by omega), ?_⟩
    by_cases c : L it = lev
    · refine br_t (by rw [el, c]) ?_
      obtain ⟨z1, z2, z3, z4, z5, z6⟩ := Z it hi
      obtain ⟨w1, w2, w3, w4, w5, w6⟩ := W.1 it hi
      refine xg_gross (g := Gr it) hn16 hp16 hi (fun t ht => ?_) (fun gr' k1 k2 k3 => ?_) (fun gr' k1 => ?_)
      · rw [z1 t ht]
        unfold pp_g
        rw [xg_col hP hU M hi ht (fun e he hc => Or.inl (by have := hL e he; rw [hc, c] at this; exact this)) R]
      · refine br_f (by decide) ?_
        refine xg_plan (q := Q it) (g := Gr it) (rc := pp_rc a_receipts it) (by omega) hp16 k2 (fun _ _ => rfl) w3 w4 w5 w6 (fun ne' pl' pj' n1 n2 n3 o1 o2 o3 => ?_)
        refine xg_rel (l := Ld it) (lot := Pl it) (by omega) hp16 w1 w2 (fun s hs => (n2 s hs).trans (z3 s hs).symm) (fun rl' pd' r1 r2 o4 o5 => ?_)
        refine nm_r (nI_1 it) (ih (it + 1) gr' ne' pl' rl' pj' pd' (by omega) ?_ ?_)
        · exact pp_Rput hp16 R k3 o1 o2 o4 o3 o5 k2 (fun t ht => (n1 t ht).trans (z2 t ht).symm) (fun t ht => (n2 t ht).trans (z3 t ht).symm)
            (fun t ht => (r1 t ht).trans (z4 t ht).symm) (fun t ht => (n3 t ht).trans (z5 t ht).symm) (r2.trans z6.symm)
            (fun a q => (pp_Ds q).imp id (fun w => w.1))
        · intro a ha q t ht
          rcases pp_Ds q with q | q
          · exact O a ha q t ht
          · rw [q.1]; exact k1 t ht
      · obtain ⟨t, ht, q⟩ := k1
        exact br_t rfl (h0 gr' ne pl rl pj pd fun w => q (w it hi trivial t ht))
    · refine br_f (fun q => c ?_) (nm_r (nI_1 it) (ih (it + 1) gr ne pl rl pj pd (by omega) (pp_Rany R fun a _ q => ?_) (fun a ha q => O a ha ?_)))
      · rw [el] at q
        exact (nI_eq (by omega) (by omega)).mp q
      · exact (pp_Ds q).resolve_right fun w => c w.2
      · exact (pp_Ds q).resolve_right fun w => c w.2
theorem xp_start {post : SX → Prop} (hn16 : n ≤ 16) (h : ∀ st', (∀ i, i < n → st' i = (a_onHands i).toInt64) → post ((nI n), (nI p), f_edgeCount, 0, a_leads, a_rules, a_params, a_onHands, a_demands, a_receipts, a_usages, a_levels, a_reached, a_gross, a_net, a_planned, a_release, a_projected, a_pastDue, st')) :
    ∀ d i st, i + d = n → (∀ j, j < i → st j = (a_onHands j).toInt64) → wX_startExecution_2 post (nI n) (nI p) f_edgeCount f_current (d + 1) (nI i) a_leads a_rules a_params a_onHands a_demands a_receipts a_usages a_levels a_reached a_gross a_net a_planned a_release a_projected a_pastDue st := by
  intro d
  induction d with
  | zero =>
    intro i st hi hz
    exact br_t (nI_le (by omega) (by omega)) (h st fun j hj => hz j (by omega))
  | succ d ih =>
    intro i st hi hz
    have vi : vp_in (nI i) 16 := vp_in_nI (by omega) (by omega)
    refine br_f (nI_ge (by omega) (by omega)) ⟨vi, vi, nm_r (xh_upL (y := (a_onHands i).toInt64) (by omega) (by rw [nI_clamp (by omega)])) (nm_r (nI_1 i) (ih (i + 1) _ (by omega) fun j hj => ?_))⟩
    by_cases e : j = i
    · rw [e, pk_uLs]
    · rw [pk_uLn e]; exact hz j (by omega)
theorem xp_6 {post : Int32 → SX → Prop} (hn16 : n ≤ 16) (hp16 : p ≤ 16) (hP : ∀ e, e < m → P e < n) (hL : ∀ e, e < m → L (P e) < L (C e)) (hU : ∀ e, e < m → 1 ≤ U e ∧ U e ≤ 9)
    (hLn : ∀ a, a < n → L a < n) (hV : xr_V n a_levels L) (M : xr_M n m P C U a_usages) (W : pp_W n Q Ld a_leads a_rules a_params a_onHands a_demands a_receipts)
    (Z : pp_P n p m P C U Q Ld a_rules a_onHands a_demands a_receipts Gr Ne Pl Rl Pj Pd)
    (h1 : ∀ gr ne pl rl pj pd st, pp_R n p (fun _ => True) Gr Ne Pl Rl Pj Pd gr ne pl rl pj pd → pp_ok n p (fun _ => True) Gr → (∀ i, i < n → st i = (a_onHands i).toInt64) → post 0 ((nI n), (nI p), f_edgeCount, 0, a_leads, a_rules, a_params, a_onHands, a_demands, a_receipts, a_usages, a_levels, a_reached, gr, ne, pl, rl, pj, pd, st))
    (h0 : ∀ gr ne pl rl pj pd, (¬ pp_ok n p (fun _ => True) Gr) → post (-4) ((nI n), (nI p), f_edgeCount, f_current, a_leads, a_rules, a_params, a_onHands, a_demands, a_receipts, a_usages, a_levels, a_reached, gr, ne, pl, rl, pj, pd, a_stock)) :
    ∀ d lev gr ne pl rl pj pd, lev + d = n → pp_R n p (pp_D L lev 0) Gr Ne Pl Rl Pj Pd gr ne pl rl pj pd → pp_ok n p (pp_D L lev 0) Gr →
      wX_plan_6 post (d + 1) (nI lev) (nI n) (nI p) f_edgeCount f_current a_leads a_rules a_params a_onHands a_demands a_receipts a_usages a_levels a_reached gr ne pl rl pj pd a_stock := by
  intro d
  induction d with
  | zero =>
    intro lev gr ne pl rl pj pd hlev R O
    have e : lev = n := by omega
    rw [e] at R O
    refine br_t (nI_le (by omega) (by omega)) ?_
    unfold wpX_startExecution
    refine ⟨n + 1, xp_start hn16 (fun st' hs => ?_) n 0 a_stock (by omega) (fun j hj => absurd hj (by omega))⟩
    exact h1 gr ne pl rl pj pd st' (pp_Rany R fun a ha _ => Or.inl (hLn a ha)) (fun a ha _ => O a ha (Or.inl (hLn a ha))) hs
  | succ d ih =>
    intro lev gr ne pl rl pj pd hlev R O
    refine br_f (nI_ge (by omega) (by omega)) ?_
    unfold wpX_planLevel
    refine ⟨n + 1, xp_lev hn16 hp16 (by omega) hP hL hU hLn hV M W Z (fun gr' ne' pl' rl' pj' pd' R' O' => ?_) (fun gr' ne' pl' rl' pj' pd' q => ?_) n 0 gr ne pl rl pj pd (by omega) R O⟩
    · exact br_f (by decide) (nm_r (nI_1 lev) (ih (lev + 1) gr' ne' pl' rl' pj' pd' (by omega) R' O'))
    · exact br_t rfl (h0 gr' ne' pl' rl' pj' pd' q)
/-- the component's plan -/
theorem xp_plan {post : Int32 → SX → Prop} (hn16 : n ≤ 16) (hp16 : p ≤ 16) (hP : ∀ e, e < m → P e < n) (hL : ∀ e, e < m → L (P e) < L (C e)) (hU : ∀ e, e < m → 1 ≤ U e ∧ U e ≤ 9)
    (hLn : ∀ a, a < n → L a < n) (hV : xr_V n a_levels L) (M : xr_M n m P C U a_usages) (W : pp_W n Q Ld a_leads a_rules a_params a_onHands a_demands a_receipts)
    (Z : pp_P n p m P C U Q Ld a_rules a_onHands a_demands a_receipts Gr Ne Pl Rl Pj Pd)
    (h1 : ∀ gr ne pl rl pj pd st, pp_R n p (fun _ => True) Gr Ne Pl Rl Pj Pd gr ne pl rl pj pd → pp_ok n p (fun _ => True) Gr → (∀ i, i < n → st i = (a_onHands i).toInt64) → post 0 ((nI n), (nI p), f_edgeCount, 0, a_leads, a_rules, a_params, a_onHands, a_demands, a_receipts, a_usages, a_levels, a_reached, gr, ne, pl, rl, pj, pd, st))
    (h0 : ∀ gr ne pl rl pj pd, (¬ pp_ok n p (fun _ => True) Gr) → post (-4) ((nI n), (nI p), f_edgeCount, (-1), a_leads, a_rules, a_params, a_onHands, a_demands, a_receipts, a_usages, a_levels, a_reached, gr, ne, pl, rl, pj, pd, a_stock)) : wpX_plan post ((nI n), (nI p), f_edgeCount, f_current, a_leads, a_rules, a_params, a_onHands, a_demands, a_receipts, a_usages, a_levels, a_reached, a_gross, a_net, a_planned, a_release, a_projected, a_pastDue, a_stock) := by
  unfold wpX_plan
  unfold wpX_discardPlan
  exact ⟨n + 1, xp_6 hn16 hp16 hP hL hU hLn hV M W Z h1 h0 n 0 a_gross a_net a_planned a_release a_projected a_pastDue (by omega) (fun a _ q => (pp_D0 q).elim) (fun a _ q => (pp_D0 q).elim)⟩
end
