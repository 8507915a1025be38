/-! the owed statements of addComponent and removeComponent -/
theorem ed_down (f : Nat → Nat) (e : Nat) : ∃ g : Nat → Nat, (∀ j, j < e → g j = f j) ∧ (∀ j, e ≤ j → g j = f (j + 1)) :=
  ⟨fun j => if j < e then f j else f (j + 1), fun j hj => if_pos hj, fun j hj => if_neg (by omega)⟩
theorem ed_at (f : Nat → Nat) (m w : Nat) : ∃ g : Nat → Nat, (∀ j, j < m → g j = f j) ∧ g m = w :=
  ⟨fun j => if j = m then w else f j, fun j hj => if_neg (by omega), if_pos rfl⟩
theorem ed_put (f : Nat → Nat) (e w : Nat) : ∃ g : Nat → Nat, (∀ j, j ≠ e → g j = f j) ∧ g e = w :=
  ⟨fun j => if j = e then w else f j, fun j hj => if_neg hj, if_pos rfl⟩
theorem ed_pair {a b c d : Nat} (hb : b < 16) (hd : d < 16) (h : a * 16 + b = c * 16 + d) : a = c ∧ b = d := by omega
/-- a new edge t s with usage w at place m -/
theorem ed_newE {n m t s w : Nat} {P C U P' C' U' : Nat → Nat} {ep ec eu : Nat → Int32} (E : ye_E n m P C U ep ec eu) (ht : t < n) (hs : s < n) (hw : 1 ≤ w ∧ w ≤ 9)
    (p1 : ∀ e, e < m → P' e = P e) (p2 : P' m = t) (c1 : ∀ e, e < m → C' e = C e) (c2 : C' m = s) (u1 : ∀ e, e < m → U' e = U e) (u2 : U' m = w) :
    ye_E n (m + 1) P' C' U' (upd ep m (nI t)) (upd ec m (nI s)) (upd eu m (nI w)) := by
  intro e he
  by_cases q : e = m
  · rw [q, p2, c2, u2, pk_us, pk_us, pk_us]
    exact ⟨rfl, rfl, rfl, ht, hs, hw.1, hw.2⟩
  · have h : e < m := by omega
    rw [p1 e h, c1 e h, u1 e h, pk_un q, pk_un q, pk_un q]
    exact E e h
theorem ed_newM {n m t s w : Nat} {P C U P' C' U' : Nat → Nat} {ep ec eu us : Nat → Int32} (hn16 : n ≤ 16) (E : ye_E n m P C U ep ec eu) (M : xr_M n m P C U us) (ht : t < n) (hs : s < n) (hno : ∀ e, e < m → ¬ (P e = t ∧ C e = s))
    (p1 : ∀ e, e < m → P' e = P e) (p2 : P' m = t) (c1 : ∀ e, e < m → C' e = C e) (c2 : C' m = s) (u1 : ∀ e, e < m → U' e = U e) (u2 : U' m = w) :
    xr_M n (m + 1) P' C' U' (upd us (t * 16 + s) (nI w)) := by
  refine ⟨fun e he => ?_, fun a b ha hb h => ?_, fun e f he hf h1 h2 => ?_⟩
  · by_cases q : e = m
    · rw [q, p2, c2, u2, pk_us]
    · have h : e < m := by omega
      obtain ⟨_, _, _, q1, q2, _⟩ := E e h
      rw [p1 e h, c1 e h, u1 e h, pk_un fun z => hno e h (ed_pair (by omega) (by omega) z)]
      exact M.1 e h
  · have h' : ¬ (t = a ∧ s = b) := by
      have z := h m (by omega)
      rw [p2, c2] at z
      exact z
    rw [pk_un fun z => h' (by have y := ed_pair (by omega) (by omega) z; exact ⟨y.1.symm, y.2.symm⟩)]
    refine M.2.1 a b ha hb fun e he => ?_
    have z := h e (by omega)
    rw [p1 e he, c1 e he] at z
    exact z
  · by_cases q : e = m
    · by_cases q' : f = m
      · omega
      · have hf' : f < m := by omega
        rw [q, p2, p1 f hf'] at h1
        rw [q, c2, c1 f hf'] at h2
        exact absurd ⟨h1.symm, h2.symm⟩ (hno f hf')
    · have he' : e < m := by omega
      rw [p1 e he'] at h1
      rw [c1 e he'] at h2
      by_cases q' : f = m
      · rw [q', p2] at h1
        rw [q', c2] at h2
        exact absurd ⟨h1, h2⟩ (hno e he')
      · have hf' : f < m := by omega
        rw [p1 f hf'] at h1
        rw [c1 f hf'] at h2
        exact M.2.2 e f he' hf' h1 h2
theorem ed_newG {m t s : Nat} {P C P' C' : Nat → Nat} (p1 : ∀ e, e < m → P' e = P e) (p2 : P' m = t) (c1 : ∀ e, e < m → C' e = C e) (c2 : C' m = s) (a b : Nat) (h : ye_G (m + 1) P' C' a b) : ye_G m P C a b ∨ (a = t ∧ b = s) := by
  obtain ⟨e, he, h1, h2⟩ := h
  by_cases q : e = m
  · rw [q, p2] at h1
    rw [q, c2] at h2
    exact Or.inr ⟨h1.symm, h2.symm⟩
  · have h : e < m := by omega
    rw [p1 e h] at h1
    rw [c1 e h] at h2
    exact Or.inl ⟨e, h, h1, h2⟩
/-- another usage for edge e -/
theorem ed_useE {n m e w : Nat} {P C U U' : Nat → Nat} {ep ec eu : Nat → Int32} (E : ye_E n m P C U ep ec eu) (hw : 1 ≤ w ∧ w ≤ 9) (u1 : ∀ f, f ≠ e → U' f = U f) (u2 : U' e = w) :
    ye_E n m P C U' ep ec (upd eu e (nI w)) := by
  intro f hf
  obtain ⟨q1, q2, q3, q4, q5, q6⟩ := E f hf
  by_cases q : f = e
  · rw [q, u2, pk_us, ← q]
    exact ⟨q1, q2, rfl, q4, q5, hw.1, hw.2⟩
  · rw [u1 f q, pk_un q]
    exact ⟨q1, q2, q3, q4, q5, q6⟩
theorem ed_useM {n m e w : Nat} {P C U U' : Nat → Nat} {ep ec eu us : Nat → Int32} (hn16 : n ≤ 16) (E : ye_E n m P C U ep ec eu) (M : xr_M n m P C U us) (he : e < m) (u1 : ∀ f, f ≠ e → U' f = U f) (u2 : U' e = w) :
    xr_M n m P C U' (upd us (P e * 16 + C e) (nI w)) := by
  obtain ⟨_, _, _, e1, e2, _⟩ := E e he
  refine ⟨fun f hf => ?_, fun a b ha hb h => ?_, M.2.2⟩
  · obtain ⟨_, _, _, q1, q2, _⟩ := E f hf
    by_cases q : f = e
    · rw [q, u2, pk_us]
    · rw [u1 f q, pk_un fun z => q (by have y := ed_pair (by omega) (by omega) z; exact M.2.2 f e hf he y.1 y.2)]
      exact M.1 f hf
  · rw [pk_un fun z => h e he (by have y := ed_pair (by omega) (by omega) z; exact ⟨y.1.symm, y.2.symm⟩)]
    exact M.2.1 a b ha hb h
/-- edge e gone, those behind it one place down -/
def ed_sh (e f : Nat) (a0 a : Nat → Int32) : Prop := ∀ g, (g < e → a g = a0 g) ∧ (e ≤ g → g < f → a g = a0 (g + 1)) ∧ (f ≤ g → a g = a0 g)
theorem ed_sh0 (e : Nat) (a0 : Nat → Int32) : ed_sh e e a0 a0 := fun _ => ⟨fun _ => rfl, fun h1 h2 => absurd h2 (by omega), fun _ => rfl⟩
theorem ed_shs {e f : Nat} {a0 a : Nat → Int32} (he : e ≤ f) (h : ed_sh e f a0 a) : ed_sh e (f + 1) a0 (upd a f (a (f + 1))) := by
  intro g
  refine ⟨fun q => ?_, fun q1 q2 => ?_, fun q => ?_⟩
  · rw [pk_un (by omega)]; exact (h g).1 q
  · by_cases z : g = f
    · rw [z, pk_us]; exact (h (f + 1)).2.2 (by omega)
    · rw [pk_un z]; exact (h g).2.1 q1 (by omega)
  · rw [pk_un (by omega)]; exact (h g).2.2 (by omega)
theorem ed_remE {n m e : Nat} {P C U P' C' U' : Nat → Nat} {ep ec eu ep' ec' eu' : Nat → Int32} (E : ye_E n (m + 1) P C U ep ec eu) (he : e ≤ m)
    (a1 : ed_sh e m ep ep') (a2 : ed_sh e m ec ec') (a3 : ed_sh e m eu eu')
    (p1 : ∀ f, f < e → P' f = P f ∧ C' f = C f ∧ U' f = U f) (p2 : ∀ f, e ≤ f → P' f = P (f + 1) ∧ C' f = C (f + 1) ∧ U' f = U (f + 1)) :
    ye_E n m P' C' U' ep' ec' eu' := by
  intro f hf
  by_cases q : f < e
  · obtain ⟨x1, x2, x3⟩ := p1 f q
    rw [x1, x2, x3, (a1 f).1 q, (a2 f).1 q, (a3 f).1 q]
    exact E f (by omega)
  · obtain ⟨x1, x2, x3⟩ := p2 f (by omega)
    rw [x1, x2, x3, (a1 f).2.1 (by omega) hf, (a2 f).2.1 (by omega) hf, (a3 f).2.1 (by omega) hf]
    exact E (f + 1) (by omega)
theorem ed_remM {n m e : Nat} {P C U P' C' U' : Nat → Nat} {ep ec eu us : Nat → Int32} (hn16 : n ≤ 16) (E : ye_E n (m + 1) P C U ep ec eu) (M : xr_M n (m + 1) P C U us) (he : e ≤ m)
    (p1 : ∀ f, f < e → P' f = P f ∧ C' f = C f ∧ U' f = U f) (p2 : ∀ f, e ≤ f → P' f = P (f + 1) ∧ C' f = C (f + 1) ∧ U' f = U (f + 1)) :
    xr_M n m P' C' U' (upd us (P e * 16 + C e) 0) := by
  have key : ∀ f, f < m → ∃ g, g < m + 1 ∧ g ≠ e ∧ P' f = P g ∧ C' f = C g ∧ U' f = U g ∧ (g = f ∧ f < e ∨ g = f + 1 ∧ e ≤ f) := by
    intro f hf
    by_cases q : f < e
    · obtain ⟨x1, x2, x3⟩ := p1 f q
      exact ⟨f, by omega, by omega, x1, x2, x3, Or.inl ⟨rfl, q⟩⟩
    · obtain ⟨x1, x2, x3⟩ := p2 f (by omega)
      exact ⟨f + 1, by omega, by omega, x1, x2, x3, Or.inr ⟨rfl, by omega⟩⟩
  obtain ⟨_, _, _, e1, e2, _⟩ := E e (by omega)
  refine ⟨fun f hf => ?_, fun a b ha hb h => ?_, fun f f' hf hf' h1 h2 => ?_⟩
  · obtain ⟨g, g1, g2, g3, g4, g5, _⟩ := key f hf
    obtain ⟨_, _, _, q1, q2, _⟩ := E g g1
    rw [g3, g4, g5, pk_un fun z => g2 (by have y := ed_pair (by omega) (by omega) z; exact M.2.2 g e g1 (by omega) y.1 y.2)]
    exact M.1 g g1
  · by_cases q : a * 16 + b = P e * 16 + C e
    · rw [q, pk_us]
    · rw [pk_un q]
      refine M.2.1 a b ha hb fun g hg w => ?_
      by_cases z : g = e
      · rw [z] at w
        exact q (by rw [← w.1, ← w.2])
      · by_cases z2 : g < e
        · obtain ⟨x1, x2, _⟩ := p1 g z2
          refine h g (by omega) ?_
          rw [x1, x2]
          exact w
        · obtain ⟨x1, x2, _⟩ := p2 (g - 1) (by omega)
          have z3 : g - 1 + 1 = g := by omega
          rw [z3] at x1 x2
          refine h (g - 1) (by omega) ?_
          rw [x1, x2]
          exact w
  · obtain ⟨g, g1, g2, g3, g4, g5, g6⟩ := key f hf
    obtain ⟨g', g1', g2', g3', g4', g5', g6'⟩ := key f' hf'
    rw [g3, g3'] at h1
    rw [g4, g4'] at h2
    have z := M.2.2 g g' g1 g1' h1 h2
    omega
theorem ed_remG {m e : Nat} {P C U P' C' U' : Nat → Nat} (he : e ≤ m)
    (p1 : ∀ f, f < e → P' f = P f ∧ C' f = C f ∧ U' f = U f) (p2 : ∀ f, e ≤ f → P' f = P (f + 1) ∧ C' f = C (f + 1) ∧ U' f = U (f + 1)) (a b : Nat) (h : ye_G m P' C' a b) : ye_G (m + 1) P C a b := by
  obtain ⟨f, hf, h1, h2⟩ := h
  by_cases q : f < e
  · obtain ⟨x1, x2, _⟩ := p1 f q
    exact ⟨f, by omega, x1.symm.trans h1, x2.symm.trans h2⟩
  · obtain ⟨x1, x2, _⟩ := p2 f (by omega)
    exact ⟨f + 1, by omega, x1.symm.trans h1, x2.symm.trans h2⟩
section
variable {n m e : Nat} {f_p f_hasPlan f_current : Int32} {a_lead a_rule a_param a_onHand a_demand a_receipt a_ep a_ec a_eu a_lvl a_reach : Nat → Int32} {a_gross a_net a_planned a_release a_projected a_pastDue a_stock : Nat → Int64}
theorem ed_42 {post : Int32 → SY → Prop} (hm : m + 1 ≤ 32)
    (h : ∀ ep' ec' eu', ed_sh e m a_ep ep' → ed_sh e m a_ec ec' → ed_sh e m a_eu eu' → post 1 ((nI n), f_p, (nI m), 0, (-1), a_lead, a_rule, a_param, a_onHand, a_demand, a_receipt, ep', ec', eu', a_gross, a_net, a_planned, a_release, a_projected, a_pastDue, a_stock, a_lvl, a_reach)) :
    ∀ d f ep ec eu, f + d = m → e ≤ f → ed_sh e f a_ep ep → ed_sh e f a_ec ec → ed_sh e f a_eu eu → wY_removeComponent_42 post (nI n) f_p (nI (m + 1)) f_hasPlan f_current (d + 1) (nI f) a_lead a_rule a_param a_onHand a_demand a_receipt ep ec eu a_gross a_net a_planned a_release a_projected a_pastDue a_stock a_lvl a_reach := by
  intro d
  induction d with
  | zero =>
    intro f ep ec eu hf he a1 a2 a3
    have q : f = m := by omega
    rw [q] at a1 a2 a3
    refine br_t (by rw [nI_1]; exact nI_le (by omega) (by omega)) (nm_r (nI_pred m) ?_)
    unfold wpY_discard
    exact h ep ec eu a1 a2 a3
  | succ d ih =>
    intro f ep ec eu hf he a1 a2 a3
    have e1 : (nI (f + 1)).toNatClampNeg = f + 1 := nI_clamp (by omega)
    have v1 : vp_in (nI (f + 1)) 32 := vp_in_nI (by omega) (by omega)
    have v0 : vp_in (nI f) 32 := vp_in_nI (by omega) (by omega)
    refine br_f (by rw [nI_1]; exact nI_ge (by omega) (by omega)) ?_
    rw [nI_1 f]
    refine ⟨v1, v0, nm_r (xh_up (y := ep (f + 1)) (by omega) (by rw [e1])) ⟨v1, v0, nm_r (xh_up (y := ec (f + 1)) (by omega) (by rw [e1])) ⟨v1, v0, nm_r (xh_up (y := eu (f + 1)) (by omega) (by rw [e1])) (nm_e ?_)⟩⟩⟩
    exact ih (f + 1) _ _ _ (by omega) (by omega) (ed_shs he a1) (ed_shs he a2) (ed_shs he a3)
end
theorem i_vc_removeComponent {k : Nat} {u : SX} {v : SY} (I : i_Rel k u v) (hk : k + 5 ≤ 2562) (v1 : Int32) (v2 : Int32) : wpX_removeComponent (fun r u' => wpY_removeComponent (fun r' v' => r' = r ∧ i_Rel (k + 5) u' v') v v1 v2) u v1 v2 := by
  have J : i_Rel (k + 5) u v := i_up I
  obtain ⟨n, p, m, P, C, U, Q, Ld, L, cu, hp, a_leads, a_rules, a_params, a_onHands, a_demands, a_receipts, a_usages, a_levels, a_reached, a_ep, a_ec, a_eu, a_lvl, a_reach, xgr, xne, xpl, xrl, xpj, xpd, xst, ygr, yne, ypl, yrl, ypj, ypd, yst, rfl, rfl, S, H⟩ := I
  obtain ⟨s1, s2, s3, s4, s5, s6, s7, s8, s9, s10⟩ := S
  have h1 : ¬ (1 : Int32) = 0 := by decide
  unfold wpX_removeComponent
  rcases pk_ix v1 (n := n) (by omega) with a | a | ⟨t, ht, rfl⟩
  · exact xa_item0 (Or.inl a) (br_t rfl (br_t a ⟨rfl, J⟩))
  · exact xa_item0 (Or.inr a) (br_t rfl (br_f (xa_nn s2 a) (br_t a ⟨rfl, J⟩)))
  · have p1 : ¬ nI t < 0 := nI_pos (by omega)
    have p2 : ¬ nI n ≤ nI t := xa_nge s2 ht
    refine xa_item1 s2 ht (br_f h1 ?_)
    rcases pk_ix v2 (n := n) (by omega) with a | a | ⟨s, hs, rfl⟩
    · exact xa_item0 (Or.inl a) (br_t rfl (br_f p1 (br_f p2 (br_t a ⟨rfl, J⟩))))
    · exact xa_item0 (Or.inr a) (br_t rfl (br_f p1 (br_f p2 (br_f (xa_nn s2 a) (br_f (Int32.not_lt.mpr a) ⟨rfl, J⟩)))))
    · have p3 : ¬ nI s < 0 := nI_pos (by omega)
      have p4 : nI s < nI n := nI_lt hs (by omega)
      have vc : vp_in (nI (t * 16 + s)) 256 := vp_in_nI (by omega) (by omega)
      have ec : (nI (t * 16 + s)).toNatClampNeg = t * 16 + s := nI_clamp (by omega)
      refine xa_item1 s2 hs (br_f h1 (xh_pair ⟨vc, ?_⟩))
      rw [ec]
      by_cases h : ∃ e, e < m ∧ P e = t ∧ C e = s
      · obtain ⟨e, he, q1, q2⟩ := h
        obtain ⟨m, rfl⟩ : ∃ m', m = m' + 1 := ⟨m - 1, by omega⟩
        have qu : a_usages (t * 16 + s) = nI (U e) := by
          have z := s7.1 e he
          rw [q1, q2] at z
          exact z
        have uu := (s6 e he).2.2.2.2.2
        obtain ⟨P', x1, x2⟩ := ed_down P e
        obtain ⟨C', y1, y2⟩ := ed_down C e
        obtain ⟨U', z1, z2⟩ := ed_down U e
        have f1 : ∀ f, f < e → P' f = P f ∧ C' f = C f ∧ U' f = U f := fun f hf => ⟨x1 f hf, y1 f hf, z1 f hf⟩
        have f2 : ∀ f, e ≤ f → P' f = P (f + 1) ∧ C' f = C (f + 1) ∧ U' f = U (f + 1) := fun f hf => ⟨x2 f hf, y2 f hf, z2 f hf⟩
        have M' := ed_remM s2 s6 s7 (by omega) f1 f2
        rw [q1, q2] at M'
        have G' := ed_remG (m := m) (U := U) (by omega) f1 f2
        have hn' : ∀ a b, ye_G m P' C' a b → a < n ∧ b < n := fun a b g => ye_Gn s6 a b (G' a b g)
        obtain ⟨L', T'⟩ := mg_ex hn' ⟨L, fun a b g => s8.1 a b (G' a b g)⟩
        have hU' : ∀ f, f < m → 1 ≤ U' f ∧ U' f ≤ 9 := by
          intro f hf
          by_cases q : f < e
          · rw [z1 f q]; exact (s6 f (by omega)).2.2.2.2.2
          · rw [z2 f (by omega)]; exact (s6 (f + 1) (by omega)).2.2.2.2.2
        refine br_f (by rw [qu]; exact nI_ne0 (by omega) (by omega)) ⟨vc, nm_r (e' := upd a_usages (t * 16 + s) 0) rfl (nm_r (nI_pred m) (xl_find s1 s2 T' hn' (xr_MU hU' M') (fun lv' hv => ?_)))⟩
        unfold wpX_discardPlan
        refine br_f p1 (br_f p2 (br_f p3 (br_t p4 (yf_find s2 s5 s6 ht hs (fun e' he' w1 w2 => ?_) (fun h0 => absurd ⟨q1, q2⟩ (h0 e he))))))
        have ee : e' = e := s7.2.2 e' e he' he (w1.trans q1.symm) (w2.trans q2.symm)
        rw [ee]
        refine br_t (nI_pos' (by omega)) ⟨m - e + 1, ed_42 s5 (fun ep' ec' eu' a1 a2 a3 => ?_) (m - e) e a_ep a_ec a_eu (by omega) (Nat.le_refl _) (ed_sh0 e _) (ed_sh0 e _) (ed_sh0 e _)⟩
        exact ⟨rfl, rl_mk ⟨s1, s2, s3, s4, by omega, ed_remE s6 (by omega) a1 a2 a3 f1 f2, M', T', hv, s10⟩ (Or.inl ⟨rfl, rfl⟩)⟩
      · have hno : ∀ e, e < m → ¬ (P e = t ∧ C e = s) := fun e he w => h ⟨e, he, w.1, w.2⟩
        refine br_t (s7.2.1 t s ht hs hno) (br_f p1 (br_f p2 (br_f p3 (br_t p4 (yf_find s2 s5 s6 ht hs (fun e he q1 q2 => absurd ⟨q1, q2⟩ (hno e he)) (fun _ => br_f (by decide) ⟨rfl, J⟩))))))
theorem i_vc_addComponent {k : Nat} {u : SX} {v : SY} (I : i_Rel k u v) (hk : k + 5 ≤ 2562) (v1 : Int32) (v2 : Int32) (v3 : Int32) : wpX_addComponent (fun r u' => wpY_addComponent (fun r' v' => r' = r ∧ i_Rel (k + 5) u' v') v v1 v2 v3) u v1 v2 v3 := by
  have J : i_Rel (k + 5) u v := i_up I
  obtain ⟨n, p, m, P, C, U, Q, Ld, L, cu, hp, a_leads, a_rules, a_params, a_onHands, a_demands, a_receipts, a_usages, a_levels, a_reached, a_ep, a_ec, a_eu, a_lvl, a_reach, xgr, xne, xpl, xrl, xpj, xpd, xst, ygr, yne, ypl, yrl, ypj, ypd, yst, rfl, rfl, S, H⟩ := I
  have S' := S
  obtain ⟨s1, s2, s3, s4, s5, s6, s7, s8, s9, s10⟩ := S'
  have h1 : ¬ (1 : Int32) = 0 := by decide
  have hU : ∀ e, e < m → 1 ≤ U e ∧ U e ≤ 9 := fun e he => (s6 e he).2.2.2.2.2
  unfold wpX_addComponent
  rcases pk_ix v1 (n := n) (by omega) with a | a | ⟨t, ht, rfl⟩
  · exact xa_item0 (Or.inl a) (br_t rfl (br_t a ⟨rfl, J⟩))
  · exact xa_item0 (Or.inr a) (br_t rfl (br_f (xa_nn s2 a) (br_t a ⟨rfl, J⟩)))
  · have p1 : ¬ nI t < 0 := nI_pos (by omega)
    have p2 : ¬ nI n ≤ nI t := xa_nge s2 ht
    refine xa_item1 s2 ht (br_f h1 ?_)
    rcases pk_ix v2 (n := n) (by omega) with a | a | ⟨s, hs, rfl⟩
    · exact xa_item0 (Or.inl a) (br_t rfl (br_f p1 (br_f p2 (br_t a ⟨rfl, J⟩))))
    · exact xa_item0 (Or.inr a) (br_t rfl (br_f p1 (br_f p2 (br_f (xa_nn s2 a) (br_t a ⟨rfl, J⟩)))))
    · have p3 : ¬ nI s < 0 := nI_pos (by omega)
      have p4 : ¬ nI n ≤ nI s := xa_nge s2 hs
      refine xa_item1 s2 hs (br_f h1 ?_)
      by_cases b : v3 < 1
      · exact xa_in0 (Or.inl b) (br_t rfl (br_f p1 (br_f p2 (br_f p3 (br_f p4 (br_t b ⟨rfl, J⟩))))))
      · by_cases b2 : v3 ≤ 9
        · obtain ⟨w, hw, rfl⟩ := wr_of (c := 9) (by omega) (fun z => b (Int32.lt_trans z (by decide))) b2
          have hw1 : 1 ≤ w := (nI_leI (a := 1) (by omega) (by omega)).mp (Int32.not_lt.mp b)
          refine xa_in1 b (Int32.not_lt.mpr b2) (br_f h1 ?_)
          by_cases ts : t = s
          · exact br_t (by rw [ts]) (br_f p1 (br_f p2 (br_f p3 (br_f p4 (br_f b (br_t b2 (br_t (by rw [ts]) ⟨rfl, J⟩)))))))
          · have ts' : ¬ nI t = nI s := fun z => ts ((nI_eq (by omega) (by omega)).mp z)
            have vc : vp_in (nI (t * 16 + s)) 256 := vp_in_nI (by omega) (by omega)
            have ec : (nI (t * 16 + s)).toNatClampNeg = t * 16 + s := nI_clamp (by omega)
            refine br_f ts' (xh_pair ⟨vc, ?_⟩)
            rw [ec]
            by_cases h : ∃ e, e < m ∧ P e = t ∧ C e = s
            · obtain ⟨e, he, q1, q2⟩ := h
              have qu : a_usages (t * 16 + s) = nI (U e) := by
                have z := s7.1 e he
                rw [q1, q2] at z
                exact z
              have uu := hU e he
              obtain ⟨U', u1, u2⟩ := ed_put U e w
              have M' := ed_useM s2 s6 s7 he u1 u2
              rw [q1, q2] at M'
              have E' : ye_E n m P C U' a_ep a_ec (upd a_eu e (nI w)) := ed_useE s6 ⟨hw1, hw⟩ u1 u2
              refine br_f (by rw [qu]; exact nI_ne0 (by omega) (by omega)) ?_
              unfold wX_addComponent_87
              refine ⟨vc, nm_r (e' := upd a_usages (t * 16 + s) (nI w)) (by rw [ec]) (xl_find s1 s2 s8 (ye_Gn s6) (xr_MU (fun f hf => (E' f hf).2.2.2.2.2) M') (fun lv' hv => ?_))⟩
              unfold wpX_discardPlan
              refine br_f p1 (br_f p2 (br_f p3 (br_f p4 (br_f b (br_t b2 (br_f ts' (yf_find s2 s5 s6 ht hs (fun e' he' w1 w2 => ?_) (fun h0 => absurd ⟨q1, q2⟩ (h0 e he)))))))))
              have ee : e' = e := s7.2.2 e' e he' he (w1.trans q1.symm) (w2.trans q2.symm)
              rw [ee]
              refine br_f (nI_pos (by omega)) ⟨vp_in_nI (by omega) (by omega), nm_r (xh_up (by omega) rfl) ?_⟩
              unfold wpY_discard
              exact ⟨rfl, rl_mk ⟨s1, s2, s3, s4, s5, E', M', s8, hv, s10⟩ (Or.inl ⟨rfl, rfl⟩)⟩
            · have hno : ∀ e, e < m → ¬ (P e = t ∧ C e = s) := fun e he w => h ⟨e, he, w.1, w.2⟩
              refine br_t (s7.2.1 t s ht hs hno) ?_
              by_cases hm : m < 32
              · have lm : nI m < 32 := nI_lt (b := 32) hm (by omega)
                refine br_t lm (xq_lead s1 s2 s8 (ye_Gn s6) (xr_MU hU s7) hs ht (fun re' hr => ?_) (fun re' hr => ?_))
                · refine br_f h1 (br_f p1 (br_f p2 (br_f p3 (br_f p4 (br_f b (br_t b2 (br_f ts' (yf_find s2 s5 s6 ht hs (fun e he q1 q2 => absurd ⟨q1, q2⟩ (hno e he)) (fun _ => ?_)))))))))
                  refine br_t (by decide) (br_t lm ⟨17, yq_87 s2 hm s8 s6 hs ht (fun re'' _ => ?_) (fun re'' hr' => absurd hr hr') 16 0 a_reach (by omega) (fun j hj => absurd hj (by omega))⟩)
                  exact ⟨rfl, rl_mk S H⟩
                · obtain ⟨P', x1, x2⟩ := ed_at P m t
                  obtain ⟨C', y1, y2⟩ := ed_at C m s
                  obtain ⟨U', z1, z2⟩ := ed_at U m w
                  have M' := ed_newM (w := w) s2 s6 s7 ht hs hno x1 x2 y1 y2 z1 z2
                  have E' := ed_newE s6 ht hs ⟨hw1, hw⟩ x1 x2 y1 y2 z1 z2
                  obtain ⟨L', T'⟩ := mg_ex (ye_Gn E') (mg_add s8 ht (ye_Gn s6) (ed_newG x1 x2 y1 y2) hr)
                  refine br_t rfl (nm_r (nI_1 m) ?_)
                  unfold wX_addComponent_87
                  refine ⟨vc, nm_r (e' := upd a_usages (t * 16 + s) (nI w)) (by rw [ec]) (xl_find s1 s2 T' (ye_Gn E') (xr_MU (fun f hf => (E' f hf).2.2.2.2.2) M') (fun lv' hv => ?_))⟩
                  unfold wpX_discardPlan
                  refine br_f p1 (br_f p2 (br_f p3 (br_f p4 (br_f b (br_t b2 (br_f ts' (yf_find s2 s5 s6 ht hs (fun e he q1 q2 => absurd ⟨q1, q2⟩ (hno e he)) (fun _ => ?_))))))))
                  refine br_t (by decide) (br_t lm ⟨17, yq_87 s2 hm s8 s6 hs ht (fun re'' hr' => absurd hr' hr) (fun re'' _ => ?_) 16 0 a_reach (by omega) (fun j hj => absurd hj (by omega))⟩)
                  exact ⟨rfl, rl_mk ⟨s1, s2, s3, s4, by omega, E', M', T', hv, s10⟩ (Or.inl ⟨rfl, rfl⟩)⟩
              · have lm : ¬ nI m < 32 := nI_nlt (b := 32) (by omega) (by omega)
                refine br_f lm (br_f p1 (br_f p2 (br_f p3 (br_f p4 (br_f b (br_t b2 (br_f ts' (yf_find s2 s5 s6 ht hs (fun e he q1 q2 => absurd ⟨q1, q2⟩ (hno e he)) (fun _ => br_t (by decide) (br_f lm ⟨rfl, J⟩))))))))))
        · exact xa_in0 (Or.inr (Int32.not_le.mp b2)) (br_t rfl (br_f p1 (br_f p2 (br_f p3 (br_f p4 (br_f b (br_f b2 ⟨rfl, J⟩)))))))
