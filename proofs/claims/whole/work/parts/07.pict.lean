/-! the plan as a picture that both sides are held against: Gr Ne Pl Rl Pj by item and period, Pd by item -/
def pp_rc (rcp : Nat → Int32) (i t : Nat) : Int64 := (rcp (i * 16 + t)).toInt64
def pp_g (m : Nat) (P C U : Nat → Nat) (dem : Nat → Int32) (Rl : Nat → Nat → Int64) (i t : Nat) : Int64 :=
  (dem (i * 16 + t)).toInt64 + ms_s (fun e => if C e = i then lN (U e) * Rl (P e) t else 0) m
def pp_P (n p m : Nat) (P C U Q Ld : Nat → Nat) (rul onH dem rcp : Nat → Int32) (Gr Ne Pl Rl Pj : Nat → Nat → Int64) (Pd : Nat → Int64) : Prop :=
  ∀ i, i < n → (∀ t, t < p → Gr i t = pp_g m P C U dem Rl i t) ∧
    (∀ t, t < p → Ne i t = mr_net (Gr i) (pp_rc rcp i) t (mr_pv (rul i) (Q i) p (Gr i) (pp_rc rcp i) (onH i).toInt64 t)) ∧
    (∀ t, t < p → Pl i t = mr_P (rul i) (Q i) p (Gr i) (pp_rc rcp i) (onH i).toInt64 t) ∧
    (∀ t, t < p → Rl i t = mr_rl (Pl i) (Ld i) t p) ∧
    (∀ t, t < p → Pj i t = mr_pv (rul i) (Q i) p (Gr i) (pp_rc rcp i) (onH i).toInt64 (t + 1)) ∧
    Pd i = mr_pd (Pl i) (Ld i) p
theorem pp_ex {n p m : Nat} {P C U Q Ld L : Nat → Nat} {rul onH dem rcp : Nat → Int32} (h : ∀ e, e < m → L (P e) < L (C e)) :
    ∃ (Gr Ne Pl Rl Pj : Nat → Nat → Int64) (Pd : Nat → Int64), pp_P n p m P C U Q Ld rul onH dem rcp Gr Ne Pl Rl Pj Pd := by
  obtain ⟨Rl, hR⟩ := mr_fix (n := n) L (fun rel i s => mr_rl (fun t => mr_P (rul i) (Q i) p (pp_g m P C U dem rel i) (pp_rc rcp i) (onH i).toInt64 t) (Ld i) s p) (by
    intro r r' i hi ha
    have e : pp_g m P C U dem r i = pp_g m P C U dem r' i := by
      funext t
      unfold pp_g
      refine congrArg (fun z => (dem (i * 16 + t)).toInt64 + z) (ms_congr m fun e he => ?_)
      show (if C e = i then lN (U e) * r (P e) t else 0) = (if C e = i then lN (U e) * r' (P e) t else 0)
      by_cases c : C e = i
      · rw [if_pos c, if_pos c, ha (P e) (by rw [← c]; exact h e he)]
      · rw [if_neg c, if_neg c]
    show (fun s => mr_rl (fun t => mr_P (rul i) (Q i) p (pp_g m P C U dem r i) (pp_rc rcp i) (onH i).toInt64 t) (Ld i) s p) = (fun s => mr_rl (fun t => mr_P (rul i) (Q i) p (pp_g m P C U dem r' i) (pp_rc rcp i) (onH i).toInt64 t) (Ld i) s p)
    rw [e])
  refine ⟨fun i => pp_g m P C U dem Rl i,
    fun i t => mr_net (pp_g m P C U dem Rl i) (pp_rc rcp i) t (mr_pv (rul i) (Q i) p (pp_g m P C U dem Rl i) (pp_rc rcp i) (onH i).toInt64 t),
    fun i t => mr_P (rul i) (Q i) p (pp_g m P C U dem Rl i) (pp_rc rcp i) (onH i).toInt64 t, Rl,
    fun i t => mr_pv (rul i) (Q i) p (pp_g m P C U dem Rl i) (pp_rc rcp i) (onH i).toInt64 (t + 1),
    fun i => mr_pd (fun t => mr_P (rul i) (Q i) p (pp_g m P C U dem Rl i) (pp_rc rcp i) (onH i).toInt64 t) (Ld i) p, ?_⟩
  intro i hi
  refine ⟨fun _ _ => rfl, fun _ _ => rfl, fun _ _ => rfl, fun t _ => ?_, fun _ _ => rfl, rfl⟩
  exact congrFun (hR i hi) t
/-- the rows of the items in D hold the picture -/
def pp_R (n p : Nat) (D : Nat → Prop) (Gr Ne Pl Rl Pj : Nat → Nat → Int64) (Pd : Nat → Int64) (gr ne pl rl pj pd : Nat → Int64) : Prop :=
  ∀ a, a < n → D a → pd a = Pd a ∧ ∀ t, t < p → gr (a * 16 + t) = Gr a t ∧ ne (a * 16 + t) = Ne a t ∧ pl (a * 16 + t) = Pl a t ∧ rl (a * 16 + t) = Rl a t ∧ pj (a * 16 + t) = Pj a t
def pp_ok (n p : Nat) (D : Nat → Prop) (Gr : Nat → Nat → Int64) : Prop := ∀ a, a < n → D a → ∀ t, t < p → Gr a t ≤ 1000000000000
/-- those planned when item it of level lev is next -/
def pp_D (L : Nat → Nat) (lev it a : Nat) : Prop := L a < lev ∨ (L a = lev ∧ a < it)
theorem pp_Ds {L : Nat → Nat} {lev it a : Nat} (h : pp_D L lev (it + 1) a) : pp_D L lev it a ∨ (a = it ∧ L it = lev) := by
  unfold pp_D at *
  by_cases e : a = it
  · subst e; omega
  · omega
theorem pp_Dn {L : Nat → Nat} {n lev a : Nat} (ha : a < n) (h : pp_D L (lev + 1) 0 a) : pp_D L lev n a := by
  unfold pp_D at *; omega
theorem pp_D0 {L : Nat → Nat} {a : Nat} (h : pp_D L 0 0 a) : False := by
  unfold pp_D at h; omega
/-- an array with other values in row i alone -/
def pp_o (i : Nat) (f g : Nat → Int64) : Prop := ∀ a s, a ≠ i → s < 16 → g (a * 16 + s) = f (a * 16 + s)
theorem pp_or (i : Nat) (f : Nat → Int64) : pp_o i f f := fun _ _ _ _ => rfl
theorem pp_op {i s : Nat} {f g : Nat → Int64} {x : Int64} (h : pp_o i f g) (hs : s < 16) : pp_o i f (vp_updL g (i * 16 + s) x) := by
  intro a s' ha hs'
  rw [pk_uLn (by omega)]
  exact h a s' ha hs'
/-- row i joins -/
theorem pp_Rput {n p i : Nat} {D D' : Nat → Prop} {Gr Ne Pl Rl Pj : Nat → Nat → Int64} {Pd : Nat → Int64} {gr ne pl rl pj pd gr' ne' pl' rl' pj' pd' : Nat → Int64} (hp : p ≤ 16)
    (h : pp_R n p D Gr Ne Pl Rl Pj Pd gr ne pl rl pj pd) (o1 : pp_o i gr gr') (o2 : pp_o i ne ne') (o3 : pp_o i pl pl') (o4 : pp_o i rl rl') (o5 : pp_o i pj pj') (o6 : ∀ a, a ≠ i → pd' a = pd a)
    (r1 : ∀ t, t < p → gr' (i * 16 + t) = Gr i t) (r2 : ∀ t, t < p → ne' (i * 16 + t) = Ne i t) (r3 : ∀ t, t < p → pl' (i * 16 + t) = Pl i t)
    (r4 : ∀ t, t < p → rl' (i * 16 + t) = Rl i t) (r5 : ∀ t, t < p → pj' (i * 16 + t) = Pj i t) (r6 : pd' i = Pd i)
    (hD : ∀ a, D' a → D a ∨ a = i) : pp_R n p D' Gr Ne Pl Rl Pj Pd gr' ne' pl' rl' pj' pd' := by
  intro a ha hd
  by_cases e : a = i
  · subst e
    exact ⟨r6, fun t ht => ⟨r1 t ht, r2 t ht, r3 t ht, r4 t ht, r5 t ht⟩⟩
  · obtain ⟨q1, q2⟩ := h a ha ((hD a hd).resolve_right e)
    refine ⟨(o6 a e).trans q1, fun t ht => ?_⟩
    obtain ⟨z1, z2, z3, z4, z5⟩ := q2 t ht
    exact ⟨(o1 a t e (by omega)).trans z1, (o2 a t e (by omega)).trans z2, (o3 a t e (by omega)).trans z3, (o4 a t e (by omega)).trans z4, (o5 a t e (by omega)).trans z5⟩
theorem pp_Rany {n p : Nat} {D D' : Nat → Prop} {Gr Ne Pl Rl Pj : Nat → Nat → Int64} {Pd : Nat → Int64} {gr ne pl rl pj pd : Nat → Int64}
    (h : pp_R n p D Gr Ne Pl Rl Pj Pd gr ne pl rl pj pd) (hD : ∀ a, a < n → D' a → D a) : pp_R n p D' Gr Ne Pl Rl Pj Pd gr ne pl rl pj pd :=
  fun a ha hd => h a ha (hD a ha hd)
/-! the ranges that the relation keeps -/
def pp_W (n : Nat) (Q Ld : Nat → Nat) (led rul par onH dem rcp : Nat → Int32) : Prop :=
  (∀ i, i < n → led i = nI (Ld i) ∧ Ld i ≤ 8 ∧ par i = nI (Q i) ∧ Q i ≤ 10000 ∧ (rul i = 1 → 1 ≤ Q i) ∧ (rul i = 2 → 1 ≤ Q i ∧ Q i ≤ 8)) ∧
  (∀ i, ∃ w, w ≤ 100000 ∧ onH i = nI w) ∧ (∀ k, ∃ w, w ≤ 100000 ∧ dem k = nI w) ∧ (∀ k, ∃ w, w ≤ 100000 ∧ rcp k = nI w)
/-- a row's releases are small naturals -/
def pp_b (p : Nat) (R : Nat → Int64) : Prop := ∀ t, t < p → ∃ w, w ≤ 272000000000000 ∧ R t = lN w
theorem pp_row {n p m i : Nat} {P C U Q Ld : Nat → Nat} {led rul par onH dem rcp : Nat → Int32} {Gr Ne Pl Rl Pj : Nat → Nat → Int64} {Pd : Nat → Int64}
    (hp : p ≤ 16) (hm : m ≤ 32) (hi : i < n) (W : pp_W n Q Ld led rul par onH dem rcp) (hU : ∀ e, e < m → U e ≤ 9)
    (Z : pp_P n p m P C U Q Ld rul onH dem rcp Gr Ne Pl Rl Pj Pd) (hR : ∀ e, e < m → C e = i → pp_b p (Rl (P e))) (hok : ∀ t, t < p → Gr i t ≤ 1000000000000) :
    (∀ t, t < p → ∃ w, w ≤ 17000000000000 ∧ Pl i t = lN w) ∧ pp_b p (Rl i) := by
  obtain ⟨z1, z2, z3, z4, z5, z6⟩ := Z i hi
  obtain ⟨W1, W2, W3, W4⟩ := W
  have hg : ∀ j, j < p → 0 ≤ (Gr i j).toInt ∧ (Gr i j).toInt ≤ 1000000000000 := by
    intro j hj
    refine ⟨?_, ?_⟩
    · obtain ⟨w, hw, e⟩ := W3 (i * 16 + j)
      rw [z1 j hj]
      unfold pp_g
      rw [e, nI_l (by omega)]
      exact mb_g (rel := fun a => Rl a j) hm hw hU (fun e he hc => hR e he hc j hj)
    · have h1 := hok j hj
      rw [Int64.le_iff_toInt_le] at h1
      exact h1
  have hr : ∀ j, j < p → 0 ≤ (pp_rc rcp i j).toInt ∧ (pp_rc rcp i j).toInt ≤ 100000 := by
    intro j _
    obtain ⟨w, hw, e⟩ := W4 (i * 16 + j)
    unfold pp_rc
    rw [e, nI_l (by omega), lN_toInt (by omega)]
    omega
  have ho : 0 ≤ ((onH i).toInt64).toInt ∧ ((onH i).toInt64).toInt ≤ 100000 := by
    obtain ⟨w, hw, e⟩ := W2 i
    rw [e, nI_l (by omega), lN_toInt (by omega)]
    omega
  have hq : rul i = 1 → 1 ≤ Q i ∧ Q i ≤ 10000 := by
    obtain ⟨_, _, _, q1, q2, _⟩ := W1 i hi
    exact fun h => ⟨q2 h, q1⟩
  have hl : ∀ t, t < p → ∃ w, w ≤ 17000000000000 ∧ Pl i t = lN w := by
    intro t ht
    rw [z3 t ht]
    exact mb_P hg hr ho hp hq t ht
  refine ⟨hl, fun t ht => ?_⟩
  rw [z4 t ht]
  exact mb_rl hp hl (Ld i) t
