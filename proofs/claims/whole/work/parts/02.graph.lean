/-! The bill as a relation G a b (a parent, b child) on naturals below n: levels and what is reached. -/
def mg_W (G : Nat → Nat → Prop) : Nat → Nat → Prop
  | 0, _ => True
  | k + 1, b => ∃ a, G a b ∧ mg_W G k a
/-- L is the level of every item: the longest chain of edges down to it -/
def mg_T (n : Nat) (G : Nat → Nat → Prop) (L : Nat → Nat) : Prop :=
  (∀ a b, G a b → L a < L b) ∧ (∀ b, b < n → L b = 0 ∨ ∃ a, G a b ∧ L b = L a + 1) ∧ (∀ b, b < n → L b < n)
theorem mg_pig : ∀ (n m : Nat) (g : Nat → Nat), (∀ j, j < m → g j < n) → (∀ i j, i < m → j < m → g i = g j → i = j) → m ≤ n := by
  intro n
  induction n with
  | zero =>
    intro m g h _
    cases m with
    | zero => exact Nat.le_refl 0
    | succ m => exact absurd (h 0 (by omega)) (by omega)
  | succ n ih =>
    intro m g h inj
    cases m with
    | zero => omega
    | succ m =>
      have c1 : ∀ j, j < m → (if g j = n then g m else g j) < n := by
        intro j hj
        have h1 := h j (by omega)
        have h2 := h m (by omega)
        have h3 : g m = g j → m = j := inj m j (by omega) (by omega)
        split <;> omega
      have c2 : ∀ i j, i < m → j < m → (if g i = n then g m else g i) = (if g j = n then g m else g j) → i = j := by
        intro i j hi hj e
        have h1 : g m = g i → m = i := inj m i (by omega) (by omega)
        have h2 : g m = g j → m = j := inj m j (by omega) (by omega)
        have h3 : g i = g j → i = j := inj i j (by omega) (by omega)
        split at e <;> split at e <;> omega
      have c3 := ih m (fun j => if g j = n then g m else g j) c1 c2
      omega
theorem mg_max (P : Nat → Prop) : ∀ (B : Nat), P 0 → (∀ k, P k → k ≤ B) → ∃ l, P l ∧ ∀ k, P k → k ≤ l := by
  intro B
  induction B with
  | zero => intro h0 hb; exact ⟨0, h0, hb⟩
  | succ B ih =>
    intro h0 hb
    by_cases h : P (B + 1)
    · exact ⟨B + 1, h, hb⟩
    · refine ih h0 fun k hk => ?_
      have h1 := hb k hk
      by_cases e : k = B + 1
      · subst e; exact absurd hk h
      · omega
theorem mg_Wrk {G : Nat → Nat → Prop} {rk : Nat → Nat} (hr : ∀ a b, G a b → rk a < rk b) : ∀ k b, mg_W G k b → k ≤ rk b := by
  intro k
  induction k with
  | zero => intro b _; omega
  | succ k ih =>
    intro b h
    obtain ⟨a, hg, hw⟩ := h
    have h1 := ih a hw
    have h2 := hr a b hg
    omega
theorem mg_cov {n : Nat} {G : Nat → Nat → Prop} {L : Nat → Nat} (hn : ∀ a b, G a b → a < n ∧ b < n) (h2 : ∀ b, b < n → L b = 0 ∨ ∃ a, G a b ∧ L b = L a + 1) : ∀ d b, b < n → L b = d → ∀ j, j ≤ d → ∃ a, a < n ∧ L a = j := by
  intro d
  induction d with
  | zero => intro b hb e j hj; exact ⟨b, hb, by omega⟩
  | succ d ih =>
    intro b hb e j hj
    by_cases hjd : j = d + 1
    · exact ⟨b, hb, by omega⟩
    · rcases h2 b hb with h | ⟨a, hg, h⟩
      · omega
      · exact ih a (hn a b hg).1 (by omega) j (by omega)
theorem mg_low {n : Nat} {G : Nat → Nat → Prop} {L : Nat → Nat} (hn : ∀ a b, G a b → a < n ∧ b < n) (h2 : ∀ b, b < n → L b = 0 ∨ ∃ a, G a b ∧ L b = L a + 1) (b : Nat) (hb : b < n) : L b < n := by
  have h := mg_cov hn h2 (L b) b hb rfl
  have hc : ∀ j, ∃ a, j ≤ L b → a < n ∧ L a = j := by
    intro j
    by_cases hj : j ≤ L b
    · obtain ⟨a, ha⟩ := h j hj
      exact ⟨a, fun _ => ha⟩
    · exact ⟨0, fun q => absurd q hj⟩
  obtain ⟨g, hg⟩ := Classical.axiomOfChoice hc
  have inj : ∀ i j, i < L b + 1 → j < L b + 1 → g i = g j → i = j := by
    intro i j hi hj e
    have h3 := (hg i (by omega)).2
    have h4 := (hg j (by omega)).2
    rw [e] at h3
    omega
  have h5 := mg_pig n (L b + 1) g (fun j hj => (hg j (by omega)).1) inj
  omega
theorem mg_ex {n : Nat} {G : Nat → Nat → Prop} (hn : ∀ a b, G a b → a < n ∧ b < n) (hr : ∃ rk : Nat → Nat, ∀ a b, G a b → rk a < rk b) : ∃ L, mg_T n G L := by
  obtain ⟨rk, hr⟩ := hr
  have hc : ∀ b, ∃ l, mg_W G l b ∧ ∀ k, mg_W G k b → k ≤ l := fun b =>
    mg_max (fun k => mg_W G k b) (rk b) (by unfold mg_W; trivial) (fun k hk => mg_Wrk hr k b hk)
  obtain ⟨L, hL⟩ := Classical.axiomOfChoice hc
  have h1 : ∀ a b, G a b → L a < L b := fun a b hg => (hL b).2 (L a + 1) ⟨a, hg, (hL a).1⟩
  have h2 : ∀ b, b < n → L b = 0 ∨ ∃ a, G a b ∧ L b = L a + 1 := by
    intro b _
    cases e : L b with
    | zero => exact Or.inl rfl
    | succ k =>
      have hw := (hL b).1
      rw [e] at hw
      obtain ⟨a, hg, hw⟩ := hw
      have h3 := (hL a).2 k hw
      have h4 := h1 a b hg
      exact Or.inr ⟨a, hg, by omega⟩
  exact ⟨L, h1, h2, mg_low hn h2⟩

/-! the levels by rounds: k rounds are through, of the next one the pairs in D -/
def mg_I (n : Nat) (G : Nat → Nat → Prop) (L : Nat → Nat) (k : Nat) (D : Nat → Nat → Prop) (v : Nat → Nat) : Prop :=
  (∀ i, i < n → v i ≤ L i) ∧ (∀ i, i < n → L i ≤ v i ∨ k ≤ v i) ∧ (∀ a b, D a b → G a b → L a < v b ∨ k < v b)
theorem mg_I0 {n : Nat} {G : Nat → Nat → Prop} {L : Nat → Nat} {v : Nat → Nat} (h : ∀ i, i < n → v i = 0) : mg_I n G L 0 (fun _ _ => False) v :=
  ⟨fun i hi => by rw [h i hi]; exact Nat.zero_le _, fun i _ => Or.inr (Nat.zero_le _), fun _ _ h => h.elim⟩
theorem mg_Iput {n : Nat} {G : Nat → Nat → Prop} {L : Nat → Nat} {k : Nat} {D D' : Nat → Nat → Prop} {v v' : Nat → Nat} {a b : Nat}
    (T : mg_T n G L) (hn : ∀ a b, G a b → a < n ∧ b < n) (I : mg_I n G L k D v) (hg : G a b) (hv : v b ≤ v a) (hb : v' b = v a + 1) (ho : ∀ i, i < n → i ≠ b → v' i = v i)
    (hD : ∀ x y, D' x y → D x y ∨ (x = a ∧ y = b)) : mg_I n G L k D' v' := by
  obtain ⟨I1, I2, I3⟩ := I
  obtain ⟨T1, _, _⟩ := T
  have ha := (hn a b hg).1
  have hbn := (hn a b hg).2
  have e1 := T1 a b hg
  refine ⟨fun i hi => ?_, fun i hi => ?_, fun x y hxy hG => ?_⟩
  · by_cases e : i = b
    · subst e; have := I1 a ha; omega
    · rw [ho i hi e]; exact I1 i hi
  · by_cases e : i = b
    · subst e; have := I2 i hi; omega
    · rw [ho i hi e]; exact I2 i hi
  · have hy := (hn x y hG).2
    rcases hD x y hxy with h | ⟨rfl, rfl⟩
    · have h3 := I3 x y h hG
      by_cases e : y = b
      · subst e; omega
      · rw [ho y hy e]; exact h3
    · have h3 := I2 x ha; omega
theorem mg_Ikeep {n : Nat} {G : Nat → Nat → Prop} {L : Nat → Nat} {k : Nat} {D D' : Nat → Nat → Prop} {v : Nat → Nat} {a b : Nat}
    (hn : ∀ a b, G a b → a < n ∧ b < n) (I : mg_I n G L k D v) (hv : G a b → v a < v b)
    (hD : ∀ x y, D' x y → D x y ∨ (x = a ∧ y = b)) : mg_I n G L k D' v := by
  obtain ⟨I1, I2, I3⟩ := I
  refine ⟨I1, I2, fun x y hxy hG => ?_⟩
  rcases hD x y hxy with h | ⟨rfl, rfl⟩
  · exact I3 x y h hG
  · have h3 := I2 x (hn x y hG).1
    have h4 := hv hG
    omega
theorem mg_Iround {n : Nat} {G : Nat → Nat → Prop} {L : Nat → Nat} {k : Nat} {D : Nat → Nat → Prop} {v : Nat → Nat}
    (T : mg_T n G L) (I : mg_I n G L k D v) (hD : ∀ x y, G x y → D x y) : mg_I n G L (k + 1) (fun _ _ => False) v := by
  obtain ⟨I1, I2, I3⟩ := I
  obtain ⟨_, T2, _⟩ := T
  refine ⟨I1, fun i hi => ?_, fun _ _ h => h.elim⟩
  rcases T2 i hi with h | ⟨a, hg, h⟩
  · omega
  · have := I3 a i (hD a i hg) hg; omega
theorem mg_Iend {n : Nat} {G : Nat → Nat → Prop} {L : Nat → Nat} {k : Nat} {D : Nat → Nat → Prop} {v : Nat → Nat}
    (T : mg_T n G L) (I : mg_I n G L k D v) (hk : n ≤ k + 1) (i : Nat) (hi : i < n) : v i = L i := by
  obtain ⟨I1, I2, _⟩ := I
  have h1 := I1 i hi
  have h2 := I2 i hi
  have h3 := T.2.2 i hi
  omega
theorem mg_Iany {n : Nat} {G : Nat → Nat → Prop} {L : Nat → Nat} {k : Nat} {D D' : Nat → Nat → Prop} {v : Nat → Nat}
    (I : mg_I n G L k D v) (hD : ∀ x y, G x y → D' x y → D x y) : mg_I n G L k D' v :=
  ⟨I.1, I.2.1, fun x y h g => I.2.2 x y (hD x y g h) g⟩
/-- levels are one -/
theorem mg_uniq {n : Nat} {G : Nat → Nat → Prop} {L M : Nat → Nat} (hn : ∀ a b, G a b → a < n ∧ b < n) (T : mg_T n G L) (S : mg_T n G M) : ∀ d i, i < n → L i ≤ d → M i ≤ d → L i = M i := by
  intro d
  induction d with
  | zero => intro i _ h1 h2; omega
  | succ d ih =>
    intro i hi h1 h2
    rcases T.2.1 i hi with h | ⟨a, hg, h⟩
    · rcases S.2.1 i hi with h' | ⟨b, hg', h'⟩
      · omega
      · have := T.1 b i hg'; omega
    · have ha := (hn a i hg).1
      have h3 := S.1 a i hg
      rcases S.2.1 i hi with h' | ⟨b, hg', h'⟩
      · omega
      · have hb := (hn b i hg').1
        have h4 := T.1 b i hg'
        have h5 := ih a ha (by omega) (by omega)
        have h6 := ih b hb (by omega) (by omega)
        omega

/-! what is reached from s -/
def mg_R (G : Nat → Nat → Prop) (s : Nat) : Nat → Nat → Prop
  | 0, i => i = s
  | k + 1, i => mg_R G s k i ∨ ∃ a, mg_R G s k a ∧ G a i
theorem mg_Rmono {G : Nat → Nat → Prop} {s i : Nat} {k : Nat} (h : mg_R G s k i) : ∀ d, mg_R G s (k + d) i := by
  intro d
  induction d with
  | zero => exact h
  | succ d ih => exact Or.inl ih
theorem mg_Rlt {n : Nat} {G : Nat → Nat → Prop} {s : Nat} (hs : s < n) (hn : ∀ a b, G a b → a < n ∧ b < n) : ∀ k i, mg_R G s k i → i < n := by
  intro k
  induction k with
  | zero => intro i h; have h' : i = s := h; omega
  | succ k ih =>
    intro i h
    rcases h with h | ⟨a, _, hg⟩
    · exact ih i h
    · exact (hn a i hg).2
theorem mg_Rb {G : Nat → Nat → Prop} {L : Nat → Nat} {s : Nat} (h1 : ∀ a b, G a b → L a < L b) : ∀ k i, mg_R G s k i → L s ≤ L i ∧ mg_R G s (L i - L s) i := by
  intro k
  induction k with
  | zero =>
    intro i h
    have h' : i = s := h
    subst h'
    refine ⟨Nat.le_refl _, ?_⟩
    rw [Nat.sub_self]
    exact rfl
  | succ k ih =>
    intro i h
    rcases h with h | ⟨a, ha, hg⟩
    · exact ih i h
    · obtain ⟨h2, h3⟩ := ih a ha
      have h4 := h1 a i hg
      have h5 : mg_R G s (L a - L s + 1) i := Or.inr ⟨a, h3, hg⟩
      refine ⟨by omega, ?_⟩
      have h6 := mg_Rmono h5 (L i - L s - (L a - L s + 1))
      rw [show L a - L s + 1 + (L i - L s - (L a - L s + 1)) = L i - L s from by omega] at h6
      exact h6
def mg_J (G : Nat → Nat → Prop) (s k : Nat) (D : Nat → Nat → Prop) (r : Nat → Prop) : Prop :=
  (∀ i, r i → ∃ j, mg_R G s j i) ∧ (∀ i, mg_R G s k i → r i) ∧ (∀ a b, D a b → G a b → mg_R G s k a → r b)
theorem mg_J0 {G : Nat → Nat → Prop} {s : Nat} {r : Nat → Prop} (h : ∀ i, r i ↔ i = s) : mg_J G s 0 (fun _ _ => False) r :=
  ⟨fun i hi => ⟨0, (h i).mp hi⟩, fun i hi => (h i).mpr hi, fun _ _ h => h.elim⟩
theorem mg_Jput {G : Nat → Nat → Prop} {s k : Nat} {D D' : Nat → Nat → Prop} {r r' : Nat → Prop} {a b : Nat}
    (J : mg_J G s k D r) (hg : G a b) (ha : r a) (hr : ∀ i, r' i ↔ (i = b ∨ r i))
    (hD : ∀ x y, D' x y → D x y ∨ (x = a ∧ y = b)) : mg_J G s k D' r' := by
  obtain ⟨J1, J2, J3⟩ := J
  refine ⟨fun i hi => ?_, fun i hi => (hr i).mpr (Or.inr (J2 i hi)), fun x y hxy hG hR => (hr y).mpr ?_⟩
  · rcases (hr i).mp hi with rfl | h
    · obtain ⟨j, hj⟩ := J1 a ha
      exact ⟨j + 1, Or.inr ⟨a, hj, hg⟩⟩
    · exact J1 i h
  · rcases hD x y hxy with h | ⟨_, rfl⟩
    · exact Or.inr (J3 x y h hG hR)
    · exact Or.inl rfl
theorem mg_Jkeep {G : Nat → Nat → Prop} {s k : Nat} {D D' : Nat → Nat → Prop} {r : Nat → Prop} {a b : Nat}
    (J : mg_J G s k D r) (hk : G a b → r a → r b)
    (hD : ∀ x y, D' x y → D x y ∨ (x = a ∧ y = b)) : mg_J G s k D' r := by
  obtain ⟨J1, J2, J3⟩ := J
  refine ⟨J1, J2, fun x y hxy hG hR => ?_⟩
  rcases hD x y hxy with h | ⟨rfl, rfl⟩
  · exact J3 x y h hG hR
  · exact hk hG (J2 x hR)
theorem mg_Jround {G : Nat → Nat → Prop} {s k : Nat} {D : Nat → Nat → Prop} {r : Nat → Prop}
    (J : mg_J G s k D r) (hD : ∀ x y, G x y → D x y) : mg_J G s (k + 1) (fun _ _ => False) r := by
  obtain ⟨J1, J2, J3⟩ := J
  refine ⟨J1, fun i hi => ?_, fun _ _ h => h.elim⟩
  rcases hi with h | ⟨a, ha, hg⟩
  · exact J2 i h
  · exact J3 a i (hD a i hg) hg ha
theorem mg_Jany {G : Nat → Nat → Prop} {s k : Nat} {D D' : Nat → Nat → Prop} {r : Nat → Prop}
    (J : mg_J G s k D r) (hD : ∀ x y, G x y → D' x y → D x y) : mg_J G s k D' r :=
  ⟨J.1, J.2.1, fun x y h g => J.2.2 x y (hD x y g h) g⟩
/-- the pairs of a table, row by row -/
def mg_D (a b x y : Nat) : Prop := x < a ∨ (x = a ∧ y < b)
theorem mg_Ds {a b x y : Nat} (h : mg_D a (b + 1) x y) : mg_D a b x y ∨ (x = a ∧ y = b) := by
  unfold mg_D at *; omega
theorem mg_Dr {a n x y : Nat} (hy : y < n) (h : mg_D (a + 1) 0 x y) : mg_D a n x y := by
  unfold mg_D at *; omega
theorem mg_Df {x y : Nat} (h : mg_D 0 0 x y) : False := by
  unfold mg_D at h; omega
theorem mg_De {n x y : Nat} (h : x < n) : mg_D n 0 x y := Or.inl h
theorem mg_Jend {n : Nat} {G : Nat → Nat → Prop} {L : Nat → Nat} {s k : Nat} {D : Nat → Nat → Prop} {r : Nat → Prop}
    (T : mg_T n G L) (hs : s < n) (hn : ∀ a b, G a b → a < n ∧ b < n) (J : mg_J G s k D r) (hk : n ≤ k + 1) (i : Nat) : r i ↔ ∃ j, mg_R G s j i := by
  refine ⟨J.1 i, fun ⟨j, hj⟩ => J.2.1 i ?_⟩
  have h1 := mg_Rb T.1 j i hj
  have h2 := T.2.2 i (mg_Rlt hs hn j i hj)
  have h3 := mg_Rmono h1.2 (k - (L i - L s))
  rw [show L i - L s + (k - (L i - L s)) = k from by omega] at h3
  exact h3
/-- an edge that closes no cycle leaves a rank -/
noncomputable def mg_if (c : Prop) (a b : Nat) : Nat := @ite Nat c (Classical.propDecidable c) a b
theorem mg_ift {c : Prop} {a b : Nat} (h : c) : mg_if c a b = a := by unfold mg_if; rw [if_pos h]
theorem mg_iff {c : Prop} {a b : Nat} (h : ¬ c) : mg_if c a b = b := by unfold mg_if; rw [if_neg h]
theorem mg_add {n : Nat} {G G' : Nat → Nat → Prop} {L : Nat → Nat} {p c : Nat} (T : mg_T n G L) (hp : p < n) (hn : ∀ a b, G a b → a < n ∧ b < n)
    (hG : ∀ a b, G' a b → G a b ∨ (a = p ∧ b = c)) (hc : ¬ ∃ j, mg_R G c j p) : ∃ rk : Nat → Nat, ∀ a b, G' a b → rk a < rk b := by
  refine ⟨fun b => mg_if (∃ j, mg_R G c j b) (L b + n) (L b), fun a b h => ?_⟩
  show mg_if (∃ j, mg_R G c j a) (L a + n) (L a) < mg_if (∃ j, mg_R G c j b) (L b + n) (L b)
  rcases hG a b h with h | ⟨rfl, rfl⟩
  · have h1 := T.1 a b h
    rcases Classical.em (∃ j, mg_R G c j a) with e | e
    · have e' : ∃ j, mg_R G c j b := by
        obtain ⟨j, hj⟩ := e
        exact ⟨j + 1, Or.inr ⟨a, hj, h⟩⟩
      rw [mg_ift e, mg_ift e']; omega
    · rw [mg_iff e]
      rcases Classical.em (∃ j, mg_R G c j b) with e' | e'
      · rw [mg_ift e']; omega
      · rw [mg_iff e']; omega
  · have h1 := T.2.2 a hp
    have h2 : ∃ j, mg_R G b j b := ⟨0, rfl⟩
    rw [mg_iff hc, mg_ift h2]; omega
