section
theorem pk_us {f : Nat → Int32} {k : Nat} {x : Int32} : upd f k x k = x := if_pos rfl
theorem pk_un {f : Nat → Int32} {k j : Nat} {x : Int32} (h : j ≠ k) : upd f k x j = f j := if_neg h
theorem pk_uLs {f : Nat → Int64} {k : Nat} {x : Int64} : vp_updL f k x k = x := if_pos rfl
theorem pk_uLn {f : Nat → Int64} {k j : Nat} {x : Int64} (h : j ≠ k) : vp_updL f k x j = f j := if_neg h
theorem pk_sub {a b : Nat} (h : b ≤ a) : nI a - nI b = nI (a - b) := by
  obtain ⟨c, rfl⟩ : ∃ c, a = c + b := ⟨a - b, by omega⟩
  rw [← nI_add, Int32.add_sub_cancel, Nat.add_sub_cancel]
theorem pk_m1 (n : Nat) : nI (n + 1) + (-1) = nI n := by
  rw [← nI_1, Int32.add_assoc, show (1 : Int32) + (-1) = 0 from rfl, Int32.add_zero]
theorem pk_mul (a b : Nat) : nI a * nI b = nI (a * b) := (Int32.ofNat_mul a b).symm
theorem pk_sub_toInt {a b : Nat} (ha : a < 2 ^ 30) (hb : b < 2 ^ 30) : (nI a - nI b).toInt = (a : Int) - b := by
  rw [Int32.toInt_sub, nI_toInt (by omega), nI_toInt (by omega)]
  exact Int.bmod_eq_of_le (by omega) (by omega)
theorem pk_sneg {a b : Nat} (hb : b < 2 ^ 30) (h : a < b) : nI a - nI b < 0 := by
  rw [Int32.lt_iff_toInt_lt, pk_sub_toInt (by omega) hb, show (0 : Int32).toInt = 0 from by decide]
  omega
theorem pk_ix (x : Int32) {n : Nat} (hn : n < 2 ^ 31) : x < 0 ∨ nI n ≤ x ∨ ∃ j : Nat, j < n ∧ x = nI j := by
  by_cases h : x < 0
  · exact Or.inl h
  · obtain ⟨j, hj, rfl⟩ := nI_of h
    by_cases h2 : j < n
    · exact Or.inr (Or.inr ⟨j, h2, rfl⟩)
    · exact Or.inr (Or.inl (nI_le (by omega) hj))
theorem pk_le {x y : Int32} {A B : Prop} (a b : Nat) (f : a ≤ b → A) (g : b < a → B) (hx : x = nI a := by rfl) (hy : y = nI b := by rfl) (ha : a < 2 ^ 31 := by omega) (hb : b < 2 ^ 31 := by omega) : (x ≤ y → A) ∧ (¬ x ≤ y → B) := by
  subst hx hy
  rw [nI_leI ha hb]
  exact ⟨f, fun z => g (by omega)⟩
theorem pk_lt {x y : Int32} {A B : Prop} (a b : Nat) (f : a < b → A) (g : b ≤ a → B) (hx : x = nI a := by rfl) (hy : y = nI b := by rfl) (ha : a < 2 ^ 31 := by omega) (hb : b < 2 ^ 31 := by omega) : (x < y → A) ∧ (¬ x < y → B) := by
  subst hx hy
  rw [nI_ltI ha hb]
  exact ⟨f, fun z => g (by omega)⟩
theorem pk_eq {x y : Int32} {A B : Prop} (a b : Nat) (f : a = b → A) (g : a ≠ b → B) (hx : x = nI a := by rfl) (hy : y = nI b := by rfl) (ha : a < 2 ^ 31 := by omega) (hb : b < 2 ^ 31 := by omega) : (x = y → A) ∧ (¬ x = y → B) := by
  subst hx hy
  rw [nI_eq ha hb]
  exact ⟨f, g⟩
theorem pk_in {x : Int32} (n N : Nat) (h : n < N) (hx : x = nI n := by rfl) (hN : N < 2 ^ 31 := by omega) : vp_in x N := by
  subst hx
  exact vp_in_nI h hN
theorem pk_cl {x : Int32} (n : Nat) (hx : x = nI n := by rfl) (h : n < 2 ^ 31 := by omega) : x.toNatClampNeg = n := by
  subst hx
  exact nI_clamp h
theorem pk_lT {n : Nat} (h : n < 2 ^ 63) : (lN n).toInt = (n : Int) := lg_ofNat_toInt h
theorem pk_lLT {a b : Nat} (ha : a < 2 ^ 63) (hb : b < 2 ^ 63) : lN a < lN b ↔ a < b := by
  rw [Int64.lt_iff_toInt_lt, pk_lT ha, pk_lT hb]; omega
theorem pk_lLE {a b : Nat} (ha : a < 2 ^ 63) (hb : b < 2 ^ 63) : lN a ≤ lN b ↔ a ≤ b := by
  rw [Int64.le_iff_toInt_le, pk_lT ha, pk_lT hb]; omega
theorem pk_lEQ {a b : Nat} (ha : a < 2 ^ 63) (hb : b < 2 ^ 63) : lN a = lN b ↔ a = b := by
  rw [← Int64.toInt_inj, pk_lT ha, pk_lT hb]; omega
theorem pk_lOf {x : Int64} (h : ¬ x < 0) : ∃ k : Nat, k < 2 ^ 63 ∧ x = lN k := by
  rw [Int64.lt_iff_toInt_lt] at h
  have h0 : (0 : Int64).toInt = 0 := by decide
  have hx := Int64.toInt_lt x
  refine ⟨x.toInt.toNat, by omega, Int64.toInt_inj.mp ?_⟩
  rw [pk_lT (by omega)]
  omega
theorem pk_lDiv {a b : Nat} (ha : a < 2 ^ 63) (h0 : 0 < b) (hb : b < 2 ^ 63) : lN a / lN b = lN (a / b) := by
  apply Int64.toInt_inj.mp
  rw [lg_ldiv_nonneg (by rw [pk_lT ha]; omega) (by rw [pk_lT hb]; omega), pk_lT ha, pk_lT hb, pk_lT (Nat.lt_of_le_of_lt (Nat.div_le_self a b) ha)]
  rfl
end
section
/-! The bill as a relation G a b (a parent, b child) on naturals below n: levels and what is reached. -/
def mg_W (G : Nat → Nat → Prop) : Nat → Nat → Prop
  | 0, _ => True
  | k + 1, b => ∃ a, G a b ∧ mg_W G k a
/-- L is the level of every item: the longest chain of edges down to it -/
def mg_T (n : Nat) (G : Nat → Nat → Prop) (L : Nat → Nat) : Prop :=
  (∀ a b, G a b → L a < L b) ∧ (∀ b, b < n → L b = 0 ∨ ∃ a, G a b ∧ L b = L a + 1) ∧ (∀ b, b < n → L b < n)
theorem mg_pig : ∀ (n m : Nat) (g : Nat → Nat), (∀ j, j < m → g j < n) → (∀ i j, i < m → j < m → g i = g j → i = j) → m ≤ n := by
  intro n
  induction n with
  | zero =>
    intro m g h _
    cases m with
    | zero => exact Nat.le_refl 0
    | succ m => exact absurd (h 0 (by omega)) (by omega)
  | succ n ih =>
    intro m g h inj
    cases m with
    | zero => omega
    | succ m =>
      have c1 : ∀ j, j < m → (if g j = n then g m else g j) < n := by
        intro j hj
        have h1 := h j (by omega)
        have h2 := h m (by omega)
        have h3 : g m = g j → m = j := inj m j (by omega) (by omega)
        split <;> omega
      have c2 : ∀ i j, i < m → j < m → (if g i = n then g m else g i) = (if g j = n then g m else g j) → i = j := by
        intro i j hi hj e
        have h1 : g m = g i → m = i := inj m i (by omega) (by omega)
        have h2 : g m = g j → m = j := inj m j (by omega) (by omega)
        have h3 : g i = g j → i = j := inj i j (by omega) (by omega)
        split at e <;> split at e <;> omega
      have c3 := ih m (fun j => if g j = n then g m else g j) c1 c2
      omega
theorem mg_max (P : Nat → Prop) : ∀ (B : Nat), P 0 → (∀ k, P k → k ≤ B) → ∃ l, P l ∧ ∀ k, P k → k ≤ l := by
  intro B
  induction B with
  | zero => intro h0 hb; exact ⟨0, h0, hb⟩
  | succ B ih =>
    intro h0 hb
    by_cases h : P (B + 1)
    · exact ⟨B + 1, h, hb⟩
    · refine ih h0 fun k hk => ?_
      have h1 := hb k hk
      by_cases e : k = B + 1
      · subst e; exact absurd hk h
      · omega
theorem mg_Wrk {G : Nat → Nat → Prop} {rk : Nat → Nat} (hr : ∀ a b, G a b → rk a < rk b) : ∀ k b, mg_W G k b → k ≤ rk b := by
  intro k
  induction k with
  | zero => intro b _; omega
  | succ k ih =>
    intro b h
    obtain ⟨a, hg, hw⟩ := h
    have h1 := ih a hw
    have h2 := hr a b hg
    omega
theorem mg_cov {n : Nat} {G : Nat → Nat → Prop} {L : Nat → Nat} (hn : ∀ a b, G a b → a < n ∧ b < n) (h2 : ∀ b, b < n → L b = 0 ∨ ∃ a, G a b ∧ L b = L a + 1) : ∀ d b, b < n → L b = d → ∀ j, j ≤ d → ∃ a, a < n ∧ L a = j := by
  intro d
  induction d with
  | zero => intro b hb e j hj; exact ⟨b, hb, by omega⟩
  | succ d ih =>
    intro b hb e j hj
    by_cases hjd : j = d + 1
    · exact ⟨b, hb, by omega⟩
    · rcases h2 b hb with h | ⟨a, hg, h⟩
      · omega
      · exact ih a (hn a b hg).1 (by omega) j (by omega)
theorem mg_low {n : Nat} {G : Nat → Nat → Prop} {L : Nat → Nat} (hn : ∀ a b, G a b → a < n ∧ b < n) (h2 : ∀ b, b < n → L b = 0 ∨ ∃ a, G a b ∧ L b = L a + 1) (b : Nat) (hb : b < n) : L b < n := by
  have h := mg_cov hn h2 (L b) b hb rfl
  have hc : ∀ j, ∃ a, j ≤ L b → a < n ∧ L a = j := by
    intro j
    by_cases hj : j ≤ L b
    · obtain ⟨a, ha⟩ := h j hj
      exact ⟨a, fun _ => ha⟩
    · exact ⟨0, fun q => absurd q hj⟩
  obtain ⟨g, hg⟩ := Classical.axiomOfChoice hc
  have inj : ∀ i j, i < L b + 1 → j < L b + 1 → g i = g j → i = j := by
    intro i j hi hj e
    have h3 := (hg i (by omega)).2
    have h4 := (hg j (by omega)).2
    rw [e] at h3
    omega
  have h5 := mg_pig n (L b + 1) g (fun j hj => (hg j (by omega)).1) inj
  omega
theorem mg_ex {n : Nat} {G : Nat → Nat → Prop} (hn : ∀ a b, G a b → a < n ∧ b < n) (hr : ∃ rk : Nat → Nat, ∀ a b, G a b → rk a < rk b) : ∃ L, mg_T n G L := by
  obtain ⟨rk, hr⟩ := hr
  have hc : ∀ b, ∃ l, mg_W G l b ∧ ∀ k, mg_W G k b → k ≤ l := fun b =>
    mg_max (fun k => mg_W G k b) (rk b) (by unfold mg_W; trivial) (fun k hk => mg_Wrk hr k b hk)
  obtain ⟨L, hL⟩ := Classical.axiomOfChoice hc
  have h1 : ∀ a b, G a b → L a < L b := fun a b hg => (hL b).2 (L a + 1) ⟨a, hg, (hL a).1⟩
  have h2 : ∀ b, b < n → L b = 0 ∨ ∃ a, G a b ∧ L b = L a + 1 := by
    intro b _
    cases e : L b with
    | zero => exact Or.inl rfl
    | succ k =>
      have hw := (hL b).1
      rw [e] at hw
      obtain ⟨a, hg, hw⟩ := hw
      have h3 := (hL a).2 k hw
      have h4 := h1 a b hg
      exact Or.inr ⟨a, hg, by omega⟩
  exact ⟨L, h1, h2, mg_low hn h2⟩

/-! the levels by rounds: k rounds are through, of the next one the pairs in D -/
def mg_I (n : Nat) (G : Nat → Nat → Prop) (L : Nat → Nat) (k : Nat) (D : Nat → Nat → Prop) (v : Nat → Nat) : Prop :=
  (∀ i, i < n → v i ≤ L i) ∧ (∀ i, i < n → L i ≤ v i ∨ k ≤ v i) ∧ (∀ a b, D a b → G a b → L a < v b ∨ k < v b)
theorem mg_I0 {n : Nat} {G : Nat → Nat → Prop} {L : Nat → Nat} {v : Nat → Nat} (h : ∀ i, i < n → v i = 0) : mg_I n G L 0 (fun _ _ => False) v :=
  ⟨fun i hi => by rw [h i hi]; exact Nat.zero_le _, fun i _ => Or.inr (Nat.zero_le _), fun _ _ h => h.elim⟩
theorem mg_Iput {n : Nat} {G : Nat → Nat → Prop} {L : Nat → Nat} {k : Nat} {D D' : Nat → Nat → Prop} {v v' : Nat → Nat} {a b : Nat}
    (T : mg_T n G L) (hn : ∀ a b, G a b → a < n ∧ b < n) (I : mg_I n G L k D v) (hg : G a b) (hv : v b ≤ v a) (hb : v' b = v a + 1) (ho : ∀ i, i < n → i ≠ b → v' i = v i)
    (hD : ∀ x y, D' x y → D x y ∨ (x = a ∧ y = b)) : mg_I n G L k D' v' := by
  obtain ⟨I1, I2, I3⟩ := I
  obtain ⟨T1, _, _⟩ := T
  have ha := (hn a b hg).1
  have hbn := (hn a b hg).2
  have e1 := T1 a b hg
  refine ⟨fun i hi => ?_, fun i hi => ?_, fun x y hxy hG => ?_⟩
  · by_cases e : i = b
    · subst e; have := I1 a ha; omega
    · rw [ho i hi e]; exact I1 i hi
  · by_cases e : i = b
    · subst e; have := I2 i hi; omega
    · rw [ho i hi e]; exact I2 i hi
  · have hy := (hn x y hG).2
    rcases hD x y hxy with h | ⟨rfl, rfl⟩
    · have h3 := I3 x y h hG
      by_cases e : y = b
      · subst e; omega
      · rw [ho y hy e]; exact h3
    · have h3 := I2 x ha; omega
theorem mg_Ikeep {n : Nat} {G : Nat → Nat → Prop} {L : Nat → Nat} {k : Nat} {D D' : Nat → Nat → Prop} {v : Nat → Nat} {a b : Nat}
    (hn : ∀ a b, G a b → a < n ∧ b < n) (I : mg_I n G L k D v) (hv : G a b → v a < v b)
    (hD : ∀ x y, D' x y → D x y ∨ (x = a ∧ y = b)) : mg_I n G L k D' v := by
  obtain ⟨I1, I2, I3⟩ := I
  refine ⟨I1, I2, fun x y hxy hG => ?_⟩
  rcases hD x y hxy with h | ⟨rfl, rfl⟩
  · exact I3 x y h hG
  · have h3 := I2 x (hn x y hG).1
    have h4 := hv hG
    omega
theorem mg_Iround {n : Nat} {G : Nat → Nat → Prop} {L : Nat → Nat} {k : Nat} {D : Nat → Nat → Prop} {v : Nat → Nat}
    (T : mg_T n G L) (I : mg_I n G L k D v) (hD : ∀ x y, G x y → D x y) : mg_I n G L (k + 1) (fun _ _ => False) v := by
  obtain ⟨I1, I2, I3⟩ := I
  obtain ⟨_, T2, _⟩ := T
  refine ⟨I1, fun i hi => ?_, fun _ _ h => h.elim⟩
  rcases T2 i hi with h | ⟨a, hg, h⟩
  · omega
  · have := I3 a i (hD a i hg) hg; omega
theorem mg_Iend {n : Nat} {G : Nat → Nat → Prop} {L : Nat → Nat} {k : Nat} {D : Nat → Nat → Prop} {v : Nat → Nat}
    (T : mg_T n G L) (I : mg_I n G L k D v) (hk : n ≤ k + 1) (i : Nat) (hi : i < n) : v i = L i := by
  obtain ⟨I1, I2, _⟩ := I
  have h1 := I1 i hi
  have h2 := I2 i hi
  have h3 := T.2.2 i hi
  omega
theorem mg_Iany {n : Nat} {G : Nat → Nat → Prop} {L : Nat → Nat} {k : Nat} {D D' : Nat → Nat → Prop} {v : Nat → Nat}
    (I : mg_I n G L k D v) (hD : ∀ x y, G x y → D' x y → D x y) : mg_I n G L k D' v :=
  ⟨I.1, I.2.1, fun x y h g => I.2.2 x y (hD x y g h) g⟩
/-- levels are one -/
theorem mg_uniq {n : Nat} {G : Nat → Nat → Prop} {L M : Nat → Nat} (hn : ∀ a b, G a b → a < n ∧ b < n) (T : mg_T n G L) (S : mg_T n G M) : ∀ d i, i < n → L i ≤ d → M i ≤ d → L i = M i := by
  intro d
  induction d with
  | zero => intro i _ h1 h2; omega
  | succ d ih =>
    intro i hi h1 h2
    rcases T.2.1 i hi with h | ⟨a, hg, h⟩
    · rcases S.2.1 i hi with h' | ⟨b, hg', h'⟩
      · omega
      · have := T.1 b i hg'; omega
    · have ha := (hn a i hg).1
      have h3 := S.1 a i hg
      rcases S.2.1 i hi with h' | ⟨b, hg', h'⟩
      · omega
      · have hb := (hn b i hg').1
        have h4 := T.1 b i hg'
        have h5 := ih a ha (by omega) (by omega)
        have h6 := ih b hb (by omega) (by omega)
        omega

/-! what is reached from s -/
def mg_R (G : Nat → Nat → Prop) (s : Nat) : Nat → Nat → Prop
  | 0, i => i = s
  | k + 1, i => mg_R G s k i ∨ ∃ a, mg_R G s k a ∧ G a i
theorem mg_Rmono {G : Nat → Nat → Prop} {s i : Nat} {k : Nat} (h : mg_R G s k i) : ∀ d, mg_R G s (k + d) i := by
  intro d
  induction d with
  | zero => exact h
  | succ d ih => exact Or.inl ih
theorem mg_Rlt {n : Nat} {G : Nat → Nat → Prop} {s : Nat} (hs : s < n) (hn : ∀ a b, G a b → a < n ∧ b < n) : ∀ k i, mg_R G s k i → i < n := by
  intro k
  induction k with
  | zero => intro i h; have h' : i = s := h; omega
  | succ k ih =>
    intro i h
    rcases h with h | ⟨a, _, hg⟩
    · exact ih i h
    · exact (hn a i hg).2
theorem mg_Rb {G : Nat → Nat → Prop} {L : Nat → Nat} {s : Nat} (h1 : ∀ a b, G a b → L a < L b) : ∀ k i, mg_R G s k i → L s ≤ L i ∧ mg_R G s (L i - L s) i := by
  intro k
  induction k with
  | zero =>
    intro i h
    have h' : i = s := h
    subst h'
    refine ⟨Nat.le_refl _, ?_⟩
    rw [Nat.sub_self]
    exact rfl
  | succ k ih =>
    intro i h
    rcases h with h | ⟨a, ha, hg⟩
    · exact ih i h
    · obtain ⟨h2, h3⟩ := ih a ha
      have h4 := h1 a i hg
      have h5 : mg_R G s (L a - L s + 1) i := Or.inr ⟨a, h3, hg⟩
      refine ⟨by omega, ?_⟩
      have h6 := mg_Rmono h5 (L i - L s - (L a - L s + 1))
      rw [show L a - L s + 1 + (L i - L s - (L a - L s + 1)) = L i - L s from by omega] at h6
      exact h6
def mg_J (G : Nat → Nat → Prop) (s k : Nat) (D : Nat → Nat → Prop) (r : Nat → Prop) : Prop :=
  (∀ i, r i → ∃ j, mg_R G s j i) ∧ (∀ i, mg_R G s k i → r i) ∧ (∀ a b, D a b → G a b → mg_R G s k a → r b)
theorem mg_J0 {G : Nat → Nat → Prop} {s : Nat} {r : Nat → Prop} (h : ∀ i, r i ↔ i = s) : mg_J G s 0 (fun _ _ => False) r :=
  ⟨fun i hi => ⟨0, (h i).mp hi⟩, fun i hi => (h i).mpr hi, fun _ _ h => h.elim⟩
theorem mg_Jput {G : Nat → Nat → Prop} {s k : Nat} {D D' : Nat → Nat → Prop} {r r' : Nat → Prop} {a b : Nat}
    (J : mg_J G s k D r) (hg : G a b) (ha : r a) (hr : ∀ i, r' i ↔ (i = b ∨ r i))
    (hD : ∀ x y, D' x y → D x y ∨ (x = a ∧ y = b)) : mg_J G s k D' r' := by
  obtain ⟨J1, J2, J3⟩ := J
  refine ⟨fun i hi => ?_, fun i hi => (hr i).mpr (Or.inr (J2 i hi)), fun x y hxy hG hR => (hr y).mpr ?_⟩
  · rcases (hr i).mp hi with rfl | h
    · obtain ⟨j, hj⟩ := J1 a ha
      exact ⟨j + 1, Or.inr ⟨a, hj, hg⟩⟩
    · exact J1 i h
  · rcases hD x y hxy with h | ⟨_, rfl⟩
    · exact Or.inr (J3 x y h hG hR)
    · exact Or.inl rfl
theorem mg_Jkeep {G : Nat → Nat → Prop} {s k : Nat} {D D' : Nat → Nat → Prop} {r : Nat → Prop} {a b : Nat}
    (J : mg_J G s k D r) (hk : G a b → r a → r b)
    (hD : ∀ x y, D' x y → D x y ∨ (x = a ∧ y = b)) : mg_J G s k D' r := by
  obtain ⟨J1, J2, J3⟩ := J
  refine ⟨J1, J2, fun x y hxy hG hR => ?_⟩
  rcases hD x y hxy with h | ⟨rfl, rfl⟩
  · exact J3 x y h hG hR
  · exact hk hG (J2 x hR)
theorem mg_Jround {G : Nat → Nat → Prop} {s k : Nat} {D : Nat → Nat → Prop} {r : Nat → Prop}
    (J : mg_J G s k D r) (hD : ∀ x y, G x y → D x y) : mg_J G s (k + 1) (fun _ _ => False) r := by
  obtain ⟨J1, J2, J3⟩ := J
  refine ⟨J1, fun i hi => ?_, fun _ _ h => h.elim⟩
  rcases hi with h | ⟨a, ha, hg⟩
  · exact J2 i h
  · exact J3 a i (hD a i hg) hg ha
theorem mg_Jany {G : Nat → Nat → Prop} {s k : Nat} {D D' : Nat → Nat → Prop} {r : Nat → Prop}
    (J : mg_J G s k D r) (hD : ∀ x y, G x y → D' x y → D x y) : mg_J G s k D' r :=
  ⟨J.1, J.2.1, fun x y h g => J.2.2 x y (hD x y g h) g⟩
/-- the pairs of a table, row by row -/
def mg_D (a b x y : Nat) : Prop := x < a ∨ (x = a ∧ y < b)
theorem mg_Ds {a b x y : Nat} (h : mg_D a (b + 1) x y) : mg_D a b x y ∨ (x = a ∧ y = b) := by
  unfold mg_D at *; omega
theorem mg_Dr {a n x y : Nat} (hy : y < n) (h : mg_D (a + 1) 0 x y) : mg_D a n x y := by
  unfold mg_D at *; omega
theorem mg_Df {x y : Nat} (h : mg_D 0 0 x y) : False := by
  unfold mg_D at h; omega
theorem mg_De {n x y : Nat} (h : x < n) : mg_D n 0 x y := Or.inl h
theorem mg_Jend {n : Nat} {G : Nat → Nat → Prop} {L : Nat → Nat} {s k : Nat} {D : Nat → Nat → Prop} {r : Nat → Prop}
    (T : mg_T n G L) (hs : s < n) (hn : ∀ a b, G a b → a < n ∧ b < n) (J : mg_J G s k D r) (hk : n ≤ k + 1) (i : Nat) : r i ↔ ∃ j, mg_R G s j i := by
  refine ⟨J.1 i, fun ⟨j, hj⟩ => J.2.1 i ?_⟩
  have h1 := mg_Rb T.1 j i hj
  have h2 := T.2.2 i (mg_Rlt hs hn j i hj)
  have h3 := mg_Rmono h1.2 (k - (L i - L s))
  rw [show L i - L s + (k - (L i - L s)) = k from by omega] at h3
  exact h3
/-- an edge that closes no cycle leaves a rank -/
noncomputable def mg_if (c : Prop) (a b : Nat) : Nat := @ite Nat c (Classical.propDecidable c) a b
theorem mg_ift {c : Prop} {a b : Nat} (h : c) : mg_if c a b = a := by unfold mg_if; rw [if_pos h]
theorem mg_iff {c : Prop} {a b : Nat} (h : ¬ c) : mg_if c a b = b := by unfold mg_if; rw [if_neg h]
theorem mg_add {n : Nat} {G G' : Nat → Nat → Prop} {L : Nat → Nat} {p c : Nat} (T : mg_T n G L) (hp : p < n) (hn : ∀ a b, G a b → a < n ∧ b < n)
    (hG : ∀ a b, G' a b → G a b ∨ (a = p ∧ b = c)) (hc : ¬ ∃ j, mg_R G c j p) : ∃ rk : Nat → Nat, ∀ a b, G' a b → rk a < rk b := by
  refine ⟨fun b => mg_if (∃ j, mg_R G c j b) (L b + n) (L b), fun a b h => ?_⟩
  show mg_if (∃ j, mg_R G c j a) (L a + n) (L a) < mg_if (∃ j, mg_R G c j b) (L b + n) (L b)
  rcases hG a b h with h | ⟨rfl, rfl⟩
  · have h1 := T.1 a b h
    rcases Classical.em (∃ j, mg_R G c j a) with e | e
    · have e' : ∃ j, mg_R G c j b := by
        obtain ⟨j, hj⟩ := e
        exact ⟨j + 1, Or.inr ⟨a, hj, h⟩⟩
      rw [mg_ift e, mg_ift e']; omega
    · rw [mg_iff e]
      rcases Classical.em (∃ j, mg_R G c j b) with e' | e'
      · rw [mg_ift e']; omega
      · rw [mg_iff e']; omega
  · have h1 := T.2.2 a hp
    have h2 : ∃ j, mg_R G b j b := ⟨0, rfl⟩
    rw [mg_iff hc, mg_ift h2]; omega
end
section
/-! Sums of longs, as Java adds them (they wrap, and are a ring all the same) -/
def ms_s (f : Nat → Int64) : Nat → Int64
  | 0 => 0
  | k + 1 => ms_s f k + f k
theorem ms_congr {f g : Nat → Int64} : ∀ k, (∀ j, j < k → f j = g j) → ms_s f k = ms_s g k := by
  intro k
  induction k with
  | zero => intro _; rfl
  | succ k ih =>
    intro h
    show ms_s f k + f k = ms_s g k + g k
    rw [ih fun j hj => h j (by omega), h k (by omega)]
theorem ms_zero {f : Nat → Int64} : ∀ k, (∀ j, j < k → f j = 0) → ms_s f k = 0 := by
  intro k
  induction k with
  | zero => intro _; rfl
  | succ k ih =>
    intro h
    show ms_s f k + f k = 0
    rw [ih fun j hj => h j (by omega), h k (by omega)]
    rfl
theorem ms_add (f g : Nat → Int64) : ∀ k, ms_s (fun j => f j + g j) k = ms_s f k + ms_s g k := by
  intro k
  induction k with
  | zero => rfl
  | succ k ih =>
    show ms_s (fun j => f j + g j) k + (f k + g k) = (ms_s f k + f k) + (ms_s g k + g k)
    rw [ih]; grind
theorem ms_one {f : Nat → Int64} {a : Nat} : ∀ k, a < k → (∀ j, j < k → j ≠ a → f j = 0) → ms_s f k = f a := by
  intro k
  induction k with
  | zero => intro h; omega
  | succ k ih =>
    intro h h0
    show ms_s f k + f k = f a
    by_cases e : a = k
    · subst e
      rw [ms_zero a fun j hj => h0 j (by omega) (by omega)]; grind
    · rw [ih (by omega) fun j hj hne => h0 j (by omega) hne, h0 k (by omega) (by omega)]; grind
theorem ms_swap (F : Nat → Nat → Int64) (m : Nat) : ∀ n, ms_s (fun a => ms_s (fun e => F a e) m) n = ms_s (fun e => ms_s (fun a => F a e) n) m := by
  intro n
  induction n with
  | zero => exact (ms_zero m fun _ _ => rfl).symm
  | succ n ih =>
    show ms_s (fun a => ms_s (fun e => F a e) m) n + ms_s (fun e => F n e) m = ms_s (fun e => ms_s (fun a => F a e) n + F n e) m
    rw [ms_add (fun e => ms_s (fun a => F a e) n) (fun e => F n e) m, ih]
/-- the column of the table against the list of edges -/
theorem ms_col {n m i : Nat} {P C : Nat → Nat} {U u R : Nat → Int64} (hP : ∀ e, e < m → P e < n)
    (h1 : ∀ e, e < m → C e = i → U (P e) = u e) (h0 : ∀ a, a < n → (∀ e, e < m → C e = i → P e ≠ a) → U a = 0)
    (hu : ∀ e f, e < m → f < m → C e = i → C f = i → P e = P f → e = f) :
    ms_s (fun a => U a * R a) n = ms_s (fun e => if C e = i then u e * R (P e) else 0) m := by
  have c1 : ∀ a, a < n → U a * R a = ms_s (fun e => if C e = i ∧ P e = a then u e * R a else 0) m := by
    intro a ha
    by_cases h : ∃ e, e < m ∧ C e = i ∧ P e = a
    · obtain ⟨e, he, hc, hp⟩ := h
      rw [ms_one (a := e) m he]
      · show U a * R a = if C e = i ∧ P e = a then u e * R a else 0
        rw [if_pos ⟨hc, hp⟩, ← h1 e he hc, hp]
      · intro j hj hne
        show (if C j = i ∧ P j = a then u j * R a else 0) = 0
        rw [if_neg]
        intro ⟨q1, q2⟩
        exact hne (hu j e hj he q1 hc (by omega))
    · have hz : U a = 0 := h0 a ha fun e he hc hp => h ⟨e, he, hc, hp⟩
      rw [hz, ms_zero m]
      · grind
      · intro j hj
        show (if C j = i ∧ P j = a then u j * R a else 0) = 0
        rw [if_neg]
        intro ⟨q1, q2⟩
        exact h ⟨j, hj, q1, q2⟩
  rw [ms_congr n c1, ms_swap (fun a e => if C e = i ∧ P e = a then u e * R a else 0) m n]
  refine ms_congr m fun e he => ?_
  show ms_s (fun a => if C e = i ∧ P e = a then u e * R a else 0) n = if C e = i then u e * R (P e) else 0
  by_cases hc : C e = i
  · rw [if_pos hc, ms_one (a := P e) n (hP e he)]
    · show (if C e = i ∧ P e = P e then u e * R (P e) else 0) = u e * R (P e)
      rw [if_pos ⟨hc, rfl⟩]
    · intro j hj hne
      show (if C e = i ∧ P e = j then u e * R j else 0) = 0
      rw [if_neg]
      intro ⟨_, q2⟩
      exact hne q2.symm
  · rw [if_neg hc, ms_zero n]
    intro j hj
    show (if C e = i ∧ P e = j then u e * R j else 0) = 0
    rw [if_neg]
    intro ⟨q1, _⟩
    exact hc q1

/-! One item's row. rho: its rule; q: its parameter; g, rc: GROSS and RECEIPT by period; pv: what is projected before -/
def mr_lk (g rc : Nat → Int64) (pv : Int64) (t : Nat) : Nat → Int64
  | 0 => -pv
  | k + 1 => mr_lk g rc pv t k + (g (t + k) - rc (t + k))
def mr_mx (f : Nat → Int64) (z : Int64) : Nat → Int64
  | 0 => z
  | k + 1 => if mr_mx f z k < f (k + 1) then f (k + 1) else mr_mx f z k
theorem mr_mx1 {f : Nat → Int64} {z : Int64} (h1 : f 1 = z) (h0 : 0 < z) : ∀ k, mr_mx f 0 (k + 1) = mr_mx f z (k + 1) := by
  intro k
  induction k with
  | zero =>
    show (if (0 : Int64) < f 1 then f 1 else 0) = (if z < f 1 then f 1 else z)
    rw [h1, if_pos h0, ite_self]
  | succ k ih =>
    show (if mr_mx f 0 (k + 1) < f (k + 1 + 1) then f (k + 1 + 1) else mr_mx f 0 (k + 1)) = (if mr_mx f z (k + 1) < f (k + 1 + 1) then f (k + 1 + 1) else mr_mx f z (k + 1))
    rw [ih]
theorem mr_lk1 (g rc : Nat → Int64) (pv : Int64) (t : Nat) : mr_lk g rc pv t 1 = g t - rc t - pv := by
  show -pv + (g (t + 0) - rc (t + 0)) = g t - rc t - pv
  rw [Nat.add_zero]; grind
def mr_lot (rho : Int32) (q p : Nat) (g rc : Nat → Int64) (t : Nat) (pv nt : Int64) : Int64 :=
  if rho = 1 then (nt + lN q - 1) / lN q * lN q
  else if rho = 2 then mr_mx (mr_lk g rc pv t) nt (if q < p - t then q else p - t)
  else nt
def mr_lack (g rc : Nat → Int64) (t : Nat) (pv : Int64) : Int64 := g t - rc t - pv
def mr_net (g rc : Nat → Int64) (t : Nat) (pv : Int64) : Int64 := if 0 < mr_lack g rc t pv then mr_lack g rc t pv else 0
def mr_pl (rho : Int32) (q p : Nat) (g rc : Nat → Int64) (t : Nat) (pv : Int64) : Int64 :=
  if 0 < mr_lack g rc t pv then mr_lot rho q p g rc t pv (mr_lack g rc t pv) else 0
def mr_pv (rho : Int32) (q p : Nat) (g rc : Nat → Int64) (oh : Int64) : Nat → Int64
  | 0 => oh
  | t + 1 => mr_pv rho q p g rc oh t + rc t + mr_pl rho q p g rc t (mr_pv rho q p g rc oh t) - g t
/-- PLANNED of the row -/
def mr_P (rho : Int32) (q p : Nat) (g rc : Nat → Int64) (oh : Int64) (t : Nat) : Int64 := mr_pl rho q p g rc t (mr_pv rho q p g rc oh t)
/-- RELEASE and PASTDUE of a row of lots after T periods, lead l -/
def mr_rl (lot : Nat → Int64) (l s T : Nat) : Int64 := ms_s (fun t => if t - l = s then lot t else 0) T
def mr_pd (lot : Nat → Int64) (l T : Nat) : Int64 := ms_s (fun t => if t < l then lot t else 0) T

/-! the releases of all items, level by level: a fixed point -/
noncomputable def mr_it (L : Nat → Nat) (Φ : (Nat → Nat → Int64) → Nat → Nat → Int64) : Nat → Nat → Nat → Int64
  | 0 => fun _ _ => 0
  | k + 1 => fun i => if L i = k then Φ (mr_it L Φ k) i else mr_it L Φ k i
theorem mr_its (L : Nat → Nat) (Φ : (Nat → Nat → Int64) → Nat → Nat → Int64) (i : Nat) : ∀ k, L i < k → mr_it L Φ k i = mr_it L Φ (L i + 1) i := by
  intro k
  induction k with
  | zero => intro h; omega
  | succ k ih =>
    intro h
    by_cases e : L i = k
    · rw [e]
    · rw [← ih (by omega)]
      show (if L i = k then Φ (mr_it L Φ k) i else mr_it L Φ k i) = mr_it L Φ k i
      rw [if_neg e]
theorem mr_fix {n : Nat} (L : Nat → Nat) (Φ : (Nat → Nat → Int64) → Nat → Nat → Int64)
    (h : ∀ r r' i, i < n → (∀ a, L a < L i → r a = r' a) → Φ r i = Φ r' i) : ∃ rel : Nat → Nat → Int64, ∀ i, i < n → rel i = Φ rel i := by
  refine ⟨fun i => mr_it L Φ (L i + 1) i, fun i hi => ?_⟩
  show (if L i = L i then Φ (mr_it L Φ (L i)) i else mr_it L Φ (L i) i) = Φ (fun i => mr_it L Φ (L i + 1) i) i
  rw [if_pos rfl]
  exact h _ _ i hi fun a ha => mr_its L Φ a (L i) ha
end
section
/-! Bounds: only the reference's 'if (pl > 0)' wants them -/
theorem mb_add {a b : Int64} (h1 : -4611686018427387904 ≤ a.toInt + b.toInt) (h2 : a.toInt + b.toInt ≤ 4611686018427387904) : (a + b).toInt = a.toInt + b.toInt := by
  rw [Int64.toInt_add]; exact Int.bmod_eq_of_le_mul_two (by omega) (by omega)
theorem mb_sub {a b : Int64} (h1 : -4611686018427387904 ≤ a.toInt - b.toInt) (h2 : a.toInt - b.toInt ≤ 4611686018427387904) : (a - b).toInt = a.toInt - b.toInt := by
  rw [Int64.toInt_sub]; exact Int.bmod_eq_of_le_mul_two (by omega) (by omega)
theorem mb_neg {a : Int64} (h1 : -4611686018427387904 ≤ a.toInt) (h2 : a.toInt ≤ 4611686018427387904) : (-a).toInt = -a.toInt := by
  rw [Int64.toInt_neg]; exact Int.bmod_eq_of_le_mul_two (by omega) (by omega)
theorem mb_of {a : Int64} {M : Nat} (h0 : 0 ≤ a.toInt) (h : a.toInt ≤ M) : ∃ k : Nat, k ≤ M ∧ a = lN k := by
  have e : ¬ a < 0 := by
    rw [Int64.lt_iff_toInt_lt, Int64.toInt_zero]; omega
  obtain ⟨k, hk, rfl⟩ := pk_lOf e
  rw [pk_lT hk] at h
  exact ⟨k, by omega, rfl⟩
/-- a sum of naturals -/
def mb_n (f : Nat → Nat) : Nat → Nat
  | 0 => 0
  | k + 1 => mb_n f k + f k
theorem mb_nle {f : Nat → Nat} {M : Nat} : ∀ k, (∀ j, j < k → f j ≤ M) → mb_n f k ≤ k * M := by
  intro k
  induction k with
  | zero => intro _; exact Nat.zero_le _
  | succ k ih =>
    intro h
    have h1 := ih fun j hj => h j (by omega)
    have h2 := h k (by omega)
    show mb_n f k + f k ≤ (k + 1) * M
    rw [Nat.succ_mul]; omega
theorem mb_sN {f : Nat → Int64} {g : Nat → Nat} : ∀ k, (∀ j, j < k → f j = lN (g j)) → ms_s f k = lN (mb_n g k) := by
  intro k
  induction k with
  | zero => intro _; rfl
  | succ k ih =>
    intro h
    show ms_s f k + f k = lN (mb_n g k + g k)
    rw [ih fun j hj => h j (by omega), h k (by omega), lN_add]
/-- a sum of small longs is small -/
theorem mb_s {f : Nat → Int64} {M : Nat} (k : Nat) (h : ∀ j, j < k → ∃ w, w ≤ M ∧ f j = lN w) : ∃ w, w ≤ k * M ∧ ms_s f k = lN w := by
  have hc : ∀ j, ∃ w, j < k → w ≤ M ∧ f j = lN w := by
    intro j
    by_cases hj : j < k
    · obtain ⟨w, hw⟩ := h j hj
      exact ⟨w, fun _ => hw⟩
    · exact ⟨0, fun q => absurd q hj⟩
  obtain ⟨g, hg⟩ := Classical.axiomOfChoice hc
  exact ⟨mb_n g k, mb_nle k fun j hj => (hg j hj).1, mb_sN k fun j hj => (hg j hj).2⟩
theorem mb_lk {g rc : Nat → Int64} {pv : Int64} {t p : Nat} (hg : ∀ j, j < p → 0 ≤ (g j).toInt ∧ (g j).toInt ≤ 1000000000000) (hr : ∀ j, j < p → 0 ≤ (rc j).toInt ∧ (rc j).toInt ≤ 100000)
    (h0 : 0 ≤ pv.toInt) (h1 : pv.toInt ≤ 1000000000000000) : ∀ k, t + k ≤ p → k ≤ 16 → -1000000000000000 - 100000 * (k : Int) ≤ (mr_lk g rc pv t k).toInt ∧ (mr_lk g rc pv t k).toInt ≤ 1000000000000 * (k : Int) := by
  intro k
  induction k with
  | zero =>
    intro _ _
    show -1000000000000000 - 100000 * ((0 : Nat) : Int) ≤ (-pv).toInt ∧ (-pv).toInt ≤ 1000000000000 * ((0 : Nat) : Int)
    rw [mb_neg (by omega) (by omega)]; omega
  | succ k ih =>
    intro hk h16
    have a1 := ih (by omega) (by omega)
    have a2 := hg (t + k) (by omega)
    have a3 := hr (t + k) (by omega)
    have e1 : (g (t + k) - rc (t + k)).toInt = (g (t + k)).toInt - (rc (t + k)).toInt := mb_sub (by omega) (by omega)
    have e2 : (mr_lk g rc pv t k + (g (t + k) - rc (t + k))).toInt = (mr_lk g rc pv t k).toInt + (g (t + k) - rc (t + k)).toInt := mb_add (by omega) (by omega)
    show _ ≤ (mr_lk g rc pv t k + (g (t + k) - rc (t + k))).toInt ∧ (mr_lk g rc pv t k + (g (t + k) - rc (t + k))).toInt ≤ _
    rw [e2, e1]; omega
theorem mb_mx {f : Nat → Int64} {z : Int64} {A B : Int} (hz : A ≤ z.toInt ∧ z.toInt ≤ B) : ∀ k, (∀ j, j ≤ k → (f j).toInt ≤ B) → A ≤ (mr_mx f z k).toInt ∧ (mr_mx f z k).toInt ≤ B := by
  intro k
  induction k with
  | zero => intro _; exact hz
  | succ k ih =>
    intro h
    have h1 := ih fun j hj => h j (by omega)
    have h2 := h (k + 1) (by omega)
    show A ≤ (if mr_mx f z k < f (k + 1) then f (k + 1) else mr_mx f z k).toInt ∧ (if mr_mx f z k < f (k + 1) then f (k + 1) else mr_mx f z k).toInt ≤ B
    split
    · rename_i c
      rw [Int64.lt_iff_toInt_lt] at c
      omega
    · exact h1
/-- a lot covers its lack, and is small -/
theorem mb_lot {rho : Int32} {q p : Nat} {g rc : Nat → Int64} {t : Nat} {pv : Int64}
    (hg : ∀ j, j < p → 0 ≤ (g j).toInt ∧ (g j).toInt ≤ 1000000000000) (hr : ∀ j, j < p → 0 ≤ (rc j).toInt ∧ (rc j).toInt ≤ 100000)
    (h0 : 0 ≤ pv.toInt) (h1 : pv.toInt ≤ 1000000000000000) (ht : t < p) (hp : p ≤ 16) (hq : rho = 1 → 1 ≤ q ∧ q ≤ 10000) (hl : 0 < (mr_lack g rc t pv).toInt) (hl2 : (mr_lack g rc t pv).toInt ≤ 1000000000000) :
    (mr_lack g rc t pv).toInt ≤ (mr_lot rho q p g rc t pv (mr_lack g rc t pv)).toInt ∧ (mr_lot rho q p g rc t pv (mr_lack g rc t pv)).toInt ≤ 17000000000000 := by
  unfold mr_lot
  split
  · rename_i c
    obtain ⟨q1, q2⟩ := hq c
    obtain ⟨w, hw, e⟩ := mb_of (M := 1000000000000) (Int.le_of_lt hl) hl2
    rw [e] at hl ⊢
    rw [pk_lT (by omega)] at hl
    have e1 : lN w + lN q - 1 = lN (w + q - 1) := by
      rw [lN_add]
      have : (1 : Int64) = lN 1 := rfl
      rw [this, lN_sub (by omega)]
    rw [e1, pk_lDiv (by omega) (by omega) (by omega), lN_mul]
    have d1 := Nat.div_add_mod (w + q - 1) q
    have d2 := Nat.mod_lt (w + q - 1) (show 0 < q by omega)
    have d3 : q * ((w + q - 1) / q) = (w + q - 1) / q * q := Nat.mul_comm _ _
    generalize (w + q - 1) / q * q = z at *
    rw [pk_lT (by omega), pk_lT (by omega)]
    omega
  · split
    · have a := mb_lk (t := t) hg hr h0 h1
      refine mb_mx ⟨Int.le_refl _, by omega⟩ _ fun j hj => ?_
      have hj' : j ≤ p - t := by
        split at hj <;> omega
      have b := a j (by omega) (by omega)
      omega
    · omega
theorem mb_lackI {g rc : Nat → Int64} {t : Nat} {pv : Int64} (hg : 0 ≤ (g t).toInt ∧ (g t).toInt ≤ 1000000000000) (hr : 0 ≤ (rc t).toInt ∧ (rc t).toInt ≤ 100000)
    (h0 : 0 ≤ pv.toInt) (h1 : pv.toInt ≤ 1000000000000000) : (mr_lack g rc t pv).toInt = (g t).toInt - (rc t).toInt - pv.toInt := by
  have e1 : (g t - rc t).toInt = (g t).toInt - (rc t).toInt := mb_sub (by omega) (by omega)
  show (g t - rc t - pv).toInt = _
  rw [mb_sub (by omega) (by omega), e1]
theorem mb_pl {rho : Int32} {q p : Nat} {g rc : Nat → Int64} {t : Nat} {pv : Int64}
    (hg : ∀ j, j < p → 0 ≤ (g j).toInt ∧ (g j).toInt ≤ 1000000000000) (hr : ∀ j, j < p → 0 ≤ (rc j).toInt ∧ (rc j).toInt ≤ 100000)
    (h0 : 0 ≤ pv.toInt) (h1 : pv.toInt ≤ 1000000000000000) (ht : t < p) (hp : p ≤ 16) (hq : rho = 1 → 1 ≤ q ∧ q ≤ 10000) :
    0 ≤ (mr_pl rho q p g rc t pv).toInt ∧ (mr_pl rho q p g rc t pv).toInt ≤ 17000000000000 ∧ (mr_lack g rc t pv).toInt ≤ (mr_pl rho q p g rc t pv).toInt := by
  have hl := mb_lackI (hg t ht) (hr t ht) h0 h1
  have a1 := hg t ht
  have a2 := hr t ht
  unfold mr_pl
  split
  · rename_i c
    rw [Int64.lt_iff_toInt_lt, Int64.toInt_zero] at c
    have := mb_lot hg hr h0 h1 ht hp hq c (by omega)
    omega
  · rename_i c
    rw [Int64.lt_iff_toInt_lt, Int64.toInt_zero] at c
    rw [Int64.toInt_zero]; omega
theorem mb_pv {rho : Int32} {q p : Nat} {g rc : Nat → Int64} {oh : Int64}
    (hg : ∀ j, j < p → 0 ≤ (g j).toInt ∧ (g j).toInt ≤ 1000000000000) (hr : ∀ j, j < p → 0 ≤ (rc j).toInt ∧ (rc j).toInt ≤ 100000)
    (ho : 0 ≤ oh.toInt ∧ oh.toInt ≤ 100000) (hp : p ≤ 16) (hq : rho = 1 → 1 ≤ q ∧ q ≤ 10000) :
    ∀ t, t ≤ p → 0 ≤ (mr_pv rho q p g rc oh t).toInt ∧ (mr_pv rho q p g rc oh t).toInt ≤ 100000 + 18000000000000 * (t : Int) := by
  intro t
  induction t with
  | zero => intro _; show 0 ≤ oh.toInt ∧ oh.toInt ≤ 100000 + 18000000000000 * ((0 : Nat) : Int); omega
  | succ t ih =>
    intro ht
    have a := ih (by omega)
    have b := mb_pl (rho := rho) (q := q) (t := t) (pv := mr_pv rho q p g rc oh t) hg hr a.1 (by omega) (by omega) hp hq
    have c := mb_lackI (t := t) (pv := mr_pv rho q p g rc oh t) (hg t (by omega)) (hr t (by omega)) a.1 (by omega)
    have d1 := hg t (by omega)
    have d2 := hr t (by omega)
    show 0 ≤ (mr_pv rho q p g rc oh t + rc t + mr_pl rho q p g rc t (mr_pv rho q p g rc oh t) - g t).toInt ∧ (mr_pv rho q p g rc oh t + rc t + mr_pl rho q p g rc t (mr_pv rho q p g rc oh t) - g t).toInt ≤ 100000 + 18000000000000 * ((t + 1 : Nat) : Int)
    generalize mr_pl rho q p g rc t (mr_pv rho q p g rc oh t) = z at *
    generalize mr_pv rho q p g rc oh t = y at *
    have e1 : (y + rc t).toInt = y.toInt + (rc t).toInt := mb_add (by omega) (by omega)
    have e2 : (y + rc t + z).toInt = (y + rc t).toInt + z.toInt := mb_add (by omega) (by omega)
    have e3 : (y + rc t + z - g t).toInt = (y + rc t + z).toInt - (g t).toInt := mb_sub (by omega) (by omega)
    rw [e3, e2, e1]; omega
/-- every lot of a row is a small natural -/
theorem mb_P {rho : Int32} {q p : Nat} {g rc : Nat → Int64} {oh : Int64}
    (hg : ∀ j, j < p → 0 ≤ (g j).toInt ∧ (g j).toInt ≤ 1000000000000) (hr : ∀ j, j < p → 0 ≤ (rc j).toInt ∧ (rc j).toInt ≤ 100000)
    (ho : 0 ≤ oh.toInt ∧ oh.toInt ≤ 100000) (hp : p ≤ 16) (hq : rho = 1 → 1 ≤ q ∧ q ≤ 10000) (t : Nat) (ht : t < p) :
    ∃ w, w ≤ 17000000000000 ∧ mr_P rho q p g rc oh t = lN w := by
  have a := mb_pv hg hr ho hp hq t (by omega)
  have b := mb_pl (rho := rho) (q := q) (t := t) (pv := mr_pv rho q p g rc oh t) hg hr a.1 (by omega) ht hp hq
  exact mb_of (M := 17000000000000) b.1 b.2.1
theorem mb_rl {lot : Nat → Int64} {p : Nat} (hp : p ≤ 16) (h : ∀ t, t < p → ∃ w, w ≤ 17000000000000 ∧ lot t = lN w) (l s : Nat) : ∃ w, w ≤ 272000000000000 ∧ mr_rl lot l s p = lN w := by
  obtain ⟨w, hw, e⟩ := mb_s (f := fun t => if t - l = s then lot t else 0) (M := 17000000000000) p (fun j hj => by
    show ∃ w, w ≤ 17000000000000 ∧ (if j - l = s then lot j else 0) = lN w
    split
    · exact h j hj
    · exact ⟨0, by omega, rfl⟩)
  have : p * 17000000000000 ≤ 16 * 17000000000000 := Nat.mul_le_mul_right _ hp
  exact ⟨w, by omega, e⟩
/-- GROSS is no less than 0 where the parents' releases are small -/
theorem mb_g {m i d : Nat} {P C : Nat → Nat} {u : Nat → Nat} {rel : Nat → Int64} (hm : m ≤ 32) (hd : d ≤ 100000) (hu : ∀ e, e < m → u e ≤ 9)
    (hR : ∀ e, e < m → C e = i → ∃ w, w ≤ 272000000000000 ∧ rel (P e) = lN w) :
    0 ≤ (lN d + ms_s (fun e => if C e = i then lN (u e) * rel (P e) else 0) m).toInt := by
  obtain ⟨w, hw, e⟩ := mb_s (f := fun e => if C e = i then lN (u e) * rel (P e) else 0) (M := 9 * 272000000000000) m (fun j hj => by
    show ∃ w, w ≤ 9 * 272000000000000 ∧ (if C j = i then lN (u j) * rel (P j) else 0) = lN w
    split
    · rename_i c
      obtain ⟨w, hw, e⟩ := hR j hj c
      exact ⟨u j * w, Nat.mul_le_mul (hu j hj) hw, by rw [e, lN_mul]⟩
    · exact ⟨0, by omega, rfl⟩)
  have h1 : m * (9 * 272000000000000) ≤ 32 * (9 * 272000000000000) := Nat.mul_le_mul_right _ hm
  rw [e, lN_add, pk_lT (by omega)]
  omega
end
section
/-! the component: levels and what is reached, over its table -/
theorem xh_ix (a b : Nat) : nI a * 16 + nI b = nI (a * 16 + b) := by
  rw [show (16 : Int32) = nI 16 from rfl, pk_mul, nI_add]
theorem xh_pair {post : Int32 → Prop} {a b : Nat} (h : post (nI (a * 16 + b))) : wpX_pairIndex post (nI a) (nI b) := by
  unfold wpX_pairIndex; rw [xh_ix]; exact h
theorem xh_cell {post : Int32 → Prop} {a b : Nat} (h : post (nI (a * 16 + b))) : wpX_cellIndex post (nI a) (nI b) := by
  unfold wpX_cellIndex; rw [xh_ix]; exact h
theorem xh_at {f : Nat → Int32} {k : Nat} (h : k < 2 ^ 31) : f (nI k).toNatClampNeg = f k := congrArg f (nI_clamp h)
theorem xh_atL {f : Nat → Int64} {k : Nat} (h : k < 2 ^ 31) : f (nI k).toNatClampNeg = f k := congrArg f (nI_clamp h)
theorem xh_up {f : Nat → Int32} {k : Nat} {x y : Int32} (h : k < 2 ^ 31) (e : x = y) : upd f (nI k).toNatClampNeg x = upd f k y := by rw [nI_clamp h, e]
theorem xh_upL {f : Nat → Int64} {k : Nat} {x y : Int64} (h : k < 2 ^ 31) (e : x = y) : vp_updL f (nI k).toNatClampNeg x = vp_updL f k y := by rw [nI_clamp h, e]
theorem xh_vb1 : vp_nar .boolean 1 = 1 := by decide
theorem xh_vb0 : vp_nar .boolean 0 = 0 := by decide
def xr_U (n : Nat) (G : Nat → Nat → Prop) (us : Nat → Int32) : Prop := ∀ a b, a < n → b < n → (¬ us (a * 16 + b) ≤ 0 ↔ G a b)
def xr_V (n : Nat) (lv : Nat → Int32) (v : Nat → Nat) : Prop := ∀ i, i < n → lv i = nI (v i)
theorem xr_Vput {n : Nat} {lv : Nat → Int32} {v : Nat → Nat} {b w : Nat} (h : xr_V n lv v) : xr_V n (upd lv b (nI w)) (fun i => if i = b then w else v i) := by
  intro i hi
  show upd lv b (nI w) i = nI (if i = b then w else v i)
  by_cases e : i = b
  · rw [if_pos e, e, pk_us]
  · rw [if_neg e, pk_un e, h i hi]
section
variable {n k : Nat} {G : Nat → Nat → Prop} {L : Nat → Nat} {f_periodCount f_edgeCount f_current : Int32} {a_leads a_rules a_params a_onHands a_demands a_receipts a_usages a_levels a_reached : Nat → Int32} {a_gross a_net a_planned a_release a_projected a_pastDue a_stock : Nat → Int64}
theorem xl_in {post : SX → Prop} {J2 : Int32 → (Nat → Int32) → (Nat → Int32) → (Nat → Int32) → (Nat → Int32) → (Nat → Int32) → (Nat → Int32) → (Nat → Int32) → (Nat → Int32) → (Nat → Int32) → (Nat → Int64) → (Nat → Int64) → (Nat → Int64) → (Nat → Int64) → (Nat → Int64) → (Nat → Int64) → (Nat → Int64) → Prop} {a : Nat} (hn16 : n ≤ 16) (T : mg_T n G L) (hn : ∀ a b, G a b → a < n ∧ b < n) (hU : xr_U n G a_usages) (ha : a < n) :
    ∀ d b lv v, b + d = n → xr_V n lv v → mg_I n G L k (mg_D a b) v →
    (∀ lv' v', xr_V n lv' v' → mg_I n G L k (mg_D a n) v' → J2 (nI (a + 1)) a_leads a_rules a_params a_onHands a_demands a_receipts a_usages lv' a_reached a_gross a_net a_planned a_release a_projected a_pastDue a_stock) →
    wX_pushChildrenDown_12 post J2 (nI a) (nI n) f_periodCount f_edgeCount f_current (d + 1) (nI b) a_leads a_rules a_params a_onHands a_demands a_receipts a_usages lv a_reached a_gross a_net a_planned a_release a_projected a_pastDue a_stock := by
  intro d
  induction d with
  | zero =>
    intro b lv v hb hv I hJ
    have e : b = n := by omega
    rw [e] at I
    exact br_t (nI_le (by omega) (by omega)) (nm_r (nI_1 a) (hJ lv v hv I))
  | succ d ih =>
    intro b lv v hb hv I hJ
    have hbn : b < n := by omega
    have hu : a_usages (nI (a * 16 + b)).toNatClampNeg = a_usages (a * 16 + b) := xh_at (by omega)
    have e1 : lv (nI a).toNatClampNeg = nI (v a) := (xh_at (by omega)).trans (hv a ha)
    have e2 : lv (nI b).toNatClampNeg = nI (v b) := (xh_at (by omega)).trans (hv b hbn)
    have la := I.1 a ha
    have lb := I.1 b hbn
    have ta := T.2.2 a ha
    have tb := T.2.2 b hbn
    refine br_f (nI_ge hbn (by omega)) (xh_pair ?_)
    refine ⟨vp_in_nI (by omega) (by omega), ?_⟩
    by_cases hg : G a b
    · refine br_f (by rw [hu]; exact (hU a b ha hbn).mpr hg) ⟨vp_in_nI (by omega) (by omega), vp_in_nI (by omega) (by omega), ?_⟩
      by_cases h : v a < v b
      · refine br_t (by rw [e1, e2]; exact nI_lt h (by omega)) (nm_r (nI_1 b) ?_)
        exact ih (b + 1) lv v (by omega) hv (mg_Ikeep hn I (fun _ => h) (fun x y q => mg_Ds q)) hJ
      · refine br_f (by rw [e1, e2]; exact nI_nlt (by omega) (by omega)) ⟨vp_in_nI (by omega) (by omega), vp_in_nI (by omega) (by omega), ?_⟩
        refine nm_r (xh_up (y := nI (v a + 1)) (by omega) (by rw [e1, nI_1])) (nm_r (nI_1 b) ?_)
        refine ih (b + 1) (upd lv b (nI (v a + 1))) (fun i => if i = b then v a + 1 else v i) (by omega) (xr_Vput hv) ?_ hJ
        exact mg_Iput T hn I hg (by omega) (if_pos rfl) (fun i _ q => if_neg q) (fun x y q => mg_Ds q)
    · refine br_t (by rw [hu]; exact Decidable.byContradiction fun q => hg ((hU a b ha hbn).mp q)) (nm_r (nI_1 b) ?_)
      exact ih (b + 1) lv v (by omega) hv (mg_Ikeep hn I (fun q => absurd q hg) (fun x y q => mg_Ds q)) hJ
theorem xl_out {post : SX → Prop} (hn16 : n ≤ 16) (T : mg_T n G L) (hn : ∀ a b, G a b → a < n ∧ b < n) (hU : xr_U n G a_usages) :
    ∀ d a lv v, a + d = n → xr_V n lv v → mg_I n G L k (mg_D a 0) v →
    (∀ lv' v', xr_V n lv' v' → mg_I n G L (k + 1) (fun _ _ => False) v' → post ((nI n), f_periodCount, f_edgeCount, f_current, a_leads, a_rules, a_params, a_onHands, a_demands, a_receipts, a_usages, lv', a_reached, a_gross, a_net, a_planned, a_release, a_projected, a_pastDue, a_stock)) →
    wX_pushChildrenDown_2 post (nI n) f_periodCount f_edgeCount f_current (d + 1) (nI a) a_leads a_rules a_params a_onHands a_demands a_receipts a_usages lv a_reached a_gross a_net a_planned a_release a_projected a_pastDue a_stock := by
  intro d
  induction d with
  | zero =>
    intro a lv v hb hv I h
    have e : a = n := by omega
    rw [e] at I
    exact br_t (nI_le (by omega) (by omega)) (h lv v hv (mg_Iround T I fun x y g => mg_De (hn x y g).1))
  | succ d ih =>
    intro a lv v hb hv I h
    refine br_f (nI_ge (by omega) (by omega)) ⟨n + 1, ?_⟩
    exact xl_in hn16 T hn hU (by omega) n 0 lv v (by omega) hv I fun lv' v' hv' I' =>
      ih (a + 1) lv' v' (by omega) hv' (mg_Iany I' fun x y g q => mg_Dr (hn x y g).2 q) h
theorem xl_push {post : SX → Prop} {lv : Nat → Int32} {v : Nat → Nat} (hn16 : n ≤ 16) (T : mg_T n G L) (hn : ∀ a b, G a b → a < n ∧ b < n) (hU : xr_U n G a_usages)
    (hv : xr_V n lv v) (I : mg_I n G L k (fun _ _ => False) v) (h : ∀ lv' v', xr_V n lv' v' → mg_I n G L (k + 1) (fun _ _ => False) v' → post ((nI n), f_periodCount, f_edgeCount, f_current, a_leads, a_rules, a_params, a_onHands, a_demands, a_receipts, a_usages, lv', a_reached, a_gross, a_net, a_planned, a_release, a_projected, a_pastDue, a_stock)) :
    wpX_pushChildrenDown post ((nI n), f_periodCount, f_edgeCount, f_current, a_leads, a_rules, a_params, a_onHands, a_demands, a_receipts, a_usages, lv, a_reached, a_gross, a_net, a_planned, a_release, a_projected, a_pastDue, a_stock) := by
  unfold wpX_pushChildrenDown
  exact ⟨n + 1, xl_out hn16 T hn hU n 0 lv v (by omega) hv (mg_Iany I fun x y _ q => mg_Df q) h⟩
theorem xl_25 {post : SX → Prop} (hn16 : n ≤ 16) (T : mg_T n G L) (hn : ∀ a b, G a b → a < n ∧ b < n) (hU : xr_U n G a_usages)
    (h : ∀ lv', xr_V n lv' L → post ((nI n), f_periodCount, f_edgeCount, f_current, a_leads, a_rules, a_params, a_onHands, a_demands, a_receipts, a_usages, lv', a_reached, a_gross, a_net, a_planned, a_release, a_projected, a_pastDue, a_stock)) :
    ∀ d k lv v, k + 1 + d = n → xr_V n lv v → mg_I n G L k (fun _ _ => False) v → wX_findLevels_25 post (d + 1) (nI (k + 1)) (nI n) f_periodCount f_edgeCount f_current a_leads a_rules a_params a_onHands a_demands a_receipts a_usages lv a_reached a_gross a_net a_planned a_release a_projected a_pastDue a_stock := by
  intro d
  induction d with
  | zero =>
    intro k lv v hb hv I
    refine br_t (nI_le (by omega) (by omega)) (h lv fun i hi => ?_)
    rw [hv i hi, mg_Iend T I (by omega) i hi]
  | succ d ih =>
    intro k lv v hb hv I
    refine br_f (nI_ge (by omega) (by omega)) (xl_push hn16 T hn hU hv I fun lv' v' hv' I' => ?_)
    exact nm_r (nI_1 (k + 1)) (ih (k + 1) lv' v' (by omega) hv' I')
theorem xl_2 {post : SX → Prop} (hn1 : 1 ≤ n) (hn16 : n ≤ 16) (T : mg_T n G L) (hn : ∀ a b, G a b → a < n ∧ b < n) (hU : xr_U n G a_usages)
    (h : ∀ lv', xr_V n lv' L → post ((nI n), f_periodCount, f_edgeCount, f_current, a_leads, a_rules, a_params, a_onHands, a_demands, a_receipts, a_usages, lv', a_reached, a_gross, a_net, a_planned, a_release, a_projected, a_pastDue, a_stock)) :
    ∀ d i lv, i + d = n → (∀ j, j < i → lv j = 0) → wX_findLevels_2 post (nI n) f_periodCount f_edgeCount f_current (d + 1) (nI i) a_leads a_rules a_params a_onHands a_demands a_receipts a_usages lv a_reached a_gross a_net a_planned a_release a_projected a_pastDue a_stock := by
  intro d
  induction d with
  | zero =>
    intro i lv hb hz
    refine br_t (nI_le (by omega) (by omega)) ⟨n - 1 + 1, ?_⟩
    exact xl_25 hn16 T hn hU h (n - 1) 0 lv (fun _ => 0) (by omega) (fun j hj => hz j (by omega)) (mg_I0 fun _ _ => rfl)
  | succ d ih =>
    intro i lv hb hz
    refine br_f (nI_ge (by omega) (by omega)) ⟨vp_in_nI (by omega) (by omega), nm_r (xh_up (by omega) rfl) (nm_r (nI_1 i) ?_)⟩
    refine ih (i + 1) (upd lv i 0) (by omega) fun j hj => ?_
    by_cases e : j = i
    · rw [e, pk_us]
    · rw [pk_un e]; exact hz j (by omega)
/-- findLevels ends with the levels -/
theorem xl_find {post : SX → Prop} (hn1 : 1 ≤ n) (hn16 : n ≤ 16) (T : mg_T n G L) (hn : ∀ a b, G a b → a < n ∧ b < n) (hU : xr_U n G a_usages)
    (h : ∀ lv', xr_V n lv' L → post ((nI n), f_periodCount, f_edgeCount, f_current, a_leads, a_rules, a_params, a_onHands, a_demands, a_receipts, a_usages, lv', a_reached, a_gross, a_net, a_planned, a_release, a_projected, a_pastDue, a_stock)) : wpX_findLevels post ((nI n), f_periodCount, f_edgeCount, f_current, a_leads, a_rules, a_params, a_onHands, a_demands, a_receipts, a_usages, a_levels, a_reached, a_gross, a_net, a_planned, a_release, a_projected, a_pastDue, a_stock) := by
  unfold wpX_findLevels
  exact ⟨n + 1, xl_2 hn1 hn16 T hn hU h n 0 a_levels (by omega) (fun j hj => absurd hj (by omega))⟩

def xr_B (n : Nat) (re : Nat → Int32) : Prop := ∀ i, i < n → re i = 0 ∨ re i = 1
theorem xr_Bput {re : Nat → Int32} {b : Nat} (h : xr_B n re) : xr_B n (upd re b 1) := by
  intro i hi
  by_cases e : i = b
  · rw [e, pk_us]; exact Or.inr rfl
  · rw [pk_un e]; exact h i hi
theorem xr_rput {re : Nat → Int32} {b : Nat} (hb : b < n) (i : Nat) : (i < n ∧ upd re b 1 i = 1) ↔ (i = b ∨ (i < n ∧ re i = 1)) := by
  by_cases e : i = b
  · rw [e, pk_us]; exact ⟨fun _ => Or.inl rfl, fun _ => ⟨hb, rfl⟩⟩
  · rw [pk_un e]; exact ⟨Or.inr, fun q => q.resolve_left e⟩
theorem xr_01 : ¬ ((0 : Int32) = 1) := by decide
theorem xq_in {post : SX → Prop} {J2 : Int32 → (Nat → Int32) → (Nat → Int32) → (Nat → Int32) → (Nat → Int32) → (Nat → Int32) → (Nat → Int32) → (Nat → Int32) → (Nat → Int32) → (Nat → Int32) → (Nat → Int64) → (Nat → Int64) → (Nat → Int64) → (Nat → Int64) → (Nat → Int64) → (Nat → Int64) → (Nat → Int64) → Prop} {a s : Nat} (hn16 : n ≤ 16) (hU : xr_U n G a_usages) (ha : a < n) :
    ∀ d b re, b + d = n → xr_B n re → mg_J G s k (mg_D a b) (fun i => i < n ∧ re i = 1) →
    (∀ re', xr_B n re' → mg_J G s k (mg_D a n) (fun i => i < n ∧ re' i = 1) → J2 (nI (a + 1)) a_leads a_rules a_params a_onHands a_demands a_receipts a_usages a_levels re' a_gross a_net a_planned a_release a_projected a_pastDue a_stock) →
    wX_reachChildren_12 post J2 (nI a) (nI n) f_periodCount f_edgeCount f_current (d + 1) (nI b) a_leads a_rules a_params a_onHands a_demands a_receipts a_usages a_levels re a_gross a_net a_planned a_release a_projected a_pastDue a_stock := by
  intro d
  induction d with
  | zero =>
    intro b re hb hB J hJ
    have e : b = n := by omega
    rw [e] at J
    exact br_t (nI_le (by omega) (by omega)) (nm_r (nI_1 a) (hJ re hB J))
  | succ d ih =>
    intro b re hb hB J hJ
    have hbn : b < n := by omega
    have hu : a_usages (nI (a * 16 + b)).toNatClampNeg = a_usages (a * 16 + b) := xh_at (by omega)
    have e1 : re (nI a).toNatClampNeg = re a := xh_at (by omega)
    refine br_f (nI_ge hbn (by omega)) ⟨vp_in_nI (by omega) (by omega), ?_⟩
    by_cases hr : re a = 0
    · refine br_t (e1.trans hr) (nm_r (nI_1 b) ?_)
      refine ih (b + 1) re (by omega) hB (mg_Jkeep J (fun _ q => ?_) (fun x y q => mg_Ds q)) hJ
      exact absurd (hr.symm.trans q.2) xr_01
    · have hr1 : re a = 1 := (hB a ha).resolve_left hr
      refine br_f (fun q => hr (e1.symm.trans q)) (xh_pair ?_)
      refine ⟨vp_in_nI (by omega) (by omega), ?_⟩
      by_cases hg : G a b
      · refine br_f (by rw [hu]; exact (hU a b ha hbn).mpr hg) ⟨vp_in_nI (by omega) (by omega), ?_⟩
        refine nm_r (xh_up (by omega) xh_vb1) (nm_r (nI_1 b) ?_)
        exact ih (b + 1) (upd re b 1) (by omega) (xr_Bput hB) (mg_Jput J hg ⟨ha, hr1⟩ (fun i => xr_rput hbn i) (fun x y q => mg_Ds q)) hJ
      · refine br_t (by rw [hu]; exact Decidable.byContradiction fun q => hg ((hU a b ha hbn).mp q)) (nm_r (nI_1 b) ?_)
        exact ih (b + 1) re (by omega) hB (mg_Jkeep J (fun q => absurd q hg) (fun x y q => mg_Ds q)) hJ
theorem xq_out {post : SX → Prop} {s : Nat} (hn16 : n ≤ 16) (hn : ∀ a b, G a b → a < n ∧ b < n) (hU : xr_U n G a_usages) :
    ∀ d a re, a + d = n → xr_B n re → mg_J G s k (mg_D a 0) (fun i => i < n ∧ re i = 1) →
    (∀ re', xr_B n re' → mg_J G s (k + 1) (fun _ _ => False) (fun i => i < n ∧ re' i = 1) → post ((nI n), f_periodCount, f_edgeCount, f_current, a_leads, a_rules, a_params, a_onHands, a_demands, a_receipts, a_usages, a_levels, re', a_gross, a_net, a_planned, a_release, a_projected, a_pastDue, a_stock)) →
    wX_reachChildren_2 post (nI n) f_periodCount f_edgeCount f_current (d + 1) (nI a) a_leads a_rules a_params a_onHands a_demands a_receipts a_usages a_levels re a_gross a_net a_planned a_release a_projected a_pastDue a_stock := by
  intro d
  induction d with
  | zero =>
    intro a re hb hB J h
    have e : a = n := by omega
    rw [e] at J
    exact br_t (nI_le (by omega) (by omega)) (h re hB (mg_Jround J fun x y g => mg_De (hn x y g).1))
  | succ d ih =>
    intro a re hb hB J h
    refine br_f (nI_ge (by omega) (by omega)) ⟨n + 1, ?_⟩
    exact xq_in hn16 hU (by omega) n 0 re (by omega) hB J fun re' hB' J' =>
      ih (a + 1) re' (by omega) hB' (mg_Jany J' fun x y g q => mg_Dr (hn x y g).2 q) h
theorem xq_reach {post : SX → Prop} {s : Nat} {re : Nat → Int32} (hn16 : n ≤ 16) (hn : ∀ a b, G a b → a < n ∧ b < n) (hU : xr_U n G a_usages)
    (hB : xr_B n re) (J : mg_J G s k (fun _ _ => False) (fun i => i < n ∧ re i = 1))
    (h : ∀ re', xr_B n re' → mg_J G s (k + 1) (fun _ _ => False) (fun i => i < n ∧ re' i = 1) → post ((nI n), f_periodCount, f_edgeCount, f_current, a_leads, a_rules, a_params, a_onHands, a_demands, a_receipts, a_usages, a_levels, re', a_gross, a_net, a_planned, a_release, a_projected, a_pastDue, a_stock)) :
    wpX_reachChildren post ((nI n), f_periodCount, f_edgeCount, f_current, a_leads, a_rules, a_params, a_onHands, a_demands, a_receipts, a_usages, a_levels, re, a_gross, a_net, a_planned, a_release, a_projected, a_pastDue, a_stock) := by
  unfold wpX_reachChildren
  exact ⟨n + 1, xq_out hn16 hn hU n 0 re (by omega) hB (mg_Jany J fun x y _ q => mg_Df q) h⟩
theorem xq_34 {post : Int32 → SX → Prop} {s t : Nat} (hn16 : n ≤ 16) (T : mg_T n G L) (hn : ∀ a b, G a b → a < n ∧ b < n) (hU : xr_U n G a_usages) (hs : s < n) (ht : t < n)
    (h1 : ∀ re', (∃ j, mg_R G s j t) → post 1 ((nI n), f_periodCount, f_edgeCount, f_current, a_leads, a_rules, a_params, a_onHands, a_demands, a_receipts, a_usages, a_levels, re', a_gross, a_net, a_planned, a_release, a_projected, a_pastDue, a_stock)) (h0 : ∀ re', (¬ ∃ j, mg_R G s j t) → post 0 ((nI n), f_periodCount, f_edgeCount, f_current, a_leads, a_rules, a_params, a_onHands, a_demands, a_receipts, a_usages, a_levels, re', a_gross, a_net, a_planned, a_release, a_projected, a_pastDue, a_stock)) :
    ∀ d k re, k + 1 + d = n → xr_B n re → mg_J G s k (fun _ _ => False) (fun i => i < n ∧ re i = 1) → wX_leadsDownTo_34 post (nI t) (d + 1) (nI (k + 1)) (nI n) f_periodCount f_edgeCount f_current a_leads a_rules a_params a_onHands a_demands a_receipts a_usages a_levels re a_gross a_net a_planned a_release a_projected a_pastDue a_stock := by
  intro d
  induction d with
  | zero =>
    intro k re hb hB J
    have e1 : re (nI t).toNatClampNeg = re t := xh_at (by omega)
    have hJ := mg_Jend T hs hn J (by omega) t
    refine br_t (nI_le (by omega) (by omega)) ⟨vp_in_nI (by omega) (by omega), ?_⟩
    rw [e1]
    rcases hB t ht with e | e
    · rw [e]
      exact ⟨by decide, h0 re fun q => xr_01 (e.symm.trans (hJ.mpr q).2)⟩
    · rw [e]
      exact ⟨by decide, h1 re (hJ.mp ⟨ht, e⟩)⟩
  | succ d ih =>
    intro k re hb hB J
    refine br_f (nI_ge (by omega) (by omega)) (xq_reach hn16 hn hU hB J fun re' hB' J' => ?_)
    exact nm_r (nI_1 (k + 1)) (ih (k + 1) re' (by omega) hB' J')
theorem xq_2 {post : Int32 → SX → Prop} {s t : Nat} (hn16 : n ≤ 16) (T : mg_T n G L) (hn : ∀ a b, G a b → a < n ∧ b < n) (hU : xr_U n G a_usages) (hs : s < n) (ht : t < n)
    (h1 : ∀ re', (∃ j, mg_R G s j t) → post 1 ((nI n), f_periodCount, f_edgeCount, f_current, a_leads, a_rules, a_params, a_onHands, a_demands, a_receipts, a_usages, a_levels, re', a_gross, a_net, a_planned, a_release, a_projected, a_pastDue, a_stock)) (h0 : ∀ re', (¬ ∃ j, mg_R G s j t) → post 0 ((nI n), f_periodCount, f_edgeCount, f_current, a_leads, a_rules, a_params, a_onHands, a_demands, a_receipts, a_usages, a_levels, re', a_gross, a_net, a_planned, a_release, a_projected, a_pastDue, a_stock)) :
    ∀ d i re, i + d = n → (∀ j, j < i → re j = if j = s then 1 else 0) → wX_leadsDownTo_2 post (nI s) (nI t) (nI n) f_periodCount f_edgeCount f_current (d + 1) (nI i) a_leads a_rules a_params a_onHands a_demands a_receipts a_usages a_levels re a_gross a_net a_planned a_release a_projected a_pastDue a_stock := by
  intro d
  induction d with
  | zero =>
    intro i re hb hz
    refine br_t (nI_le (by omega) (by omega)) ⟨n - 1 + 1, ?_⟩
    refine xq_34 hn16 T hn hU hs ht h1 h0 (n - 1) 0 re (by omega) (fun j hj => ?_) (mg_J0 fun j => ?_)
    · rw [hz j (by omega)]
      by_cases e : j = s
      · rw [if_pos e]; exact Or.inr rfl
      · rw [if_neg e]; exact Or.inl rfl
    · refine ⟨fun ⟨q1, q2⟩ => ?_, fun q => ⟨by omega, ?_⟩⟩
      · rw [hz j (by omega)] at q2
        by_cases e : j = s
        · exact e
        · rw [if_neg e] at q2; exact absurd q2 xr_01
      · rw [hz j (by omega), if_pos q]
  | succ d ih =>
    intro i re hb hz
    refine br_f (nI_ge (by omega) (by omega)) ?_
    by_cases e : i = s
    · refine br_t (by rw [e]) ⟨vp_in_nI (by omega) (by omega), nm_r (xh_up (by omega) xh_vb1) (nm_r (nI_1 i) ?_)⟩
      refine ih (i + 1) (upd re i 1) (by omega) fun j hj => ?_
      by_cases e' : j = i
      · rw [e', pk_us, if_pos e]
      · rw [pk_un e']; exact hz j (by omega)
    · refine br_f (fun q => e ((nI_eq (by omega) (by omega)).mp q)) ⟨vp_in_nI (by omega) (by omega), nm_r (xh_up (by omega) xh_vb0) (nm_r (nI_1 i) ?_)⟩
      refine ih (i + 1) (upd re i 0) (by omega) fun j hj => ?_
      by_cases e' : j = i
      · rw [e', pk_us, if_neg e]
      · rw [pk_un e']; exact hz j (by omega)
theorem xq_lead {post : Int32 → SX → Prop} {s t : Nat} (hn1 : 1 ≤ n) (hn16 : n ≤ 16) (T : mg_T n G L) (hn : ∀ a b, G a b → a < n ∧ b < n) (hU : xr_U n G a_usages) (hs : s < n) (ht : t < n)
    (h1 : ∀ re', (∃ j, mg_R G s j t) → post 1 ((nI n), f_periodCount, f_edgeCount, f_current, a_leads, a_rules, a_params, a_onHands, a_demands, a_receipts, a_usages, a_levels, re', a_gross, a_net, a_planned, a_release, a_projected, a_pastDue, a_stock)) (h0 : ∀ re', (¬ ∃ j, mg_R G s j t) → post 0 ((nI n), f_periodCount, f_edgeCount, f_current, a_leads, a_rules, a_params, a_onHands, a_demands, a_receipts, a_usages, a_levels, re', a_gross, a_net, a_planned, a_release, a_projected, a_pastDue, a_stock)) :
    wpX_leadsDownTo post ((nI n), f_periodCount, f_edgeCount, f_current, a_leads, a_rules, a_params, a_onHands, a_demands, a_receipts, a_usages, a_levels, a_reached, a_gross, a_net, a_planned, a_release, a_projected, a_pastDue, a_stock) (nI s) (nI t) := by
  unfold wpX_leadsDownTo
  exact ⟨n + 1, xq_2 hn16 T hn hU hs ht h1 h0 n 0 a_reached (by omega) (fun j hj => absurd hj (by omega))⟩
end
end
section
/-! the reference: levels, what is reached and findEdge, over its list of edges -/
def ye_E (n m : Nat) (P C U : Nat → Nat) (ep ec eu : Nat → Int32) : Prop :=
  ∀ e, e < m → ep e = nI (P e) ∧ ec e = nI (C e) ∧ eu e = nI (U e) ∧ P e < n ∧ C e < n ∧ 1 ≤ U e ∧ U e ≤ 9
def ye_G (m : Nat) (P C : Nat → Nat) (a b : Nat) : Prop := ∃ e, e < m ∧ P e = a ∧ C e = b
theorem ye_Gs {e : Nat} {P C : Nat → Nat} {x y : Nat} (h : ye_G (e + 1) P C x y) : ye_G e P C x y ∨ (x = P e ∧ y = C e) := by
  obtain ⟨j, hj, h1, h2⟩ := h
  by_cases q : j = e
  · subst q; exact Or.inr ⟨h1.symm, h2.symm⟩
  · exact Or.inl ⟨j, by omega, h1, h2⟩
theorem ye_G0 {P C : Nat → Nat} {x y : Nat} (h : ye_G 0 P C x y) : False := by
  obtain ⟨j, hj, _⟩ := h; omega
theorem ye_Gn {n m : Nat} {P C U : Nat → Nat} {ep ec eu : Nat → Int32} (E : ye_E n m P C U ep ec eu) : ∀ a b, ye_G m P C a b → a < n ∧ b < n := by
  intro a b ⟨e, he, h1, h2⟩
  obtain ⟨_, _, _, q1, q2, _⟩ := E e he
  omega
section
variable {n m k : Nat} {P C U : Nat → Nat} {L : Nat → Nat} {f_p f_hasPlan f_current : Int32} {a_lead a_rule a_param a_onHand a_demand a_receipt a_ep a_ec a_eu a_lvl a_reach : Nat → Int32} {a_gross a_net a_planned a_release a_projected a_pastDue a_stock : Nat → Int64}
theorem yl_33 {post : SY → Prop} {J23 : Int32 → (Nat → Int32) → (Nat → Int32) → (Nat → Int32) → (Nat → Int32) → (Nat → Int32) → (Nat → Int32) → (Nat → Int32) → (Nat → Int32) → (Nat → Int32) → (Nat → Int64) → (Nat → Int64) → (Nat → Int64) → (Nat → Int64) → (Nat → Int64) → (Nat → Int64) → (Nat → Int64) → (Nat → Int32) → (Nat → Int32) → Prop} {x1 : Nat} (hn16 : n ≤ 16) (hm : m ≤ 32) (T : mg_T n (ye_G m P C) L) (E : ye_E n m P C U a_ep a_ec a_eu) :
    ∀ d e lv v, e + d = m → xr_V n lv v → mg_I n (ye_G m P C) L k (ye_G e P C) v →
    (∀ lv' v', xr_V n lv' v' → mg_I n (ye_G m P C) L k (ye_G m P C) v' → J23 (nI (x1 + 1)) a_lead a_rule a_param a_onHand a_demand a_receipt a_ep a_ec a_eu a_gross a_net a_planned a_release a_projected a_pastDue a_stock lv' a_reach) →
    wY_computeLevels_33 post J23 (nI x1) (nI n) f_p (nI m) f_hasPlan f_current (d + 1) (nI e) a_lead a_rule a_param a_onHand a_demand a_receipt a_ep a_ec a_eu a_gross a_net a_planned a_release a_projected a_pastDue a_stock lv a_reach := by
  intro d
  induction d with
  | zero =>
    intro e lv v he hv I hJ
    have q : e = m := by omega
    rw [q] at I
    exact br_t (nI_le (by omega) (by omega)) (nm_r (nI_1 x1) (hJ lv v hv I))
  | succ d ih =>
    intro e lv v he hv I hJ
    have hem : e < m := by omega
    obtain ⟨p1, p2, p3, hP, hC, _, _⟩ := E e hem
    have i1 : a_ep (nI e).toNatClampNeg = nI (P e) := (xh_at (by omega)).trans p1
    have i2 : a_ec (nI e).toNatClampNeg = nI (C e) := (xh_at (by omega)).trans p2
    have e1 : lv (nI (P e)).toNatClampNeg = nI (v (P e)) := (xh_at (by omega)).trans (hv _ hP)
    have e2 : lv (nI (C e)).toNatClampNeg = nI (v (C e)) := (xh_at (by omega)).trans (hv _ hC)
    have hg : ye_G m P C (P e) (C e) := ⟨e, hem, rfl, rfl⟩
    have la := I.1 _ hP
    have lb := I.1 _ hC
    have ta := T.2.2 _ hP
    have tb := T.2.2 _ hC
    have ve : vp_in (nI e) 32 := vp_in_nI (by omega) (by omega)
    have vP : vp_in (nI (P e)) 16 := vp_in_nI (by omega) (by omega)
    have vC : vp_in (nI (C e)) 16 := vp_in_nI (by omega) (by omega)
    refine br_f (nI_ge hem (by omega)) ?_
    rw [i1, i2]
    refine ⟨ve, vC, ve, vP, ?_⟩
    by_cases h : v (P e) < v (C e)
    · refine br_t (by rw [e1, e2, nI_1]; exact nI_le (by omega) (by omega)) (nm_r (nI_1 e) ?_)
      exact ih (e + 1) lv v (by omega) hv (mg_Ikeep (ye_Gn E) I (fun _ => h) (fun x y q => ye_Gs q)) hJ
    · refine br_f (by rw [e1, e2, nI_1]; exact nI_ge (by omega) (by omega)) ⟨ve, ve, vP, vC, ?_⟩
      refine nm_r (xh_up (y := nI (v (P e) + 1)) (by omega) (by rw [e1, nI_1])) (nm_r (nI_1 e) ?_)
      refine ih (e + 1) (upd lv (C e) (nI (v (P e) + 1))) (fun i => if i = C e then v (P e) + 1 else v i) (by omega) (xr_Vput hv) ?_ hJ
      exact mg_Iput T (ye_Gn E) I hg (by omega) (if_pos rfl) (fun i _ q => if_neg q) (fun x y q => ye_Gs q)
theorem yl_23 {post : SY → Prop} (hn16 : n ≤ 16) (hm : m ≤ 32) (T : mg_T n (ye_G m P C) L) (E : ye_E n m P C U a_ep a_ec a_eu)
    (h : ∀ lv', xr_V n lv' L → post ((nI n), f_p, (nI m), f_hasPlan, f_current, a_lead, a_rule, a_param, a_onHand, a_demand, a_receipt, a_ep, a_ec, a_eu, a_gross, a_net, a_planned, a_release, a_projected, a_pastDue, a_stock, lv', a_reach)) :
    ∀ d k lv v, k + d = n → xr_V n lv v → mg_I n (ye_G m P C) L k (fun _ _ => False) v → wY_computeLevels_23 post (nI n) f_p (nI m) f_hasPlan f_current (d + 1) (nI k) a_lead a_rule a_param a_onHand a_demand a_receipt a_ep a_ec a_eu a_gross a_net a_planned a_release a_projected a_pastDue a_stock lv a_reach := by
  intro d
  induction d with
  | zero =>
    intro k lv v hk hv I
    refine br_t (nI_le (by omega) (by omega)) (h lv fun i hi => ?_)
    rw [hv i hi, mg_Iend T I (by omega) i hi]
  | succ d ih =>
    intro k lv v hk hv I
    refine br_f (nI_ge (by omega) (by omega)) ⟨m + 1, ?_⟩
    exact yl_33 hn16 hm T E m 0 lv v (by omega) hv (mg_Iany I fun x y _ q => ye_G0 q) fun lv' v' hv' I' =>
      ih (k + 1) lv' v' (by omega) hv' (mg_Iround T I' fun x y g => g)
theorem yl_2 {post : SY → Prop} (hn16 : n ≤ 16) (hm : m ≤ 32) (T : mg_T n (ye_G m P C) L) (E : ye_E n m P C U a_ep a_ec a_eu)
    (h : ∀ lv', xr_V n lv' L → post ((nI n), f_p, (nI m), f_hasPlan, f_current, a_lead, a_rule, a_param, a_onHand, a_demand, a_receipt, a_ep, a_ec, a_eu, a_gross, a_net, a_planned, a_release, a_projected, a_pastDue, a_stock, lv', a_reach)) :
    ∀ d i lv, i + d = 16 → (∀ j, j < i → lv j = 0) → wY_computeLevels_2 post (nI n) f_p (nI m) f_hasPlan f_current (d + 1) (nI i) a_lead a_rule a_param a_onHand a_demand a_receipt a_ep a_ec a_eu a_gross a_net a_planned a_release a_projected a_pastDue a_stock lv a_reach := by
  intro d
  induction d with
  | zero =>
    intro i lv hi hz
    refine br_t (nI_le (a := 16) (by omega) (by omega)) ⟨n + 1, ?_⟩
    exact yl_23 hn16 hm T E h n 0 lv (fun _ => 0) (by omega) (fun j hj => hz j (by omega)) (mg_I0 fun _ _ => rfl)
  | succ d ih =>
    intro i lv hi hz
    refine br_f (nI_ge (b := 16) (by omega) (by omega)) ⟨vp_in_nI (by omega) (by omega), nm_r (xh_up (by omega) rfl) (nm_r (nI_1 i) ?_)⟩
    refine ih (i + 1) (upd lv i 0) (by omega) fun j hj => ?_
    by_cases e : j = i
    · rw [e, pk_us]
    · rw [pk_un e]; exact hz j (by omega)
/-- computeLevels ends with the levels -/
theorem yl_comp {post : SY → Prop} (hn16 : n ≤ 16) (hm : m ≤ 32) (T : mg_T n (ye_G m P C) L) (E : ye_E n m P C U a_ep a_ec a_eu)
    (h : ∀ lv', xr_V n lv' L → post ((nI n), f_p, (nI m), f_hasPlan, f_current, a_lead, a_rule, a_param, a_onHand, a_demand, a_receipt, a_ep, a_ec, a_eu, a_gross, a_net, a_planned, a_release, a_projected, a_pastDue, a_stock, lv', a_reach)) : wpY_computeLevels post ((nI n), f_p, (nI m), f_hasPlan, f_current, a_lead, a_rule, a_param, a_onHand, a_demand, a_receipt, a_ep, a_ec, a_eu, a_gross, a_net, a_planned, a_release, a_projected, a_pastDue, a_stock, a_lvl, a_reach) := by
  unfold wpY_computeLevels
  exact ⟨17, yl_2 hn16 hm T E h 16 0 a_lvl (by omega) (fun j hj => absurd hj (by omega))⟩
theorem yf_2 {post : Int32 → Prop} {a c : Nat} (hn16 : n ≤ 16) (hm : m ≤ 32) (E : ye_E n m P C U a_ep a_ec a_eu) (ha : a < n) (hc : c < n)
    (h1 : ∀ e, e < m → P e = a → C e = c → post (nI e)) (h0 : (∀ e, e < m → ¬ (P e = a ∧ C e = c)) → post (-1)) :
    ∀ d e, e + d = m → (∀ j, j < e → ¬ (P j = a ∧ C j = c)) → wY_findEdge_2 post (nI a) (nI c) (nI n) f_p (nI m) f_hasPlan f_current a_lead a_rule a_param a_onHand a_demand a_receipt a_ep a_ec a_eu a_gross a_net a_planned a_release a_projected a_pastDue a_stock a_lvl a_reach (d + 1) (nI e) := by
  intro d
  induction d with
  | zero =>
    intro e he hz
    exact br_t (nI_le (by omega) (by omega)) (h0 fun j hj => hz j (by omega))
  | succ d ih =>
    intro e he hz
    have hem : e < m := by omega
    obtain ⟨p1, p2, p3, hP, hC, _, _⟩ := E e hem
    have i1 : a_ep (nI e).toNatClampNeg = nI (P e) := (xh_at (by omega)).trans p1
    have i2 : a_ec (nI e).toNatClampNeg = nI (C e) := (xh_at (by omega)).trans p2
    have ve : vp_in (nI e) 32 := vp_in_nI (by omega) (by omega)
    refine br_f (nI_ge hem (by omega)) ⟨ve, ?_⟩
    rw [i1, i2]
    by_cases q : P e = a
    · refine br_t (by rw [q]) ⟨ve, ?_⟩
      by_cases q2 : C e = c
      · exact br_t (by rw [q2]) (h1 e hem q q2)
      · refine br_f (fun z => q2 ((nI_eq (by omega) (by omega)).mp z)) (nm_r (nI_1 e) ?_)
        exact ih (e + 1) (by omega) fun j hj => by
          by_cases z : j = e
          · rw [z]; exact fun w => q2 w.2
          · exact hz j (by omega)
    · refine br_f (fun z => q ((nI_eq (by omega) (by omega)).mp z)) (nm_r (nI_1 e) ?_)
      exact ih (e + 1) (by omega) fun j hj => by
        by_cases z : j = e
        · rw [z]; exact fun w => q w.1
        · exact hz j (by omega)
theorem yf_find {post : Int32 → Prop} {a c : Nat} (hn16 : n ≤ 16) (hm : m ≤ 32) (E : ye_E n m P C U a_ep a_ec a_eu) (ha : a < n) (hc : c < n)
    (h1 : ∀ e, e < m → P e = a → C e = c → post (nI e)) (h0 : (∀ e, e < m → ¬ (P e = a ∧ C e = c)) → post (-1)) :
    wpY_findEdge post ((nI n), f_p, (nI m), f_hasPlan, f_current, a_lead, a_rule, a_param, a_onHand, a_demand, a_receipt, a_ep, a_ec, a_eu, a_gross, a_net, a_planned, a_release, a_projected, a_pastDue, a_stock, a_lvl, a_reach) (nI a) (nI c) := by
  unfold wpY_findEdge
  exact ⟨m + 1, yf_2 hn16 hm E ha hc h1 h0 m 0 (by omega) (fun j hj => absurd hj (by omega))⟩
/-! what is reached: the loops of addComponent -/
theorem yq_130 {post : Int32 → SY → Prop} {J118 : Int32 → (Nat → Int32) → (Nat → Int32) → (Nat → Int32) → (Nat → Int32) → (Nat → Int32) → (Nat → Int32) → (Nat → Int32) → (Nat → Int32) → (Nat → Int32) → (Nat → Int64) → (Nat → Int64) → (Nat → Int64) → (Nat → Int64) → (Nat → Int64) → (Nat → Int64) → (Nat → Int64) → (Nat → Int32) → (Nat → Int32) → Prop} {x1 x2 x3 : Int32} {x5 s : Nat} (hn16 : n ≤ 16) (hm : m ≤ 32) (E : ye_E n m P C U a_ep a_ec a_eu) :
    ∀ d e re, e + d = m → xr_B n re → mg_J (ye_G m P C) s k (ye_G e P C) (fun i => i < n ∧ re i = 1) →
    (∀ re', xr_B n re' → mg_J (ye_G m P C) s k (ye_G m P C) (fun i => i < n ∧ re' i = 1) → J118 (nI (x5 + 1)) a_lead a_rule a_param a_onHand a_demand a_receipt a_ep a_ec a_eu a_gross a_net a_planned a_release a_projected a_pastDue a_stock a_lvl re') →
    wY_addComponent_130 post J118 x1 x2 x3 (nI x5) (nI n) f_p (nI m) f_hasPlan f_current (d + 1) (nI e) a_lead a_rule a_param a_onHand a_demand a_receipt a_ep a_ec a_eu a_gross a_net a_planned a_release a_projected a_pastDue a_stock a_lvl re := by
  intro d
  induction d with
  | zero =>
    intro e re he hB J hJ
    have q : e = m := by omega
    rw [q] at J
    exact br_t (nI_le (by omega) (by omega)) (nm_r (nI_1 x5) (hJ re hB J))
  | succ d ih =>
    intro e re he hB J hJ
    have hem : e < m := by omega
    obtain ⟨p1, p2, p3, hP, hC, _, _⟩ := E e hem
    have i1 : a_ep (nI e).toNatClampNeg = nI (P e) := (xh_at (by omega)).trans p1
    have i2 : a_ec (nI e).toNatClampNeg = nI (C e) := (xh_at (by omega)).trans p2
    have e1 : re (nI (P e)).toNatClampNeg = re (P e) := xh_at (by omega)
    have hg : ye_G m P C (P e) (C e) := ⟨e, hem, rfl, rfl⟩
    have ve : vp_in (nI e) 32 := vp_in_nI (by omega) (by omega)
    have vP : vp_in (nI (P e)) 16 := vp_in_nI (by omega) (by omega)
    have vC : vp_in (nI (C e)) 16 := vp_in_nI (by omega) (by omega)
    refine br_f (nI_ge hem (by omega)) ?_
    rw [i1, i2]
    refine ⟨ve, vP, ?_⟩
    by_cases hr : re (P e) = 0
    · refine br_t (e1.trans hr) (nm_r (nI_1 e) ?_)
      refine ih (e + 1) re (by omega) hB (mg_Jkeep J (fun _ q => ?_) (fun x y q => ye_Gs q)) hJ
      exact absurd (hr.symm.trans q.2) xr_01
    · have hr1 : re (P e) = 1 := (hB _ hP).resolve_left hr
      refine br_f (fun q => hr (e1.symm.trans q)) ⟨ve, vC, ?_⟩
      refine nm_r (xh_up (by omega) xh_vb1) (nm_r (nI_1 e) ?_)
      exact ih (e + 1) (upd re (C e) 1) (by omega) (xr_Bput hB) (mg_Jput J hg ⟨hP, hr1⟩ (fun i => xr_rput hC i) (fun x y q => ye_Gs q)) hJ
/-- addComponent's loops: whether the parent is reached decides -/
theorem yq_118 {post : Int32 → SY → Prop} {s t : Nat} {x3 : Int32} (hn16 : n ≤ 16) (hm : m < 32) (T : mg_T n (ye_G m P C) L) (E : ye_E n m P C U a_ep a_ec a_eu) (hs : s < n) (ht : t < n)
    (h1 : ∀ re', (∃ j, mg_R (ye_G m P C) s j t) → post (-2) ((nI n), f_p, (nI m), f_hasPlan, f_current, a_lead, a_rule, a_param, a_onHand, a_demand, a_receipt, a_ep, a_ec, a_eu, a_gross, a_net, a_planned, a_release, a_projected, a_pastDue, a_stock, a_lvl, re'))
    (h0 : ∀ re', (¬ ∃ j, mg_R (ye_G m P C) s j t) → post 0 ((nI n), f_p, (nI (m + 1)), 0, (-1), a_lead, a_rule, a_param, a_onHand, a_demand, a_receipt, (upd a_ep m (nI t)), (upd a_ec m (nI s)), (upd a_eu m x3), a_gross, a_net, a_planned, a_release, a_projected, a_pastDue, a_stock, a_lvl, re')) :
    ∀ d k re, k + d = n → xr_B n re → mg_J (ye_G m P C) s k (fun _ _ => False) (fun i => i < n ∧ re i = 1) → wY_addComponent_118 post (nI t) (nI s) x3 (nI n) f_p (nI m) f_hasPlan f_current (d + 1) (nI k) a_lead a_rule a_param a_onHand a_demand a_receipt a_ep a_ec a_eu a_gross a_net a_planned a_release a_projected a_pastDue a_stock a_lvl re := by
  intro d
  induction d with
  | zero =>
    intro k re hk hB J
    have e1 : re (nI t).toNatClampNeg = re t := xh_at (by omega)
    have hJ := mg_Jend T hs (ye_Gn E) J (by omega) t
    have vm : vp_in (nI m) 32 := vp_in_nI (by omega) (by omega)
    refine br_t (nI_le (by omega) (by omega)) ⟨vp_in_nI (by omega) (by omega), ?_⟩
    rcases hB t ht with e | e
    · refine br_t (e1.trans e) ⟨vm, nm_r (xh_up (by omega) rfl) ⟨vm, nm_r (xh_up (by omega) rfl) ⟨vm, nm_r (xh_up (by omega) rfl) (nm_r (nI_1 m) ?_)⟩⟩⟩
      exact h0 re fun q => xr_01 (e.symm.trans (hJ.mpr q).2)
    · refine br_f (fun q => xr_01 (q.symm.trans (e1.trans e))) (h1 re (hJ.mp ⟨ht, e⟩))
  | succ d ih =>
    intro k re hk hB J
    refine br_f (nI_ge (by omega) (by omega)) ⟨m + 1, ?_⟩
    exact yq_130 hn16 (by omega) E m 0 re (by omega) hB (mg_Jany J fun x y _ q => ye_G0 q) fun re' hB' J' =>
      ih (k + 1) re' (by omega) hB' (mg_Jround J' fun x y g => g)
theorem yq_87 {post : Int32 → SY → Prop} {s t : Nat} {x3 : Int32} (hn16 : n ≤ 16) (hm : m < 32) (T : mg_T n (ye_G m P C) L) (E : ye_E n m P C U a_ep a_ec a_eu) (hs : s < n) (ht : t < n)
    (h1 : ∀ re', (∃ j, mg_R (ye_G m P C) s j t) → post (-2) ((nI n), f_p, (nI m), f_hasPlan, f_current, a_lead, a_rule, a_param, a_onHand, a_demand, a_receipt, a_ep, a_ec, a_eu, a_gross, a_net, a_planned, a_release, a_projected, a_pastDue, a_stock, a_lvl, re'))
    (h0 : ∀ re', (¬ ∃ j, mg_R (ye_G m P C) s j t) → post 0 ((nI n), f_p, (nI (m + 1)), 0, (-1), a_lead, a_rule, a_param, a_onHand, a_demand, a_receipt, (upd a_ep m (nI t)), (upd a_ec m (nI s)), (upd a_eu m x3), a_gross, a_net, a_planned, a_release, a_projected, a_pastDue, a_stock, a_lvl, re')) :
    ∀ d i re, i + d = 16 → (∀ j, j < i → re j = 0) → wY_addComponent_87 post (nI t) (nI s) x3 (nI n) f_p (nI m) f_hasPlan f_current (d + 1) (nI i) a_lead a_rule a_param a_onHand a_demand a_receipt a_ep a_ec a_eu a_gross a_net a_planned a_release a_projected a_pastDue a_stock a_lvl re := by
  intro d
  induction d with
  | zero =>
    intro i re hi hz
    refine br_t (nI_le (a := 16) (by omega) (by omega)) ⟨vp_in_nI (by omega) (by omega), nm_r (xh_up (by omega) xh_vb1) ⟨n + 1, ?_⟩⟩
    refine yq_118 hn16 hm T E hs ht h1 h0 n 0 (upd re s 1) (by omega) (fun j hj => ?_) (mg_J0 fun j => ?_)
    · by_cases e : j = s
      · rw [e, pk_us]; exact Or.inr rfl
      · rw [pk_un e]; exact Or.inl (hz j (by omega))
    · by_cases e : j = s
      · rw [e, pk_us]; exact ⟨fun _ => rfl, fun _ => ⟨hs, rfl⟩⟩
      · rw [pk_un e]
        exact ⟨fun q => absurd ((hz j (by have := q.1; omega)).symm.trans q.2) xr_01, fun q => absurd q e⟩
  | succ d ih =>
    intro i re hi hz
    refine br_f (nI_ge (b := 16) (by omega) (by omega)) ⟨vp_in_nI (by omega) (by omega), nm_r (xh_up (by omega) xh_vb0) (nm_r (nI_1 i) ?_)⟩
    refine ih (i + 1) (upd re i 0) (by omega) fun j hj => ?_
    by_cases e : j = i
    · rw [e, pk_us]
    · rw [pk_un e]; exact hz j (by omega)
end
end
section
/-! the plan as a picture that both sides are held against: Gr Ne Pl Rl Pj by item and period, Pd by item -/
def pp_rc (rcp : Nat → Int32) (i t : Nat) : Int64 := (rcp (i * 16 + t)).toInt64
def pp_g (m : Nat) (P C U : Nat → Nat) (dem : Nat → Int32) (Rl : Nat → Nat → Int64) (i t : Nat) : Int64 :=
  (dem (i * 16 + t)).toInt64 + ms_s (fun e => if C e = i then lN (U e) * Rl (P e) t else 0) m
def pp_P (n p m : Nat) (P C U Q Ld : Nat → Nat) (rul onH dem rcp : Nat → Int32) (Gr Ne Pl Rl Pj : Nat → Nat → Int64) (Pd : Nat → Int64) : Prop :=
  ∀ i, i < n → (∀ t, t < p → Gr i t = pp_g m P C U dem Rl i t) ∧
    (∀ t, t < p → Ne i t = mr_net (Gr i) (pp_rc rcp i) t (mr_pv (rul i) (Q i) p (Gr i) (pp_rc rcp i) (onH i).toInt64 t)) ∧
    (∀ t, t < p → Pl i t = mr_P (rul i) (Q i) p (Gr i) (pp_rc rcp i) (onH i).toInt64 t) ∧
    (∀ t, t < p → Rl i t = mr_rl (Pl i) (Ld i) t p) ∧
    (∀ t, t < p → Pj i t = mr_pv (rul i) (Q i) p (Gr i) (pp_rc rcp i) (onH i).toInt64 (t + 1)) ∧
    Pd i = mr_pd (Pl i) (Ld i) p
theorem pp_ex {n p m : Nat} {P C U Q Ld L : Nat → Nat} {rul onH dem rcp : Nat → Int32} (h : ∀ e, e < m → L (P e) < L (C e)) :
    ∃ (Gr Ne Pl Rl Pj : Nat → Nat → Int64) (Pd : Nat → Int64), pp_P n p m P C U Q Ld rul onH dem rcp Gr Ne Pl Rl Pj Pd := by
  obtain ⟨Rl, hR⟩ := mr_fix (n := n) L (fun rel i s => mr_rl (fun t => mr_P (rul i) (Q i) p (pp_g m P C U dem rel i) (pp_rc rcp i) (onH i).toInt64 t) (Ld i) s p) (by
    intro r r' i hi ha
    have e : pp_g m P C U dem r i = pp_g m P C U dem r' i := by
      funext t
      unfold pp_g
      refine congrArg (fun z => (dem (i * 16 + t)).toInt64 + z) (ms_congr m fun e he => ?_)
      show (if C e = i then lN (U e) * r (P e) t else 0) = (if C e = i then lN (U e) * r' (P e) t else 0)
      by_cases c : C e = i
      · rw [if_pos c, if_pos c, ha (P e) (by rw [← c]; exact h e he)]
      · rw [if_neg c, if_neg c]
    show (fun s => mr_rl (fun t => mr_P (rul i) (Q i) p (pp_g m P C U dem r i) (pp_rc rcp i) (onH i).toInt64 t) (Ld i) s p) = (fun s => mr_rl (fun t => mr_P (rul i) (Q i) p (pp_g m P C U dem r' i) (pp_rc rcp i) (onH i).toInt64 t) (Ld i) s p)
    rw [e])
  refine ⟨fun i => pp_g m P C U dem Rl i,
    fun i t => mr_net (pp_g m P C U dem Rl i) (pp_rc rcp i) t (mr_pv (rul i) (Q i) p (pp_g m P C U dem Rl i) (pp_rc rcp i) (onH i).toInt64 t),
    fun i t => mr_P (rul i) (Q i) p (pp_g m P C U dem Rl i) (pp_rc rcp i) (onH i).toInt64 t, Rl,
    fun i t => mr_pv (rul i) (Q i) p (pp_g m P C U dem Rl i) (pp_rc rcp i) (onH i).toInt64 (t + 1),
    fun i => mr_pd (fun t => mr_P (rul i) (Q i) p (pp_g m P C U dem Rl i) (pp_rc rcp i) (onH i).toInt64 t) (Ld i) p, ?_⟩
  intro i hi
  refine ⟨fun _ _ => rfl, fun _ _ => rfl, fun _ _ => rfl, fun t _ => ?_, fun _ _ => rfl, rfl⟩
  exact congrFun (hR i hi) t
/-- the rows of the items in D hold the picture -/
def pp_R (n p : Nat) (D : Nat → Prop) (Gr Ne Pl Rl Pj : Nat → Nat → Int64) (Pd : Nat → Int64) (gr ne pl rl pj pd : Nat → Int64) : Prop :=
  ∀ a, a < n → D a → pd a = Pd a ∧ ∀ t, t < p → gr (a * 16 + t) = Gr a t ∧ ne (a * 16 + t) = Ne a t ∧ pl (a * 16 + t) = Pl a t ∧ rl (a * 16 + t) = Rl a t ∧ pj (a * 16 + t) = Pj a t
def pp_ok (n p : Nat) (D : Nat → Prop) (Gr : Nat → Nat → Int64) : Prop := ∀ a, a < n → D a → ∀ t, t < p → Gr a t ≤ 1000000000000
/-- those planned when item it of level lev is next -/
def pp_D (L : Nat → Nat) (lev it a : Nat) : Prop := L a < lev ∨ (L a = lev ∧ a < it)
theorem pp_Ds {L : Nat → Nat} {lev it a : Nat} (h : pp_D L lev (it + 1) a) : pp_D L lev it a ∨ (a = it ∧ L it = lev) := by
  unfold pp_D at *
  by_cases e : a = it
  · subst e; omega
  · omega
theorem pp_Dn {L : Nat → Nat} {n lev a : Nat} (ha : a < n) (h : pp_D L (lev + 1) 0 a) : pp_D L lev n a := by
  unfold pp_D at *; omega
theorem pp_D0 {L : Nat → Nat} {a : Nat} (h : pp_D L 0 0 a) : False := by
  unfold pp_D at h; omega
/-- an array with other values in row i alone -/
def pp_o (i : Nat) (f g : Nat → Int64) : Prop := ∀ a s, a ≠ i → s < 16 → g (a * 16 + s) = f (a * 16 + s)
theorem pp_or (i : Nat) (f : Nat → Int64) : pp_o i f f := fun _ _ _ _ => rfl
theorem pp_op {i s : Nat} {f g : Nat → Int64} {x : Int64} (h : pp_o i f g) (hs : s < 16) : pp_o i f (vp_updL g (i * 16 + s) x) := by
  intro a s' ha hs'
  rw [pk_uLn (by omega)]
  exact h a s' ha hs'
/-- row i joins -/
theorem pp_Rput {n p i : Nat} {D D' : Nat → Prop} {Gr Ne Pl Rl Pj : Nat → Nat → Int64} {Pd : Nat → Int64} {gr ne pl rl pj pd gr' ne' pl' rl' pj' pd' : Nat → Int64} (hp : p ≤ 16)
    (h : pp_R n p D Gr Ne Pl Rl Pj Pd gr ne pl rl pj pd) (o1 : pp_o i gr gr') (o2 : pp_o i ne ne') (o3 : pp_o i pl pl') (o4 : pp_o i rl rl') (o5 : pp_o i pj pj') (o6 : ∀ a, a ≠ i → pd' a = pd a)
    (r1 : ∀ t, t < p → gr' (i * 16 + t) = Gr i t) (r2 : ∀ t, t < p → ne' (i * 16 + t) = Ne i t) (r3 : ∀ t, t < p → pl' (i * 16 + t) = Pl i t)
    (r4 : ∀ t, t < p → rl' (i * 16 + t) = Rl i t) (r5 : ∀ t, t < p → pj' (i * 16 + t) = Pj i t) (r6 : pd' i = Pd i)
    (hD : ∀ a, D' a → D a ∨ a = i) : pp_R n p D' Gr Ne Pl Rl Pj Pd gr' ne' pl' rl' pj' pd' := by
  intro a ha hd
  by_cases e : a = i
  · subst e
    exact ⟨r6, fun t ht => ⟨r1 t ht, r2 t ht, r3 t ht, r4 t ht, r5 t ht⟩⟩
  · obtain ⟨q1, q2⟩ := h a ha ((hD a hd).resolve_right e)
    refine ⟨(o6 a e).trans q1, fun t ht => ?_⟩
    obtain ⟨z1, z2, z3, z4, z5⟩ := q2 t ht
    exact ⟨(o1 a t e (by omega)).trans z1, (o2 a t e (by omega)).trans z2, (o3 a t e (by omega)).trans z3, (o4 a t e (by omega)).trans z4, (o5 a t e (by omega)).trans z5⟩
theorem pp_Rany {n p : Nat} {D D' : Nat → Prop} {Gr Ne Pl Rl Pj : Nat → Nat → Int64} {Pd : Nat → Int64} {gr ne pl rl pj pd : Nat → Int64}
    (h : pp_R n p D Gr Ne Pl Rl Pj Pd gr ne pl rl pj pd) (hD : ∀ a, a < n → D' a → D a) : pp_R n p D' Gr Ne Pl Rl Pj Pd gr ne pl rl pj pd :=
  fun a ha hd => h a ha (hD a ha hd)
/-! the ranges that the relation keeps -/
def pp_W (n : Nat) (Q Ld : Nat → Nat) (led rul par onH dem rcp : Nat → Int32) : Prop :=
  (∀ i, i < n → led i = nI (Ld i) ∧ Ld i ≤ 8 ∧ par i = nI (Q i) ∧ Q i ≤ 10000 ∧ (rul i = 1 → 1 ≤ Q i) ∧ (rul i = 2 → 1 ≤ Q i ∧ Q i ≤ 8)) ∧
  (∀ i, ∃ w, w ≤ 100000 ∧ onH i = nI w) ∧ (∀ k, ∃ w, w ≤ 100000 ∧ dem k = nI w) ∧ (∀ k, ∃ w, w ≤ 100000 ∧ rcp k = nI w)
/-- a row's releases are small naturals -/
def pp_b (p : Nat) (R : Nat → Int64) : Prop := ∀ t, t < p → ∃ w, w ≤ 272000000000000 ∧ R t = lN w
theorem pp_row {n p m i : Nat} {P C U Q Ld : Nat → Nat} {led rul par onH dem rcp : Nat → Int32} {Gr Ne Pl Rl Pj : Nat → Nat → Int64} {Pd : Nat → Int64}
    (hp : p ≤ 16) (hm : m ≤ 32) (hi : i < n) (W : pp_W n Q Ld led rul par onH dem rcp) (hU : ∀ e, e < m → U e ≤ 9)
    (Z : pp_P n p m P C U Q Ld rul onH dem rcp Gr Ne Pl Rl Pj Pd) (hR : ∀ e, e < m → C e = i → pp_b p (Rl (P e))) (hok : ∀ t, t < p → Gr i t ≤ 1000000000000) :
    (∀ t, t < p → ∃ w, w ≤ 17000000000000 ∧ Pl i t = lN w) ∧ pp_b p (Rl i) := by
  obtain ⟨z1, z2, z3, z4, z5, z6⟩ := Z i hi
  obtain ⟨W1, W2, W3, W4⟩ := W
  have hg : ∀ j, j < p → 0 ≤ (Gr i j).toInt ∧ (Gr i j).toInt ≤ 1000000000000 := by
    intro j hj
    refine ⟨?_, ?_⟩
    · obtain ⟨w, hw, e⟩ := W3 (i * 16 + j)
      rw [z1 j hj]
      unfold pp_g
      rw [e, nI_l (by omega)]
      exact mb_g (rel := fun a => Rl a j) hm hw hU (fun e he hc => hR e he hc j hj)
    · have h1 := hok j hj
      rw [Int64.le_iff_toInt_le] at h1
      exact h1
  have hr : ∀ j, j < p → 0 ≤ (pp_rc rcp i j).toInt ∧ (pp_rc rcp i j).toInt ≤ 100000 := by
    intro j _
    obtain ⟨w, hw, e⟩ := W4 (i * 16 + j)
    unfold pp_rc
    rw [e, nI_l (by omega), lN_toInt (by omega)]
    omega
  have ho : 0 ≤ ((onH i).toInt64).toInt ∧ ((onH i).toInt64).toInt ≤ 100000 := by
    obtain ⟨w, hw, e⟩ := W2 i
    rw [e, nI_l (by omega), lN_toInt (by omega)]
    omega
  have hq : rul i = 1 → 1 ≤ Q i ∧ Q i ≤ 10000 := by
    obtain ⟨_, _, _, q1, q2, _⟩ := W1 i hi
    exact fun h => ⟨q2 h, q1⟩
  have hl : ∀ t, t < p → ∃ w, w ≤ 17000000000000 ∧ Pl i t = lN w := by
    intro t ht
    rw [z3 t ht]
    exact mb_P hg hr ho hp hq t ht
  refine ⟨hl, fun t ht => ?_⟩
  rw [z4 t ht]
  exact mb_rl hp hl (Ld i) t
end
section
/-! the component's plan, row by row, against the picture -/
section
variable {n p : Nat} {f_edgeCount f_current : Int32} {a_leads a_rules a_params a_onHands a_demands a_receipts a_usages a_levels a_reached : Nat → Int32} {a_gross a_net a_planned a_release a_projected a_pastDue a_stock : Nat → Int64}
theorem xg_take {post : Int64 → Prop} {i t : Nat} (hn16 : n ≤ 16) (hi : i < n) (ht : t < 16) (h : post (ms_s (fun a => (a_usages (a * 16 + i)).toInt64 * a_release (a * 16 + t)) n)) :
    ∀ d a, a + d = n → wX_parentsTake_5 post (nI i) (nI t) (nI n) (nI p) f_edgeCount f_current a_leads a_rules a_params a_onHands a_demands a_receipts a_usages a_levels a_reached a_gross a_net a_planned a_release a_projected a_pastDue a_stock (d + 1) (ms_s (fun a => (a_usages (a * 16 + i)).toInt64 * a_release (a * 16 + t)) a) (nI a) := by
  intro d
  induction d with
  | zero =>
    intro a ha
    have e : a = n := by omega
    rw [e]
    exact br_t (nI_le (by omega) (by omega)) h
  | succ d ih =>
    intro a ha
    refine br_f (nI_ge (by omega) (by omega)) (xh_pair ?_)
    refine ⟨vp_in_nI (by omega) (by omega), xh_cell ?_⟩
    refine ⟨vp_in_nI (by omega) (by omega), nm_r (e' := ms_s (fun a => (a_usages (a * 16 + i)).toInt64 * a_release (a * 16 + t)) (a + 1)) ?_ (nm_r (nI_1 a) (ih (a + 1) (by omega)))⟩
    rw [nI_clamp (by omega), nI_clamp (by omega)]
    rfl
theorem xg_takes {post : Int64 → Prop} {i t : Nat} (hn16 : n ≤ 16) (hi : i < n) (ht : t < 16) (h : post (ms_s (fun a => (a_usages (a * 16 + i)).toInt64 * a_release (a * 16 + t)) n)) :
    wpX_parentsTake post ((nI n), (nI p), f_edgeCount, f_current, a_leads, a_rules, a_params, a_onHands, a_demands, a_receipts, a_usages, a_levels, a_reached, a_gross, a_net, a_planned, a_release, a_projected, a_pastDue, a_stock) (nI i) (nI t) := by
  unfold wpX_parentsTake
  exact ⟨n + 1, xg_take hn16 hi ht h n 0 (by omega)⟩
theorem xg_gross2 {post : Int32 → SX → Prop} {i : Nat} {g : Nat → Int64} (hn16 : n ≤ 16) (hp16 : p ≤ 16) (hi : i < n)
    (hg : ∀ t, t < p → (a_demands (i * 16 + t)).toInt64 + ms_s (fun a => (a_usages (a * 16 + i)).toInt64 * a_release (a * 16 + t)) n = g t)
    (h1 : ∀ gr', (∀ t, t < p → g t ≤ 1000000000000) → (∀ t, t < p → gr' (i * 16 + t) = g t) → pp_o i a_gross gr' → post 1 ((nI n), (nI p), f_edgeCount, f_current, a_leads, a_rules, a_params, a_onHands, a_demands, a_receipts, a_usages, a_levels, a_reached, gr', a_net, a_planned, a_release, a_projected, a_pastDue, a_stock))
    (h0 : ∀ gr', (∃ t, t < p ∧ ¬ g t ≤ 1000000000000) → post 0 ((nI n), (nI p), f_edgeCount, f_current, a_leads, a_rules, a_params, a_onHands, a_demands, a_receipts, a_usages, a_levels, a_reached, gr', a_net, a_planned, a_release, a_projected, a_pastDue, a_stock)) :
    ∀ d t gr, t + d = p → (∀ s, s < t → gr (i * 16 + s) = g s ∧ g s ≤ 1000000000000) → pp_o i a_gross gr → wX_findGross_2 post (nI i) (nI n) (nI p) f_edgeCount f_current (d + 1) (nI t) a_leads a_rules a_params a_onHands a_demands a_receipts a_usages a_levels a_reached gr a_net a_planned a_release a_projected a_pastDue a_stock := by
  intro d
  induction d with
  | zero =>
    intro t gr ht hz ho
    exact br_t (nI_le (by omega) (by omega)) (h1 gr (fun s hs => (hz s (by omega)).2) (fun s hs => (hz s (by omega)).1) ho)
  | succ d ih =>
    intro t gr ht hz ho
    have htp : t < p := by omega
    have vc : vp_in (nI (i * 16 + t)) 256 := vp_in_nI (by omega) (by omega)
    have ec : (nI (i * 16 + t)).toNatClampNeg = i * 16 + t := nI_clamp (by omega)
    refine br_f (nI_ge (by omega) (by omega)) (xh_cell ?_)
    refine ⟨vc, xg_takes hn16 hi (by omega) ?_⟩
    refine ⟨vc, nm_r (e' := vp_updL gr (i * 16 + t) (g t)) (by rw [ec, hg t htp]) ⟨vc, ?_⟩⟩
    have e2 : vp_updL gr (i * 16 + t) (g t) (nI (i * 16 + t)).toNatClampNeg = g t := by rw [ec, pk_uLs]
    by_cases q : g t ≤ 1000000000000
    · refine br_t (by rw [e2]; exact q) (nm_r (nI_1 t) (ih (t + 1) _ (by omega) (fun s hs => ?_) (pp_op ho (by omega))))
      by_cases e : s = t
      · rw [e, pk_uLs]; exact ⟨rfl, q⟩
      · rw [pk_uLn (by omega)]; exact hz s (by omega)
    · exact br_f (by rw [e2]; exact q) (h0 _ ⟨t, htp, q⟩)
theorem xg_gross {post : Int32 → SX → Prop} {i : Nat} {g : Nat → Int64} (hn16 : n ≤ 16) (hp16 : p ≤ 16) (hi : i < n)
    (hg : ∀ t, t < p → (a_demands (i * 16 + t)).toInt64 + ms_s (fun a => (a_usages (a * 16 + i)).toInt64 * a_release (a * 16 + t)) n = g t)
    (h1 : ∀ gr', (∀ t, t < p → g t ≤ 1000000000000) → (∀ t, t < p → gr' (i * 16 + t) = g t) → pp_o i a_gross gr' → post 1 ((nI n), (nI p), f_edgeCount, f_current, a_leads, a_rules, a_params, a_onHands, a_demands, a_receipts, a_usages, a_levels, a_reached, gr', a_net, a_planned, a_release, a_projected, a_pastDue, a_stock))
    (h0 : ∀ gr', (∃ t, t < p ∧ ¬ g t ≤ 1000000000000) → post 0 ((nI n), (nI p), f_edgeCount, f_current, a_leads, a_rules, a_params, a_onHands, a_demands, a_receipts, a_usages, a_levels, a_reached, gr', a_net, a_planned, a_release, a_projected, a_pastDue, a_stock)) : wpX_findGross post ((nI n), (nI p), f_edgeCount, f_current, a_leads, a_rules, a_params, a_onHands, a_demands, a_receipts, a_usages, a_levels, a_reached, a_gross, a_net, a_planned, a_release, a_projected, a_pastDue, a_stock) (nI i) := by
  unfold wpX_findGross
  exact ⟨p + 1, xg_gross2 hn16 hp16 hi hg h1 h0 p 0 a_gross (by omega) (fun s hs => absurd hs (by omega)) (pp_or i a_gross)⟩
/-! lots -/
theorem xg_gl {post : Int64 → Prop} {i t w : Nat} {g rc : Nat → Int64} {pv : Int64} (hi : i < 16) (hp16 : p ≤ 16) (hw : t + w ≤ p)
    (hg : ∀ s, s < p → a_gross (i * 16 + s) = g s) (hr : ∀ s, s < p → (a_receipts (i * 16 + s)).toInt64 = rc s)
    (h : post (mr_mx (mr_lk g rc pv t) 0 w)) :
    ∀ d k, k + d = w → wX_greatestLack_10 post (nI (i * 16 + t)) (nI w) (nI n) (nI p) f_edgeCount f_current a_leads a_rules a_params a_onHands a_demands a_receipts a_usages a_levels a_reached a_gross a_net a_planned a_release a_projected a_pastDue a_stock (d + 1) (mr_lk g rc pv t k) (mr_mx (mr_lk g rc pv t) 0 k) (nI k) := by
  intro d
  induction d with
  | zero =>
    intro k hk
    have e : k = w := by omega
    rw [e]
    exact br_t (nI_le (by omega) (by omega)) h
  | succ d ih =>
    intro k hk
    have ec : (nI (i * 16 + (t + k))).toNatClampNeg = i * 16 + (t + k) := nI_clamp (by omega)
    have vc : vp_in (nI (i * 16 + (t + k))) 256 := vp_in_nI (by omega) (by omega)
    refine br_f (nI_ge (by omega) (by omega)) (nm_r (e' := nI (i * 16 + (t + k))) (by rw [nI_add, Nat.add_assoc]) ⟨vc, vc, ?_⟩)
    refine nm_r (e' := mr_lk g rc pv t (k + 1)) (by rw [ec, hg _ (by omega), hr _ (by omega)]; rfl) ?_
    have em : mr_mx (mr_lk g rc pv t) 0 (k + 1) = if mr_mx (mr_lk g rc pv t) 0 k < mr_lk g rc pv t (k + 1) then mr_lk g rc pv t (k + 1) else mr_mx (mr_lk g rc pv t) 0 k := rfl
    have I := ih (k + 1) (by omega)
    by_cases q : mr_mx (mr_lk g rc pv t) 0 k < mr_lk g rc pv t (k + 1)
    · rw [em, if_pos q] at I
      exact br_f (Int64.not_le.mpr q) (nm_r (nI_1 k) I)
    · rw [em, if_neg q] at I
      exact br_t (Int64.not_lt.mp q) (nm_r (nI_1 k) I)
theorem xg_gls {post : Int64 → Prop} {i t w : Nat} {g rc : Nat → Int64} {pv : Int64} (hi : i < 16) (hp16 : p ≤ 16) (hw : t + w ≤ p)
    (hg : ∀ s, s < p → a_gross (i * 16 + s) = g s) (hr : ∀ s, s < p → (a_receipts (i * 16 + s)).toInt64 = rc s)
    (h : post (mr_mx (mr_lk g rc pv t) 0 w)) : wpX_greatestLack post ((nI n), (nI p), f_edgeCount, f_current, a_leads, a_rules, a_params, a_onHands, a_demands, a_receipts, a_usages, a_levels, a_reached, a_gross, a_net, a_planned, a_release, a_projected, a_pastDue, a_stock) (nI (i * 16 + t)) (nI w) pv := by
  unfold wpX_greatestLack
  exact nm_e ⟨w + 1, xg_gl hi hp16 hw hg hr h w 0 (by omega)⟩
theorem xg_lot {post : Int64 → Prop} {i t q : Nat} {g rc : Nat → Int64} {pv : Int64} (hi : i < 16) (hp16 : p ≤ 16) (ht : t < p)
    (hg : ∀ s, s < p → a_gross (i * 16 + s) = g s) (hr : ∀ s, s < p → (a_receipts (i * 16 + s)).toInt64 = rc s)
    (hq : a_params i = nI q) (hq1 : q ≤ 10000) (hq2 : a_rules i = 1 → 1 ≤ q) (hq3 : a_rules i = 2 → 1 ≤ q ∧ q ≤ 8) (hl : 0 < mr_lack g rc t pv) (hnet : a_net (i * 16 + t) = mr_lack g rc t pv)
    (h : post (mr_lot (a_rules i) q p g rc t pv (mr_lack g rc t pv))) : wpX_lotSize post ((nI n), (nI p), f_edgeCount, f_current, a_leads, a_rules, a_params, a_onHands, a_demands, a_receipts, a_usages, a_levels, a_reached, a_gross, a_net, a_planned, a_release, a_projected, a_pastDue, a_stock) (nI i) (nI t) pv := by
  have vi : vp_in (nI i) 16 := vp_in_nI hi (by omega)
  have ei : (nI i).toNatClampNeg = i := nI_clamp (by omega)
  have ec : (nI (i * 16 + t)).toNatClampNeg = i * 16 + t := nI_clamp (by omega)
  have vc : vp_in (nI (i * 16 + t)) 256 := vp_in_nI (by omega) (by omega)
  unfold wpX_lotSize
  refine xh_cell ?_
  refine ⟨vi, nm_r (e' := nI q) (by rw [ei, hq]) ⟨vi, ?_⟩⟩
  rw [ei]
  unfold mr_lot at h
  by_cases c1 : a_rules i = 1
  · have q1 := hq2 c1
    rw [if_pos c1] at h
    refine br_t c1 (br_f (fun z => absurd ((nI_leI (b := 0) (by omega) (by omega)).mp z) (by omega)) ⟨vc, ?_⟩)
    rw [nI_l (by omega)]
    refine ⟨fun z => absurd ((lN_eq (b := 0) (by omega) (by omega)).mp z) (by omega), ?_⟩
    rw [ec, hnet]
    exact h
  · rw [if_neg c1] at h
    refine br_f c1 ?_
    unfold wX_lotSize_52
    refine ⟨vi, ?_⟩
    rw [ei]
    by_cases c2 : a_rules i = 2
    · have q1 := hq3 c2
      rw [if_pos c2] at h
      have hw : ∀ w, w = (if q < p - t then q else p - t) → post (mr_mx (mr_lk g rc pv t) 0 w) := by
        intro w ew
        rw [← ew] at h
        obtain ⟨w', rfl⟩ : ∃ w', w = w' + 1 := ⟨w - 1, by rw [ew]; split <;> omega⟩
        rw [mr_mx1 (z := mr_lack g rc t pv) (mr_lk1 g rc pv t) hl]
        exact h
      refine br_t c2 (nm_r (e' := nI (p - t)) (pk_sub (by omega)) ?_)
      by_cases c3 : p - t ≤ q
      · refine br_t (nI_le c3 (by omega)) ?_
        unfold wX_lotSize_84
        exact xg_gls hi hp16 (by omega) hg hr (hw (p - t) (by rw [if_neg (by omega)]))
      · refine br_f (nI_ge (by omega) (by omega)) ?_
        unfold wX_lotSize_84
        exact xg_gls hi hp16 (by omega) hg hr (hw q (by rw [if_pos (by omega)]))
    · rw [if_neg c2] at h
      refine br_f c2 ⟨vc, ?_⟩
      rw [ec, hnet]
      exact h
theorem xg_93 {post : SX → Prop} {J11 : Int64 → Int32 → (Nat → Int32) → (Nat → Int32) → (Nat → Int32) → (Nat → Int32) → (Nat → Int32) → (Nat → Int32) → (Nat → Int32) → (Nat → Int32) → (Nat → Int32) → (Nat → Int64) → (Nat → Int64) → (Nat → Int64) → (Nat → Int64) → (Nat → Int64) → (Nat → Int64) → (Nat → Int64) → Prop} {i t : Nat} {g rc : Nat → Int64} {pv z : Int64} (hi : i < 16) (hp16 : p ≤ 16) (ht : t < p)
    (hg : ∀ s, s < p → a_gross (i * 16 + s) = g s) (hr : ∀ s, s < p → (a_receipts (i * 16 + s)).toInt64 = rc s)
    (h : J11 (pv + rc t + z - g t) (nI (t + 1)) a_leads a_rules a_params a_onHands a_demands a_receipts a_usages a_levels a_reached a_gross a_net (vp_updL a_planned (i * 16 + t) z) a_release (vp_updL a_projected (i * 16 + t) (pv + rc t + z - g t)) a_pastDue a_stock) :
    wX_findPlanned_93 post J11 (nI i) pv (nI t) (nI (i * 16 + t)) z (nI (i * 16 + t)) (nI n) (nI p) f_edgeCount f_current a_leads a_rules a_params a_onHands a_demands a_receipts a_usages a_levels a_reached a_gross a_net a_planned a_release a_projected a_pastDue a_stock := by
  have ec : (nI (i * 16 + t)).toNatClampNeg = i * 16 + t := nI_clamp (by omega)
  have vc : vp_in (nI (i * 16 + t)) 256 := vp_in_nI (by omega) (by omega)
  unfold wX_findPlanned_93
  refine ⟨vc, nm_r (xh_upL (by omega) rfl) ⟨vc, vc, vc, vc, nm_r (xh_upL (y := pv + rc t + z - g t) (by omega) ?_) ⟨vc, nm_r (e' := pv + rc t + z - g t) ?_ (nm_r (nI_1 t) h)⟩⟩⟩
  · rw [ec, hr t ht, pk_uLs, hg t ht]
  · rw [ec, pk_uLs]
theorem xg_plan11 {post : SX → Prop} {i q : Nat} {g rc : Nat → Int64} (hi : i < 16) (hp16 : p ≤ 16)
    (hg : ∀ s, s < p → a_gross (i * 16 + s) = g s) (hr : ∀ s, s < p → (a_receipts (i * 16 + s)).toInt64 = rc s)
    (hq : a_params i = nI q) (hq1 : q ≤ 10000) (hq2 : a_rules i = 1 → 1 ≤ q) (hq3 : a_rules i = 2 → 1 ≤ q ∧ q ≤ 8)
    (h : ∀ ne' pl' pj', (∀ t, t < p → ne' (i * 16 + t) = mr_net g rc t (mr_pv (a_rules i) q p g rc (a_onHands i).toInt64 t)) → (∀ t, t < p → pl' (i * 16 + t) = mr_P (a_rules i) q p g rc (a_onHands i).toInt64 t) →
      (∀ t, t < p → pj' (i * 16 + t) = mr_pv (a_rules i) q p g rc (a_onHands i).toInt64 (t + 1)) → pp_o i a_net ne' → pp_o i a_planned pl' → pp_o i a_projected pj' → post ((nI n), (nI p), f_edgeCount, f_current, a_leads, a_rules, a_params, a_onHands, a_demands, a_receipts, a_usages, a_levels, a_reached, a_gross, ne', pl', a_release, pj', a_pastDue, a_stock)) :
    ∀ d t ne pl pj, t + d = p → (∀ s, s < t → ne (i * 16 + s) = mr_net g rc s (mr_pv (a_rules i) q p g rc (a_onHands i).toInt64 s)) → (∀ s, s < t → pl (i * 16 + s) = mr_P (a_rules i) q p g rc (a_onHands i).toInt64 s) →
      (∀ s, s < t → pj (i * 16 + s) = mr_pv (a_rules i) q p g rc (a_onHands i).toInt64 (s + 1)) → pp_o i a_net ne → pp_o i a_planned pl → pp_o i a_projected pj →
      wX_findPlanned_11 post (nI i) (nI n) (nI p) f_edgeCount f_current (d + 1) (mr_pv (a_rules i) q p g rc (a_onHands i).toInt64 t) (nI t) a_leads a_rules a_params a_onHands a_demands a_receipts a_usages a_levels a_reached a_gross ne pl a_release pj a_pastDue a_stock := by
  intro d
  induction d with
  | zero =>
    intro t ne pl pj ht z1 z2 z3 o1 o2 o3
    exact br_t (nI_le (by omega) (by omega)) (h ne pl pj (fun s hs => z1 s (by omega)) (fun s hs => z2 s (by omega)) (fun s hs => z3 s (by omega)) o1 o2 o3)
  | succ d ih =>
    intro t ne pl pj ht z1 z2 z3 o1 o2 o3
    have htp : t < p := by omega
    have ec : (nI (i * 16 + t)).toNatClampNeg = i * 16 + t := nI_clamp (by omega)
    have vc : vp_in (nI (i * 16 + t)) 256 := vp_in_nI (by omega) (by omega)
    have key : ∀ (nt lot : Int64), nt = mr_net g rc t (mr_pv (a_rules i) q p g rc (a_onHands i).toInt64 t) → lot = mr_P (a_rules i) q p g rc (a_onHands i).toInt64 t →
        wX_findPlanned_11 post (nI i) (nI n) (nI p) f_edgeCount f_current (d + 1) (mr_pv (a_rules i) q p g rc (a_onHands i).toInt64 t + rc t + lot - g t) (nI (t + 1)) a_leads a_rules a_params a_onHands a_demands a_receipts a_usages a_levels a_reached a_gross (vp_updL ne (i * 16 + t) nt) (vp_updL pl (i * 16 + t) lot) a_release (vp_updL pj (i * 16 + t) (mr_pv (a_rules i) q p g rc (a_onHands i).toInt64 t + rc t + lot - g t)) a_pastDue a_stock := by
      intro nt lot e1 e2
      have e3 : mr_pv (a_rules i) q p g rc (a_onHands i).toInt64 t + rc t + lot - g t = mr_pv (a_rules i) q p g rc (a_onHands i).toInt64 (t + 1) := by rw [e2]; rfl
      rw [e3]
      refine ih (t + 1) _ _ _ (by omega) (fun s hs => ?_) (fun s hs => ?_) (fun s hs => ?_) (pp_op o1 (by omega)) (pp_op o2 (by omega)) (pp_op o3 (by omega))
      · by_cases e : s = t
        · rw [e, pk_uLs]; exact e1
        · rw [pk_uLn (by omega)]; exact z1 s (by omega)
      · by_cases e : s = t
        · rw [e, pk_uLs]; exact e2
        · rw [pk_uLn (by omega)]; exact z2 s (by omega)
      · by_cases e : s = t
        · rw [e, pk_uLs]
        · rw [pk_uLn (by omega)]; exact z3 s (by omega)
    refine br_f (nI_ge (by omega) (by omega)) (xh_cell ?_)
    refine ⟨vc, vc, nm_r (e' := mr_lack g rc t (mr_pv (a_rules i) q p g rc (a_onHands i).toInt64 t)) (by rw [ec, hg t htp, hr t htp]; rfl) ?_⟩
    by_cases c : 0 < mr_lack g rc t (mr_pv (a_rules i) q p g rc (a_onHands i).toInt64 t)
    · refine br_f (Int64.not_le.mpr c) ?_
      unfold wX_findPlanned_67
      refine ⟨vc, nm_r (xh_upL (by omega) rfl) (br_f (Int64.not_le.mpr c) ?_)⟩
      refine xg_lot hi hp16 htp hg hr hq hq1 hq2 hq3 c pk_uLs ?_
      refine xg_93 hi hp16 htp hg hr (key _ _ ?_ ?_)
      · unfold mr_net; rw [if_pos c]
      · unfold mr_P mr_pl; rw [if_pos c]
    · refine br_t (Int64.not_lt.mp c) ?_
      unfold wX_findPlanned_67
      refine ⟨vc, nm_r (xh_upL (by omega) rfl) (br_t (Int64.not_lt.mp c) ?_)⟩
      refine xg_93 hi hp16 htp hg hr (key _ _ ?_ ?_)
      · unfold mr_net; rw [if_neg c]
      · unfold mr_P mr_pl; rw [if_neg c]
theorem xg_plan {post : SX → Prop} {i q : Nat} {g rc : Nat → Int64} (hi : i < 16) (hp16 : p ≤ 16)
    (hg : ∀ s, s < p → a_gross (i * 16 + s) = g s) (hr : ∀ s, s < p → (a_receipts (i * 16 + s)).toInt64 = rc s)
    (hq : a_params i = nI q) (hq1 : q ≤ 10000) (hq2 : a_rules i = 1 → 1 ≤ q) (hq3 : a_rules i = 2 → 1 ≤ q ∧ q ≤ 8)
    (h : ∀ ne' pl' pj', (∀ t, t < p → ne' (i * 16 + t) = mr_net g rc t (mr_pv (a_rules i) q p g rc (a_onHands i).toInt64 t)) → (∀ t, t < p → pl' (i * 16 + t) = mr_P (a_rules i) q p g rc (a_onHands i).toInt64 t) →
      (∀ t, t < p → pj' (i * 16 + t) = mr_pv (a_rules i) q p g rc (a_onHands i).toInt64 (t + 1)) → pp_o i a_net ne' → pp_o i a_planned pl' → pp_o i a_projected pj' → post ((nI n), (nI p), f_edgeCount, f_current, a_leads, a_rules, a_params, a_onHands, a_demands, a_receipts, a_usages, a_levels, a_reached, a_gross, ne', pl', a_release, pj', a_pastDue, a_stock)) :
    wpX_findPlanned post ((nI n), (nI p), f_edgeCount, f_current, a_leads, a_rules, a_params, a_onHands, a_demands, a_receipts, a_usages, a_levels, a_reached, a_gross, a_net, a_planned, a_release, a_projected, a_pastDue, a_stock) (nI i) := by
  unfold wpX_findPlanned
  refine ⟨vp_in_nI hi (by omega), nm_r (e' := (a_onHands i).toInt64) (by rw [nI_clamp (by omega)]) ⟨p + 1, ?_⟩⟩
  exact xg_plan11 hi hp16 hg hr hq hq1 hq2 hq3 h p 0 a_net a_planned a_projected (by omega) (fun s hs => absurd hs (by omega)) (fun s hs => absurd hs (by omega)) (fun s hs => absurd hs (by omega)) (pp_or i _) (pp_or i _) (pp_or i _)
/-! releases -/
theorem xg_83 {post : SX → Prop} {J36 : Int32 → (Nat → Int32) → (Nat → Int32) → (Nat → Int32) → (Nat → Int32) → (Nat → Int32) → (Nat → Int32) → (Nat → Int32) → (Nat → Int32) → (Nat → Int32) → (Nat → Int64) → (Nat → Int64) → (Nat → Int64) → (Nat → Int64) → (Nat → Int64) → (Nat → Int64) → (Nat → Int64) → Prop} {i t s : Nat} {z : Int64} (hi : i < 16) (hs : s < 16)
    (h : J36 (nI (t + 1)) a_leads a_rules a_params a_onHands a_demands a_receipts a_usages a_levels a_reached a_gross a_net a_planned (vp_updL a_release (i * 16 + s) (a_release (i * 16 + s) + z)) a_projected a_pastDue a_stock) :
    wX_findReleases_83 post J36 (nI i) (nI t) z (nI s) (nI n) (nI p) f_edgeCount f_current a_leads a_rules a_params a_onHands a_demands a_receipts a_usages a_levels a_reached a_gross a_net a_planned a_release a_projected a_pastDue a_stock := by
  have ec : (nI (i * 16 + s)).toNatClampNeg = i * 16 + s := nI_clamp (by omega)
  have vc : vp_in (nI (i * 16 + s)) 256 := vp_in_nI (by omega) (by omega)
  unfold wX_findReleases_83
  refine xh_cell ?_
  exact ⟨vc, vc, nm_r (xh_upL (by omega) (by rw [ec])) (nm_r (nI_1 t) h)⟩
theorem xg_rel36 {post : SX → Prop} {i l : Nat} {lot : Nat → Int64} (hi : i < 16) (hp16 : p ≤ 16) (hl : a_leads i = nI l) (hl8 : l ≤ 8) (hlot : ∀ s, s < p → a_planned (i * 16 + s) = lot s)
    (h : ∀ rl' pd', (∀ s, s < p → rl' (i * 16 + s) = mr_rl lot l s p) → pd' i = mr_pd lot l p → pp_o i a_release rl' → (∀ a, a ≠ i → pd' a = a_pastDue a) → post ((nI n), (nI p), f_edgeCount, f_current, a_leads, a_rules, a_params, a_onHands, a_demands, a_receipts, a_usages, a_levels, a_reached, a_gross, a_net, a_planned, rl', a_projected, pd', a_stock)) :
    ∀ d t rl pd, t + d = p → (∀ s, s < p → rl (i * 16 + s) = mr_rl lot l s t) → pd i = mr_pd lot l t → pp_o i a_release rl → (∀ a, a ≠ i → pd a = a_pastDue a) →
      wX_findReleases_36 post (nI i) (nI n) (nI p) f_edgeCount f_current (d + 1) (nI t) a_leads a_rules a_params a_onHands a_demands a_receipts a_usages a_levels a_reached a_gross a_net a_planned rl a_projected pd a_stock := by
  intro d
  induction d with
  | zero =>
    intro t rl pd ht z1 z2 o1 o2
    have e : t = p := by omega
    rw [e] at z1 z2
    exact br_t (nI_le (by omega) (by omega)) (h rl pd z1 z2 o1 o2)
  | succ d ih =>
    intro t rl pd ht z1 z2 o1 o2
    have htp : t < p := by omega
    have ec : (nI (i * 16 + t)).toNatClampNeg = i * 16 + t := nI_clamp (by omega)
    have ei : (nI i).toNatClampNeg = i := nI_clamp (by omega)
    have vc : vp_in (nI (i * 16 + t)) 256 := vp_in_nI (by omega) (by omega)
    have vi : vp_in (nI i) 16 := vp_in_nI (by omega) (by omega)
    have key : ∀ s, s < p → vp_updL rl (i * 16 + (t - l)) (rl (i * 16 + (t - l)) + lot t) (i * 16 + s) = mr_rl lot l s (t + 1) := by
      intro s hs
      show _ = mr_rl lot l s t + (if t - l = s then lot t else 0)
      by_cases e : t - l = s
      · rw [if_pos e, e, pk_uLs, z1 s hs]
      · rw [if_neg e, pk_uLn (by omega), z1 s hs, Int64.add_zero]
    refine br_f (nI_ge (by omega) (by omega)) (xh_cell ?_)
    refine ⟨vc, nm_r (e' := lot t) (by rw [ec, hlot t htp]) ⟨vi, ?_⟩⟩
    by_cases c : l ≤ t
    · refine nm_r (e' := nI (t - l)) (by rw [ei, hl, pk_sub c]) (br_t (nI_pos' (by omega)) (xg_83 hi (by omega) ?_))
      refine ih (t + 1) _ _ (by omega) key ?_ (pp_op o1 (by omega)) o2
      show pd i = mr_pd lot l t + (if t < l then lot t else 0)
      rw [if_neg (by omega), z2, Int64.add_zero]
    · refine nm_e (br_f ?_ ⟨vi, vi, nm_r (xh_upL (by omega) rfl) (xg_83 (s := 0) hi (by omega) ?_)⟩)
      · rw [ei, hl]; exact Int32.not_le.mpr (pk_sneg (by omega) (by omega))
      · rw [ei]
        have e0 : t - l = 0 := by omega
        rw [e0] at key
        refine ih (t + 1) _ _ (by omega) key ?_ (pp_op o1 (by omega)) (fun a ha => ?_)
        · rw [pk_uLs, z2]
          show _ = mr_pd lot l t + (if t < l then lot t else 0)
          rw [if_pos (by omega)]
        · rw [pk_uLn ha]; exact o2 a ha
theorem xg_rel9 {post : SX → Prop} {i l : Nat} {lot : Nat → Int64} (hi : i < 16) (hp16 : p ≤ 16) (hl : a_leads i = nI l) (hl8 : l ≤ 8) (hlot : ∀ s, s < p → a_planned (i * 16 + s) = lot s)
    (h : ∀ rl' pd', (∀ s, s < p → rl' (i * 16 + s) = mr_rl lot l s p) → pd' i = mr_pd lot l p → pp_o i a_release rl' → (∀ a, a ≠ i → pd' a = a_pastDue a) → post ((nI n), (nI p), f_edgeCount, f_current, a_leads, a_rules, a_params, a_onHands, a_demands, a_receipts, a_usages, a_levels, a_reached, a_gross, a_net, a_planned, rl', a_projected, pd', a_stock)) :
    ∀ d t rl, t + d = p → (∀ s, s < t → rl (i * 16 + s) = 0) → pp_o i a_release rl →
      wX_findReleases_9 post (nI i) (nI n) (nI p) f_edgeCount f_current (d + 1) (nI t) a_leads a_rules a_params a_onHands a_demands a_receipts a_usages a_levels a_reached a_gross a_net a_planned rl a_projected (vp_updL a_pastDue i 0) a_stock := by
  intro d
  induction d with
  | zero =>
    intro t rl ht z1 o1
    refine br_t (nI_le (by omega) (by omega)) ⟨p + 1, ?_⟩
    exact xg_rel36 hi hp16 hl hl8 hlot h p 0 rl _ (by omega) (fun s hs => z1 s (by omega)) pk_uLs o1 (fun a ha => pk_uLn ha)
  | succ d ih =>
    intro t rl ht z1 o1
    refine br_f (nI_ge (by omega) (by omega)) (xh_cell ?_)
    refine ⟨vp_in_nI (by omega) (by omega), nm_r (xh_upL (by omega) rfl) (nm_r (nI_1 t) (ih (t + 1) _ (by omega) (fun s hs => ?_) (pp_op o1 (by omega))))⟩
    by_cases e : s = t
    · rw [e, pk_uLs]
    · rw [pk_uLn (by omega)]; exact z1 s (by omega)
theorem xg_rel {post : SX → Prop} {i l : Nat} {lot : Nat → Int64} (hi : i < 16) (hp16 : p ≤ 16) (hl : a_leads i = nI l) (hl8 : l ≤ 8) (hlot : ∀ s, s < p → a_planned (i * 16 + s) = lot s)
    (h : ∀ rl' pd', (∀ s, s < p → rl' (i * 16 + s) = mr_rl lot l s p) → pd' i = mr_pd lot l p → pp_o i a_release rl' → (∀ a, a ≠ i → pd' a = a_pastDue a) → post ((nI n), (nI p), f_edgeCount, f_current, a_leads, a_rules, a_params, a_onHands, a_demands, a_receipts, a_usages, a_levels, a_reached, a_gross, a_net, a_planned, rl', a_projected, pd', a_stock)) :
    wpX_findReleases post ((nI n), (nI p), f_edgeCount, f_current, a_leads, a_rules, a_params, a_onHands, a_demands, a_receipts, a_usages, a_levels, a_reached, a_gross, a_net, a_planned, a_release, a_projected, a_pastDue, a_stock) (nI i) := by
  unfold wpX_findReleases
  exact ⟨vp_in_nI hi (by omega), nm_r (xh_upL (by omega) rfl) ⟨p + 1, xg_rel9 hi hp16 hl hl8 hlot h p 0 a_release (by omega) (fun s hs => absurd hs (by omega)) (pp_or i _)⟩⟩
end
end
section
/-! the component's plan: levels, items, the whole -/
def xr_M (n m : Nat) (P C U : Nat → Nat) (us : Nat → Int32) : Prop :=
  (∀ e, e < m → us (P e * 16 + C e) = nI (U e)) ∧ (∀ a b, a < n → b < n → (∀ e, e < m → ¬ (P e = a ∧ C e = b)) → us (a * 16 + b) = 0) ∧
  (∀ e f, e < m → f < m → P e = P f → C e = C f → e = f)
theorem xr_MU {n m : Nat} {P C U : Nat → Nat} {us : Nat → Int32} (hU : ∀ e, e < m → 1 ≤ U e ∧ U e ≤ 9) (M : xr_M n m P C U us) : xr_U n (ye_G m P C) us := by
  intro a b ha hb
  by_cases h : ∃ e, e < m ∧ P e = a ∧ C e = b
  · refine ⟨fun _ => h, fun _ => ?_⟩
    obtain ⟨e, he, h1, h2⟩ := h
    have q := M.1 e he
    rw [h1, h2] at q
    rw [q]
    exact nI_nle (hU e he).1 (by have := hU e he; omega)
  · have q := M.2.1 a b ha hb fun e he w => h ⟨e, he, w.1, w.2⟩
    rw [q]
    exact ⟨fun w => absurd (by decide) w, fun w => absurd w h⟩
theorem xg_col {n p m i t : Nat} {P C U : Nat → Nat} {D : Nat → Prop} {us : Nat → Int32} {Gr Ne Pl Rl Pj : Nat → Nat → Int64} {Pd : Nat → Int64} {gr ne pl rl pj pd : Nat → Int64}
    (hP : ∀ e, e < m → P e < n) (hU : ∀ e, e < m → 1 ≤ U e ∧ U e ≤ 9) (M : xr_M n m P C U us) (hi : i < n) (ht : t < p) (hD : ∀ e, e < m → C e = i → D (P e))
    (R : pp_R n p D Gr Ne Pl Rl Pj Pd gr ne pl rl pj pd) :
    ms_s (fun a => (us (a * 16 + i)).toInt64 * rl (a * 16 + t)) n = ms_s (fun e => if C e = i then lN (U e) * Rl (P e) t else 0) m := by
  rw [← ms_col (U := fun a => (us (a * 16 + i)).toInt64) (u := fun e => lN (U e)) (R := fun a => Rl a t) (n := n) hP ?_ ?_ ?_]
  · refine ms_congr n fun a ha => ?_
    show (us (a * 16 + i)).toInt64 * rl (a * 16 + t) = (us (a * 16 + i)).toInt64 * Rl a t
    by_cases h : ∃ e, e < m ∧ P e = a ∧ C e = i
    · obtain ⟨e, he, h1, h2⟩ := h
      have hd := hD e he h2
      rw [h1] at hd
      rw [((R a ha hd).2 t ht).2.2.2.1]
    · rw [M.2.1 a i ha hi fun e he w => h ⟨e, he, w.1, w.2⟩]
      show (0 : Int64) * _ = (0 : Int64) * _
      rw [Int64.zero_mul, Int64.zero_mul]
  · intro e he hc
    show (us (P e * 16 + i)).toInt64 = lN (U e)
    have q := M.1 e he
    rw [hc] at q
    rw [q, nI_l (by have := hU e he; omega)]
  · intro a ha h
    show (us (a * 16 + i)).toInt64 = 0
    rw [M.2.1 a i ha hi fun e he w => h e he w.2 w.1]
    rfl
  · intro e f he hf c1 c2 h
    exact M.2.2 e f he hf h (c1.trans c2.symm)
section
variable {n p m : Nat} {P C U Q Ld L : Nat → Nat} {Gr Ne Pl Rl Pj : Nat → Nat → Int64} {Pd : Nat → Int64} {f_edgeCount f_current : Int32} {a_leads a_rules a_params a_onHands a_demands a_receipts a_usages a_levels a_reached : Nat → Int32} {a_gross a_net a_planned a_release a_projected a_pastDue a_stock : Nat → Int64}
theorem xp_lev {post : Int32 → SX → Prop} {lev : Nat} (hn16 : n ≤ 16) (hp16 : p ≤ 16) (hlev : lev < n) (hP : ∀ e, e < m → P e < n) (hL : ∀ e, e < m → L (P e) < L (C e)) (hU : ∀ e, e < m → 1 ≤ U e ∧ U e ≤ 9)
    (hLn : ∀ a, a < n → L a < n) (hV : xr_V n a_levels L) (M : xr_M n m P C U a_usages) (W : pp_W n Q Ld a_leads a_rules a_params a_onHands a_demands a_receipts)
    (Z : pp_P n p m P C U Q Ld a_rules a_onHands a_demands a_receipts Gr Ne Pl Rl Pj Pd)
    (h1 : ∀ gr ne pl rl pj pd, pp_R n p (pp_D L (lev + 1) 0) Gr Ne Pl Rl Pj Pd gr ne pl rl pj pd → pp_ok n p (pp_D L (lev + 1) 0) Gr → post 1 ((nI n), (nI p), f_edgeCount, f_current, a_leads, a_rules, a_params, a_onHands, a_demands, a_receipts, a_usages, a_levels, a_reached, gr, ne, pl, rl, pj, pd, a_stock))
    (h0 : ∀ gr ne pl rl pj pd, (¬ pp_ok n p (fun _ => True) Gr) → post 0 ((nI n), (nI p), f_edgeCount, f_current, a_leads, a_rules, a_params, a_onHands, a_demands, a_receipts, a_usages, a_levels, a_reached, gr, ne, pl, rl, pj, pd, a_stock)) :
    ∀ d it gr ne pl rl pj pd, it + d = n → pp_R n p (pp_D L lev it) Gr Ne Pl Rl Pj Pd gr ne pl rl pj pd → pp_ok n p (pp_D L lev it) Gr →
      wX_planLevel_2 post (nI lev) (d + 1) (nI it) (nI n) (nI p) f_edgeCount f_current a_leads a_rules a_params a_onHands a_demands a_receipts a_usages a_levels a_reached gr ne pl rl pj pd a_stock := by
  intro d
  induction d with
  | zero =>
    intro it gr ne pl rl pj pd hit R O
    have e : it = n := by omega
    rw [e] at R O
    exact br_t (nI_le (by omega) (by omega)) (h1 gr ne pl rl pj pd (pp_Rany R fun a ha q => pp_Dn ha q) (fun a ha q => O a ha (pp_Dn ha q)))
  | succ d ih =>
    intro it gr ne pl rl pj pd hit R O
    have hi : it < n := by omega
    have el : a_levels (nI it).toNatClampNeg = nI (L it) := (xh_at (by omega)).trans (hV it hi)
    have hl := hLn it hi
    refine br_f (nI_ge hi (by omega)) ⟨vp_in_nI (by omega) (by omega), ?_⟩
    by_cases c : L it = lev
    · refine br_t (by rw [el, c]) ?_
      obtain ⟨z1, z2, z3, z4, z5, z6⟩ := Z it hi
      obtain ⟨w1, w2, w3, w4, w5, w6⟩ := W.1 it hi
      refine xg_gross (g := Gr it) hn16 hp16 hi (fun t ht => ?_) (fun gr' k1 k2 k3 => ?_) (fun gr' k1 => ?_)
      · rw [z1 t ht]
        unfold pp_g
        rw [xg_col hP hU M hi ht (fun e he hc => Or.inl (by have := hL e he; rw [hc, c] at this; exact this)) R]
      · refine br_f (by decide) ?_
        refine xg_plan (q := Q it) (g := Gr it) (rc := pp_rc a_receipts it) (by omega) hp16 k2 (fun _ _ => rfl) w3 w4 w5 w6 (fun ne' pl' pj' n1 n2 n3 o1 o2 o3 => ?_)
        refine xg_rel (l := Ld it) (lot := Pl it) (by omega) hp16 w1 w2 (fun s hs => (n2 s hs).trans (z3 s hs).symm) (fun rl' pd' r1 r2 o4 o5 => ?_)
        refine nm_r (nI_1 it) (ih (it + 1) gr' ne' pl' rl' pj' pd' (by omega) ?_ ?_)
        · exact pp_Rput hp16 R k3 o1 o2 o4 o3 o5 k2 (fun t ht => (n1 t ht).trans (z2 t ht).symm) (fun t ht => (n2 t ht).trans (z3 t ht).symm)
            (fun t ht => (r1 t ht).trans (z4 t ht).symm) (fun t ht => (n3 t ht).trans (z5 t ht).symm) (r2.trans z6.symm)
            (fun a q => (pp_Ds q).imp id (fun w => w.1))
        · intro a ha q t ht
          rcases pp_Ds q with q | q
          · exact O a ha q t ht
          · rw [q.1]; exact k1 t ht
      · obtain ⟨t, ht, q⟩ := k1
        exact br_t rfl (h0 gr' ne pl rl pj pd fun w => q (w it hi trivial t ht))
    · refine br_f (fun q => c ?_) (nm_r (nI_1 it) (ih (it + 1) gr ne pl rl pj pd (by omega) (pp_Rany R fun a _ q => ?_) (fun a ha q => O a ha ?_)))
      · rw [el] at q
        exact (nI_eq (by omega) (by omega)).mp q
      · exact (pp_Ds q).resolve_right fun w => c w.2
      · exact (pp_Ds q).resolve_right fun w => c w.2
theorem xp_start {post : SX → Prop} (hn16 : n ≤ 16) (h : ∀ st', (∀ i, i < n → st' i = (a_onHands i).toInt64) → post ((nI n), (nI p), f_edgeCount, 0, a_leads, a_rules, a_params, a_onHands, a_demands, a_receipts, a_usages, a_levels, a_reached, a_gross, a_net, a_planned, a_release, a_projected, a_pastDue, st')) :
    ∀ d i st, i + d = n → (∀ j, j < i → st j = (a_onHands j).toInt64) → wX_startExecution_2 post (nI n) (nI p) f_edgeCount f_current (d + 1) (nI i) a_leads a_rules a_params a_onHands a_demands a_receipts a_usages a_levels a_reached a_gross a_net a_planned a_release a_projected a_pastDue st := by
  intro d
  induction d with
  | zero =>
    intro i st hi hz
    exact br_t (nI_le (by omega) (by omega)) (h st fun j hj => hz j (by omega))
  | succ d ih =>
    intro i st hi hz
    have vi : vp_in (nI i) 16 := vp_in_nI (by omega) (by omega)
    refine br_f (nI_ge (by omega) (by omega)) ⟨vi, vi, nm_r (xh_upL (y := (a_onHands i).toInt64) (by omega) (by rw [nI_clamp (by omega)])) (nm_r (nI_1 i) (ih (i + 1) _ (by omega) fun j hj => ?_))⟩
    by_cases e : j = i
    · rw [e, pk_uLs]
    · rw [pk_uLn e]; exact hz j (by omega)
theorem xp_6 {post : Int32 → SX → Prop} (hn16 : n ≤ 16) (hp16 : p ≤ 16) (hP : ∀ e, e < m → P e < n) (hL : ∀ e, e < m → L (P e) < L (C e)) (hU : ∀ e, e < m → 1 ≤ U e ∧ U e ≤ 9)
    (hLn : ∀ a, a < n → L a < n) (hV : xr_V n a_levels L) (M : xr_M n m P C U a_usages) (W : pp_W n Q Ld a_leads a_rules a_params a_onHands a_demands a_receipts)
    (Z : pp_P n p m P C U Q Ld a_rules a_onHands a_demands a_receipts Gr Ne Pl Rl Pj Pd)
    (h1 : ∀ gr ne pl rl pj pd st, pp_R n p (fun _ => True) Gr Ne Pl Rl Pj Pd gr ne pl rl pj pd → pp_ok n p (fun _ => True) Gr → (∀ i, i < n → st i = (a_onHands i).toInt64) → post 0 ((nI n), (nI p), f_edgeCount, 0, a_leads, a_rules, a_params, a_onHands, a_demands, a_receipts, a_usages, a_levels, a_reached, gr, ne, pl, rl, pj, pd, st))
    (h0 : ∀ gr ne pl rl pj pd, (¬ pp_ok n p (fun _ => True) Gr) → post (-4) ((nI n), (nI p), f_edgeCount, f_current, a_leads, a_rules, a_params, a_onHands, a_demands, a_receipts, a_usages, a_levels, a_reached, gr, ne, pl, rl, pj, pd, a_stock)) :
    ∀ d lev gr ne pl rl pj pd, lev + d = n → pp_R n p (pp_D L lev 0) Gr Ne Pl Rl Pj Pd gr ne pl rl pj pd → pp_ok n p (pp_D L lev 0) Gr →
      wX_plan_6 post (d + 1) (nI lev) (nI n) (nI p) f_edgeCount f_current a_leads a_rules a_params a_onHands a_demands a_receipts a_usages a_levels a_reached gr ne pl rl pj pd a_stock := by
  intro d
  induction d with
  | zero =>
    intro lev gr ne pl rl pj pd hlev R O
    have e : lev = n := by omega
    rw [e] at R O
    refine br_t (nI_le (by omega) (by omega)) ?_
    unfold wpX_startExecution
    refine ⟨n + 1, xp_start hn16 (fun st' hs => ?_) n 0 a_stock (by omega) (fun j hj => absurd hj (by omega))⟩
    exact h1 gr ne pl rl pj pd st' (pp_Rany R fun a ha _ => Or.inl (hLn a ha)) (fun a ha _ => O a ha (Or.inl (hLn a ha))) hs
  | succ d ih =>
    intro lev gr ne pl rl pj pd hlev R O
    refine br_f (nI_ge (by omega) (by omega)) ?_
    unfold wpX_planLevel
    refine ⟨n + 1, xp_lev hn16 hp16 (by omega) hP hL hU hLn hV M W Z (fun gr' ne' pl' rl' pj' pd' R' O' => ?_) (fun gr' ne' pl' rl' pj' pd' q => ?_) n 0 gr ne pl rl pj pd (by omega) R O⟩
    · exact br_f (by decide) (nm_r (nI_1 lev) (ih (lev + 1) gr' ne' pl' rl' pj' pd' (by omega) R' O'))
    · exact br_t rfl (h0 gr' ne' pl' rl' pj' pd' q)
/-- the component's plan -/
theorem xp_plan {post : Int32 → SX → Prop} (hn16 : n ≤ 16) (hp16 : p ≤ 16) (hP : ∀ e, e < m → P e < n) (hL : ∀ e, e < m → L (P e) < L (C e)) (hU : ∀ e, e < m → 1 ≤ U e ∧ U e ≤ 9)
    (hLn : ∀ a, a < n → L a < n) (hV : xr_V n a_levels L) (M : xr_M n m P C U a_usages) (W : pp_W n Q Ld a_leads a_rules a_params a_onHands a_demands a_receipts)
    (Z : pp_P n p m P C U Q Ld a_rules a_onHands a_demands a_receipts Gr Ne Pl Rl Pj Pd)
    (h1 : ∀ gr ne pl rl pj pd st, pp_R n p (fun _ => True) Gr Ne Pl Rl Pj Pd gr ne pl rl pj pd → pp_ok n p (fun _ => True) Gr → (∀ i, i < n → st i = (a_onHands i).toInt64) → post 0 ((nI n), (nI p), f_edgeCount, 0, a_leads, a_rules, a_params, a_onHands, a_demands, a_receipts, a_usages, a_levels, a_reached, gr, ne, pl, rl, pj, pd, st))
    (h0 : ∀ gr ne pl rl pj pd, (¬ pp_ok n p (fun _ => True) Gr) → post (-4) ((nI n), (nI p), f_edgeCount, (-1), a_leads, a_rules, a_params, a_onHands, a_demands, a_receipts, a_usages, a_levels, a_reached, gr, ne, pl, rl, pj, pd, a_stock)) : wpX_plan post ((nI n), (nI p), f_edgeCount, f_current, a_leads, a_rules, a_params, a_onHands, a_demands, a_receipts, a_usages, a_levels, a_reached, a_gross, a_net, a_planned, a_release, a_projected, a_pastDue, a_stock) := by
  unfold wpX_plan
  unfold wpX_discardPlan
  exact ⟨n + 1, xp_6 hn16 hp16 hP hL hU hLn hV M W Z h1 h0 n 0 a_gross a_net a_planned a_release a_projected a_pastDue (by omega) (fun a _ q => (pp_D0 q).elim) (fun a _ q => (pp_D0 q).elim)⟩
end
end
section
/-! the reference's plan of one item -/
section
variable {n p m : Nat} {P C U : Nat → Nat} {f_hasPlan f_current : Int32} {a_lead a_rule a_param a_onHand a_demand a_receipt a_ep a_ec a_eu a_lvl a_reach : Nat → Int32} {a_gross a_net a_planned a_release a_projected a_pastDue a_stock : Nat → Int64}
theorem yg_29 {post : Int32 → SY → Prop} {J7 : Int32 → (Nat → Int32) → (Nat → Int32) → (Nat → Int32) → (Nat → Int32) → (Nat → Int32) → (Nat → Int32) → (Nat → Int32) → (Nat → Int32) → (Nat → Int32) → (Nat → Int64) → (Nat → Int64) → (Nat → Int64) → (Nat → Int64) → (Nat → Int64) → (Nat → Int64) → (Nat → Int64) → (Nat → Int32) → (Nat → Int32) → Prop} {i t : Nat} {Rl : Nat → Nat → Int64} {g : Int64} (hn16 : n ≤ 16) (hm : m ≤ 32) (hi : i < n) (ht : t < 16) (E : ye_E n m P C U a_ep a_ec a_eu)
    (hR : ∀ e, e < m → C e = i → a_release (P e * 16 + t) = Rl (P e) t)
    (hg : (a_demand (i * 16 + t)).toInt64 + ms_s (fun e => if C e = i then lN (U e) * Rl (P e) t else 0) m = g)
    (h1 : g ≤ 1000000000000 → J7 (nI (t + 1)) a_lead a_rule a_param a_onHand a_demand a_receipt a_ep a_ec a_eu (vp_updL a_gross (i * 16 + t) g) a_net a_planned a_release a_projected a_pastDue a_stock a_lvl a_reach)
    (h0 : ¬ g ≤ 1000000000000 → post 0 ((nI n), (nI p), (nI m), f_hasPlan, f_current, a_lead, a_rule, a_param, a_onHand, a_demand, a_receipt, a_ep, a_ec, a_eu, (vp_updL a_gross (i * 16 + t) g), a_net, a_planned, a_release, a_projected, a_pastDue, a_stock, a_lvl, a_reach)) :
    ∀ d e, e + d = m → wY_planItem_29 post J7 (nI i) (nI (i * 16)) (nI t) (nI n) (nI p) (nI m) f_hasPlan f_current a_lead a_rule a_param a_onHand a_demand a_receipt a_ep a_ec a_eu a_gross a_net a_planned a_release a_projected a_pastDue a_stock a_lvl a_reach (d + 1) ((a_demand (i * 16 + t)).toInt64 + ms_s (fun e => if C e = i then lN (U e) * Rl (P e) t else 0) e) (nI e) := by
  intro d
  induction d with
  | zero =>
    intro e he
    have q : e = m := by omega
    rw [q, hg]
    refine br_t (nI_le (by omega) (by omega)) ?_
    rw [nI_add]
    refine ⟨vp_in_nI (by omega) (by omega), nm_r (xh_upL (by omega) rfl) ?_⟩
    by_cases c : g ≤ 1000000000000
    · exact br_t c (nm_r (nI_1 t) (h1 c))
    · exact br_f c (h0 c)
  | succ d ih =>
    intro e he
    have hem : e < m := by omega
    obtain ⟨p1, p2, p3, hP, hC, u1, u2⟩ := E e hem
    have i1 : a_ep (nI e).toNatClampNeg = nI (P e) := (xh_at (by omega)).trans p1
    have i2 : a_ec (nI e).toNatClampNeg = nI (C e) := (xh_at (by omega)).trans p2
    have i3 : a_eu (nI e).toNatClampNeg = nI (U e) := (xh_at (by omega)).trans p3
    have ve : vp_in (nI e) 32 := vp_in_nI (by omega) (by omega)
    have I := ih (e + 1) (by omega)
    have es : ms_s (fun e => if C e = i then lN (U e) * Rl (P e) t else 0) (e + 1) = ms_s (fun e => if C e = i then lN (U e) * Rl (P e) t else 0) e + (if C e = i then lN (U e) * Rl (P e) t else 0) := rfl
    rw [es] at I
    refine br_f (nI_ge hem (by omega)) ⟨ve, ?_⟩
    rw [i1, i2, i3]
    by_cases c : C e = i
    · rw [if_pos c, ← Int64.add_assoc] at I
      refine br_t (by rw [c]) ⟨ve, ve, ?_⟩
      rw [xh_ix]
      refine ⟨vp_in_nI (by omega) (by omega), ?_⟩
      rw [nI_clamp (by omega), hR e hem c, nI_l (by omega)]
      exact nm_e (nm_r (nI_1 e) I)
    · rw [if_neg c, Int64.add_zero] at I
      exact br_f (fun q => c ((nI_eq (by omega) (by omega)).mp q)) (nm_r (nI_1 e) I)
theorem yg_7 {post : Int32 → SY → Prop} {i : Nat} {Rl : Nat → Nat → Int64} {g : Nat → Int64} (hn16 : n ≤ 16) (hp16 : p ≤ 16) (hm : m ≤ 32) (hi : i < n) (E : ye_E n m P C U a_ep a_ec a_eu)
    (hR : ∀ e t, e < m → t < p → C e = i → a_release (P e * 16 + t) = Rl (P e) t)
    (hg : ∀ t, t < p → (a_demand (i * 16 + t)).toInt64 + ms_s (fun e => if C e = i then lN (U e) * Rl (P e) t else 0) m = g t)
    (h1 : ∀ gr', (∀ t, t < p → g t ≤ 1000000000000) → (∀ t, t < p → gr' (i * 16 + t) = g t) → pp_o i a_gross gr' → wY_planItem_124 post (nI i) (nI (i * 16)) (nI n) (nI p) (nI m) f_hasPlan f_current (p + 1) (a_onHand i).toInt64 0 a_lead a_rule a_param a_onHand a_demand a_receipt a_ep a_ec a_eu gr' a_net a_planned a_release a_projected a_pastDue a_stock a_lvl a_reach)
    (h0 : ∀ gr', (∃ t, t < p ∧ ¬ g t ≤ 1000000000000) → post 0 ((nI n), (nI p), (nI m), f_hasPlan, f_current, a_lead, a_rule, a_param, a_onHand, a_demand, a_receipt, a_ep, a_ec, a_eu, gr', a_net, a_planned, a_release, a_projected, a_pastDue, a_stock, a_lvl, a_reach)) :
    ∀ d t gr, t + d = p → (∀ s, s < t → gr (i * 16 + s) = g s ∧ g s ≤ 1000000000000) → pp_o i a_gross gr → wY_planItem_7 post (nI i) (nI (i * 16)) (nI n) (nI p) (nI m) f_hasPlan f_current (d + 1) (nI t) a_lead a_rule a_param a_onHand a_demand a_receipt a_ep a_ec a_eu gr a_net a_planned a_release a_projected a_pastDue a_stock a_lvl a_reach := by
  intro d
  induction d with
  | zero =>
    intro t gr ht hz ho
    refine br_t (nI_le (by omega) (by omega)) ⟨vp_in_nI (by omega) (by omega), nm_r (e' := (a_onHand i).toInt64) (by rw [nI_clamp (by omega)]) ⟨p + 1, ?_⟩⟩
    exact h1 gr (fun s hs => (hz s (by omega)).2) (fun s hs => (hz s (by omega)).1) ho
  | succ d ih =>
    intro t gr ht hz ho
    have htp : t < p := by omega
    refine br_f (nI_ge (by omega) (by omega)) ?_
    rw [nI_add]
    refine ⟨vp_in_nI (by omega) (by omega), nm_r (e' := (a_demand (i * 16 + t)).toInt64 + 0) (by rw [nI_clamp (by omega), Int64.add_zero]) ⟨m + 1, ?_⟩⟩
    refine yg_29 hn16 hm hi (by omega) E (fun e he hc => hR e t he htp hc) (hg t htp) (fun q => ?_) (fun q => h0 _ ⟨t, htp, q⟩) m 0 (by omega)
    refine ih (t + 1) _ (by omega) (fun s hs => ?_) (pp_op ho (by omega))
    by_cases e : s = t
    · rw [e, pk_uLs]; exact ⟨rfl, q⟩
    · rw [pk_uLn (by omega)]; exact hz s (by omega)
/-! lots -/
theorem yg_346 {post : Int32 → SY → Prop} {J124 : Int64 → Int32 → (Nat → Int32) → (Nat → Int32) → (Nat → Int32) → (Nat → Int32) → (Nat → Int32) → (Nat → Int32) → (Nat → Int32) → (Nat → Int32) → (Nat → Int32) → (Nat → Int64) → (Nat → Int64) → (Nat → Int64) → (Nat → Int64) → (Nat → Int64) → (Nat → Int64) → (Nat → Int64) → (Nat → Int32) → (Nat → Int32) → Prop} {i t : Nat} {g rc : Nat → Int64} {pv z : Int64} (hi : i < 16) (hp16 : p ≤ 16) (ht : t < p)
    (hg : ∀ s, s < p → a_gross (i * 16 + s) = g s) (hr : ∀ s, s < p → (a_receipt (i * 16 + s)).toInt64 = rc s)
    (h : J124 (pv + rc t + z - g t) (nI (t + 1)) a_lead a_rule a_param a_onHand a_demand a_receipt a_ep a_ec a_eu a_gross a_net (vp_updL a_planned (i * 16 + t) z) a_release (vp_updL a_projected (i * 16 + t) (pv + rc t + z - g t)) a_pastDue a_stock a_lvl a_reach) :
    wY_planItem_346 post J124 (nI i) (nI (i * 16)) pv (nI t) z (nI n) (nI p) (nI m) f_hasPlan f_current a_lead a_rule a_param a_onHand a_demand a_receipt a_ep a_ec a_eu a_gross a_net a_planned a_release a_projected a_pastDue a_stock a_lvl a_reach := by
  have ec : (nI (i * 16 + t)).toNatClampNeg = i * 16 + t := nI_clamp (by omega)
  have vc : vp_in (nI (i * 16 + t)) 256 := vp_in_nI (by omega) (by omega)
  unfold wY_planItem_346
  rw [nI_add]
  refine ⟨vc, nm_r (xh_upL (by omega) rfl) ⟨vc, vc, vc, nm_r (xh_upL (y := pv + rc t + z - g t) (by omega) ?_) ⟨vc, nm_r (e' := pv + rc t + z - g t) ?_ (nm_r (nI_1 t) h)⟩⟩⟩
  · rw [ec, hr t ht, hg t ht]
  · rw [ec, pk_uLs]
theorem yg_289 {post : Int32 → SY → Prop} {J124 : Int64 → Int32 → (Nat → Int32) → (Nat → Int32) → (Nat → Int32) → (Nat → Int32) → (Nat → Int32) → (Nat → Int32) → (Nat → Int32) → (Nat → Int32) → (Nat → Int32) → (Nat → Int64) → (Nat → Int64) → (Nat → Int64) → (Nat → Int64) → (Nat → Int64) → (Nat → Int64) → (Nat → Int64) → (Nat → Int32) → (Nat → Int32) → Prop} {i t w : Nat} {g rc : Nat → Int64} {pv nt : Int64} (hi : i < 16) (hp16 : p ≤ 16) (hw1 : 1 ≤ w) (hw : t + w ≤ p)
    (hg : ∀ s, s < p → a_gross (i * 16 + s) = g s) (hr : ∀ s, s < p → (a_receipt (i * 16 + s)).toInt64 = rc s)
    (h : wY_planItem_346 post J124 (nI i) (nI (i * 16)) pv (nI t) (mr_mx (mr_lk g rc pv t) nt w) (nI n) (nI p) (nI m) f_hasPlan f_current a_lead a_rule a_param a_onHand a_demand a_receipt a_ep a_ec a_eu a_gross a_net a_planned a_release a_projected a_pastDue a_stock a_lvl a_reach) :
    ∀ d k, k + d = w → wY_planItem_289 post J124 (nI i) (nI (i * 16)) pv (nI t) (nI (t + w - 1)) (nI n) (nI p) (nI m) f_hasPlan f_current a_lead a_rule a_param a_onHand a_demand a_receipt a_ep a_ec a_eu a_gross a_net a_planned a_release a_projected a_pastDue a_stock a_lvl a_reach (d + 1) (mr_mx (mr_lk g rc pv t) nt k) (mr_lk g rc pv t k) (nI (t + k)) := by
  intro d
  induction d with
  | zero =>
    intro k hk
    have e : k = w := by omega
    rw [e]
    exact br_t (nI_lt (by omega) (by omega)) h
  | succ d ih =>
    intro k hk
    have ec : (nI (i * 16 + (t + k))).toNatClampNeg = i * 16 + (t + k) := nI_clamp (by omega)
    have vc : vp_in (nI (i * 16 + (t + k))) 256 := vp_in_nI (by omega) (by omega)
    have em : mr_mx (mr_lk g rc pv t) nt (k + 1) = if mr_mx (mr_lk g rc pv t) nt k < mr_lk g rc pv t (k + 1) then mr_lk g rc pv t (k + 1) else mr_mx (mr_lk g rc pv t) nt k := rfl
    have I := ih (k + 1) (by omega)
    refine br_f (nI_nlt (by omega) (by omega)) ?_
    rw [nI_add]
    refine ⟨vc, vc, nm_r (e' := mr_lk g rc pv t (k + 1)) (by rw [ec, hg _ (by omega), hr _ (by omega)]; rfl) ?_⟩
    by_cases q : mr_mx (mr_lk g rc pv t) nt k < mr_lk g rc pv t (k + 1)
    · rw [em, if_pos q] at I
      exact br_f (Int64.not_le.mpr q) (nm_r (nI_1 (t + k)) I)
    · rw [em, if_neg q] at I
      exact br_t (Int64.not_lt.mp q) (nm_r (nI_1 (t + k)) I)
theorem yg_167 {post : Int32 → SY → Prop} {J124 : Int64 → Int32 → (Nat → Int32) → (Nat → Int32) → (Nat → Int32) → (Nat → Int32) → (Nat → Int32) → (Nat → Int32) → (Nat → Int32) → (Nat → Int32) → (Nat → Int32) → (Nat → Int64) → (Nat → Int64) → (Nat → Int64) → (Nat → Int64) → (Nat → Int64) → (Nat → Int64) → (Nat → Int64) → (Nat → Int32) → (Nat → Int32) → Prop} {i t q : Nat} {g rc : Nat → Int64} {pv : Int64} (hi : i < 16) (hp16 : p ≤ 16) (ht : t < p)
    (hg : ∀ s, s < p → a_gross (i * 16 + s) = g s) (hr : ∀ s, s < p → (a_receipt (i * 16 + s)).toInt64 = rc s)
    (hq : a_param i = nI q) (hq1 : q ≤ 10000) (hq2 : a_rule i = 1 → 1 ≤ q) (hq3 : a_rule i = 2 → 1 ≤ q ∧ q ≤ 8) (hl : 0 < mr_lack g rc t pv)
    (h : wY_planItem_346 post J124 (nI i) (nI (i * 16)) pv (nI t) (mr_lot (a_rule i) q p g rc t pv (mr_lack g rc t pv)) (nI n) (nI p) (nI m) f_hasPlan f_current a_lead a_rule a_param a_onHand a_demand a_receipt a_ep a_ec a_eu a_gross (vp_updL a_net (i * 16 + t) (mr_lack g rc t pv)) a_planned a_release a_projected a_pastDue a_stock a_lvl a_reach) :
    wY_planItem_167 post J124 (nI i) (nI (i * 16)) pv (nI t) (mr_lack g rc t pv) (nI n) (nI p) (nI m) f_hasPlan f_current a_lead a_rule a_param a_onHand a_demand a_receipt a_ep a_ec a_eu a_gross a_net a_planned a_release a_projected a_pastDue a_stock a_lvl a_reach := by
  have vi : vp_in (nI i) 16 := vp_in_nI hi (by omega)
  have ei : (nI i).toNatClampNeg = i := nI_clamp (by omega)
  have ec : (nI (i * 16 + t)).toNatClampNeg = i * 16 + t := nI_clamp (by omega)
  have vc : vp_in (nI (i * 16 + t)) 256 := vp_in_nI (by omega) (by omega)
  unfold wY_planItem_167
  rw [nI_add]
  refine ⟨vc, nm_r (xh_upL (by omega) rfl) (br_f (Int64.not_le.mpr hl) ⟨vi, ?_⟩)⟩
  rw [ei]
  unfold mr_lot at h
  by_cases c1 : a_rule i = 1
  · have q1 := hq2 c1
    rw [if_pos c1] at h
    refine br_t c1 ⟨vi, nm_r (e' := lN q) (by rw [hq, nI_l (by omega)]) (br_t ((lN_le (a := 1) (by omega) (by omega)).mpr (by omega)) ?_)⟩
    unfold wY_planItem_217
    exact ⟨fun z => absurd ((lN_eq (b := 0) (by omega) (by omega)).mp z) (by omega), nm_e h⟩
  · rw [if_neg c1] at h
    refine br_f c1 ⟨vi, ?_⟩
    by_cases c2 : a_rule i = 2
    · have q1 := hq3 c2
      rw [if_pos c2] at h
      have e1 : nI t + nI q - 1 = nI (t + q - 1) := by
        rw [nI_add, show (1 : Int32) = nI 1 from rfl, pk_sub (by omega)]
      have e2 : nI p - 1 = nI (p - 1) := by
        rw [show (1 : Int32) = nI 1 from rfl, pk_sub (by omega)]
      refine br_t c2 ⟨vi, nm_r (e' := nI (t + q - 1)) (by rw [hq, e1]) ?_⟩
      rw [e2]
      by_cases c3 : q < p - t
      · rw [if_pos c3] at h
        refine br_t (nI_le (by omega) (by omega)) (nm_e ⟨q + 1, ?_⟩)
        exact yg_289 hi hp16 (by omega) (by omega) hg hr h q 0 (by omega)
      · rw [if_neg c3] at h
        have e3 : t + (p - t) - 1 = p - 1 := by omega
        by_cases c4 : t + q - 1 ≤ p - 1
        · have e4 : t + q - 1 = t + (p - t) - 1 := by omega
          refine br_t (nI_le c4 (by omega)) (nm_e ⟨p - t + 1, ?_⟩)
          rw [e4]
          exact yg_289 hi hp16 (by omega) (by omega) hg hr h (p - t) 0 (by omega)
        · refine br_f (nI_ge (by omega) (by omega)) (nm_r (e' := nI (t + (p - t) - 1)) (by rw [e3]) (nm_e ⟨p - t + 1, ?_⟩))
          exact yg_289 hi hp16 (by omega) (by omega) hg hr h (p - t) 0 (by omega)
    · rw [if_neg c2] at h
      exact br_f c2 h
theorem yg_124 {post : Int32 → SY → Prop} {i q : Nat} {g rc : Nat → Int64} (hi : i < 16) (hp16 : p ≤ 16)
    (hg : ∀ s, s < p → a_gross (i * 16 + s) = g s) (hr : ∀ s, s < p → (a_receipt (i * 16 + s)).toInt64 = rc s)
    (hq : a_param i = nI q) (hq1 : q ≤ 10000) (hq2 : a_rule i = 1 → 1 ≤ q) (hq3 : a_rule i = 2 → 1 ≤ q ∧ q ≤ 8)
    (h : ∀ ne' pl' pj', (∀ t, t < p → ne' (i * 16 + t) = mr_net g rc t (mr_pv (a_rule i) q p g rc (a_onHand i).toInt64 t)) → (∀ t, t < p → pl' (i * 16 + t) = mr_P (a_rule i) q p g rc (a_onHand i).toInt64 t) →
      (∀ t, t < p → pj' (i * 16 + t) = mr_pv (a_rule i) q p g rc (a_onHand i).toInt64 (t + 1)) → pp_o i a_net ne' → pp_o i a_planned pl' → pp_o i a_projected pj' →
      wY_planItem_410 post (nI i) (nI (i * 16)) (nI n) (nI p) (nI m) f_hasPlan f_current (p + 1) 0 a_lead a_rule a_param a_onHand a_demand a_receipt a_ep a_ec a_eu a_gross ne' pl' a_release pj' a_pastDue a_stock a_lvl a_reach) :
    ∀ d t ne pl pj, t + d = p → (∀ s, s < t → ne (i * 16 + s) = mr_net g rc s (mr_pv (a_rule i) q p g rc (a_onHand i).toInt64 s)) → (∀ s, s < t → pl (i * 16 + s) = mr_P (a_rule i) q p g rc (a_onHand i).toInt64 s) →
      (∀ s, s < t → pj (i * 16 + s) = mr_pv (a_rule i) q p g rc (a_onHand i).toInt64 (s + 1)) → pp_o i a_net ne → pp_o i a_planned pl → pp_o i a_projected pj →
      wY_planItem_124 post (nI i) (nI (i * 16)) (nI n) (nI p) (nI m) f_hasPlan f_current (d + 1) (mr_pv (a_rule i) q p g rc (a_onHand i).toInt64 t) (nI t) a_lead a_rule a_param a_onHand a_demand a_receipt a_ep a_ec a_eu a_gross ne pl a_release pj a_pastDue a_stock a_lvl a_reach := by
  intro d
  induction d with
  | zero =>
    intro t ne pl pj ht z1 z2 z3 o1 o2 o3
    exact br_t (nI_le (by omega) (by omega)) ⟨p + 1, h ne pl pj (fun s hs => z1 s (by omega)) (fun s hs => z2 s (by omega)) (fun s hs => z3 s (by omega)) o1 o2 o3⟩
  | succ d ih =>
    intro t ne pl pj ht z1 z2 z3 o1 o2 o3
    have htp : t < p := by omega
    have ec : (nI (i * 16 + t)).toNatClampNeg = i * 16 + t := nI_clamp (by omega)
    have vc : vp_in (nI (i * 16 + t)) 256 := vp_in_nI (by omega) (by omega)
    have key : ∀ (nt lot : Int64), nt = mr_net g rc t (mr_pv (a_rule i) q p g rc (a_onHand i).toInt64 t) → lot = mr_P (a_rule i) q p g rc (a_onHand i).toInt64 t →
        wY_planItem_124 post (nI i) (nI (i * 16)) (nI n) (nI p) (nI m) f_hasPlan f_current (d + 1) (mr_pv (a_rule i) q p g rc (a_onHand i).toInt64 t + rc t + lot - g t) (nI (t + 1)) a_lead a_rule a_param a_onHand a_demand a_receipt a_ep a_ec a_eu a_gross (vp_updL ne (i * 16 + t) nt) (vp_updL pl (i * 16 + t) lot) a_release (vp_updL pj (i * 16 + t) (mr_pv (a_rule i) q p g rc (a_onHand i).toInt64 t + rc t + lot - g t)) a_pastDue a_stock a_lvl a_reach := by
      intro nt lot e1 e2
      have e3 : mr_pv (a_rule i) q p g rc (a_onHand i).toInt64 t + rc t + lot - g t = mr_pv (a_rule i) q p g rc (a_onHand i).toInt64 (t + 1) := by rw [e2]; rfl
      rw [e3]
      refine ih (t + 1) _ _ _ (by omega) (fun s hs => ?_) (fun s hs => ?_) (fun s hs => ?_) (pp_op o1 (by omega)) (pp_op o2 (by omega)) (pp_op o3 (by omega))
      · by_cases e : s = t
        · rw [e, pk_uLs]; exact e1
        · rw [pk_uLn (by omega)]; exact z1 s (by omega)
      · by_cases e : s = t
        · rw [e, pk_uLs]; exact e2
        · rw [pk_uLn (by omega)]; exact z2 s (by omega)
      · by_cases e : s = t
        · rw [e, pk_uLs]
        · rw [pk_uLn (by omega)]; exact z3 s (by omega)
    refine br_f (nI_ge (by omega) (by omega)) ?_
    rw [nI_add]
    refine ⟨vc, vc, nm_r (e' := mr_lack g rc t (mr_pv (a_rule i) q p g rc (a_onHand i).toInt64 t)) (by rw [ec, hg t htp, hr t htp]; rfl) ?_⟩
    by_cases c : 0 < mr_lack g rc t (mr_pv (a_rule i) q p g rc (a_onHand i).toInt64 t)
    · refine br_t (Int64.le_of_lt c) ?_
      refine yg_167 hi hp16 htp hg hr hq hq1 hq2 hq3 c (yg_346 hi hp16 htp hg hr (key _ _ ?_ ?_))
      · unfold mr_net; rw [if_pos c]
      · unfold mr_P mr_pl; rw [if_pos c]
    · have k0 : wY_planItem_167 post (wY_planItem_124 post (nI i) (nI (i * 16)) (nI n) (nI p) (nI m) f_hasPlan f_current (d + 1)) (nI i) (nI (i * 16)) (mr_pv (a_rule i) q p g rc (a_onHand i).toInt64 t) (nI t) 0 (nI n) (nI p) (nI m) f_hasPlan f_current a_lead a_rule a_param a_onHand a_demand a_receipt a_ep a_ec a_eu a_gross ne pl a_release pj a_pastDue a_stock a_lvl a_reach := by
        unfold wY_planItem_167
        rw [nI_add]
        refine ⟨vc, nm_r (xh_upL (by omega) rfl) (br_t (Int64.le_refl 0) (yg_346 hi hp16 htp hg hr (key _ _ ?_ ?_)))⟩
        · unfold mr_net; rw [if_neg c]
        · unfold mr_P mr_pl; rw [if_neg c]
      by_cases c0 : 0 ≤ mr_lack g rc t (mr_pv (a_rule i) q p g rc (a_onHand i).toInt64 t)
      · have e0 : mr_lack g rc t (mr_pv (a_rule i) q p g rc (a_onHand i).toInt64 t) = 0 := Int64.le_antisymm (Int64.not_lt.mp c) c0
        refine br_t c0 ?_
        rw [e0]
        exact k0
      · exact br_f c0 k0
/-! releases -/
theorem yg_467 {post : Int32 → SY → Prop} {J410 : Int32 → (Nat → Int32) → (Nat → Int32) → (Nat → Int32) → (Nat → Int32) → (Nat → Int32) → (Nat → Int32) → (Nat → Int32) → (Nat → Int32) → (Nat → Int32) → (Nat → Int64) → (Nat → Int64) → (Nat → Int64) → (Nat → Int64) → (Nat → Int64) → (Nat → Int64) → (Nat → Int64) → (Nat → Int32) → (Nat → Int32) → Prop} {i t s : Nat} {z : Int64} (hi : i < 16) (hs : s < 16)
    (h : J410 (nI (t + 1)) a_lead a_rule a_param a_onHand a_demand a_receipt a_ep a_ec a_eu a_gross a_net a_planned (vp_updL a_release (i * 16 + s) (a_release (i * 16 + s) + z)) a_projected a_pastDue a_stock a_lvl a_reach) :
    wY_planItem_467 post J410 (nI i) (nI (i * 16)) (nI t) z (nI s) (nI n) (nI p) (nI m) f_hasPlan f_current a_lead a_rule a_param a_onHand a_demand a_receipt a_ep a_ec a_eu a_gross a_net a_planned a_release a_projected a_pastDue a_stock a_lvl a_reach := by
  have ec : (nI (i * 16 + s)).toNatClampNeg = i * 16 + s := nI_clamp (by omega)
  have vc : vp_in (nI (i * 16 + s)) 256 := vp_in_nI (by omega) (by omega)
  unfold wY_planItem_467
  rw [nI_add]
  exact ⟨vc, vc, nm_r (xh_upL (by omega) (by rw [ec])) (nm_r (nI_1 t) h)⟩
theorem yg_410 {post : Int32 → SY → Prop} {i l : Nat} {lot : Nat → Int64} (hi : i < 16) (hp16 : p ≤ 16) (hl : a_lead i = nI l) (hl8 : l ≤ 8) (hlot : ∀ s, s < p → a_planned (i * 16 + s) = lot s) (hw : ∀ s, s < p → ∃ w, w ≤ 17000000000000 ∧ lot s = lN w)
    (h : ∀ rl' pd', (∀ s, s < p → rl' (i * 16 + s) = mr_rl lot l s p) → pd' i = mr_pd lot l p → pp_o i a_release rl' → (∀ a, a ≠ i → pd' a = a_pastDue a) → post 1 ((nI n), (nI p), (nI m), f_hasPlan, f_current, a_lead, a_rule, a_param, a_onHand, a_demand, a_receipt, a_ep, a_ec, a_eu, a_gross, a_net, a_planned, rl', a_projected, pd', a_stock, a_lvl, a_reach)) :
    ∀ d t rl pd, t + d = p → (∀ s, s < p → rl (i * 16 + s) = mr_rl lot l s t) → pd i = mr_pd lot l t → pp_o i a_release rl → (∀ a, a ≠ i → pd a = a_pastDue a) →
      wY_planItem_410 post (nI i) (nI (i * 16)) (nI n) (nI p) (nI m) f_hasPlan f_current (d + 1) (nI t) a_lead a_rule a_param a_onHand a_demand a_receipt a_ep a_ec a_eu a_gross a_net a_planned rl a_projected pd a_stock a_lvl a_reach := by
  intro d
  induction d with
  | zero =>
    intro t rl pd ht z1 z2 o1 o2
    have e : t = p := by omega
    rw [e] at z1 z2
    exact br_t (nI_le (by omega) (by omega)) (h rl pd z1 z2 o1 o2)
  | succ d ih =>
    intro t rl pd ht z1 z2 o1 o2
    have htp : t < p := by omega
    have ec : (nI (i * 16 + t)).toNatClampNeg = i * 16 + t := nI_clamp (by omega)
    have ei : (nI i).toNatClampNeg = i := nI_clamp (by omega)
    have vc : vp_in (nI (i * 16 + t)) 256 := vp_in_nI (by omega) (by omega)
    have vi : vp_in (nI i) 16 := vp_in_nI (by omega) (by omega)
    have key : ∀ s, s < p → vp_updL rl (i * 16 + (t - l)) (rl (i * 16 + (t - l)) + lot t) (i * 16 + s) = mr_rl lot l s (t + 1) := by
      intro s hs
      show _ = mr_rl lot l s t + (if t - l = s then lot t else 0)
      by_cases e : t - l = s
      · rw [if_pos e, e, pk_uLs, z1 s hs]
      · rw [if_neg e, pk_uLn (by omega), z1 s hs, Int64.add_zero]
    refine br_f (nI_ge (by omega) (by omega)) ?_
    rw [nI_add]
    refine ⟨vc, nm_r (e' := lot t) (by rw [ec, hlot t htp]) ?_⟩
    by_cases c0 : lot t ≤ 0
    · have e0 : lot t = 0 := by
        obtain ⟨w, hw1, e⟩ := hw t htp
        rw [e] at c0 ⊢
        have q := (pk_lLE (b := 0) (by omega) (by omega)).mp c0
        have q' : w = 0 := by omega
        rw [q']; rfl
      refine br_t c0 (nm_r (nI_1 t) (ih (t + 1) rl pd (by omega) (fun s hs => ?_) ?_ o1 o2))
      · show _ = mr_rl lot l s t + (if t - l = s then lot t else 0)
        rw [e0, ite_self, Int64.add_zero, z1 s hs]
      · show _ = mr_pd lot l t + (if t < l then lot t else 0)
        rw [e0, ite_self, Int64.add_zero, z2]
    · refine br_f c0 ⟨vi, ?_⟩
      by_cases c : l ≤ t
      · refine nm_r (e' := nI (t - l)) (by rw [ei, hl, pk_sub c]) (br_t (nI_pos' (by omega)) (yg_467 hi (by omega) ?_))
        refine ih (t + 1) _ _ (by omega) key ?_ (pp_op o1 (by omega)) o2
        show pd i = mr_pd lot l t + (if t < l then lot t else 0)
        rw [if_neg (by omega), z2, Int64.add_zero]
      · refine nm_e (br_f ?_ ⟨vi, vi, nm_r (xh_upL (by omega) rfl) (yg_467 (s := 0) hi (by omega) ?_)⟩)
        · rw [ei, hl]; exact Int32.not_le.mpr (pk_sneg (by omega) (by omega))
        · rw [ei]
          have e0 : t - l = 0 := by omega
          rw [e0] at key
          refine ih (t + 1) _ _ (by omega) key ?_ (pp_op o1 (by omega)) (fun a ha => ?_)
          · rw [pk_uLs, z2]
            show _ = mr_pd lot l t + (if t < l then lot t else 0)
            rw [if_pos (by omega)]
          · rw [pk_uLn ha]; exact o2 a ha
end
end
section
/-! the reference's plan: items, levels, the whole -/
/-- rows not yet planned are zero -/
def yp_Z (n p : Nat) (D : Nat → Prop) (rl pd : Nat → Int64) : Prop := ∀ a, a < n → ¬ D a → pd a = 0 ∧ ∀ t, t < p → rl (a * 16 + t) = 0
def yp_B (n p : Nat) (D : Nat → Prop) (Rl : Nat → Nat → Int64) : Prop := ∀ a, a < n → D a → pp_b p (Rl a)
section
variable {n p m : Nat} {P C U Q Ld L : Nat → Nat} {Gr Ne Pl Rl Pj : Nat → Nat → Int64} {Pd : Nat → Int64} {f_hasPlan f_current : Int32} {a_lead a_rule a_param a_onHand a_demand a_receipt a_ep a_ec a_eu a_lvl a_reach : Nat → Int32} {a_gross a_net a_planned a_release a_projected a_pastDue a_stock : Nat → Int64}
theorem yp_item {post : Int32 → SY → Prop} {i : Nat} {D : Nat → Prop} (hn16 : n ≤ 16) (hp16 : p ≤ 16) (hm : m ≤ 32) (hi : i < n) (E : ye_E n m P C U a_ep a_ec a_eu)
    (W : pp_W n Q Ld a_lead a_rule a_param a_onHand a_demand a_receipt) (Z : pp_P n p m P C U Q Ld a_rule a_onHand a_demand a_receipt Gr Ne Pl Rl Pj Pd)
    (hD : ∀ e, e < m → C e = i → D (P e)) (hDi : ¬ D i) (R : pp_R n p D Gr Ne Pl Rl Pj Pd a_gross a_net a_planned a_release a_projected a_pastDue) (B : yp_B n p D Rl) (Y0 : yp_Z n p D a_release a_pastDue)
    (h1 : ∀ gr' ne' pl' rl' pj' pd', (∀ t, t < p → Gr i t ≤ 1000000000000) → pp_b p (Rl i) →
      (∀ t, t < p → gr' (i * 16 + t) = Gr i t) → (∀ t, t < p → ne' (i * 16 + t) = Ne i t) → (∀ t, t < p → pl' (i * 16 + t) = Pl i t) → (∀ t, t < p → rl' (i * 16 + t) = Rl i t) → (∀ t, t < p → pj' (i * 16 + t) = Pj i t) → pd' i = Pd i →
      pp_o i a_gross gr' → pp_o i a_net ne' → pp_o i a_planned pl' → pp_o i a_release rl' → pp_o i a_projected pj' → (∀ a, a ≠ i → pd' a = a_pastDue a) →
      post 1 ((nI n), (nI p), (nI m), f_hasPlan, f_current, a_lead, a_rule, a_param, a_onHand, a_demand, a_receipt, a_ep, a_ec, a_eu, gr', ne', pl', rl', pj', pd', a_stock, a_lvl, a_reach))
    (h0 : ∀ gr', (∃ t, t < p ∧ ¬ Gr i t ≤ 1000000000000) → post 0 ((nI n), (nI p), (nI m), f_hasPlan, f_current, a_lead, a_rule, a_param, a_onHand, a_demand, a_receipt, a_ep, a_ec, a_eu, gr', a_net, a_planned, a_release, a_projected, a_pastDue, a_stock, a_lvl, a_reach)) : wpY_planItem post ((nI n), (nI p), (nI m), f_hasPlan, f_current, a_lead, a_rule, a_param, a_onHand, a_demand, a_receipt, a_ep, a_ec, a_eu, a_gross, a_net, a_planned, a_release, a_projected, a_pastDue, a_stock, a_lvl, a_reach) (nI i) := by
  obtain ⟨z1, z2, z3, z4, z5, z6⟩ := Z i hi
  obtain ⟨w1, w2, w3, w4, w5, w6⟩ := W.1 i hi
  have hPn : ∀ e, e < m → P e < n := fun e he => (E e he).2.2.2.1
  unfold wpY_planItem
  refine nm_r (e' := nI (i * 16)) (by rw [show (16 : Int32) = nI 16 from rfl, pk_mul]) ⟨p + 1, ?_⟩
  refine yg_7 (g := Gr i) (Rl := Rl) hn16 hp16 hm hi E (fun e t he ht hc => ((R (P e) (hPn e he) (hD e he hc)).2 t ht).2.2.2.1) (fun t ht => (z1 t ht).symm) (fun gr' k1 k2 k3 => ?_) h0 p 0 a_gross (by omega) (fun s hs => absurd hs (by omega)) (pp_or i _)
  obtain ⟨b1, b2⟩ := pp_row hp16 hm hi W (fun e he => (E e he).2.2.2.2.2.2) Z (fun e he hc => B (P e) (hPn e he) (hD e he hc)) k1
  refine yg_124 (q := Q i) (g := Gr i) (rc := pp_rc a_receipt i) (by omega) hp16 k2 (fun _ _ => rfl) w3 w4 w5 w6 (fun ne' pl' pj' n1 n2 n3 o1 o2 o3 => ?_) p 0 a_net a_planned a_projected (by omega) (fun s hs => absurd hs (by omega)) (fun s hs => absurd hs (by omega)) (fun s hs => absurd hs (by omega)) (pp_or i _) (pp_or i _) (pp_or i _)
  refine yg_410 (l := Ld i) (lot := Pl i) (by omega) hp16 w1 w2 (fun s hs => (n2 s hs).trans (z3 s hs).symm) b1 (fun rl' pd' r1 r2 o4 o5 => ?_) p 0 a_release a_pastDue (by omega) (fun s hs => (Y0 i hi hDi).2 s hs) (Y0 i hi hDi).1 (pp_or i _) (fun _ _ => rfl)
  exact h1 gr' ne' pl' rl' pj' pd' k1 b2 k2 (fun t ht => (n1 t ht).trans (z2 t ht).symm) (fun t ht => (n2 t ht).trans (z3 t ht).symm) (fun t ht => (r1 t ht).trans (z4 t ht).symm) (fun t ht => (n3 t ht).trans (z5 t ht).symm) (r2.trans z6.symm) k3 o1 o2 o4 o3 o5
theorem yp_100z {post : Int32 → SY → Prop} {J86 : Int32 → Int32 → Int32 → Int32 → Int32 → Int32 → Int32 → (Nat → Int32) → (Nat → Int32) → (Nat → Int32) → (Nat → Int32) → (Nat → Int32) → (Nat → Int32) → (Nat → Int32) → (Nat → Int32) → (Nat → Int32) → (Nat → Int64) → (Nat → Int64) → (Nat → Int64) → (Nat → Int64) → (Nat → Int64) → (Nat → Int64) → (Nat → Int64) → (Nat → Int32) → (Nat → Int32) → Prop} {lev f : Nat} {x3 : Int32} (h : J86 0 (nI (lev + 1)) (nI n) (nI p) (nI m) f_hasPlan f_current a_lead a_rule a_param a_onHand a_demand a_receipt a_ep a_ec a_eu a_gross a_net a_planned a_release a_projected a_pastDue a_stock a_lvl a_reach) : wY_plan_100 post J86 (nI lev) (f + 1) 0 x3 (nI n) (nI p) (nI m) f_hasPlan f_current a_lead a_rule a_param a_onHand a_demand a_receipt a_ep a_ec a_eu a_gross a_net a_planned a_release a_projected a_pastDue a_stock a_lvl a_reach :=
  br_c (fun _ => nm_r (nI_1 lev) h) (fun _ => br_t rfl (nm_r (nI_1 lev) h))
theorem yp_100 {post : Int32 → SY → Prop} {J86 : Int32 → Int32 → Int32 → Int32 → Int32 → Int32 → Int32 → (Nat → Int32) → (Nat → Int32) → (Nat → Int32) → (Nat → Int32) → (Nat → Int32) → (Nat → Int32) → (Nat → Int32) → (Nat → Int32) → (Nat → Int32) → (Nat → Int64) → (Nat → Int64) → (Nat → Int64) → (Nat → Int64) → (Nat → Int64) → (Nat → Int64) → (Nat → Int64) → (Nat → Int32) → (Nat → Int32) → Prop} {lev : Nat} (hn16 : n ≤ 16) (hp16 : p ≤ 16) (hm : m ≤ 32) (hlev : lev < n) (hL : ∀ e, e < m → L (P e) < L (C e)) (hLn : ∀ a, a < n → L a < n) (E : ye_E n m P C U a_ep a_ec a_eu) (hV : xr_V n a_lvl L)
    (W : pp_W n Q Ld a_lead a_rule a_param a_onHand a_demand a_receipt) (Z : pp_P n p m P C U Q Ld a_rule a_onHand a_demand a_receipt Gr Ne Pl Rl Pj Pd)
    (h1 : ∀ gr ne pl rl pj pd, pp_R n p (pp_D L (lev + 1) 0) Gr Ne Pl Rl Pj Pd gr ne pl rl pj pd → pp_ok n p (pp_D L (lev + 1) 0) Gr → yp_B n p (pp_D L (lev + 1) 0) Rl → yp_Z n p (pp_D L (lev + 1) 0) rl pd → J86 1 (nI (lev + 1)) (nI n) (nI p) (nI m) f_hasPlan f_current a_lead a_rule a_param a_onHand a_demand a_receipt a_ep a_ec a_eu gr ne pl rl pj pd a_stock a_lvl a_reach)
    (h0 : ∀ gr ne pl rl pj pd, (¬ pp_ok n p (fun _ => True) Gr) → J86 0 (nI (lev + 1)) (nI n) (nI p) (nI m) f_hasPlan f_current a_lead a_rule a_param a_onHand a_demand a_receipt a_ep a_ec a_eu gr ne pl rl pj pd a_stock a_lvl a_reach) :
    ∀ d it gr ne pl rl pj pd, it + d = n → pp_R n p (pp_D L lev it) Gr Ne Pl Rl Pj Pd gr ne pl rl pj pd → pp_ok n p (pp_D L lev it) Gr → yp_B n p (pp_D L lev it) Rl → yp_Z n p (pp_D L lev it) rl pd →
      wY_plan_100 post J86 (nI lev) (d + 1) 1 (nI it) (nI n) (nI p) (nI m) f_hasPlan f_current a_lead a_rule a_param a_onHand a_demand a_receipt a_ep a_ec a_eu gr ne pl rl pj pd a_stock a_lvl a_reach := by
  intro d
  induction d with
  | zero =>
    intro it gr ne pl rl pj pd hit R O B Y0
    have e : it = n := by omega
    rw [e] at R O B Y0
    refine br_t (nI_le (by omega) (by omega)) (nm_r (nI_1 lev) (h1 gr ne pl rl pj pd (pp_Rany R fun a ha q => pp_Dn ha q) (fun a ha q => O a ha (pp_Dn ha q)) (fun a ha q => B a ha (pp_Dn ha q)) (fun a ha q => Y0 a ha fun w => q ?_)))
    unfold pp_D at *
    omega
  | succ d ih =>
    intro it gr ne pl rl pj pd hit R O B Y0
    have hi : it < n := by omega
    have el : a_lvl (nI it).toNatClampNeg = nI (L it) := (xh_at (by omega)).trans (hV it hi)
    have hl := hLn it hi
    refine br_f (nI_ge hi (by omega)) (br_f (by decide) ⟨vp_in_nI (by omega) (by omega), ?_⟩)
    by_cases c : L it = lev
    · refine br_t (by rw [el, c]) ?_
      have hDi : ¬ pp_D L lev it it := by unfold pp_D; omega
      refine yp_item (D := pp_D L lev it) hn16 hp16 hm hi E W Z (fun e he hc => Or.inl (by have := hL e he; rw [hc, c] at this; exact this)) hDi R B Y0 (fun gr' ne' pl' rl' pj' pd' k1 k2 r1 r2 r3 r4 r5 r6 o1 o2 o3 o4 o5 o6 => ?_) (fun gr' k1 => ?_)
      · refine nm_r (nI_1 it) (ih (it + 1) gr' ne' pl' rl' pj' pd' (by omega) ?_ ?_ ?_ ?_)
        · exact pp_Rput hp16 R o1 o2 o3 o4 o5 o6 r1 r2 r3 r4 r5 r6 (fun a q => (pp_Ds q).imp id (fun w => w.1))
        · intro a ha q t ht
          rcases pp_Ds q with q | q
          · exact O a ha q t ht
          · rw [q.1]; exact k1 t ht
        · intro a ha q
          rcases pp_Ds q with q | q
          · exact B a ha q
          · rw [q.1]; exact k2
        · intro a ha q
          have hne : a ≠ it := by
            intro e
            apply q
            unfold pp_D
            subst e
            omega
          have q' : ¬ pp_D L lev it a := by
            intro w
            apply q
            unfold pp_D at *
            omega
          obtain ⟨y1, y2⟩ := Y0 a ha q'
          exact ⟨(o6 a hne).trans y1, fun t ht => (o4 a t hne (by omega)).trans (y2 t ht)⟩
      · obtain ⟨t, ht, q⟩ := k1
        refine nm_r (nI_1 it) (yp_100z (h0 gr' ne pl rl pj pd fun w => q (w it hi trivial t ht)))
    · refine br_f (fun q => c ?_) (nm_r (nI_1 it) (ih (it + 1) gr ne pl rl pj pd (by omega) (pp_Rany R fun a _ q => ?_) (fun a ha q => O a ha ?_) (fun a ha q => B a ha ?_) (fun a ha q => Y0 a ha fun w => q ?_)))
      · rw [el] at q
        exact (nI_eq (by omega) (by omega)).mp q
      · exact (pp_Ds q).resolve_right fun w => c w.2
      · exact (pp_Ds q).resolve_right fun w => c w.2
      · exact (pp_Ds q).resolve_right fun w => c w.2
      · unfold pp_D at *; omega
theorem yp_163 {post : Int32 → SY → Prop} (hn16 : n ≤ 16) (h : ∀ st', (∀ i, i < n → st' i = (a_onHand i).toInt64) → post 0 ((nI n), (nI p), (nI m), f_hasPlan, f_current, a_lead, a_rule, a_param, a_onHand, a_demand, a_receipt, a_ep, a_ec, a_eu, a_gross, a_net, a_planned, a_release, a_projected, a_pastDue, st', a_lvl, a_reach)) :
    ∀ d i st, i + d = n → (∀ j, j < i → st j = (a_onHand j).toInt64) → wY_plan_163 post (nI n) (nI p) (nI m) f_hasPlan f_current (d + 1) (nI i) a_lead a_rule a_param a_onHand a_demand a_receipt a_ep a_ec a_eu a_gross a_net a_planned a_release a_projected a_pastDue st a_lvl a_reach := by
  intro d
  induction d with
  | zero =>
    intro i st hi hz
    exact br_t (nI_le (by omega) (by omega)) (h st fun j hj => hz j (by omega))
  | succ d ih =>
    intro i st hi hz
    have vi : vp_in (nI i) 16 := vp_in_nI (by omega) (by omega)
    refine br_f (nI_ge (by omega) (by omega)) ⟨vi, vi, nm_r (xh_upL (y := (a_onHand i).toInt64) (by omega) (by rw [nI_clamp (by omega)])) (nm_r (nI_1 i) (ih (i + 1) _ (by omega) fun j hj => ?_))⟩
    by_cases e : j = i
    · rw [e, pk_uLs]
    · rw [pk_uLn e]; exact hz j (by omega)
theorem yp_140z {post : Int32 → SY → Prop} (h : post (-4) ((nI n), (nI p), (nI m), 0, (-1), a_lead, a_rule, a_param, a_onHand, a_demand, a_receipt, a_ep, a_ec, a_eu, a_gross, a_net, a_planned, a_release, a_projected, a_pastDue, a_stock, a_lvl, a_reach)) : wY_plan_140 post 0 (nI n) (nI p) (nI m) f_hasPlan f_current a_lead a_rule a_param a_onHand a_demand a_receipt a_ep a_ec a_eu a_gross a_net a_planned a_release a_projected a_pastDue a_stock a_lvl a_reach := by
  unfold wY_plan_140
  refine br_t rfl ?_
  unfold wpY_discard
  exact h
theorem yp_86z {post : Int32 → SY → Prop} {f : Nat} {x2 : Int32} (h : post (-4) ((nI n), (nI p), (nI m), 0, (-1), a_lead, a_rule, a_param, a_onHand, a_demand, a_receipt, a_ep, a_ec, a_eu, a_gross, a_net, a_planned, a_release, a_projected, a_pastDue, a_stock, a_lvl, a_reach)) : wY_plan_86 post (f + 1) 0 x2 (nI n) (nI p) (nI m) f_hasPlan f_current a_lead a_rule a_param a_onHand a_demand a_receipt a_ep a_ec a_eu a_gross a_net a_planned a_release a_projected a_pastDue a_stock a_lvl a_reach :=
  br_c (fun _ => yp_140z h) (fun _ => br_t rfl (yp_140z h))
theorem yp_86 {post : Int32 → SY → Prop} (hn16 : n ≤ 16) (hp16 : p ≤ 16) (hm : m ≤ 32) (hL : ∀ e, e < m → L (P e) < L (C e)) (hLn : ∀ a, a < n → L a < n) (E : ye_E n m P C U a_ep a_ec a_eu) (hV : xr_V n a_lvl L)
    (W : pp_W n Q Ld a_lead a_rule a_param a_onHand a_demand a_receipt) (Z : pp_P n p m P C U Q Ld a_rule a_onHand a_demand a_receipt Gr Ne Pl Rl Pj Pd)
    (h1 : ∀ gr ne pl rl pj pd st, pp_R n p (fun _ => True) Gr Ne Pl Rl Pj Pd gr ne pl rl pj pd → pp_ok n p (fun _ => True) Gr → (∀ i, i < n → st i = (a_onHand i).toInt64) → post 0 ((nI n), (nI p), (nI m), 1, 0, a_lead, a_rule, a_param, a_onHand, a_demand, a_receipt, a_ep, a_ec, a_eu, gr, ne, pl, rl, pj, pd, st, a_lvl, a_reach))
    (h0 : ∀ gr ne pl rl pj pd, (¬ pp_ok n p (fun _ => True) Gr) → post (-4) ((nI n), (nI p), (nI m), 0, (-1), a_lead, a_rule, a_param, a_onHand, a_demand, a_receipt, a_ep, a_ec, a_eu, gr, ne, pl, rl, pj, pd, a_stock, a_lvl, a_reach)) :
    ∀ d lev gr ne pl rl pj pd, lev + d = n → pp_R n p (pp_D L lev 0) Gr Ne Pl Rl Pj Pd gr ne pl rl pj pd → pp_ok n p (pp_D L lev 0) Gr → yp_B n p (pp_D L lev 0) Rl → yp_Z n p (pp_D L lev 0) rl pd →
      wY_plan_86 post (d + 1) 1 (nI lev) (nI n) (nI p) (nI m) f_hasPlan f_current a_lead a_rule a_param a_onHand a_demand a_receipt a_ep a_ec a_eu gr ne pl rl pj pd a_stock a_lvl a_reach := by
  intro d
  induction d with
  | zero =>
    intro lev gr ne pl rl pj pd hlev R O B Y0
    have e : lev = n := by omega
    rw [e] at R O
    refine br_t (nI_le (by omega) (by omega)) ?_
    unfold wY_plan_140
    refine br_f (by decide) ⟨n + 1, ?_⟩
    refine yp_163 hn16 (fun st' hs => ?_) n 0 a_stock (by omega) (fun j hj => absurd hj (by omega))
    exact h1 gr ne pl rl pj pd st' (pp_Rany R fun a ha _ => Or.inl (hLn a ha)) (fun a ha _ => O a ha (Or.inl (hLn a ha))) hs
  | succ d ih =>
    intro lev gr ne pl rl pj pd hlev R O B Y0
    refine br_f (nI_ge (by omega) (by omega)) (br_f (by decide) ⟨n + 1, ?_⟩)
    refine yp_100 hn16 hp16 hm (by omega) hL hLn E hV W Z (fun gr' ne' pl' rl' pj' pd' R' O' B' Y' => ?_) (fun gr' ne' pl' rl' pj' pd' q => ?_) n 0 gr ne pl rl pj pd (by omega) R O B Y0
    · exact ih (lev + 1) gr' ne' pl' rl' pj' pd' (by omega) R' O' B' Y'
    · exact yp_86z (h0 gr' ne' pl' rl' pj' pd' q)
theorem yp_52 {post : Int32 → SY → Prop} (hn16 : n ≤ 16) (hp16 : p ≤ 16) (hm : m ≤ 32) (T : mg_T n (ye_G m P C) L) (E : ye_E n m P C U a_ep a_ec a_eu)
    (W : pp_W n Q Ld a_lead a_rule a_param a_onHand a_demand a_receipt) (Z : pp_P n p m P C U Q Ld a_rule a_onHand a_demand a_receipt Gr Ne Pl Rl Pj Pd)
    (h1 : ∀ gr ne pl rl pj pd st lv, pp_R n p (fun _ => True) Gr Ne Pl Rl Pj Pd gr ne pl rl pj pd → pp_ok n p (fun _ => True) Gr → (∀ i, i < n → st i = (a_onHand i).toInt64) → post 0 ((nI n), (nI p), (nI m), 1, 0, a_lead, a_rule, a_param, a_onHand, a_demand, a_receipt, a_ep, a_ec, a_eu, gr, ne, pl, rl, pj, pd, st, lv, a_reach))
    (h0 : ∀ gr ne pl rl pj pd st lv, (¬ pp_ok n p (fun _ => True) Gr) → post (-4) ((nI n), (nI p), (nI m), 0, (-1), a_lead, a_rule, a_param, a_onHand, a_demand, a_receipt, a_ep, a_ec, a_eu, gr, ne, pl, rl, pj, pd, st, lv, a_reach))
    (hz : ∀ j, j < 256 → a_release j = 0) :
    ∀ d i pd st, i + d = 16 → (∀ j, j < i → pd j = 0) → wY_plan_52 post (nI n) (nI p) (nI m) f_hasPlan f_current (d + 1) (nI i) a_lead a_rule a_param a_onHand a_demand a_receipt a_ep a_ec a_eu a_gross a_net a_planned a_release a_projected pd st a_lvl a_reach := by
  intro d
  induction d with
  | zero =>
    intro i pd st hi hp
    refine br_t (nI_le (a := 16) (by omega) (by omega)) (yl_comp hn16 hm T E (fun lv' hv => ⟨n + 1, ?_⟩))
    refine yp_86 hn16 hp16 hm (fun e he => T.1 _ _ ⟨e, he, rfl, rfl⟩) T.2.2 E hv W Z (fun gr ne pl rl pj pd st R O S => h1 gr ne pl rl pj pd st lv' R O S) (fun gr ne pl rl pj pd q => h0 gr ne pl rl pj pd st lv' q) n 0 a_gross a_net a_planned a_release a_projected pd (by omega)
      (fun a _ q => (pp_D0 q).elim) (fun a _ q => (pp_D0 q).elim) (fun a _ q => (pp_D0 q).elim) (fun a ha _ => ⟨hp a (by omega), fun t ht => hz _ (by omega)⟩)
  | succ d ih =>
    intro i pd st hi hp
    have vi : vp_in (nI i) 16 := vp_in_nI (by omega) (by omega)
    refine br_f (nI_ge (b := 16) (by omega) (by omega)) ⟨vi, nm_r (xh_upL (by omega) rfl) ⟨vi, nm_r (xh_upL (by omega) rfl) (nm_r (nI_1 i) (ih (i + 1) _ _ (by omega) fun j hj => ?_))⟩⟩
    by_cases e : j = i
    · rw [e, pk_uLs]
    · rw [pk_uLn e]; exact hp j (by omega)
theorem yp_2 {post : Int32 → SY → Prop} (hn16 : n ≤ 16) (hp16 : p ≤ 16) (hm : m ≤ 32) (T : mg_T n (ye_G m P C) L) (E : ye_E n m P C U a_ep a_ec a_eu)
    (W : pp_W n Q Ld a_lead a_rule a_param a_onHand a_demand a_receipt) (Z : pp_P n p m P C U Q Ld a_rule a_onHand a_demand a_receipt Gr Ne Pl Rl Pj Pd)
    (h1 : ∀ gr ne pl rl pj pd st lv, pp_R n p (fun _ => True) Gr Ne Pl Rl Pj Pd gr ne pl rl pj pd → pp_ok n p (fun _ => True) Gr → (∀ i, i < n → st i = (a_onHand i).toInt64) → post 0 ((nI n), (nI p), (nI m), 1, 0, a_lead, a_rule, a_param, a_onHand, a_demand, a_receipt, a_ep, a_ec, a_eu, gr, ne, pl, rl, pj, pd, st, lv, a_reach))
    (h0 : ∀ gr ne pl rl pj pd st lv, (¬ pp_ok n p (fun _ => True) Gr) → post (-4) ((nI n), (nI p), (nI m), 0, (-1), a_lead, a_rule, a_param, a_onHand, a_demand, a_receipt, a_ep, a_ec, a_eu, gr, ne, pl, rl, pj, pd, st, lv, a_reach)) :
    ∀ d i gr ne pl rl pj, i + d = 256 → (∀ j, j < i → rl j = 0) → wY_plan_2 post (nI n) (nI p) (nI m) f_hasPlan f_current (d + 1) (nI i) a_lead a_rule a_param a_onHand a_demand a_receipt a_ep a_ec a_eu gr ne pl rl pj a_pastDue a_stock a_lvl a_reach := by
  intro d
  induction d with
  | zero =>
    intro i gr ne pl rl pj hi hz
    refine br_t (nI_le (a := 256) (by omega) (by omega)) ⟨17, ?_⟩
    exact yp_52 hn16 hp16 hm T E W Z h1 h0 (fun j hj => hz j (by omega)) 16 0 a_pastDue a_stock (by omega) (fun j hj => absurd hj (by omega))
  | succ d ih =>
    intro i gr ne pl rl pj hi hz
    have vi : vp_in (nI i) 256 := vp_in_nI (by omega) (by omega)
    refine br_f (nI_ge (b := 256) (by omega) (by omega)) ⟨vi, nm_r (xh_upL (by omega) rfl) ⟨vi, nm_r (xh_upL (by omega) rfl) ⟨vi, nm_r (xh_upL (by omega) rfl) ⟨vi, nm_r (xh_upL (by omega) rfl) ⟨vi, nm_r (xh_upL (by omega) rfl) (nm_r (nI_1 i) (ih (i + 1) _ _ _ _ _ (by omega) fun j hj => ?_))⟩⟩⟩⟩⟩
    by_cases e : j = i
    · rw [e, pk_uLs]
    · rw [pk_uLn e]; exact hz j (by omega)
/-- the reference's plan -/
theorem yp_plan {post : Int32 → SY → Prop} (hn16 : n ≤ 16) (hp16 : p ≤ 16) (hm : m ≤ 32) (T : mg_T n (ye_G m P C) L) (E : ye_E n m P C U a_ep a_ec a_eu)
    (W : pp_W n Q Ld a_lead a_rule a_param a_onHand a_demand a_receipt) (Z : pp_P n p m P C U Q Ld a_rule a_onHand a_demand a_receipt Gr Ne Pl Rl Pj Pd)
    (h1 : ∀ gr ne pl rl pj pd st lv, pp_R n p (fun _ => True) Gr Ne Pl Rl Pj Pd gr ne pl rl pj pd → pp_ok n p (fun _ => True) Gr → (∀ i, i < n → st i = (a_onHand i).toInt64) → post 0 ((nI n), (nI p), (nI m), 1, 0, a_lead, a_rule, a_param, a_onHand, a_demand, a_receipt, a_ep, a_ec, a_eu, gr, ne, pl, rl, pj, pd, st, lv, a_reach))
    (h0 : ∀ gr ne pl rl pj pd st lv, (¬ pp_ok n p (fun _ => True) Gr) → post (-4) ((nI n), (nI p), (nI m), 0, (-1), a_lead, a_rule, a_param, a_onHand, a_demand, a_receipt, a_ep, a_ec, a_eu, gr, ne, pl, rl, pj, pd, st, lv, a_reach)) : wpY_plan post ((nI n), (nI p), (nI m), f_hasPlan, f_current, a_lead, a_rule, a_param, a_onHand, a_demand, a_receipt, a_ep, a_ec, a_eu, a_gross, a_net, a_planned, a_release, a_projected, a_pastDue, a_stock, a_lvl, a_reach) := by
  unfold wpY_plan
  exact ⟨257, yp_2 hn16 hp16 hm T E W Z h1 h0 256 0 a_gross a_net a_planned a_release a_projected (by omega) (fun j hj => absurd hj (by omega))⟩
end
end
section
/-! the relation -/
def rl_S (n p m : Nat) (P C U Q Ld L : Nat → Nat) (led rul par onH dem rcp us lv ep ec eu : Nat → Int32) : Prop :=
  1 ≤ n ∧ n ≤ 16 ∧ 4 ≤ p ∧ p ≤ 16 ∧ m ≤ 32 ∧ ye_E n m P C U ep ec eu ∧ xr_M n m P C U us ∧ mg_T n (ye_G m P C) L ∧ xr_V n lv L ∧ pp_W n Q Ld led rul par onH dem rcp
def rl_C (n p m : Nat) (P C U : Nat → Nat) (dem : Nat → Int32) (xgr xne xpl xrl xpj xpd xst ygr yne ypl yrl ypj ypd yst : Nat → Int64) : Prop :=
  ∀ i, i < n → xpd i = ypd i ∧ xst i = yst i ∧ ∀ t, t < p → xgr (i * 16 + t) = ygr (i * 16 + t) ∧ xne (i * 16 + t) = yne (i * 16 + t) ∧ xpl (i * 16 + t) = ypl (i * 16 + t) ∧ xrl (i * 16 + t) = yrl (i * 16 + t) ∧ xpj (i * 16 + t) = ypj (i * 16 + t) ∧
    xgr (i * 16 + t) = (dem (i * 16 + t)).toInt64 + ms_s (fun e => if C e = i then lN (U e) * yrl (P e * 16 + t) else 0) m
def rl_P (n p m : Nat) (P C U : Nat → Nat) (dem : Nat → Int32) (cu hp : Int32) (xgr xne xpl xrl xpj xpd xst ygr yne ypl yrl ypj ypd yst : Nat → Int64) : Prop :=
  (hp = 0 ∧ cu = -1) ∨ (hp = 1 ∧ ∃ c, c ≤ p ∧ cu = nI c ∧ rl_C n p m P C U dem xgr xne xpl xrl xpj xpd xst ygr yne ypl yrl ypj ypd yst)
def i_Rel (_ : Nat) (u : SX) (v : SY) : Prop :=
  ∃ (n p m : Nat) (P C U Q Ld L : Nat → Nat) (cu hp : Int32) (a_leads a_rules a_params a_onHands a_demands a_receipts a_usages a_levels a_reached a_ep a_ec a_eu a_lvl a_reach : Nat → Int32) (xgr xne xpl xrl xpj xpd xst ygr yne ypl yrl ypj ypd yst : Nat → Int64),
    u = ((nI n), (nI p), (nI m), cu, a_leads, a_rules, a_params, a_onHands, a_demands, a_receipts, a_usages, a_levels, a_reached, xgr, xne, xpl, xrl, xpj, xpd, xst) ∧ v = ((nI n), (nI p), (nI m), hp, cu, a_leads, a_rules, a_params, a_onHands, a_demands, a_receipts, a_ep, a_ec, a_eu, ygr, yne, ypl, yrl, ypj, ypd, yst, a_lvl, a_reach) ∧ rl_S n p m P C U Q Ld L a_leads a_rules a_params a_onHands a_demands a_receipts a_usages a_levels a_ep a_ec a_eu ∧ rl_P n p m P C U a_demands cu hp xgr xne xpl xrl xpj xpd xst ygr yne ypl yrl ypj ypd yst
section
variable {k n p m : Nat} {P C U Q Ld L : Nat → Nat} {cu hp : Int32} {a_leads a_rules a_params a_onHands a_demands a_receipts a_usages a_levels a_reached a_ep a_ec a_eu a_lvl a_reach : Nat → Int32} {xgr xne xpl xrl xpj xpd xst ygr yne ypl yrl ypj ypd yst : Nat → Int64}
theorem rl_mk (S : rl_S n p m P C U Q Ld L a_leads a_rules a_params a_onHands a_demands a_receipts a_usages a_levels a_ep a_ec a_eu) (H : rl_P n p m P C U a_demands cu hp xgr xne xpl xrl xpj xpd xst ygr yne ypl yrl ypj ypd yst) : i_Rel k ((nI n), (nI p), (nI m), cu, a_leads, a_rules, a_params, a_onHands, a_demands, a_receipts, a_usages, a_levels, a_reached, xgr, xne, xpl, xrl, xpj, xpd, xst) ((nI n), (nI p), (nI m), hp, cu, a_leads, a_rules, a_params, a_onHands, a_demands, a_receipts, a_ep, a_ec, a_eu, ygr, yne, ypl, yrl, ypj, ypd, yst, a_lvl, a_reach) :=
  ⟨n, p, m, P, C, U, Q, Ld, L, cu, hp, a_leads, a_rules, a_params, a_onHands, a_demands, a_receipts, a_usages, a_levels, a_reached, a_ep, a_ec, a_eu, a_lvl, a_reach, xgr, xne, xpl, xrl, xpj, xpd, xst, ygr, yne, ypl, yrl, ypj, ypd, yst, rfl, rfl, S, H⟩
end
theorem i_up {k : Nat} {u : SX} {v : SY} (h : i_Rel k u v) : i_Rel (k + 5) u v := h
/-! the component's small methods -/
section
variable {n p : Nat} {f_edgeCount f_current : Int32} {a_leads a_rules a_params a_onHands a_demands a_receipts a_usages a_levels a_reached : Nat → Int32} {a_gross a_net a_planned a_release a_projected a_pastDue a_stock : Nat → Int64}
theorem xa_item0 {post : Int32 → Prop} {x : Int32} (h : x < 0 ∨ nI n ≤ x) (q : post 0) : wpX_isItem post ((nI n), (nI p), f_edgeCount, f_current, a_leads, a_rules, a_params, a_onHands, a_demands, a_receipts, a_usages, a_levels, a_reached, a_gross, a_net, a_planned, a_release, a_projected, a_pastDue, a_stock) x := by
  unfold wpX_isItem
  exact br_c (fun _ => q) (fun a => br_t (h.resolve_left a) q)
theorem xa_item1 {post : Int32 → Prop} {j : Nat} (hn16 : n ≤ 16) (h : j < n) (q : post 1) : wpX_isItem post ((nI n), (nI p), f_edgeCount, f_current, a_leads, a_rules, a_params, a_onHands, a_demands, a_receipts, a_usages, a_levels, a_reached, a_gross, a_net, a_planned, a_release, a_projected, a_pastDue, a_stock) (nI j) := by
  unfold wpX_isItem
  exact br_f (nI_pos (by omega)) (br_f (nI_ge h (by omega)) q)
theorem xa_per0 {post : Int32 → Prop} {x : Int32} (h : x < 0 ∨ nI p ≤ x) (q : post 0) : wpX_isPeriod post ((nI n), (nI p), f_edgeCount, f_current, a_leads, a_rules, a_params, a_onHands, a_demands, a_receipts, a_usages, a_levels, a_reached, a_gross, a_net, a_planned, a_release, a_projected, a_pastDue, a_stock) x := by
  unfold wpX_isPeriod
  exact br_c (fun _ => q) (fun a => br_t (h.resolve_left a) q)
theorem xa_per1 {post : Int32 → Prop} {j : Nat} (hp16 : p ≤ 16) (h : j < p) (q : post 1) : wpX_isPeriod post ((nI n), (nI p), f_edgeCount, f_current, a_leads, a_rules, a_params, a_onHands, a_demands, a_receipts, a_usages, a_levels, a_reached, a_gross, a_net, a_planned, a_release, a_projected, a_pastDue, a_stock) (nI j) := by
  unfold wpX_isPeriod
  exact br_f (nI_pos (by omega)) (br_f (nI_ge h (by omega)) q)
theorem xa_plan0 {post : Int32 → Prop} (h : f_current = -1) (q : post 0) : wpX_hasPlan post ((nI n), (nI p), f_edgeCount, f_current, a_leads, a_rules, a_params, a_onHands, a_demands, a_receipts, a_usages, a_levels, a_reached, a_gross, a_net, a_planned, a_release, a_projected, a_pastDue, a_stock) := by
  unfold wpX_hasPlan
  exact br_t h q
theorem xa_plan1 {post : Int32 → Prop} (h : ¬ f_current = -1) (q : post 1) : wpX_hasPlan post ((nI n), (nI p), f_edgeCount, f_current, a_leads, a_rules, a_params, a_onHands, a_demands, a_receipts, a_usages, a_levels, a_reached, a_gross, a_net, a_planned, a_release, a_projected, a_pastDue, a_stock) := by
  unfold wpX_hasPlan
  exact br_f h q
end
theorem xa_in0 {post : Int32 → Prop} {x lo hi : Int32} (h : x < lo ∨ hi < x) (q : post 0) : wpX_isWithin post x lo hi := by
  unfold wpX_isWithin
  exact br_c (fun _ => q) (fun a => br_t (h.resolve_left a) q)
theorem xa_in1 {post : Int32 → Prop} {x lo hi : Int32} (h1 : ¬ x < lo) (h2 : ¬ hi < x) (q : post 1) : wpX_isWithin post x lo hi := by
  unfold wpX_isWithin
  exact br_f h1 (br_f h2 q)
theorem xa_nn {n : Nat} {x : Int32} (hn : n ≤ 16) (h : nI n ≤ x) : ¬ x < 0 := by
  intro q
  have a := Int32.lt_of_lt_of_le q (Int32.le_trans (nI_pos' (n := n) (by omega)) h)
  exact Int32.lt_irrefl a
theorem xa_nge {n j : Nat} (hn : n ≤ 16) (h : j < n) : ¬ nI n ≤ nI j := nI_ge h (by omega)
theorem xa_mone {c : Nat} (h : c ≤ 16) : ¬ nI c = -1 := by
  intro q
  have a := nI_pos (n := c) (by omega)
  rw [q] at a
  exact a (by decide)
/-! the constructors -/
theorem vc_clamp (x : Int32) (lo hi : Nat) (h : lo ≤ hi) (h16 : hi ≤ 16) : ∃ j, lo ≤ j ∧ j ≤ hi ∧ (∀ post : Int32 → Prop, post (nI j) → wpX_clamp post x (nI lo) (nI hi)) ∧
    (∀ A : Int32 → Prop, A (nI j) → ((nI lo ≤ x → ((x ≤ nI hi → A x) ∧ (¬ x ≤ nI hi → A (nI hi)))) ∧ (¬ nI lo ≤ x → A (nI lo)))) := by
  by_cases a : nI lo ≤ x
  · by_cases b : x ≤ nI hi
    · have hx : ¬ x < 0 := xa_nn (by omega) a
      obtain ⟨j, hj, rfl⟩ := nI_of hx
      rw [nI_leI (by omega) hj] at a
      rw [nI_leI hj (by omega)] at b
      refine ⟨j, a, b, fun post q => ?_, fun A q => ?_⟩
      · unfold wpX_clamp
        exact br_t (nI_le a hj) (br_t (nI_le b (by omega)) q)
      · exact br_t (nI_le a hj) (br_t (nI_le b (by omega)) q)
    · refine ⟨hi, h, Nat.le_refl _, fun post q => ?_, fun A q => ?_⟩
      · unfold wpX_clamp
        exact br_t a (br_f b q)
      · exact br_t a (br_f b q)
  · refine ⟨lo, Nat.le_refl _, h, fun post q => ?_, fun A q => ?_⟩
    · unfold wpX_clamp
      exact br_f a q
    · exact br_f a q
theorem vc_zero {k n p : Nat} (h1 : 1 ≤ n) (h2 : n ≤ 16) (h3 : 4 ≤ p) (h4 : p ≤ 16) :
    i_Rel k (nI n, nI p, 0, (-1), (fun _ => 0), (fun _ => 0), (fun _ => 0), (fun _ => 0), (fun _ => 0), (fun _ => 0), (fun _ => 0), (fun _ => 0), (fun _ => 0), (fun _ => 0), (fun _ => 0), (fun _ => 0), (fun _ => 0), (fun _ => 0), (fun _ => 0), (fun _ => 0))
      (nI n, nI p, 0, 0, (-1), (fun _ => 0), (fun _ => 0), (fun _ => 0), (fun _ => 0), (fun _ => 0), (fun _ => 0), (fun _ => 0), (fun _ => 0), (fun _ => 0), (fun _ => 0), (fun _ => 0), (fun _ => 0), (fun _ => 0), (fun _ => 0), (fun _ => 0), (fun _ => 0), (fun _ => 0), (fun _ => 0)) := by
  refine rl_mk (m := 0) (P := fun _ => 0) (C := fun _ => 0) (U := fun _ => 0) (Q := fun _ => 0) (Ld := fun _ => 0) (L := fun _ => 0) ?_ (Or.inl ⟨rfl, rfl⟩)
  refine ⟨h1, h2, h3, h4, by omega, fun e he => absurd he (by omega), ⟨fun e he => absurd he (by omega), fun _ _ _ _ _ => rfl, fun e _ he => absurd he (by omega)⟩, ⟨fun a b g => (ye_G0 g).elim, fun b _ => Or.inl rfl, fun b hb => (show 0 < n from by omega)⟩, fun i _ => rfl, ?_⟩
  exact ⟨fun i _ => ⟨rfl, Nat.zero_le 8, rfl, Nat.zero_le 10000, fun q => absurd q (show ¬ (0 : Int32) = 1 from by decide), fun q => absurd q (show ¬ (0 : Int32) = 2 from by decide)⟩, fun _ => ⟨0, by omega, rfl⟩, fun _ => ⟨0, by omega, rfl⟩, fun _ => ⟨0, by omega, rfl⟩⟩
theorem i_vc0 (k0 : Int32) (k1 : Int32) : wpX_init (fun u => wpY_init (fun v => i_Rel 2 u v) k0 k1) k0 k1 := by
  obtain ⟨n, h1, h2, x0, y0⟩ := vc_clamp k0 1 16 (by omega) (by omega)
  obtain ⟨p, h3, h4, x1, y1⟩ := vc_clamp k1 4 16 (by omega) (by omega)
  unfold wpX_init
  refine x0 _ (x1 _ ?_)
  show wpY_init (fun v => i_Rel 2 (nI n, nI p, 0, (-1), (fun _ => 0), (fun _ => 0), (fun _ => 0), (fun _ => 0), (fun _ => 0), (fun _ => 0), (fun _ => 0), (fun _ => 0), (fun _ => 0), (fun _ => 0), (fun _ => 0), (fun _ => 0), (fun _ => 0), (fun _ => 0), (fun _ => 0), (fun _ => 0)) v) k0 k1
  unfold wpY_init
  refine y0 (fun z => wY_init_177 (fun v => i_Rel 2 (nI n, nI p, 0, (-1), (fun _ => 0), (fun _ => 0), (fun _ => 0), (fun _ => 0), (fun _ => 0), (fun _ => 0), (fun _ => 0), (fun _ => 0), (fun _ => 0), (fun _ => 0), (fun _ => 0), (fun _ => 0), (fun _ => 0), (fun _ => 0), (fun _ => 0), (fun _ => 0)) v) k1 z 0 0 0 0 0 (fun _ => 0) (fun _ => 0) (fun _ => 0) (fun _ => 0) (fun _ => 0) (fun _ => 0) (fun _ => 0) (fun _ => 0) (fun _ => 0) (fun _ => 0) (fun _ => 0) (fun _ => 0) (fun _ => 0) (fun _ => 0) (fun _ => 0) (fun _ => 0) (fun _ => 0) (fun _ => 0)) ?_
  show wY_init_177 (fun v => i_Rel 2 (nI n, nI p, 0, (-1), (fun _ => 0), (fun _ => 0), (fun _ => 0), (fun _ => 0), (fun _ => 0), (fun _ => 0), (fun _ => 0), (fun _ => 0), (fun _ => 0), (fun _ => 0), (fun _ => 0), (fun _ => 0), (fun _ => 0), (fun _ => 0), (fun _ => 0), (fun _ => 0)) v) k1 (nI n) 0 0 0 0 0 (fun _ => 0) (fun _ => 0) (fun _ => 0) (fun _ => 0) (fun _ => 0) (fun _ => 0) (fun _ => 0) (fun _ => 0) (fun _ => 0) (fun _ => 0) (fun _ => 0) (fun _ => 0) (fun _ => 0) (fun _ => 0) (fun _ => 0) (fun _ => 0) (fun _ => 0) (fun _ => 0)
  unfold wY_init_177
  exact y1 (fun z => i_Rel 2 (nI n, nI p, 0, (-1), (fun _ => 0), (fun _ => 0), (fun _ => 0), (fun _ => 0), (fun _ => 0), (fun _ => 0), (fun _ => 0), (fun _ => 0), (fun _ => 0), (fun _ => 0), (fun _ => 0), (fun _ => 0), (fun _ => 0), (fun _ => 0), (fun _ => 0), (fun _ => 0)) (nI n, z, 0, 0, (-1), (fun _ => 0), (fun _ => 0), (fun _ => 0), (fun _ => 0), (fun _ => 0), (fun _ => 0), (fun _ => 0), (fun _ => 0), (fun _ => 0), (fun _ => 0), (fun _ => 0), (fun _ => 0), (fun _ => 0), (fun _ => 0), (fun _ => 0), (fun _ => 0), (fun _ => 0), (fun _ => 0))) (vc_zero h1 h2 h3 h4)
end
section
/-! the owed statements of the small methods -/
theorem wr_q {f : Nat → Int32} {b : Nat} {x : Int32} {w : Nat} (hw : w ≤ 100000) (hx : x = nI w) (h : ∀ k, ∃ w, w ≤ 100000 ∧ f k = nI w) : ∀ k, ∃ w, w ≤ 100000 ∧ upd f b x k = nI w := by
  intro k
  by_cases e : k = b
  · rw [e, pk_us]; exact ⟨w, hw, hx⟩
  · rw [pk_un e]; exact h k
theorem wr_of {x : Int32} {c : Nat} (hc : c < 2 ^ 31) (h0 : ¬ x < 0) (h : x ≤ nI c) : ∃ w, w ≤ c ∧ x = nI w := by
  obtain ⟨w, hw, rfl⟩ := nI_of h0
  exact ⟨w, (nI_leI hw hc).mp h, rfl⟩
theorem i_vc_getCount {k : Nat} {u : SX} {v : SY} (I : i_Rel k u v) (hk : k + 5 ≤ 2562) (v1 : Int32) : wpX_getCount (fun r => wpY_getCount (fun r' => r' = r ∧ i_Rel (k + 5) u v) v v1) u v1 := by
  have J : i_Rel (k + 5) u v := i_up I
  obtain ⟨n, p, m, P, C, U, Q, Ld, L, cu, hp, a_leads, a_rules, a_params, a_onHands, a_demands, a_receipts, a_usages, a_levels, a_reached, a_ep, a_ec, a_eu, a_lvl, a_reach, xgr, xne, xpl, xrl, xpj, xpd, xst, ygr, yne, ypl, yrl, ypj, ypd, yst, rfl, rfl, S, H⟩ := I
  unfold wpX_getCount
  dsimp only
  by_cases c0 : v1 = 0
  · subst c0
    exact br_f (by decide) (br_f (by decide) (br_t rfl (br_t rfl ⟨rfl, J⟩)))
  · by_cases c1 : v1 = 1
    · subst c1
      exact br_f (by decide) (br_f (by decide) (br_f c0 (br_t rfl (br_f c0 (br_t rfl ⟨rfl, J⟩)))))
    · by_cases c2 : v1 = 2
      · subst c2
        exact br_f (by decide) (br_f (by decide) (br_f c0 (br_f c1 (br_t rfl (br_f c0 (br_f c1 (br_t rfl ⟨rfl, J⟩)))))))
      · by_cases c3 : v1 = 3
        · subst c3
          exact br_f (by decide) (br_f (by decide) (br_f c0 (br_f c1 (br_f c2 (br_t rfl (br_f c0 (br_f c1 (br_f c2 (br_t rfl ⟨rfl, J⟩)))))))))
        · have y : wpY_getCount (fun r' => r' = 0 ∧ i_Rel (k + 5) ((nI n), (nI p), (nI m), cu, a_leads, a_rules, a_params, a_onHands, a_demands, a_receipts, a_usages, a_levels, a_reached, xgr, xne, xpl, xrl, xpj, xpd, xst) ((nI n), (nI p), (nI m), hp, cu, a_leads, a_rules, a_params, a_onHands, a_demands, a_receipts, a_ep, a_ec, a_eu, ygr, yne, ypl, yrl, ypj, ypd, yst, a_lvl, a_reach)) ((nI n), (nI p), (nI m), hp, cu, a_leads, a_rules, a_params, a_onHands, a_demands, a_receipts, a_ep, a_ec, a_eu, ygr, yne, ypl, yrl, ypj, ypd, yst, a_lvl, a_reach) v1 := br_f c0 (br_f c1 (br_f c2 (br_f c3 ⟨rfl, J⟩)))
          exact br_c (fun _ => y) (fun _ => br_c (fun _ => y) (fun _ => br_f c0 (br_f c1 (br_f c2 (br_f c3 trivial)))))
theorem i_vc_setOnHand {k : Nat} {u : SX} {v : SY} (I : i_Rel k u v) (hk : k + 5 ≤ 2562) (v1 : Int32) (v2 : Int32) : wpX_setOnHand (fun r u' => wpY_setOnHand (fun r' v' => r' = r ∧ i_Rel (k + 5) u' v') v v1 v2) u v1 v2 := by
  have J : i_Rel (k + 5) u v := i_up I
  obtain ⟨n, p, m, P, C, U, Q, Ld, L, cu, hp, a_leads, a_rules, a_params, a_onHands, a_demands, a_receipts, a_usages, a_levels, a_reached, a_ep, a_ec, a_eu, a_lvl, a_reach, xgr, xne, xpl, xrl, xpj, xpd, xst, ygr, yne, ypl, yrl, ypj, ypd, yst, rfl, rfl, S, H⟩ := I
  obtain ⟨s1, s2, s3, s4, s5, s6, s7, s8, s9, w1, w2, w3, w4⟩ := S
  unfold wpX_setOnHand
  rcases pk_ix v1 (n := n) (by omega) with a | a | ⟨j, hj, rfl⟩
  · exact xa_item0 (Or.inl a) (br_t rfl (br_t a ⟨rfl, J⟩))
  · exact xa_item0 (Or.inr a) (br_t rfl (br_f (xa_nn s2 a) (br_t a ⟨rfl, J⟩)))
  · have p1 : ¬ nI j < 0 := nI_pos (by omega)
    have p2 : ¬ nI n ≤ nI j := xa_nge s2 hj
    have vj : vp_in (nI j) 16 := vp_in_nI (by omega) (by omega)
    refine xa_item1 s2 hj (br_f (by decide) ?_)
    by_cases b : v2 < 0
    · exact xa_in0 (Or.inl b) (br_t rfl (br_f p1 (br_f p2 (br_t b ⟨rfl, J⟩))))
    · by_cases b2 : v2 ≤ 100000
      · obtain ⟨w, hw, ew⟩ := wr_of (c := 100000) (by omega) b b2
        refine xa_in1 b (Int32.not_lt.mpr b2) (br_f (by decide) ⟨vj, nm_r (xh_up (by omega) rfl) ?_⟩)
        unfold wpX_discardPlan
        refine br_f p1 (br_f p2 (br_f b (br_t b2 ⟨vj, nm_r (xh_up (by omega) rfl) ?_⟩)))
        unfold wpY_discard
        exact ⟨rfl, rl_mk ⟨s1, s2, s3, s4, s5, s6, s7, s8, s9, w1, wr_q hw ew w2, w3, w4⟩ (Or.inl ⟨rfl, rfl⟩)⟩
      · exact xa_in0 (Or.inr (Int32.not_le.mp b2)) (br_t rfl (br_f p1 (br_f p2 (br_f b (br_f b2 ⟨rfl, J⟩)))))
theorem i_vc_setReceipt {k : Nat} {u : SX} {v : SY} (I : i_Rel k u v) (hk : k + 5 ≤ 2562) (v1 : Int32) (v2 : Int32) (v3 : Int32) : wpX_setReceipt (fun r u' => wpY_setReceipt (fun r' v' => r' = r ∧ i_Rel (k + 5) u' v') v v1 v2 v3) u v1 v2 v3 := by
  have J : i_Rel (k + 5) u v := i_up I
  obtain ⟨n, p, m, P, C, U, Q, Ld, L, cu, hp, a_leads, a_rules, a_params, a_onHands, a_demands, a_receipts, a_usages, a_levels, a_reached, a_ep, a_ec, a_eu, a_lvl, a_reach, xgr, xne, xpl, xrl, xpj, xpd, xst, ygr, yne, ypl, yrl, ypj, ypd, yst, rfl, rfl, S, H⟩ := I
  obtain ⟨s1, s2, s3, s4, s5, s6, s7, s8, s9, w1, w2, w3, w4⟩ := S
  unfold wpX_setReceipt
  rcases pk_ix v1 (n := n) (by omega) with a | a | ⟨j, hj, rfl⟩
  · exact xa_item0 (Or.inl a) (br_t rfl (br_t a ⟨rfl, J⟩))
  · exact xa_item0 (Or.inr a) (br_t rfl (br_f (xa_nn s2 a) (br_t a ⟨rfl, J⟩)))
  · have p1 : ¬ nI j < 0 := nI_pos (by omega)
    have p2 : ¬ nI n ≤ nI j := xa_nge s2 hj
    refine xa_item1 s2 hj (br_f (by decide) ?_)
    rcases pk_ix v2 (n := p) (by omega) with a | a | ⟨t, ht, rfl⟩
    · exact xa_per0 (Or.inl a) (br_t rfl (br_f p1 (br_f p2 (br_t a ⟨rfl, J⟩))))
    · exact xa_per0 (Or.inr a) (br_t rfl (br_f p1 (br_f p2 (br_f (xa_nn s4 a) (br_t a ⟨rfl, J⟩)))))
    · have p3 : ¬ nI t < 0 := nI_pos (by omega)
      have p4 : ¬ nI p ≤ nI t := xa_nge s4 ht
      have vc : vp_in (nI (j * 16 + t)) 256 := vp_in_nI (by omega) (by omega)
      refine xa_per1 s4 ht (br_f (by decide) ?_)
      by_cases b : v3 < 0
      · exact xa_in0 (Or.inl b) (br_t rfl (br_f p1 (br_f p2 (br_f p3 (br_f p4 (br_t b ⟨rfl, J⟩))))))
      · by_cases b2 : v3 ≤ 100000
        · obtain ⟨w, hw, ew⟩ := wr_of (c := 100000) (by omega) b b2
          refine xa_in1 b (Int32.not_lt.mpr b2) (br_f (by decide) (xh_cell ⟨vc, nm_r (xh_up (by omega) rfl) ?_⟩))
          unfold wpX_discardPlan
          refine br_f p1 (br_f p2 (br_f p3 (br_f p4 (br_f b (br_t b2 ?_)))))
          rw [xh_ix]
          refine ⟨vc, nm_r (xh_up (by omega) rfl) ?_⟩
          unfold wpY_discard
          exact ⟨rfl, rl_mk ⟨s1, s2, s3, s4, s5, s6, s7, s8, s9, w1, w2, w3, wr_q hw ew w4⟩ (Or.inl ⟨rfl, rfl⟩)⟩
        · exact xa_in0 (Or.inr (Int32.not_le.mp b2)) (br_t rfl (br_f p1 (br_f p2 (br_f p3 (br_f p4 (br_f b (br_f b2 ⟨rfl, J⟩)))))))
theorem i_vc_setDemand {k : Nat} {u : SX} {v : SY} (I : i_Rel k u v) (hk : k + 5 ≤ 2562) (v1 : Int32) (v2 : Int32) (v3 : Int32) : wpX_setDemand (fun r u' => wpY_setDemand (fun r' v' => r' = r ∧ i_Rel (k + 5) u' v') v v1 v2 v3) u v1 v2 v3 := by
  have J : i_Rel (k + 5) u v := i_up I
  obtain ⟨n, p, m, P, C, U, Q, Ld, L, cu, hp, a_leads, a_rules, a_params, a_onHands, a_demands, a_receipts, a_usages, a_levels, a_reached, a_ep, a_ec, a_eu, a_lvl, a_reach, xgr, xne, xpl, xrl, xpj, xpd, xst, ygr, yne, ypl, yrl, ypj, ypd, yst, rfl, rfl, S, H⟩ := I
  obtain ⟨s1, s2, s3, s4, s5, s6, s7, s8, s9, w1, w2, w3, w4⟩ := S
  unfold wpX_setDemand
  rcases pk_ix v1 (n := n) (by omega) with a | a | ⟨j, hj, rfl⟩
  · exact xa_item0 (Or.inl a) (br_t rfl (br_t a ⟨rfl, J⟩))
  · exact xa_item0 (Or.inr a) (br_t rfl (br_f (xa_nn s2 a) (br_t a ⟨rfl, J⟩)))
  · have p1 : ¬ nI j < 0 := nI_pos (by omega)
    have p2 : ¬ nI n ≤ nI j := xa_nge s2 hj
    refine xa_item1 s2 hj (br_f (by decide) ?_)
    rcases pk_ix v2 (n := p) (by omega) with a | a | ⟨t, ht, rfl⟩
    · exact xa_per0 (Or.inl a) (br_t rfl (br_f p1 (br_f p2 (br_t a ⟨rfl, J⟩))))
    · exact xa_per0 (Or.inr a) (br_t rfl (br_f p1 (br_f p2 (br_f (xa_nn s4 a) (br_t a ⟨rfl, J⟩)))))
    · have p3 : ¬ nI t < 0 := nI_pos (by omega)
      have p4 : ¬ nI p ≤ nI t := xa_nge s4 ht
      have vc : vp_in (nI (j * 16 + t)) 256 := vp_in_nI (by omega) (by omega)
      refine xa_per1 s4 ht (br_f (by decide) ?_)
      by_cases b : v3 < 0
      · exact xa_in0 (Or.inl b) (br_t rfl (br_f p1 (br_f p2 (br_f p3 (br_f p4 (br_t b ⟨rfl, J⟩))))))
      · by_cases b2 : v3 ≤ 100000
        · obtain ⟨w, hw, ew⟩ := wr_of (c := 100000) (by omega) b b2
          refine xa_in1 b (Int32.not_lt.mpr b2) (br_f (by decide) (xh_cell ⟨vc, nm_r (xh_up (by omega) rfl) ?_⟩))
          unfold wpX_discardPlan
          refine br_f p1 (br_f p2 (br_f p3 (br_f p4 (br_f b (br_t b2 ?_)))))
          rw [xh_ix]
          refine ⟨vc, nm_r (xh_up (by omega) rfl) ?_⟩
          unfold wpY_discard
          exact ⟨rfl, rl_mk ⟨s1, s2, s3, s4, s5, s6, s7, s8, s9, w1, w2, wr_q hw ew w3, w4⟩ (Or.inl ⟨rfl, rfl⟩)⟩
        · exact xa_in0 (Or.inr (Int32.not_le.mp b2)) (br_t rfl (br_f p1 (br_f p2 (br_f p3 (br_f p4 (br_f b (br_f b2 ⟨rfl, J⟩)))))))
theorem i_vc_scrap {k : Nat} {u : SX} {v : SY} (I : i_Rel k u v) (hk : k + 5 ≤ 2562) (v1 : Int32) (v2 : Int32) : wpX_scrap (fun r u' => wpY_scrap (fun r' v' => r' = r ∧ i_Rel (k + 5) u' v') v v1 v2) u v1 v2 := by
  have J : i_Rel (k + 5) u v := i_up I
  obtain ⟨n, p, m, P, C, U, Q, Ld, L, cu, hp, a_leads, a_rules, a_params, a_onHands, a_demands, a_receipts, a_usages, a_levels, a_reached, a_ep, a_ec, a_eu, a_lvl, a_reach, xgr, xne, xpl, xrl, xpj, xpd, xst, ygr, yne, ypl, yrl, ypj, ypd, yst, rfl, rfl, S, H⟩ := I
  have s2 := S.2.1
  have s4 := S.2.2.2.1
  unfold wpX_scrap
  rcases H with ⟨rfl, rfl⟩ | ⟨rfl, c, hc, rfl, K⟩
  · exact xa_plan0 rfl (br_t rfl (br_t rfl ⟨rfl, J⟩))
  · have h1 : ¬ (1 : Int32) = 0 := by decide
    refine xa_plan1 (xa_mone (by omega)) (br_f h1 ?_)
    rcases pk_ix v1 (n := n) (by omega) with a | a | ⟨j, hj, rfl⟩
    · exact xa_item0 (Or.inl a) (br_t rfl (br_f h1 (br_t a ⟨rfl, J⟩)))
    · exact xa_item0 (Or.inr a) (br_t rfl (br_f h1 (br_f (xa_nn s2 a) (br_t a ⟨rfl, J⟩))))
    · have p1 : ¬ nI j < 0 := nI_pos (by omega)
      have p2 : ¬ nI n ≤ nI j := xa_nge s2 hj
      have vj : vp_in (nI j) 16 := vp_in_nI (by omega) (by omega)
      refine xa_item1 s2 hj (br_f h1 ?_)
      by_cases b : v2 < 1
      · exact xa_in0 (Or.inl b) (br_t rfl (br_f h1 (br_f p1 (br_f p2 (br_t b ⟨rfl, J⟩)))))
      · by_cases b2 : v2 ≤ 100000
        · refine xa_in1 b (Int32.not_lt.mpr b2) (br_f h1 ⟨vj, vj, nm_r (xh_upL (y := xst j - v2.toInt64) (by omega) (by rw [nI_clamp (by omega)])) ?_⟩)
          refine br_f h1 (br_f p1 (br_f p2 (br_f b (br_t b2 ⟨vj, vj, nm_r (xh_upL (y := yst j - v2.toInt64) (by omega) (by rw [nI_clamp (by omega)])) ?_⟩))))
          refine ⟨rfl, rl_mk S (Or.inr ⟨rfl, c, hc, rfl, fun i hi => ?_⟩)⟩
          obtain ⟨k1, k2, k3⟩ := K i hi
          refine ⟨k1, ?_, k3⟩
          by_cases e : i = j
          · rw [e, pk_uLs, pk_uLs, ← e, k2]
          · rw [pk_uLn e, pk_uLn e]; exact k2
        · exact xa_in0 (Or.inr (Int32.not_le.mp b2)) (br_t rfl (br_f h1 (br_f p1 (br_f p2 (br_f b (br_f b2 ⟨rfl, J⟩))))))
theorem i_vc_getCell {k : Nat} {u : SX} {v : SY} (I : i_Rel k u v) (hk : k + 5 ≤ 2562) (v1 : Int32) (v2 : Int32) (v3 : Int32) : wpX_getCell (fun r => wpY_getCell (fun r' => r' = r ∧ i_Rel (k + 5) u v) v v1 v2 v3) u v1 v2 v3 := by
  have J : i_Rel (k + 5) u v := i_up I
  obtain ⟨n, p, m, P, C, U, Q, Ld, L, cu, hp, a_leads, a_rules, a_params, a_onHands, a_demands, a_receipts, a_usages, a_levels, a_reached, a_ep, a_ec, a_eu, a_lvl, a_reach, xgr, xne, xpl, xrl, xpj, xpd, xst, ygr, yne, ypl, yrl, ypj, ypd, yst, rfl, rfl, S, H⟩ := I
  have s2 := S.2.1
  have s4 := S.2.2.2.1
  unfold wpX_getCell
  rcases pk_ix v1 (n := n) (by omega) with a | a | ⟨j, hj, rfl⟩
  · exact xa_item0 (Or.inl a) (br_t rfl (br_t a ⟨rfl, J⟩))
  · exact xa_item0 (Or.inr a) (br_t rfl (br_f (xa_nn s2 a) (br_t a ⟨rfl, J⟩)))
  · have p1 : ¬ nI j < 0 := nI_pos (by omega)
    have p2 : ¬ nI n ≤ nI j := xa_nge s2 hj
    refine xa_item1 s2 hj (br_f (by decide) ?_)
    rcases pk_ix v2 (n := p) (by omega) with a | a | ⟨t, ht, rfl⟩
    · exact xa_per0 (Or.inl a) (br_t rfl (br_f p1 (br_f p2 (br_t a ⟨rfl, J⟩))))
    · exact xa_per0 (Or.inr a) (br_t rfl (br_f p1 (br_f p2 (br_f (xa_nn s4 a) (br_f (Int32.not_lt.mpr a) ⟨rfl, J⟩)))))
    · have p3 : ¬ nI t < 0 := nI_pos (by omega)
      have p4 : nI t < nI p := nI_lt ht (by omega)
      have vc : vp_in (nI (j * 16 + t)) 256 := vp_in_nI (by omega) (by omega)
      have ec : (nI (j * 16 + t)).toNatClampNeg = j * 16 + t := nI_clamp (by omega)
      refine xa_per1 s4 ht (br_f (by decide) (xh_cell ?_))
      by_cases c0 : v3 = 0
      · exact br_t c0 ⟨vc, br_f p1 (br_f p2 (br_f p3 (br_t p4 (nm_r (xh_ix j t) (br_t c0 ⟨vc, rfl, J⟩)))))⟩
      · by_cases c1 : v3 = 1
        · exact br_f c0 (br_t c1 ⟨vc, br_f p1 (br_f p2 (br_f p3 (br_t p4 (nm_r (xh_ix j t) (br_f c0 (br_t c1 ⟨vc, rfl, J⟩))))))⟩)
        · refine br_f c0 (br_f c1 ?_)
          rcases H with ⟨rfl, rfl⟩ | ⟨rfl, c, hc, rfl, K⟩
          · exact xa_plan0 rfl (br_t rfl (br_f p1 (br_f p2 (br_f p3 (br_t p4 (nm_r (xh_ix j t) (br_f c0 (br_f c1 (br_t rfl ⟨rfl, J⟩)))))))))
          · have h1 : ¬ (1 : Int32) = 0 := by decide
            obtain ⟨q1, q2, q3, q4, q5, _⟩ := (K j hj).2.2 t ht
            refine xa_plan1 (xa_mone (by omega)) (br_f h1 ?_)
            unfold wpX_planValue
            by_cases d2 : v3 = 2
            · subst d2
              exact br_f (by decide) (br_f (by decide) (br_t rfl ⟨vc, br_f p1 (br_f p2 (br_f p3 (br_t p4 (nm_r (xh_ix j t) (br_f c0 (br_f c1 (br_f h1 (br_t rfl ⟨vc, by rw [ec]; exact q1.symm, J⟩))))))))⟩))
            · by_cases d3 : v3 = 3
              · subst d3
                exact br_f (by decide) (br_f (by decide) (br_f d2 (br_t rfl ⟨vc, br_f p1 (br_f p2 (br_f p3 (br_t p4 (nm_r (xh_ix j t) (br_f c0 (br_f c1 (br_f h1 (br_f d2 (br_t rfl ⟨vc, by rw [ec]; exact q2.symm, J⟩)))))))))⟩)))
              · by_cases d4 : v3 = 4
                · subst d4
                  exact br_f (by decide) (br_f (by decide) (br_f d2 (br_f d3 (br_t rfl ⟨vc, br_f p1 (br_f p2 (br_f p3 (br_t p4 (nm_r (xh_ix j t) (br_f c0 (br_f c1 (br_f h1 (br_f d2 (br_f d3 (br_t rfl ⟨vc, by rw [ec]; exact q3.symm, J⟩))))))))))⟩))))
                · by_cases d5 : v3 = 5
                  · subst d5
                    exact br_f (by decide) (br_f (by decide) (br_f d2 (br_f d3 (br_f d4 (br_t rfl ⟨vc, br_f p1 (br_f p2 (br_f p3 (br_t p4 (nm_r (xh_ix j t) (br_f c0 (br_f c1 (br_f h1 (br_f d2 (br_f d3 (br_f d4 (br_t rfl ⟨vc, by rw [ec]; exact q4.symm, J⟩)))))))))))⟩)))))
                  · by_cases d6 : v3 = 6
                    · subst d6
                      exact br_f (by decide) (br_f (by decide) (br_f d2 (br_f d3 (br_f d4 (br_f d5 (br_t rfl ⟨vc, br_f p1 (br_f p2 (br_f p3 (br_t p4 (nm_r (xh_ix j t) (br_f c0 (br_f c1 (br_f h1 (br_f d2 (br_f d3 (br_f d4 (br_f d5 (br_t rfl ⟨vc, by rw [ec]; exact q5.symm, J⟩))))))))))))⟩))))))
                    · have y : wpY_getCell (fun r' => r' = 0 ∧ i_Rel (k + 5) ((nI n), (nI p), (nI m), (nI c), a_leads, a_rules, a_params, a_onHands, a_demands, a_receipts, a_usages, a_levels, a_reached, xgr, xne, xpl, xrl, xpj, xpd, xst) ((nI n), (nI p), (nI m), 1, (nI c), a_leads, a_rules, a_params, a_onHands, a_demands, a_receipts, a_ep, a_ec, a_eu, ygr, yne, ypl, yrl, ypj, ypd, yst, a_lvl, a_reach)) ((nI n), (nI p), (nI m), 1, (nI c), a_leads, a_rules, a_params, a_onHands, a_demands, a_receipts, a_ep, a_ec, a_eu, ygr, yne, ypl, yrl, ypj, ypd, yst, a_lvl, a_reach) (nI j) (nI t) v3 :=
                        br_f p1 (br_f p2 (br_f p3 (br_t p4 (nm_r (xh_ix j t) (br_f c0 (br_f c1 (br_f h1 (br_f d2 (br_f d3 (br_f d4 (br_f d5 (br_f d6 ⟨rfl, J⟩))))))))))))
                      exact br_c (fun _ => y) (fun _ => br_c (fun _ => y) (fun _ => br_f d2 (br_f d3 (br_f d4 (br_f d5 (br_f d6 trivial))))))
theorem i_vc_getItem {k : Nat} {u : SX} {v : SY} (I : i_Rel k u v) (hk : k + 5 ≤ 2562) (v1 : Int32) (v2 : Int32) : wpX_getItem (fun r => wpY_getItem (fun r' v' => r' = r ∧ i_Rel (k + 5) u v') v v1 v2) u v1 v2 := by
  have J : i_Rel (k + 5) u v := i_up I
  obtain ⟨n, p, m, P, C, U, Q, Ld, L, cu, hp, a_leads, a_rules, a_params, a_onHands, a_demands, a_receipts, a_usages, a_levels, a_reached, a_ep, a_ec, a_eu, a_lvl, a_reach, xgr, xne, xpl, xrl, xpj, xpd, xst, ygr, yne, ypl, yrl, ypj, ypd, yst, rfl, rfl, S, H⟩ := I
  have S' := S
  obtain ⟨s1, s2, s3, s4, s5, s6, s7, s8, s9, s10⟩ := S'
  unfold wpX_getItem
  rcases pk_ix v1 (n := n) (by omega) with a | a | ⟨j, hj, rfl⟩
  · exact xa_item0 (Or.inl a) (br_t rfl (br_t a ⟨rfl, J⟩))
  · exact xa_item0 (Or.inr a) (br_t rfl (br_f (xa_nn s2 a) (br_f (Int32.not_lt.mpr a) ⟨rfl, J⟩)))
  · have p1 : ¬ nI j < 0 := nI_pos (by omega)
    have p2 : nI j < nI n := nI_lt hj (by omega)
    have vj : vp_in (nI j) 16 := vp_in_nI (by omega) (by omega)
    have ej : (nI j).toNatClampNeg = j := nI_clamp (by omega)
    refine xa_item1 s2 hj (br_f (by decide) ?_)
    by_cases c0 : v2 = 0
    · subst c0
      exact br_f (by decide) (br_f (by decide) (br_t rfl ⟨vj, br_f p1 (br_t p2 (br_t rfl ⟨vj, rfl, J⟩))⟩))
    · by_cases c1 : v2 = 1
      · subst c1
        exact br_f (by decide) (br_f (by decide) (br_f c0 (br_t rfl ⟨vj, br_f p1 (br_t p2 (br_f c0 (br_t rfl ⟨vj, rfl, J⟩)))⟩)))
      · by_cases c2 : v2 = 2
        · subst c2
          exact br_f (by decide) (br_f (by decide) (br_f c0 (br_f c1 (br_t rfl ⟨vj, br_f p1 (br_t p2 (br_f c0 (br_f c1 (br_t rfl ⟨vj, rfl, J⟩))))⟩))))
        · by_cases c3 : v2 = 3
          · subst c3
            exact br_f (by decide) (br_f (by decide) (br_f c0 (br_f c1 (br_f c2 (br_t rfl ⟨vj, br_f p1 (br_t p2 (br_f c0 (br_f c1 (br_f c2 (br_t rfl ⟨vj, rfl, J⟩)))))⟩)))))
          · by_cases c4 : v2 = 4
            · subst c4
              refine br_f (by decide) (br_f (by decide) (br_f c0 (br_f c1 (br_f c2 (br_f c3 (br_t rfl ⟨vj, br_f p1 (br_t p2 (br_f c0 (br_f c1 (br_f c2 (br_f c3 (br_t rfl ?_))))))⟩))))))
              refine yl_comp s2 s5 s8 s6 (fun lv' hv => ⟨vj, ?_, rl_mk S H⟩)
              rw [ej, hv j hj, s9 j hj]
            · by_cases c5 : v2 = 5
              · subst c5
                refine br_f (by decide) (br_f (by decide) (br_f c0 (br_f c1 (br_f c2 (br_f c3 (br_f c4 (br_t rfl ?_)))))))
                rcases H with ⟨rfl, rfl⟩ | ⟨rfl, c, hc, rfl, K⟩
                · exact xa_plan0 rfl (br_t rfl (br_f p1 (br_t p2 (br_f c0 (br_f c1 (br_f c2 (br_f c3 (br_f c4 (br_t rfl (br_t rfl ⟨rfl, J⟩))))))))))
                · have h1 : ¬ (1 : Int32) = 0 := by decide
                  exact xa_plan1 (xa_mone (by omega)) (br_f h1 ⟨vj, br_f p1 (br_t p2 (br_f c0 (br_f c1 (br_f c2 (br_f c3 (br_f c4 (br_t rfl (br_f h1 ⟨vj, by rw [ej]; exact (K j hj).1.symm, J⟩))))))))⟩)
              · by_cases c6 : v2 = 6
                · subst c6
                  refine br_f (by decide) (br_f (by decide) (br_f c0 (br_f c1 (br_f c2 (br_f c3 (br_f c4 (br_f c5 (br_t rfl ?_))))))))
                  rcases H with ⟨rfl, rfl⟩ | ⟨rfl, c, hc, rfl, K⟩
                  · exact xa_plan0 rfl (br_t rfl (br_f p1 (br_t p2 (br_f c0 (br_f c1 (br_f c2 (br_f c3 (br_f c4 (br_f c5 (br_t rfl (br_t rfl ⟨rfl, J⟩)))))))))))
                  · have h1 : ¬ (1 : Int32) = 0 := by decide
                    exact xa_plan1 (xa_mone (by omega)) (br_f h1 ⟨vj, br_f p1 (br_t p2 (br_f c0 (br_f c1 (br_f c2 (br_f c3 (br_f c4 (br_f c5 (br_t rfl (br_f h1 ⟨vj, by rw [ej]; exact (K j hj).2.1.symm, J⟩)))))))))⟩)
                · have y : wpY_getItem (fun r' v' => r' = 0 ∧ i_Rel (k + 5) ((nI n), (nI p), (nI m), cu, a_leads, a_rules, a_params, a_onHands, a_demands, a_receipts, a_usages, a_levels, a_reached, xgr, xne, xpl, xrl, xpj, xpd, xst) v') ((nI n), (nI p), (nI m), hp, cu, a_leads, a_rules, a_params, a_onHands, a_demands, a_receipts, a_ep, a_ec, a_eu, ygr, yne, ypl, yrl, ypj, ypd, yst, a_lvl, a_reach) (nI j) v2 :=
                    br_f p1 (br_t p2 (br_f c0 (br_f c1 (br_f c2 (br_f c3 (br_f c4 (br_f c5 (br_f c6 ⟨rfl, J⟩))))))))
                  exact br_c (fun _ => y) (fun _ => br_c (fun _ => y) (fun _ => br_f c0 (br_f c1 (br_f c2 (br_f c3 (br_f c4 (br_f c5 (br_f c6 trivial))))))))
theorem i_vc_getUsage {k : Nat} {u : SX} {v : SY} (I : i_Rel k u v) (hk : k + 5 ≤ 2562) (v1 : Int32) (v2 : Int32) : wpX_getUsage (fun r => wpY_getUsage (fun r' => r' = r ∧ i_Rel (k + 5) u v) v v1 v2) u v1 v2 := by
  have J : i_Rel (k + 5) u v := i_up I
  obtain ⟨n, p, m, P, C, U, Q, Ld, L, cu, hp, a_leads, a_rules, a_params, a_onHands, a_demands, a_receipts, a_usages, a_levels, a_reached, a_ep, a_ec, a_eu, a_lvl, a_reach, xgr, xne, xpl, xrl, xpj, xpd, xst, ygr, yne, ypl, yrl, ypj, ypd, yst, rfl, rfl, S, H⟩ := I
  obtain ⟨s1, s2, s3, s4, s5, s6, s7, s8, s9, s10⟩ := S
  unfold wpX_getUsage
  rcases pk_ix v1 (n := n) (by omega) with a | a | ⟨i, hi, rfl⟩
  · exact xa_item0 (Or.inl a) (br_t rfl (br_t a ⟨rfl, J⟩))
  · exact xa_item0 (Or.inr a) (br_t rfl (br_f (xa_nn s2 a) (br_t a ⟨rfl, J⟩)))
  · have p1 : ¬ nI i < 0 := nI_pos (by omega)
    have p2 : ¬ nI n ≤ nI i := xa_nge s2 hi
    refine xa_item1 s2 hi (br_f (by decide) ?_)
    rcases pk_ix v2 (n := n) (by omega) with a | a | ⟨j, hj, rfl⟩
    · exact xa_item0 (Or.inl a) (br_t rfl (br_f p1 (br_f p2 (br_t a ⟨rfl, J⟩))))
    · exact xa_item0 (Or.inr a) (br_t rfl (br_f p1 (br_f p2 (br_f (xa_nn s2 a) (br_f (Int32.not_lt.mpr a) ⟨rfl, J⟩)))))
    · have p3 : ¬ nI j < 0 := nI_pos (by omega)
      have p4 : nI j < nI n := nI_lt hj (by omega)
      have ec : (nI (i * 16 + j)).toNatClampNeg = i * 16 + j := nI_clamp (by omega)
      refine xa_item1 s2 hj (br_f (by decide) (xh_pair ⟨vp_in_nI (by omega) (by omega), ?_⟩))
      rw [ec]
      refine br_f p1 (br_f p2 (br_f p3 (br_t p4 (yf_find s2 s5 s6 hi hj (fun e he h1 h2 => ?_) (fun h0 => ?_)))))
      · refine br_t (nI_pos' (by omega)) ⟨vp_in_nI (by omega) (by omega), ?_, J⟩
        have q := s7.1 e he
        rw [h1, h2] at q
        rw [nI_clamp (by omega), q]
        exact (s6 e he).2.2.1
      · refine br_f (by decide) ⟨?_, J⟩
        exact (s7.2.1 i j hi hj h0).symm
end
section
/-! the owed statements of setItem, plan and step -/
theorem wr_item {n j l q : Nat} {Q Ld : Nat → Nat} {led rul par onH dem rcp : Nat → Int32} {r : Int32} (hl : l ≤ 8) (hq : q ≤ 10000) (h1 : r = 1 → 1 ≤ q) (h2 : r = 2 → 1 ≤ q ∧ q ≤ 8)
    (W : pp_W n Q Ld led rul par onH dem rcp) : pp_W n (fun i => if i = j then q else Q i) (fun i => if i = j then l else Ld i) (upd led j (nI l)) (upd rul j r) (upd par j (nI q)) onH dem rcp := by
  obtain ⟨W1, W2⟩ := W
  refine ⟨fun i hi => ?_, W2⟩
  by_cases e : i = j
  · dsimp only
    rw [if_pos e, if_pos e, e, pk_us, pk_us, pk_us]
    exact ⟨rfl, hl, rfl, hq, h1, h2⟩
  · dsimp only
    rw [if_neg e, if_neg e, pk_un e, pk_un e, pk_un e]
    exact W1 i hi
theorem i_vc_setItem {k : Nat} {u : SX} {v : SY} (I : i_Rel k u v) (hk : k + 5 ≤ 2562) (v1 : Int32) (v2 : Int32) (v3 : Int32) (v4 : Int32) : wpX_setItem (fun r u' => wpY_setItem (fun r' v' => r' = r ∧ i_Rel (k + 5) u' v') v v1 v2 v3 v4) u v1 v2 v3 v4 := by
  have J : i_Rel (k + 5) u v := i_up I
  obtain ⟨n, p, m, P, C, U, Q, Ld, L, cu, hp, a_leads, a_rules, a_params, a_onHands, a_demands, a_receipts, a_usages, a_levels, a_reached, a_ep, a_ec, a_eu, a_lvl, a_reach, xgr, xne, xpl, xrl, xpj, xpd, xst, ygr, yne, ypl, yrl, ypj, ypd, yst, rfl, rfl, S, H⟩ := I
  obtain ⟨s1, s2, s3, s4, s5, s6, s7, s8, s9, s10⟩ := S
  have h1 : ¬ (1 : Int32) = 0 := by decide
  unfold wpX_setItem
  rcases pk_ix v1 (n := n) (by omega) with a | a | ⟨j, hj, rfl⟩
  · exact xa_item0 (Or.inl a) (br_t rfl (br_t a ⟨rfl, J⟩))
  · exact xa_item0 (Or.inr a) (br_t rfl (br_f (xa_nn s2 a) (br_t a ⟨rfl, J⟩)))
  · have p1 : ¬ nI j < 0 := nI_pos (by omega)
    have p2 : ¬ nI n ≤ nI j := xa_nge s2 hj
    have vj : vp_in (nI j) 16 := vp_in_nI (by omega) (by omega)
    refine xa_item1 s2 hj (br_f h1 ?_)
    by_cases b : v2 < 0
    · exact xa_in0 (Or.inl b) (br_t rfl (br_f p1 (br_f p2 (br_t b ⟨rfl, J⟩))))
    · by_cases b2 : v2 ≤ 8
      · obtain ⟨l, hl, rfl⟩ := wr_of (c := 8) (by omega) b b2
        refine xa_in1 b (Int32.not_lt.mpr b2) (br_f h1 ?_)
        unfold wpX_isLotRule
        by_cases r0 : v3 = 0
        · subst r0
          refine br_f (by decide) (br_f (by decide) (br_t rfl (br_f h1 ?_)))
          refine ⟨vj, nm_r (xh_up (by omega) rfl) ⟨vj, nm_r (xh_up (by omega) rfl) (br_t rfl ?_)⟩⟩
          unfold wX_setItem_58
          refine ⟨vj, nm_r (xh_up (y := nI 0) (by omega) rfl) ?_⟩
          unfold wpX_discardPlan
          refine br_f p1 (br_f p2 (br_f b (br_t b2 (br_t rfl ?_))))
          unfold wY_setItem_40
          refine br_f (by decide) ?_
          unfold wY_setItem_61
          refine br_f (by decide) ?_
          unfold wY_setItem_81
          refine ⟨vj, nm_r (xh_up (by omega) rfl) ⟨vj, nm_r (xh_up (by omega) rfl) (br_t rfl ?_)⟩⟩
          unfold wY_setItem_110
          refine ⟨vj, nm_r (xh_up (y := nI 0) (by omega) rfl) ?_⟩
          unfold wpY_discard
          exact ⟨rfl, rl_mk ⟨s1, s2, s3, s4, s5, s6, s7, s8, s9, wr_item hl (by omega) (fun z => absurd z (by decide)) (fun z => absurd z (by decide)) s10⟩ (Or.inl ⟨rfl, rfl⟩)⟩
        · by_cases r1 : v3 = 1
          · subst r1
            refine br_f (by decide) (br_f (by decide) (br_f r0 (br_t rfl ?_)))
            by_cases d : v4 < 1
            · refine xa_in0 (Or.inl d) ⟨by decide, br_t rfl ?_⟩
              refine br_f p1 (br_f p2 (br_f b (br_t b2 (br_f r0 (br_t rfl ?_)))))
              unfold wY_setItem_40
              exact br_t rfl (br_t d ⟨rfl, J⟩)
            · by_cases d2 : v4 ≤ 10000
              · obtain ⟨q, hq, rfl⟩ := wr_of (c := 10000) (by omega) (fun z => d (Int32.lt_trans z (by decide))) d2
                have hq1 : 1 ≤ q := by
                  have z := Int32.not_lt.mp d
                  exact (nI_leI (a := 1) (by omega) (by omega)).mp z
                refine xa_in1 d (Int32.not_lt.mpr d2) ⟨by decide, br_f h1 ?_⟩
                refine ⟨vj, nm_r (xh_up (by omega) rfl) ⟨vj, nm_r (xh_up (by omega) rfl) (br_f r0 ?_)⟩⟩
                unfold wX_setItem_58
                refine ⟨vj, nm_r (xh_up (by omega) rfl) ?_⟩
                unfold wpX_discardPlan
                refine br_f p1 (br_f p2 (br_f b (br_t b2 (br_f r0 (br_t rfl ?_)))))
                unfold wY_setItem_40
                refine br_t rfl (br_f d (br_t d2 ?_))
                unfold wY_setItem_61
                refine br_f (by decide) ?_
                unfold wY_setItem_81
                refine ⟨vj, nm_r (xh_up (by omega) rfl) ⟨vj, nm_r (xh_up (by omega) rfl) (br_f r0 ?_)⟩⟩
                unfold wY_setItem_110
                refine ⟨vj, nm_r (xh_up (by omega) rfl) ?_⟩
                unfold wpY_discard
                exact ⟨rfl, rl_mk ⟨s1, s2, s3, s4, s5, s6, s7, s8, s9, wr_item hl hq (fun _ => hq1) (fun z => absurd z (by decide)) s10⟩ (Or.inl ⟨rfl, rfl⟩)⟩
              · refine xa_in0 (Or.inr (Int32.not_le.mp d2)) ⟨by decide, br_t rfl ?_⟩
                refine br_f p1 (br_f p2 (br_f b (br_t b2 (br_f r0 (br_t rfl ?_)))))
                unfold wY_setItem_40
                exact br_t rfl (br_f d (br_f d2 ⟨rfl, J⟩))
          · by_cases r2 : v3 = 2
            · subst r2
              refine br_f (by decide) (br_f (by decide) (br_f r0 (br_f r1 (br_t rfl ?_))))
              by_cases d : v4 < 1
              · refine xa_in0 (Or.inl d) ⟨by decide, br_t rfl ?_⟩
                refine br_f p1 (br_f p2 (br_f b (br_t b2 (br_f r0 (br_f r1 (br_t rfl ?_))))))
                unfold wY_setItem_40
                refine br_f r1 ?_
                unfold wY_setItem_61
                exact br_t rfl (br_t d ⟨rfl, J⟩)
              · by_cases d2 : v4 ≤ 8
                · obtain ⟨q, hq, rfl⟩ := wr_of (c := 8) (by omega) (fun z => d (Int32.lt_trans z (by decide))) d2
                  have hq1 : 1 ≤ q := by
                    have z := Int32.not_lt.mp d
                    exact (nI_leI (a := 1) (by omega) (by omega)).mp z
                  refine xa_in1 d (Int32.not_lt.mpr d2) ⟨by decide, br_f h1 ?_⟩
                  refine ⟨vj, nm_r (xh_up (by omega) rfl) ⟨vj, nm_r (xh_up (by omega) rfl) (br_f r0 ?_)⟩⟩
                  unfold wX_setItem_58
                  refine ⟨vj, nm_r (xh_up (by omega) rfl) ?_⟩
                  unfold wpX_discardPlan
                  refine br_f p1 (br_f p2 (br_f b (br_t b2 (br_f r0 (br_f r1 (br_t rfl ?_))))))
                  unfold wY_setItem_40
                  refine br_f r1 ?_
                  unfold wY_setItem_61
                  refine br_t rfl (br_f d (br_t d2 ?_))
                  unfold wY_setItem_81
                  refine ⟨vj, nm_r (xh_up (by omega) rfl) ⟨vj, nm_r (xh_up (by omega) rfl) (br_f r0 ?_)⟩⟩
                  unfold wY_setItem_110
                  refine ⟨vj, nm_r (xh_up (by omega) rfl) ?_⟩
                  unfold wpY_discard
                  exact ⟨rfl, rl_mk ⟨s1, s2, s3, s4, s5, s6, s7, s8, s9, wr_item hl (by omega) (fun z => absurd z (by decide)) (fun _ => ⟨hq1, hq⟩) s10⟩ (Or.inl ⟨rfl, rfl⟩)⟩
                · refine xa_in0 (Or.inr (Int32.not_le.mp d2)) ⟨by decide, br_t rfl ?_⟩
                  refine br_f p1 (br_f p2 (br_f b (br_t b2 (br_f r0 (br_f r1 (br_t rfl ?_))))))
                  unfold wY_setItem_40
                  refine br_f r1 ?_
                  unfold wY_setItem_61
                  exact br_t rfl (br_f d (br_f d2 ⟨rfl, J⟩))
            · have y : wpY_setItem (fun r' v' => r' = 0 ∧ i_Rel (k + 5) ((nI n), (nI p), (nI m), cu, a_leads, a_rules, a_params, a_onHands, a_demands, a_receipts, a_usages, a_levels, a_reached, xgr, xne, xpl, xrl, xpj, xpd, xst) v') ((nI n), (nI p), (nI m), hp, cu, a_leads, a_rules, a_params, a_onHands, a_demands, a_receipts, a_ep, a_ec, a_eu, ygr, yne, ypl, yrl, ypj, ypd, yst, a_lvl, a_reach) (nI j) (nI l) v3 v4 := br_f p1 (br_f p2 (br_f b (br_t b2 (br_f r0 (br_f r1 (br_f r2 ⟨rfl, J⟩))))))
              exact br_c (fun _ => br_t rfl y) (fun _ => br_c (fun _ => br_t rfl y) (fun _ => br_f r0 (br_f r1 (br_f r2 trivial))))
      · exact xa_in0 (Or.inr (Int32.not_le.mp b2)) (br_t rfl (br_f p1 (br_f p2 (br_f b (br_f b2 ⟨rfl, J⟩)))))
theorem i_vc_plan {k : Nat} {u : SX} {v : SY} (I : i_Rel k u v) (hk : k + 5 ≤ 2562) : wpX_plan (fun r u' => wpY_plan (fun r' v' => r' = r ∧ i_Rel (k + 5) u' v') v) u := by
  obtain ⟨n, p, m, P, C, U, Q, Ld, L, cu, hp, a_leads, a_rules, a_params, a_onHands, a_demands, a_receipts, a_usages, a_levels, a_reached, a_ep, a_ec, a_eu, a_lvl, a_reach, xgr, xne, xpl, xrl, xpj, xpd, xst, ygr, yne, ypl, yrl, ypj, ypd, yst, rfl, rfl, S, H⟩ := I
  have S' := S
  obtain ⟨s1, s2, s3, s4, s5, s6, s7, s8, s9, s10⟩ := S'
  have hL : ∀ e, e < m → L (P e) < L (C e) := fun e he => s8.1 _ _ ⟨e, he, rfl, rfl⟩
  have hP : ∀ e, e < m → P e < n := fun e he => (s6 e he).2.2.2.1
  have hU : ∀ e, e < m → 1 ≤ U e ∧ U e ≤ 9 := fun e he => (s6 e he).2.2.2.2.2
  obtain ⟨Gr, Ne, Pl, Rl, Pj, Pd, Z⟩ := pp_ex (n := n) (p := p) (m := m) (P := P) (C := C) (U := U) (Q := Q) (Ld := Ld) (L := L) (rul := a_rules) (onH := a_onHands) (dem := a_demands) (rcp := a_receipts) hL
  refine xp_plan s2 s4 hP hL hU s8.2.2 s9 s7 s10 Z (fun gr ne pl rl pj pd st R O hs => ?_) (fun gr ne pl rl pj pd q => ?_)
  · refine yp_plan s2 s4 s5 s8 s6 s10 Z (fun gr' ne' pl' rl' pj' pd' st' lv' R' O' hs' => ?_) (fun gr' ne' pl' rl' pj' pd' st' lv' q => absurd O q)
    refine ⟨rfl, rl_mk S (Or.inr ⟨rfl, 0, by omega, rfl, fun i hi => ?_⟩)⟩
    obtain ⟨a1, a2⟩ := R i hi trivial
    obtain ⟨b1, b2⟩ := R' i hi trivial
    refine ⟨a1.trans b1.symm, (hs i hi).trans (hs' i hi).symm, fun t ht => ?_⟩
    obtain ⟨c1, c2, c3, c4, c5⟩ := a2 t ht
    obtain ⟨d1, d2, d3, d4, d5⟩ := b2 t ht
    refine ⟨c1.trans d1.symm, c2.trans d2.symm, c3.trans d3.symm, c4.trans d4.symm, c5.trans d5.symm, ?_⟩
    rw [c1, (Z i hi).1 t ht]
    unfold pp_g
    refine congrArg (fun z => (a_demands (i * 16 + t)).toInt64 + z) (ms_congr m fun e he => ?_)
    show (if C e = i then lN (U e) * Rl (P e) t else 0) = (if C e = i then lN (U e) * rl' (P e * 16 + t) else 0)
    rw [((R' (P e) (hP e he) trivial).2 t ht).2.2.2.1]
  · refine yp_plan s2 s4 s5 s8 s6 s10 Z (fun gr' ne' pl' rl' pj' pd' st' lv' R' O' hs' => absurd O' q) (fun gr' ne' pl' rl' pj' pd' st' lv' q' => ?_)
    exact ⟨rfl, rl_mk S (Or.inl ⟨rfl, rfl⟩)⟩
/-! step -/
def sp_c (s : Nat → Int64) : Nat → Nat
  | 0 => 0
  | k + 1 => if 0 ≤ s k then sp_c s k else sp_c s k + 1
theorem sp_le (s : Nat → Int64) : ∀ k, sp_c s k ≤ k := by
  intro k
  induction k with
  | zero => exact Nat.le_refl 0
  | succ k ih =>
    show (if 0 ≤ s k then sp_c s k else sp_c s k + 1) ≤ k + 1
    split <;> omega
section
variable {n p c : Nat} {f_edgeCount : Int32} {a_leads a_rules a_params a_onHands a_demands a_receipts a_usages a_levels a_reached : Nat → Int32} {a_gross a_net a_planned a_release a_projected a_pastDue a_stock : Nat → Int64}
theorem xs_27 {post : Int32 → SX → Prop} {s : Nat → Int64} (hn16 : n ≤ 16) (hc : c < 16)
    (hs : ∀ i, i < n → a_stock i + ((a_receipts (i * 16 + c)).toInt64 + a_planned (i * 16 + c) - a_gross (i * 16 + c)) = s i)
    (h : ∀ st', (∀ i, i < n → st' i = s i) → post (nI (sp_c s n)) ((nI n), (nI p), f_edgeCount, (nI (c + 1)), a_leads, a_rules, a_params, a_onHands, a_demands, a_receipts, a_usages, a_levels, a_reached, a_gross, a_net, a_planned, a_release, a_projected, a_pastDue, st')) :
    ∀ d i st, i + d = n → (∀ j, j < i → st j = s j) → (∀ j, i ≤ j → st j = a_stock j) → wX_step_27 post (nI n) (nI p) f_edgeCount (nI c) (d + 1) (nI (sp_c s i)) (nI i) a_leads a_rules a_params a_onHands a_demands a_receipts a_usages a_levels a_reached a_gross a_net a_planned a_release a_projected a_pastDue st := by
  intro d
  induction d with
  | zero =>
    intro i st hi z1 z2
    have e : i = n := by omega
    rw [e]
    exact br_t (nI_le (by omega) (by omega)) (nm_r (nI_1 c) (h st fun j hj => z1 j (by omega)))
  | succ d ih =>
    intro i st hi z1 z2
    have ei : (nI i).toNatClampNeg = i := nI_clamp (by omega)
    have ec : (nI (i * 16 + c)).toNatClampNeg = i * 16 + c := nI_clamp (by omega)
    have vi : vp_in (nI i) 16 := vp_in_nI (by omega) (by omega)
    have vc : vp_in (nI (i * 16 + c)) 256 := vp_in_nI (by omega) (by omega)
    have I := ih (i + 1) (vp_updL st i (s i)) (by omega) (fun j hj => by
      by_cases e : j = i
      · rw [e, pk_uLs]
      · rw [pk_uLn e]; exact z1 j (by omega)) (fun j hj => by rw [pk_uLn (by omega)]; exact z2 j (by omega))
    have es : sp_c s (i + 1) = if 0 ≤ s i then sp_c s i else sp_c s i + 1 := rfl
    rw [es] at I
    refine br_f (nI_ge (by omega) (by omega)) (xh_cell ?_)
    refine ⟨vi, vc, vc, vc, vi, nm_r (xh_upL (y := s i) (by omega) (by rw [ei, ec, z2 i (by omega), hs i (by omega)])) ⟨vi, ?_⟩⟩
    rw [ei, pk_uLs]
    by_cases q : 0 ≤ s i
    · rw [if_pos q] at I
      exact br_t q (nm_r (nI_1 i) I)
    · rw [if_neg q] at I
      exact br_f q (nm_r (nI_1 _) (nm_r (nI_1 i) I))
end
section
variable {n p m c : Nat} {P C U : Nat → Nat} {f_hasPlan f_current : Int32} {a_lead a_rule a_param a_onHand a_demand a_receipt a_ep a_ec a_eu a_lvl a_reach : Nat → Int32} {a_gross a_net a_planned a_release a_projected a_pastDue a_stock : Nat → Int64}
theorem ys_89 {post : Int32 → SY → Prop} {J32 : Int32 → Int32 → (Nat → Int32) → (Nat → Int32) → (Nat → Int32) → (Nat → Int32) → (Nat → Int32) → (Nat → Int32) → (Nat → Int32) → (Nat → Int32) → (Nat → Int32) → (Nat → Int64) → (Nat → Int64) → (Nat → Int64) → (Nat → Int64) → (Nat → Int64) → (Nat → Int64) → (Nat → Int64) → (Nat → Int32) → (Nat → Int32) → Prop} {b : Int32} {i : Nat} {z s : Int64} (hn16 : n ≤ 16) (hm : m ≤ 32) (hi : i < n) (hc : c < 16) (E : ye_E n m P C U a_ep a_ec a_eu)
    (hs : z - ms_s (fun e => if C e = i then lN (U e) * a_release (P e * 16 + c) else 0) m = s)
    (h1 : 0 ≤ s → J32 b (nI (i + 1)) a_lead a_rule a_param a_onHand a_demand a_receipt a_ep a_ec a_eu a_gross a_net a_planned a_release a_projected a_pastDue (vp_updL a_stock i s) a_lvl a_reach) (h0 : ¬ 0 ≤ s → J32 (b + 1) (nI (i + 1)) a_lead a_rule a_param a_onHand a_demand a_receipt a_ep a_ec a_eu a_gross a_net a_planned a_release a_projected a_pastDue (vp_updL a_stock i s) a_lvl a_reach) :
    ∀ d e, e + d = m → wY_step_89 post J32 (nI c) b (nI i) (nI n) (nI p) (nI m) f_hasPlan f_current a_lead a_rule a_param a_onHand a_demand a_receipt a_ep a_ec a_eu a_gross a_net a_planned a_release a_projected a_pastDue a_stock a_lvl a_reach (d + 1) (z - ms_s (fun e => if C e = i then lN (U e) * a_release (P e * 16 + c) else 0) e) (nI e) := by
  intro d
  induction d with
  | zero =>
    intro e he
    have q : e = m := by omega
    rw [q, hs]
    refine br_t (nI_le (by omega) (by omega)) ⟨vp_in_nI (by omega) (by omega), nm_r (xh_upL (by omega) rfl) ?_⟩
    by_cases c0 : 0 ≤ s
    · exact br_t c0 (nm_r (nI_1 i) (h1 c0))
    · exact br_f c0 (nm_e (nm_r (nI_1 i) (h0 c0)))
  | succ d ih =>
    intro e he
    have hem : e < m := by omega
    obtain ⟨p1, p2, p3, hP, hC, u1, u2⟩ := E e hem
    have i1 : a_ep (nI e).toNatClampNeg = nI (P e) := (xh_at (by omega)).trans p1
    have i2 : a_ec (nI e).toNatClampNeg = nI (C e) := (xh_at (by omega)).trans p2
    have i3 : a_eu (nI e).toNatClampNeg = nI (U e) := (xh_at (by omega)).trans p3
    have ve : vp_in (nI e) 32 := vp_in_nI (by omega) (by omega)
    have I := ih (e + 1) (by omega)
    have es : ms_s (fun e => if C e = i then lN (U e) * a_release (P e * 16 + c) else 0) (e + 1) = ms_s (fun e => if C e = i then lN (U e) * a_release (P e * 16 + c) else 0) e + (if C e = i then lN (U e) * a_release (P e * 16 + c) else 0) := rfl
    rw [es] at I
    refine br_f (nI_ge hem (by omega)) ⟨ve, ?_⟩
    rw [i1, i2, i3]
    by_cases q : C e = i
    · rw [if_pos q] at I
      refine br_t (by rw [q]) ⟨ve, ve, ?_⟩
      rw [xh_ix]
      refine ⟨vp_in_nI (by omega) (by omega), nm_r ?_ (nm_r (nI_1 e) I)⟩
      rw [nI_clamp (by omega), nI_l (by omega)]
      grind
    · rw [if_neg q, Int64.add_zero] at I
      exact br_f (fun w => q ((nI_eq (by omega) (by omega)).mp w)) (nm_r (nI_1 e) I)
theorem ys_32 {post : Int32 → SY → Prop} {s : Nat → Int64} (hn16 : n ≤ 16) (hm : m ≤ 32) (hc : c < 16) (E : ye_E n m P C U a_ep a_ec a_eu)
    (hs : ∀ i, i < n → a_stock i + (a_receipt (i * 16 + c)).toInt64 + a_planned (i * 16 + c) - (a_demand (i * 16 + c)).toInt64 - ms_s (fun e => if C e = i then lN (U e) * a_release (P e * 16 + c) else 0) m = s i)
    (h : ∀ st', (∀ i, i < n → st' i = s i) → post (nI (sp_c s n)) ((nI n), (nI p), (nI m), f_hasPlan, (nI (c + 1)), a_lead, a_rule, a_param, a_onHand, a_demand, a_receipt, a_ep, a_ec, a_eu, a_gross, a_net, a_planned, a_release, a_projected, a_pastDue, st', a_lvl, a_reach)) :
    ∀ d i st, i + d = n → (∀ j, j < i → st j = s j) → (∀ j, i ≤ j → st j = a_stock j) → wY_step_32 post (nI c) (nI n) (nI p) (nI m) f_hasPlan f_current (d + 1) (nI (sp_c s i)) (nI i) a_lead a_rule a_param a_onHand a_demand a_receipt a_ep a_ec a_eu a_gross a_net a_planned a_release a_projected a_pastDue st a_lvl a_reach := by
  intro d
  induction d with
  | zero =>
    intro i st hi z1 z2
    have e : i = n := by omega
    rw [e]
    exact br_t (nI_le (by omega) (by omega)) (nm_r (nI_1 c) (h st fun j hj => z1 j (by omega)))
  | succ d ih =>
    intro i st hi z1 z2
    have ei : (nI i).toNatClampNeg = i := nI_clamp (by omega)
    have ec : (nI (i * 16 + c)).toNatClampNeg = i * 16 + c := nI_clamp (by omega)
    have vi : vp_in (nI i) 16 := vp_in_nI (by omega) (by omega)
    have vc : vp_in (nI (i * 16 + c)) 256 := vp_in_nI (by omega) (by omega)
    have I := ih (i + 1) (vp_updL st i (s i)) (by omega) (fun j hj => by
      by_cases e : j = i
      · rw [e, pk_uLs]
      · rw [pk_uLn e]; exact z1 j (by omega)) (fun j hj => by rw [pk_uLn (by omega)]; exact z2 j (by omega))
    have es : sp_c s (i + 1) = if 0 ≤ s i then sp_c s i else sp_c s i + 1 := rfl
    rw [es] at I
    refine br_f (nI_ge (by omega) (by omega)) ?_
    rw [xh_ix]
    refine ⟨vi, vc, vc, vc, nm_r (e' := a_stock i + (a_receipt (i * 16 + c)).toInt64 + a_planned (i * 16 + c) - (a_demand (i * 16 + c)).toInt64 - 0) (by rw [ei, ec, z2 i (by omega)]; grind) ⟨m + 1, ?_⟩⟩
    refine ys_89 (s := s i) hn16 hm (by omega) hc E (hs i (by omega)) (fun q => ?_) (fun q => ?_) m 0 (by omega)
    · rw [if_pos q] at I
      exact I
    · rw [if_neg q] at I
      rw [nI_1]
      exact I
end
theorem i_vc_step {k : Nat} {u : SX} {v : SY} (I : i_Rel k u v) (hk : k + 5 ≤ 2562) : wpX_step (fun r u' => wpY_step (fun r' v' => r' = r ∧ i_Rel (k + 5) u' v') v) u := by
  have J : i_Rel (k + 5) u v := i_up I
  obtain ⟨n, p, m, P, C, U, Q, Ld, L, cu, hp, a_leads, a_rules, a_params, a_onHands, a_demands, a_receipts, a_usages, a_levels, a_reached, a_ep, a_ec, a_eu, a_lvl, a_reach, xgr, xne, xpl, xrl, xpj, xpd, xst, ygr, yne, ypl, yrl, ypj, ypd, yst, rfl, rfl, S, H⟩ := I
  have S' := S
  obtain ⟨s1, s2, s3, s4, s5, s6, s7, s8, s9, s10⟩ := S'
  have h1 : ¬ (1 : Int32) = 0 := by decide
  unfold wpX_step
  rcases H with ⟨rfl, rfl⟩ | ⟨rfl, c, hc, rfl, K⟩
  · exact xa_plan0 rfl (br_t rfl (br_t rfl ⟨rfl, J⟩))
  · refine xa_plan1 (xa_mone (by omega)) (br_f h1 ?_)
    by_cases q : c < p
    · refine br_t (nI_lt q (by omega)) ⟨n + 1, ?_⟩
      refine xs_27 (s := fun i => xst i + ((a_receipts (i * 16 + c)).toInt64 + xpl (i * 16 + c) - xgr (i * 16 + c))) s2 (by omega) (fun _ _ => rfl) (fun st' e1 => ?_) n 0 xst (by omega) (fun j hj => absurd hj (by omega)) (fun _ _ => rfl)
      refine br_f h1 (br_f (fun w => absurd ((nI_eq (by omega) (by omega)).mp w) (by omega)) ⟨n + 1, ?_⟩)
      refine ys_32 (s := fun i => xst i + ((a_receipts (i * 16 + c)).toInt64 + xpl (i * 16 + c) - xgr (i * 16 + c))) s2 s5 (by omega) s6 (fun i hi => ?_) (fun st'' e2 => ?_) n 0 yst (by omega) (fun j hj => absurd hj (by omega)) (fun _ _ => rfl)
      · obtain ⟨k1, k2, k3⟩ := K i hi
        obtain ⟨q1, q2, q3, q4, q5, q6⟩ := k3 c q
        show _ = xst i + ((a_receipts (i * 16 + c)).toInt64 + xpl (i * 16 + c) - xgr (i * 16 + c))
        rw [q6, k2, q3]
        generalize ms_s (fun e => if C e = i then lN (U e) * yrl (P e * 16 + c) else 0) m = z
        grind
      · refine ⟨rfl, rl_mk S (Or.inr ⟨rfl, c + 1, by omega, rfl, fun i hi => ?_⟩)⟩
        obtain ⟨k1, k2, k3⟩ := K i hi
        exact ⟨k1, (e1 i hi).trans (e2 i hi).symm, k3⟩
    · have e : c = p := by omega
      exact br_f (nI_nlt (by omega) (by omega)) (br_f h1 (br_t (by rw [e]) ⟨rfl, J⟩))
end
section
/-! the owed statements of addComponent and removeComponent -/
theorem ed_down (f : Nat → Nat) (e : Nat) : ∃ g : Nat → Nat, (∀ j, j < e → g j = f j) ∧ (∀ j, e ≤ j → g j = f (j + 1)) :=
  ⟨fun j => if j < e then f j else f (j + 1), fun j hj => if_pos hj, fun j hj => if_neg (by omega)⟩
theorem ed_at (f : Nat → Nat) (m w : Nat) : ∃ g : Nat → Nat, (∀ j, j < m → g j = f j) ∧ g m = w :=
  ⟨fun j => if j = m then w else f j, fun j hj => if_neg (by omega), if_pos rfl⟩
theorem ed_put (f : Nat → Nat) (e w : Nat) : ∃ g : Nat → Nat, (∀ j, j ≠ e → g j = f j) ∧ g e = w :=
  ⟨fun j => if j = e then w else f j, fun j hj => if_neg hj, if_pos rfl⟩
theorem ed_pair {a b c d : Nat} (hb : b < 16) (hd : d < 16) (h : a * 16 + b = c * 16 + d) : a = c ∧ b = d := by omega
/-- a new edge t s with usage w at place m -/
theorem ed_newE {n m t s w : Nat} {P C U P' C' U' : Nat → Nat} {ep ec eu : Nat → Int32} (E : ye_E n m P C U ep ec eu) (ht : t < n) (hs : s < n) (hw : 1 ≤ w ∧ w ≤ 9)
    (p1 : ∀ e, e < m → P' e = P e) (p2 : P' m = t) (c1 : ∀ e, e < m → C' e = C e) (c2 : C' m = s) (u1 : ∀ e, e < m → U' e = U e) (u2 : U' m = w) :
    ye_E n (m + 1) P' C' U' (upd ep m (nI t)) (upd ec m (nI s)) (upd eu m (nI w)) := by
  intro e he
  by_cases q : e = m
  · rw [q, p2, c2, u2, pk_us, pk_us, pk_us]
    exact ⟨rfl, rfl, rfl, ht, hs, hw.1, hw.2⟩
  · have h : e < m := by omega
    rw [p1 e h, c1 e h, u1 e h, pk_un q, pk_un q, pk_un q]
    exact E e h
theorem ed_newM {n m t s w : Nat} {P C U P' C' U' : Nat → Nat} {ep ec eu us : Nat → Int32} (hn16 : n ≤ 16) (E : ye_E n m P C U ep ec eu) (M : xr_M n m P C U us) (ht : t < n) (hs : s < n) (hno : ∀ e, e < m → ¬ (P e = t ∧ C e = s))
    (p1 : ∀ e, e < m → P' e = P e) (p2 : P' m = t) (c1 : ∀ e, e < m → C' e = C e) (c2 : C' m = s) (u1 : ∀ e, e < m → U' e = U e) (u2 : U' m = w) :
    xr_M n (m + 1) P' C' U' (upd us (t * 16 + s) (nI w)) := by
  refine ⟨fun e he => ?_, fun a b ha hb h => ?_, fun e f he hf h1 h2 => ?_⟩
  · by_cases q : e = m
    · rw [q, p2, c2, u2, pk_us]
    · have h : e < m := by omega
      obtain ⟨_, _, _, q1, q2, _⟩ := E e h
      rw [p1 e h, c1 e h, u1 e h, pk_un fun z => hno e h (ed_pair (by omega) (by omega) z)]
      exact M.1 e h
  · have h' : ¬ (t = a ∧ s = b) := by
      have z := h m (by omega)
      rw [p2, c2] at z
      exact z
    rw [pk_un fun z => h' (by have y := ed_pair (by omega) (by omega) z; exact ⟨y.1.symm, y.2.symm⟩)]
    refine M.2.1 a b ha hb fun e he => ?_
    have z := h e (by omega)
    rw [p1 e he, c1 e he] at z
    exact z
  · by_cases q : e = m
    · by_cases q' : f = m
      · omega
      · have hf' : f < m := by omega
        rw [q, p2, p1 f hf'] at h1
        rw [q, c2, c1 f hf'] at h2
        exact absurd ⟨h1.symm, h2.symm⟩ (hno f hf')
    · have he' : e < m := by omega
      rw [p1 e he'] at h1
      rw [c1 e he'] at h2
      by_cases q' : f = m
      · rw [q', p2] at h1
        rw [q', c2] at h2
        exact absurd ⟨h1, h2⟩ (hno e he')
      · have hf' : f < m := by omega
        rw [p1 f hf'] at h1
        rw [c1 f hf'] at h2
        exact M.2.2 e f he' hf' h1 h2
theorem ed_newG {m t s : Nat} {P C P' C' : Nat → Nat} (p1 : ∀ e, e < m → P' e = P e) (p2 : P' m = t) (c1 : ∀ e, e < m → C' e = C e) (c2 : C' m = s) (a b : Nat) (h : ye_G (m + 1) P' C' a b) : ye_G m P C a b ∨ (a = t ∧ b = s) := by
  obtain ⟨e, he, h1, h2⟩ := h
  by_cases q : e = m
  · rw [q, p2] at h1
    rw [q, c2] at h2
    exact Or.inr ⟨h1.symm, h2.symm⟩
  · have h : e < m := by omega
    rw [p1 e h] at h1
    rw [c1 e h] at h2
    exact Or.inl ⟨e, h, h1, h2⟩
/-- another usage for edge e -/
theorem ed_useE {n m e w : Nat} {P C U U' : Nat → Nat} {ep ec eu : Nat → Int32} (E : ye_E n m P C U ep ec eu) (hw : 1 ≤ w ∧ w ≤ 9) (u1 : ∀ f, f ≠ e → U' f = U f) (u2 : U' e = w) :
    ye_E n m P C U' ep ec (upd eu e (nI w)) := by
  intro f hf
  obtain ⟨q1, q2, q3, q4, q5, q6⟩ := E f hf
  by_cases q : f = e
  · rw [q, u2, pk_us, ← q]
    exact ⟨q1, q2, rfl, q4, q5, hw.1, hw.2⟩
  · rw [u1 f q, pk_un q]
    exact ⟨q1, q2, q3, q4, q5, q6⟩
theorem ed_useM {n m e w : Nat} {P C U U' : Nat → Nat} {ep ec eu us : Nat → Int32} (hn16 : n ≤ 16) (E : ye_E n m P C U ep ec eu) (M : xr_M n m P C U us) (he : e < m) (u1 : ∀ f, f ≠ e → U' f = U f) (u2 : U' e = w) :
    xr_M n m P C U' (upd us (P e * 16 + C e) (nI w)) := by
  obtain ⟨_, _, _, e1, e2, _⟩ := E e he
  refine ⟨fun f hf => ?_, fun a b ha hb h => ?_, M.2.2⟩
  · obtain ⟨_, _, _, q1, q2, _⟩ := E f hf
    by_cases q : f = e
    · rw [q, u2, pk_us]
    · rw [u1 f q, pk_un fun z => q (by have y := ed_pair (by omega) (by omega) z; exact M.2.2 f e hf he y.1 y.2)]
      exact M.1 f hf
  · rw [pk_un fun z => h e he (by have y := ed_pair (by omega) (by omega) z; exact ⟨y.1.symm, y.2.symm⟩)]
    exact M.2.1 a b ha hb h
/-- edge e gone, those behind it one place down -/
def ed_sh (e f : Nat) (a0 a : Nat → Int32) : Prop := ∀ g, (g < e → a g = a0 g) ∧ (e ≤ g → g < f → a g = a0 (g + 1)) ∧ (f ≤ g → a g = a0 g)
theorem ed_sh0 (e : Nat) (a0 : Nat → Int32) : ed_sh e e a0 a0 := fun _ => ⟨fun _ => rfl, fun h1 h2 => absurd h2 (by omega), fun _ => rfl⟩
theorem ed_shs {e f : Nat} {a0 a : Nat → Int32} (he : e ≤ f) (h : ed_sh e f a0 a) : ed_sh e (f + 1) a0 (upd a f (a (f + 1))) := by
  intro g
  refine ⟨fun q => ?_, fun q1 q2 => ?_, fun q => ?_⟩
  · rw [pk_un (by omega)]; exact (h g).1 q
  · by_cases z : g = f
    · rw [z, pk_us]; exact (h (f + 1)).2.2 (by omega)
    · rw [pk_un z]; exact (h g).2.1 q1 (by omega)
  · rw [pk_un (by omega)]; exact (h g).2.2 (by omega)
theorem ed_remE {n m e : Nat} {P C U P' C' U' : Nat → Nat} {ep ec eu ep' ec' eu' : Nat → Int32} (E : ye_E n (m + 1) P C U ep ec eu) (he : e ≤ m)
    (a1 : ed_sh e m ep ep') (a2 : ed_sh e m ec ec') (a3 : ed_sh e m eu eu')
    (p1 : ∀ f, f < e → P' f = P f ∧ C' f = C f ∧ U' f = U f) (p2 : ∀ f, e ≤ f → P' f = P (f + 1) ∧ C' f = C (f + 1) ∧ U' f = U (f + 1)) :
    ye_E n m P' C' U' ep' ec' eu' := by
  intro f hf
  by_cases q : f < e
  · obtain ⟨x1, x2, x3⟩ := p1 f q
    rw [x1, x2, x3, (a1 f).1 q, (a2 f).1 q, (a3 f).1 q]
    exact E f (by omega)
  · obtain ⟨x1, x2, x3⟩ := p2 f (by omega)
    rw [x1, x2, x3, (a1 f).2.1 (by omega) hf, (a2 f).2.1 (by omega) hf, (a3 f).2.1 (by omega) hf]
    exact E (f + 1) (by omega)
theorem ed_remM {n m e : Nat} {P C U P' C' U' : Nat → Nat} {ep ec eu us : Nat → Int32} (hn16 : n ≤ 16) (E : ye_E n (m + 1) P C U ep ec eu) (M : xr_M n (m + 1) P C U us) (he : e ≤ m)
    (p1 : ∀ f, f < e → P' f = P f ∧ C' f = C f ∧ U' f = U f) (p2 : ∀ f, e ≤ f → P' f = P (f + 1) ∧ C' f = C (f + 1) ∧ U' f = U (f + 1)) :
    xr_M n m P' C' U' (upd us (P e * 16 + C e) 0) := by
  have key : ∀ f, f < m → ∃ g, g < m + 1 ∧ g ≠ e ∧ P' f = P g ∧ C' f = C g ∧ U' f = U g ∧ (g = f ∧ f < e ∨ g = f + 1 ∧ e ≤ f) := by
    intro f hf
    by_cases q : f < e
    · obtain ⟨x1, x2, x3⟩ := p1 f q
      exact ⟨f, by omega, by omega, x1, x2, x3, Or.inl ⟨rfl, q⟩⟩
    · obtain ⟨x1, x2, x3⟩ := p2 f (by omega)
      exact ⟨f + 1, by omega, by omega, x1, x2, x3, Or.inr ⟨rfl, by omega⟩⟩
  obtain ⟨_, _, _, e1, e2, _⟩ := E e (by omega)
  refine ⟨fun f hf => ?_, fun a b ha hb h => ?_, fun f f' hf hf' h1 h2 => ?_⟩
  · obtain ⟨g, g1, g2, g3, g4, g5, _⟩ := key f hf
    obtain ⟨_, _, _, q1, q2, _⟩ := E g g1
    rw [g3, g4, g5, pk_un fun z => g2 (by have y := ed_pair (by omega) (by omega) z; exact M.2.2 g e g1 (by omega) y.1 y.2)]
    exact M.1 g g1
  · by_cases q : a * 16 + b = P e * 16 + C e
    · rw [q, pk_us]
    · rw [pk_un q]
      refine M.2.1 a b ha hb fun g hg w => ?_
      by_cases z : g = e
      · rw [z] at w
        exact q (by rw [← w.1, ← w.2])
      · by_cases z2 : g < e
        · obtain ⟨x1, x2, _⟩ := p1 g z2
          refine h g (by omega) ?_
          rw [x1, x2]
          exact w
        · obtain ⟨x1, x2, _⟩ := p2 (g - 1) (by omega)
          have z3 : g - 1 + 1 = g := by omega
          rw [z3] at x1 x2
          refine h (g - 1) (by omega) ?_
          rw [x1, x2]
          exact w
  · obtain ⟨g, g1, g2, g3, g4, g5, g6⟩ := key f hf
    obtain ⟨g', g1', g2', g3', g4', g5', g6'⟩ := key f' hf'
    rw [g3, g3'] at h1
    rw [g4, g4'] at h2
    have z := M.2.2 g g' g1 g1' h1 h2
    omega
theorem ed_remG {m e : Nat} {P C U P' C' U' : Nat → Nat} (he : e ≤ m)
    (p1 : ∀ f, f < e → P' f = P f ∧ C' f = C f ∧ U' f = U f) (p2 : ∀ f, e ≤ f → P' f = P (f + 1) ∧ C' f = C (f + 1) ∧ U' f = U (f + 1)) (a b : Nat) (h : ye_G m P' C' a b) : ye_G (m + 1) P C a b := by
  obtain ⟨f, hf, h1, h2⟩ := h
  by_cases q : f < e
  · obtain ⟨x1, x2, _⟩ := p1 f q
    exact ⟨f, by omega, x1.symm.trans h1, x2.symm.trans h2⟩
  · obtain ⟨x1, x2, _⟩ := p2 f (by omega)
    exact ⟨f + 1, by omega, x1.symm.trans h1, x2.symm.trans h2⟩
section
variable {n m e : Nat} {f_p f_hasPlan f_current : Int32} {a_lead a_rule a_param a_onHand a_demand a_receipt a_ep a_ec a_eu a_lvl a_reach : Nat → Int32} {a_gross a_net a_planned a_release a_projected a_pastDue a_stock : Nat → Int64}
theorem ed_42 {post : Int32 → SY → Prop} (hm : m + 1 ≤ 32)
    (h : ∀ ep' ec' eu', ed_sh e m a_ep ep' → ed_sh e m a_ec ec' → ed_sh e m a_eu eu' → post 1 ((nI n), f_p, (nI m), 0, (-1), a_lead, a_rule, a_param, a_onHand, a_demand, a_receipt, ep', ec', eu', a_gross, a_net, a_planned, a_release, a_projected, a_pastDue, a_stock, a_lvl, a_reach)) :
    ∀ d f ep ec eu, f + d = m → e ≤ f → ed_sh e f a_ep ep → ed_sh e f a_ec ec → ed_sh e f a_eu eu → wY_removeComponent_42 post (nI n) f_p (nI (m + 1)) f_hasPlan f_current (d + 1) (nI f) a_lead a_rule a_param a_onHand a_demand a_receipt ep ec eu a_gross a_net a_planned a_release a_projected a_pastDue a_stock a_lvl a_reach := by
  intro d
  induction d with
  | zero =>
    intro f ep ec eu hf he a1 a2 a3
    have q : f = m := by omega
    rw [q] at a1 a2 a3
    refine br_t (by rw [nI_1]; exact nI_le (by omega) (by omega)) (nm_r (nI_pred m) ?_)
    unfold wpY_discard
    exact h ep ec eu a1 a2 a3
  | succ d ih =>
    intro f ep ec eu hf he a1 a2 a3
    have e1 : (nI (f + 1)).toNatClampNeg = f + 1 := nI_clamp (by omega)
    have v1 : vp_in (nI (f + 1)) 32 := vp_in_nI (by omega) (by omega)
    have v0 : vp_in (nI f) 32 := vp_in_nI (by omega) (by omega)
    refine br_f (by rw [nI_1]; exact nI_ge (by omega) (by omega)) ?_
    rw [nI_1 f]
    refine ⟨v1, v0, nm_r (xh_up (y := ep (f + 1)) (by omega) (by rw [e1])) ⟨v1, v0, nm_r (xh_up (y := ec (f + 1)) (by omega) (by rw [e1])) ⟨v1, v0, nm_r (xh_up (y := eu (f + 1)) (by omega) (by rw [e1])) (nm_e ?_)⟩⟩⟩
    exact ih (f + 1) _ _ _ (by omega) (by omega) (ed_shs he a1) (ed_shs he a2) (ed_shs he a3)
end
theorem i_vc_removeComponent {k : Nat} {u : SX} {v : SY} (I : i_Rel k u v) (hk : k + 5 ≤ 2562) (v1 : Int32) (v2 : Int32) : wpX_removeComponent (fun r u' => wpY_removeComponent (fun r' v' => r' = r ∧ i_Rel (k + 5) u' v') v v1 v2) u v1 v2 := by
  have J : i_Rel (k + 5) u v := i_up I
  obtain ⟨n, p, m, P, C, U, Q, Ld, L, cu, hp, a_leads, a_rules, a_params, a_onHands, a_demands, a_receipts, a_usages, a_levels, a_reached, a_ep, a_ec, a_eu, a_lvl, a_reach, xgr, xne, xpl, xrl, xpj, xpd, xst, ygr, yne, ypl, yrl, ypj, ypd, yst, rfl, rfl, S, H⟩ := I
  obtain ⟨s1, s2, s3, s4, s5, s6, s7, s8, s9, s10⟩ := S
  have h1 : ¬ (1 : Int32) = 0 := by decide
  unfold wpX_removeComponent
  rcases pk_ix v1 (n := n) (by omega) with a | a | ⟨t, ht, rfl⟩
  · exact xa_item0 (Or.inl a) (br_t rfl (br_t a ⟨rfl, J⟩))
  · exact xa_item0 (Or.inr a) (br_t rfl (br_f (xa_nn s2 a) (br_t a ⟨rfl, J⟩)))
  · have p1 : ¬ nI t < 0 := nI_pos (by omega)
    have p2 : ¬ nI n ≤ nI t := xa_nge s2 ht
    refine xa_item1 s2 ht (br_f h1 ?_)
    rcases pk_ix v2 (n := n) (by omega) with a | a | ⟨s, hs, rfl⟩
    · exact xa_item0 (Or.inl a) (br_t rfl (br_f p1 (br_f p2 (br_t a ⟨rfl, J⟩))))
    · exact xa_item0 (Or.inr a) (br_t rfl (br_f p1 (br_f p2 (br_f (xa_nn s2 a) (br_f (Int32.not_lt.mpr a) ⟨rfl, J⟩)))))
    · have p3 : ¬ nI s < 0 := nI_pos (by omega)
      have p4 : nI s < nI n := nI_lt hs (by omega)
      have vc : vp_in (nI (t * 16 + s)) 256 := vp_in_nI (by omega) (by omega)
      have ec : (nI (t * 16 + s)).toNatClampNeg = t * 16 + s := nI_clamp (by omega)
      refine xa_item1 s2 hs (br_f h1 (xh_pair ⟨vc, ?_⟩))
      rw [ec]
      by_cases h : ∃ e, e < m ∧ P e = t ∧ C e = s
      · obtain ⟨e, he, q1, q2⟩ := h
        obtain ⟨m, rfl⟩ : ∃ m', m = m' + 1 := ⟨m - 1, by omega⟩
        have qu : a_usages (t * 16 + s) = nI (U e) := by
          have z := s7.1 e he
          rw [q1, q2] at z
          exact z
        have uu := (s6 e he).2.2.2.2.2
        obtain ⟨P', x1, x2⟩ := ed_down P e
        obtain ⟨C', y1, y2⟩ := ed_down C e
        obtain ⟨U', z1, z2⟩ := ed_down U e
        have f1 : ∀ f, f < e → P' f = P f ∧ C' f = C f ∧ U' f = U f := fun f hf => ⟨x1 f hf, y1 f hf, z1 f hf⟩
        have f2 : ∀ f, e ≤ f → P' f = P (f + 1) ∧ C' f = C (f + 1) ∧ U' f = U (f + 1) := fun f hf => ⟨x2 f hf, y2 f hf, z2 f hf⟩
        have M' := ed_remM s2 s6 s7 (by omega) f1 f2
        rw [q1, q2] at M'
        have G' := ed_remG (m := m) (U := U) (by omega) f1 f2
        have hn' : ∀ a b, ye_G m P' C' a b → a < n ∧ b < n := fun a b g => ye_Gn s6 a b (G' a b g)
        obtain ⟨L', T'⟩ := mg_ex hn' ⟨L, fun a b g => s8.1 a b (G' a b g)⟩
        have hU' : ∀ f, f < m → 1 ≤ U' f ∧ U' f ≤ 9 := by
          intro f hf
          by_cases q : f < e
          · rw [z1 f q]; exact (s6 f (by omega)).2.2.2.2.2
          · rw [z2 f (by omega)]; exact (s6 (f + 1) (by omega)).2.2.2.2.2
        refine br_f (by rw [qu]; exact nI_ne0 (by omega) (by omega)) ⟨vc, nm_r (e' := upd a_usages (t * 16 + s) 0) rfl (nm_r (nI_pred m) (xl_find s1 s2 T' hn' (xr_MU hU' M') (fun lv' hv => ?_)))⟩
        unfold wpX_discardPlan
        refine br_f p1 (br_f p2 (br_f p3 (br_t p4 (yf_find s2 s5 s6 ht hs (fun e' he' w1 w2 => ?_) (fun h0 => absurd ⟨q1, q2⟩ (h0 e he))))))
        have ee : e' = e := s7.2.2 e' e he' he (w1.trans q1.symm) (w2.trans q2.symm)
        rw [ee]
        refine br_t (nI_pos' (by omega)) ⟨m - e + 1, ed_42 s5 (fun ep' ec' eu' a1 a2 a3 => ?_) (m - e) e a_ep a_ec a_eu (by omega) (Nat.le_refl _) (ed_sh0 e _) (ed_sh0 e _) (ed_sh0 e _)⟩
        exact ⟨rfl, rl_mk ⟨s1, s2, s3, s4, by omega, ed_remE s6 (by omega) a1 a2 a3 f1 f2, M', T', hv, s10⟩ (Or.inl ⟨rfl, rfl⟩)⟩
      · have hno : ∀ e, e < m → ¬ (P e = t ∧ C e = s) := fun e he w => h ⟨e, he, w.1, w.2⟩
        refine br_t (s7.2.1 t s ht hs hno) (br_f p1 (br_f p2 (br_f p3 (br_t p4 (yf_find s2 s5 s6 ht hs (fun e he q1 q2 => absurd ⟨q1, q2⟩ (hno e he)) (fun _ => br_f (by decide) ⟨rfl, J⟩))))))
theorem i_vc_addComponent {k : Nat} {u : SX} {v : SY} (I : i_Rel k u v) (hk : k + 5 ≤ 2562) (v1 : Int32) (v2 : Int32) (v3 : Int32) : wpX_addComponent (fun r u' => wpY_addComponent (fun r' v' => r' = r ∧ i_Rel (k + 5) u' v') v v1 v2 v3) u v1 v2 v3 := by
  have J : i_Rel (k + 5) u v := i_up I
  obtain ⟨n, p, m, P, C, U, Q, Ld, L, cu, hp, a_leads, a_rules, a_params, a_onHands, a_demands, a_receipts, a_usages, a_levels, a_reached, a_ep, a_ec, a_eu, a_lvl, a_reach, xgr, xne, xpl, xrl, xpj, xpd, xst, ygr, yne, ypl, yrl, ypj, ypd, yst, rfl, rfl, S, H⟩ := I
  have S' := S
  obtain ⟨s1, s2, s3, s4, s5, s6, s7, s8, s9, s10⟩ := S'
  have h1 : ¬ (1 : Int32) = 0 := by decide
  have hU : ∀ e, e < m → 1 ≤ U e ∧ U e ≤ 9 := fun e he => (s6 e he).2.2.2.2.2
  unfold wpX_addComponent
  rcases pk_ix v1 (n := n) (by omega) with a | a | ⟨t, ht, rfl⟩
  · exact xa_item0 (Or.inl a) (br_t rfl (br_t a ⟨rfl, J⟩))
  · exact xa_item0 (Or.inr a) (br_t rfl (br_f (xa_nn s2 a) (br_t a ⟨rfl, J⟩)))
  · have p1 : ¬ nI t < 0 := nI_pos (by omega)
    have p2 : ¬ nI n ≤ nI t := xa_nge s2 ht
    refine xa_item1 s2 ht (br_f h1 ?_)
    rcases pk_ix v2 (n := n) (by omega) with a | a | ⟨s, hs, rfl⟩
    · exact xa_item0 (Or.inl a) (br_t rfl (br_f p1 (br_f p2 (br_t a ⟨rfl, J⟩))))
    · exact xa_item0 (Or.inr a) (br_t rfl (br_f p1 (br_f p2 (br_f (xa_nn s2 a) (br_t a ⟨rfl, J⟩)))))
    · have p3 : ¬ nI s < 0 := nI_pos (by omega)
      have p4 : ¬ nI n ≤ nI s := xa_nge s2 hs
      refine xa_item1 s2 hs (br_f h1 ?_)
      by_cases b : v3 < 1
      · exact xa_in0 (Or.inl b) (br_t rfl (br_f p1 (br_f p2 (br_f p3 (br_f p4 (br_t b ⟨rfl, J⟩))))))
      · by_cases b2 : v3 ≤ 9
        · obtain ⟨w, hw, rfl⟩ := wr_of (c := 9) (by omega) (fun z => b (Int32.lt_trans z (by decide))) b2
          have hw1 : 1 ≤ w := (nI_leI (a := 1) (by omega) (by omega)).mp (Int32.not_lt.mp b)
          refine xa_in1 b (Int32.not_lt.mpr b2) (br_f h1 ?_)
          by_cases ts : t = s
          · exact br_t (by rw [ts]) (br_f p1 (br_f p2 (br_f p3 (br_f p4 (br_f b (br_t b2 (br_t (by rw [ts]) ⟨rfl, J⟩)))))))
          · have ts' : ¬ nI t = nI s := fun z => ts ((nI_eq (by omega) (by omega)).mp z)
            have vc : vp_in (nI (t * 16 + s)) 256 := vp_in_nI (by omega) (by omega)
            have ec : (nI (t * 16 + s)).toNatClampNeg = t * 16 + s := nI_clamp (by omega)
            refine br_f ts' (xh_pair ⟨vc, ?_⟩)
            rw [ec]
            by_cases h : ∃ e, e < m ∧ P e = t ∧ C e = s
            · obtain ⟨e, he, q1, q2⟩ := h
              have qu : a_usages (t * 16 + s) = nI (U e) := by
                have z := s7.1 e he
                rw [q1, q2] at z
                exact z
              have uu := hU e he
              obtain ⟨U', u1, u2⟩ := ed_put U e w
              have M' := ed_useM s2 s6 s7 he u1 u2
              rw [q1, q2] at M'
              have E' : ye_E n m P C U' a_ep a_ec (upd a_eu e (nI w)) := ed_useE s6 ⟨hw1, hw⟩ u1 u2
              refine br_f (by rw [qu]; exact nI_ne0 (by omega) (by omega)) ?_
              unfold wX_addComponent_87
              refine ⟨vc, nm_r (e' := upd a_usages (t * 16 + s) (nI w)) (by rw [ec]) (xl_find s1 s2 s8 (ye_Gn s6) (xr_MU (fun f hf => (E' f hf).2.2.2.2.2) M') (fun lv' hv => ?_))⟩
              unfold wpX_discardPlan
              refine br_f p1 (br_f p2 (br_f p3 (br_f p4 (br_f b (br_t b2 (br_f ts' (yf_find s2 s5 s6 ht hs (fun e' he' w1 w2 => ?_) (fun h0 => absurd ⟨q1, q2⟩ (h0 e he)))))))))
              have ee : e' = e := s7.2.2 e' e he' he (w1.trans q1.symm) (w2.trans q2.symm)
              rw [ee]
              refine br_f (nI_pos (by omega)) ⟨vp_in_nI (by omega) (by omega), nm_r (xh_up (by omega) rfl) ?_⟩
              unfold wpY_discard
              exact ⟨rfl, rl_mk ⟨s1, s2, s3, s4, s5, E', M', s8, hv, s10⟩ (Or.inl ⟨rfl, rfl⟩)⟩
            · have hno : ∀ e, e < m → ¬ (P e = t ∧ C e = s) := fun e he w => h ⟨e, he, w.1, w.2⟩
              refine br_t (s7.2.1 t s ht hs hno) ?_
              by_cases hm : m < 32
              · have lm : nI m < 32 := nI_lt (b := 32) hm (by omega)
                refine br_t lm (xq_lead s1 s2 s8 (ye_Gn s6) (xr_MU hU s7) hs ht (fun re' hr => ?_) (fun re' hr => ?_))
                · refine br_f h1 (br_f p1 (br_f p2 (br_f p3 (br_f p4 (br_f b (br_t b2 (br_f ts' (yf_find s2 s5 s6 ht hs (fun e he q1 q2 => absurd ⟨q1, q2⟩ (hno e he)) (fun _ => ?_)))))))))
                  refine br_t (by decide) (br_t lm ⟨17, yq_87 s2 hm s8 s6 hs ht (fun re'' _ => ?_) (fun re'' hr' => absurd hr hr') 16 0 a_reach (by omega) (fun j hj => absurd hj (by omega))⟩)
                  exact ⟨rfl, rl_mk S H⟩
                · obtain ⟨P', x1, x2⟩ := ed_at P m t
                  obtain ⟨C', y1, y2⟩ := ed_at C m s
                  obtain ⟨U', z1, z2⟩ := ed_at U m w
                  have M' := ed_newM (w := w) s2 s6 s7 ht hs hno x1 x2 y1 y2 z1 z2
                  have E' := ed_newE s6 ht hs ⟨hw1, hw⟩ x1 x2 y1 y2 z1 z2
                  obtain ⟨L', T'⟩ := mg_ex (ye_Gn E') (mg_add s8 ht (ye_Gn s6) (ed_newG x1 x2 y1 y2) hr)
                  refine br_t rfl (nm_r (nI_1 m) ?_)
                  unfold wX_addComponent_87
                  refine ⟨vc, nm_r (e' := upd a_usages (t * 16 + s) (nI w)) (by rw [ec]) (xl_find s1 s2 T' (ye_Gn E') (xr_MU (fun f hf => (E' f hf).2.2.2.2.2) M') (fun lv' hv => ?_))⟩
                  unfold wpX_discardPlan
                  refine br_f p1 (br_f p2 (br_f p3 (br_f p4 (br_f b (br_t b2 (br_f ts' (yf_find s2 s5 s6 ht hs (fun e he q1 q2 => absurd ⟨q1, q2⟩ (hno e he)) (fun _ => ?_))))))))
                  refine br_t (by decide) (br_t lm ⟨17, yq_87 s2 hm s8 s6 hs ht (fun re'' hr' => absurd hr' hr) (fun re'' _ => ?_) 16 0 a_reach (by omega) (fun j hj => absurd hj (by omega))⟩)
                  exact ⟨rfl, rl_mk ⟨s1, s2, s3, s4, by omega, E', M', T', hv, s10⟩ (Or.inl ⟨rfl, rfl⟩)⟩
              · have lm : ¬ nI m < 32 := nI_nlt (b := 32) (by omega) (by omega)
                refine br_f lm (br_f p1 (br_f p2 (br_f p3 (br_f p4 (br_f b (br_t b2 (br_f ts' (yf_find s2 s5 s6 ht hs (fun e he q1 q2 => absurd ⟨q1, q2⟩ (hno e he)) (fun _ => br_t (by decide) (br_f lm ⟨rfl, J⟩))))))))))
        · exact xa_in0 (Or.inr (Int32.not_le.mp b2)) (br_t rfl (br_f p1 (br_f p2 (br_f p3 (br_f p4 (br_f b (br_f b2 ⟨rfl, J⟩)))))))
end
