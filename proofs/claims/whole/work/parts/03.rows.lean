/-! Sums of longs, as Java adds them (they wrap, and are a ring all the same) -/
def ms_s (f : Nat → Int64) : Nat → Int64
  | 0 => 0
  | k + 1 => ms_s f k + f k
theorem ms_congr {f g : Nat → Int64} : ∀ k, (∀ j, j < k → f j = g j) → ms_s f k = ms_s g k := by
  intro k
  induction k with
  | zero => intro _; rfl
  | succ k ih =>
    intro h
    show ms_s f k + f k = ms_s g k + g k
    rw [ih fun j hj => h j (by omega), h k (by omega)]
theorem ms_zero {f : Nat → Int64} : ∀ k, (∀ j, j < k → f j = 0) → ms_s f k = 0 := by
  intro k
  induction k with
  | zero => intro _; rfl
  | succ k ih =>
    intro h
    show ms_s f k + f k = 0
    rw [ih fun j hj => h j (by omega), h k (by omega)]
    rfl
theorem ms_add (f g : Nat → Int64) : ∀ k, ms_s (fun j => f j + g j) k = ms_s f k + ms_s g k := by
  intro k
  induction k with
  | zero => rfl
  | succ k ih =>
    show ms_s (fun j => f j + g j) k + (f k + g k) = (ms_s f k + f k) + (ms_s g k + g k)
    rw [ih]; grind
theorem ms_one {f : Nat → Int64} {a : Nat} : ∀ k, a < k → (∀ j, j < k → j ≠ a → f j = 0) → ms_s f k = f a := by
  intro k
  induction k with
  | zero => intro h; omega
  | succ k ih =>
    intro h h0
    show ms_s f k + f k = f a
    by_cases e : a = k
    · subst e
      rw [ms_zero a fun j hj => h0 j (by omega) (by omega)]; grind
    · rw [ih (by omega) fun j hj hne => h0 j (by omega) hne, h0 k (by omega) (by omega)]; grind
theorem ms_swap (F : Nat → Nat → Int64) (m : Nat) : ∀ n, ms_s (fun a => ms_s (fun e => F a e) m) n = ms_s (fun e => ms_s (fun a => F a e) n) m := by
  intro n
  induction n with
  | zero => exact (ms_zero m fun _ _ => rfl).symm
  | succ n ih =>
    show ms_s (fun a => ms_s (fun e => F a e) m) n + ms_s (fun e => F n e) m = ms_s (fun e => ms_s (fun a => F a e) n + F n e) m
    rw [ms_add (fun e => ms_s (fun a => F a e) n) (fun e => F n e) m, ih]
/-- the column of the table against the list of edges -/
theorem ms_col {n m i : Nat} {P C : Nat → Nat} {U u R : Nat → Int64} (hP : ∀ e, e < m → P e < n)
    (h1 : ∀ e, e < m → C e = i → U (P e) = u e) (h0 : ∀ a, a < n → (∀ e, e < m → C e = i → P e ≠ a) → U a = 0)
    (hu : ∀ e f, e < m → f < m → C e = i → C f = i → P e = P f → e = f) :
    ms_s (fun a => U a * R a) n = ms_s (fun e => if C e = i then u e * R (P e) else 0) m := by
  have c1 : ∀ a, a < n → U a * R a = ms_s (fun e => if C e = i ∧ P e = a then u e * R a else 0) m := by
    intro a ha
    by_cases h : ∃ e, e < m ∧ C e = i ∧ P e = a
    · obtain ⟨e, he, hc, hp⟩ := h
      rw [ms_one (a := e) m he]
      · show U a * R a = if C e = i ∧ P e = a then u e * R a else 0
        rw [if_pos ⟨hc, hp⟩, ← h1 e he hc, hp]
      · intro j hj hne
        show (if C j = i ∧ P j = a then u j * R a else 0) = 0
        rw [if_neg]
        intro ⟨q1, q2⟩
        exact hne (hu j e hj he q1 hc (by omega))
    · have hz : U a = 0 := h0 a ha fun e he hc hp => h ⟨e, he, hc, hp⟩
      rw [hz, ms_zero m]
      · grind
      · intro j hj
        show (if C j = i ∧ P j = a then u j * R a else 0) = 0
        rw [if_neg]
        intro ⟨q1, q2⟩
        exact h ⟨j, hj, q1, q2⟩
  rw [ms_congr n c1, ms_swap (fun a e => if C e = i ∧ P e = a then u e * R a else 0) m n]
  refine ms_congr m fun e he => ?_
  show ms_s (fun a => if C e = i ∧ P e = a then u e * R a else 0) n = if C e = i then u e * R (P e) else 0
  by_cases hc : C e = i
  · rw [if_pos hc, ms_one (a := P e) n (hP e he)]
    · show (if C e = i ∧ P e = P e then u e * R (P e) else 0) = u e * R (P e)
      rw [if_pos ⟨hc, rfl⟩]
    · intro j hj hne
      show (if C e = i ∧ P e = j then u e * R j else 0) = 0
      rw [if_neg]
      intro ⟨_, q2⟩
      exact hne q2.symm
  · rw [if_neg hc, ms_zero n]
    intro j hj
    show (if C e = i ∧ P e = j then u e * R j else 0) = 0
    rw [if_neg]
    intro ⟨q1, _⟩
    exact hc q1

/-! One item's row. rho: its rule; q: its parameter; g, rc: GROSS and RECEIPT by period; pv: what is projected before -/
def mr_lk (g rc : Nat → Int64) (pv : Int64) (t : Nat) : Nat → Int64
  | 0 => -pv
  | k + 1 => mr_lk g rc pv t k + (g (t + k) - rc (t + k))
def mr_mx (f : Nat → Int64) (z : Int64) : Nat → Int64
  | 0 => z
  | k + 1 => if mr_mx f z k < f (k + 1) then f (k + 1) else mr_mx f z k
theorem mr_mx1 {f : Nat → Int64} {z : Int64} (h1 : f 1 = z) (h0 : 0 < z) : ∀ k, mr_mx f 0 (k + 1) = mr_mx f z (k + 1) := by
  intro k
  induction k with
  | zero =>
    show (if (0 : Int64) < f 1 then f 1 else 0) = (if z < f 1 then f 1 else z)
    rw [h1, if_pos h0, ite_self]
  | succ k ih =>
    show (if mr_mx f 0 (k + 1) < f (k + 1 + 1) then f (k + 1 + 1) else mr_mx f 0 (k + 1)) = (if mr_mx f z (k + 1) < f (k + 1 + 1) then f (k + 1 + 1) else mr_mx f z (k + 1))
    rw [ih]
theorem mr_lk1 (g rc : Nat → Int64) (pv : Int64) (t : Nat) : mr_lk g rc pv t 1 = g t - rc t - pv := by
  show -pv + (g (t + 0) - rc (t + 0)) = g t - rc t - pv
  rw [Nat.add_zero]; grind
def mr_lot (rho : Int32) (q p : Nat) (g rc : Nat → Int64) (t : Nat) (pv nt : Int64) : Int64 :=
  if rho = 1 then (nt + lN q - 1) / lN q * lN q
  else if rho = 2 then mr_mx (mr_lk g rc pv t) nt (if q < p - t then q else p - t)
  else nt
def mr_lack (g rc : Nat → Int64) (t : Nat) (pv : Int64) : Int64 := g t - rc t - pv
def mr_net (g rc : Nat → Int64) (t : Nat) (pv : Int64) : Int64 := if 0 < mr_lack g rc t pv then mr_lack g rc t pv else 0
def mr_pl (rho : Int32) (q p : Nat) (g rc : Nat → Int64) (t : Nat) (pv : Int64) : Int64 :=
  if 0 < mr_lack g rc t pv then mr_lot rho q p g rc t pv (mr_lack g rc t pv) else 0
def mr_pv (rho : Int32) (q p : Nat) (g rc : Nat → Int64) (oh : Int64) : Nat → Int64
  | 0 => oh
  | t + 1 => mr_pv rho q p g rc oh t + rc t + mr_pl rho q p g rc t (mr_pv rho q p g rc oh t) - g t
/-- PLANNED of the row -/
def mr_P (rho : Int32) (q p : Nat) (g rc : Nat → Int64) (oh : Int64) (t : Nat) : Int64 := mr_pl rho q p g rc t (mr_pv rho q p g rc oh t)
/-- RELEASE and PASTDUE of a row of lots after T periods, lead l -/
def mr_rl (lot : Nat → Int64) (l s T : Nat) : Int64 := ms_s (fun t => if t - l = s then lot t else 0) T
def mr_pd (lot : Nat → Int64) (l T : Nat) : Int64 := ms_s (fun t => if t < l then lot t else 0) T

/-! the releases of all items, level by level: a fixed point -/
noncomputable def mr_it (L : Nat → Nat) (Φ : (Nat → Nat → Int64) → Nat → Nat → Int64) : Nat → Nat → Nat → Int64
  | 0 => fun _ _ => 0
  | k + 1 => fun i => if L i = k then Φ (mr_it L Φ k) i else mr_it L Φ k i
theorem mr_its (L : Nat → Nat) (Φ : (Nat → Nat → Int64) → Nat → Nat → Int64) (i : Nat) : ∀ k, L i < k → mr_it L Φ k i = mr_it L Φ (L i + 1) i := by
  intro k
  induction k with
  | zero => intro h; omega
  | succ k ih =>
    intro h
    by_cases e : L i = k
    · rw [e]
    · rw [← ih (by omega)]
      show (if L i = k then Φ (mr_it L Φ k) i else mr_it L Φ k i) = mr_it L Φ k i
      rw [if_neg e]
theorem mr_fix {n : Nat} (L : Nat → Nat) (Φ : (Nat → Nat → Int64) → Nat → Nat → Int64)
    (h : ∀ r r' i, i < n → (∀ a, L a < L i → r a = r' a) → Φ r i = Φ r' i) : ∃ rel : Nat → Nat → Int64, ∀ i, i < n → rel i = Φ rel i := by
  refine ⟨fun i => mr_it L Φ (L i + 1) i, fun i hi => ?_⟩
  show (if L i = L i then Φ (mr_it L Φ (L i)) i else mr_it L Φ (L i) i) = Φ (fun i => mr_it L Φ (L i + 1) i) i
  rw [if_pos rfl]
  exact h _ _ i hi fun a ha => mr_its L Φ a (L i) ha
