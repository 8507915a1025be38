/-! Bounds: only the reference's 'if (pl > 0)' wants them -/
theorem mb_add {a b : Int64} (h1 : -4611686018427387904 ≤ a.toInt + b.toInt) (h2 : a.toInt + b.toInt ≤ 4611686018427387904) : (a + b).toInt = a.toInt + b.toInt := by
  rw [Int64.toInt_add]; exact Int.bmod_eq_of_le_mul_two (by omega) (by omega)
theorem mb_sub {a b : Int64} (h1 : -4611686018427387904 ≤ a.toInt - b.toInt) (h2 : a.toInt - b.toInt ≤ 4611686018427387904) : (a - b).toInt = a.toInt - b.toInt := by
  rw [Int64.toInt_sub]; exact Int.bmod_eq_of_le_mul_two (by omega) (by omega)
theorem mb_neg {a : Int64} (h1 : -4611686018427387904 ≤ a.toInt) (h2 : a.toInt ≤ 4611686018427387904) : (-a).toInt = -a.toInt := by
  rw [Int64.toInt_neg]; exact Int.bmod_eq_of_le_mul_two (by omega) (by omega)
theorem mb_of {a : Int64} {M : Nat} (h0 : 0 ≤ a.toInt) (h : a.toInt ≤ M) : ∃ k : Nat, k ≤ M ∧ a = lN k := by
  have e : ¬ a < 0 := by
    rw [Int64.lt_iff_toInt_lt, Int64.toInt_zero]; omega
  obtain ⟨k, hk, rfl⟩ := pk_lOf e
  rw [pk_lT hk] at h
  exact ⟨k, by omega, rfl⟩
/-- a sum of naturals -/
def mb_n (f : Nat → Nat) : Nat → Nat
  | 0 => 0
  | k + 1 => mb_n f k + f k
theorem mb_nle {f : Nat → Nat} {M : Nat} : ∀ k, (∀ j, j < k → f j ≤ M) → mb_n f k ≤ k * M := by
  intro k
  induction k with
  | zero => intro _; exact Nat.zero_le _
  | succ k ih =>
    intro h
    have h1 := ih fun j hj => h j (by omega)
    have h2 := h k (by omega)
    show mb_n f k + f k ≤ (k + 1) * M
    rw [Nat.succ_mul]; omega
theorem mb_sN {f : Nat → Int64} {g : Nat → Nat} : ∀ k, (∀ j, j < k → f j = lN (g j)) → ms_s f k = lN (mb_n g k) := by
  intro k
  induction k with
  | zero => intro _; rfl
  | succ k ih =>
    intro h
    show ms_s f k + f k = lN (mb_n g k + g k)
    rw [ih fun j hj => h j (by omega), h k (by omega), lN_add]
/-- a sum of small longs is small -/
theorem mb_s {f : Nat → Int64} {M : Nat} (k : Nat) (h : ∀ j, j < k → ∃ w, w ≤ M ∧ f j = lN w) : ∃ w, w ≤ k * M ∧ ms_s f k = lN w := by
  have hc : ∀ j, ∃ w, j < k → w ≤ M ∧ f j = lN w := by
    intro j
    by_cases hj : j < k
    · obtain ⟨w, hw⟩ := h j hj
      exact ⟨w, fun _ => hw⟩
    · exact ⟨0, fun q => absurd q hj⟩
  obtain ⟨g, hg⟩ := Classical.axiomOfChoice hc
  exact ⟨mb_n g k, mb_nle k fun j hj => (hg j hj).1, mb_sN k fun j hj => (hg j hj).2⟩
theorem mb_lk {g rc : Nat → Int64} {pv : Int64} {t p : Nat} (hg : ∀ j, j < p → 0 ≤ (g j).toInt ∧ (g j).toInt ≤ 1000000000000) (hr : ∀ j, j < p → 0 ≤ (rc j).toInt ∧ (rc j).toInt ≤ 100000)
    (h0 : 0 ≤ pv.toInt) (h1 : pv.toInt ≤ 1000000000000000) : ∀ k, t + k ≤ p → k ≤ 16 → -1000000000000000 - 100000 * (k : Int) ≤ (mr_lk g rc pv t k).toInt ∧ (mr_lk g rc pv t k).toInt ≤ 1000000000000 * (k : Int) := by
  intro k
  induction k with
  | zero =>
    intro _ _
    show -1000000000000000 - 100000 * ((0 : Nat) : Int) ≤ (-pv).toInt ∧ (-pv).toInt ≤ 1000000000000 * ((0 : Nat) : Int)
    rw [mb_neg (by omega) (by omega)]; omega
  | succ k ih =>
    intro hk h16
    have a1 := ih (by omega) (by omega)
    have a2 := hg (t + k) (by omega)
    have a3 := hr (t + k) (by omega)
    have e1 : (g (t + k) - rc (t + k)).toInt = (g (t + k)).toInt - (rc (t + k)).toInt := mb_sub (by omega) (by omega)
    have e2 : (mr_lk g rc pv t k + (g (t + k) - rc (t + k))).toInt = (mr_lk g rc pv t k).toInt + (g (t + k) - rc (t + k)).toInt := mb_add (by omega) (by omega)
    show _ ≤ (mr_lk g rc pv t k + (g (t + k) - rc (t + k))).toInt ∧ (mr_lk g rc pv t k + (g (t + k) - rc (t + k))).toInt ≤ _
    rw [e2, e1]; omega
theorem mb_mx {f : Nat → Int64} {z : Int64} {A B : Int} (hz : A ≤ z.toInt ∧ z.toInt ≤ B) : ∀ k, (∀ j, j ≤ k → (f j).toInt ≤ B) → A ≤ (mr_mx f z k).toInt ∧ (mr_mx f z k).toInt ≤ B := by
  intro k
  induction k with
  | zero => intro _; exact hz
  | succ k ih =>
    intro h
    have h1 := ih fun j hj => h j (by omega)
    have h2 := h (k + 1) (by omega)
    show A ≤ (if mr_mx f z k < f (k + 1) then f (k + 1) else mr_mx f z k).toInt ∧ (if mr_mx f z k < f (k + 1) then f (k + 1) else mr_mx f z k).toInt ≤ B
    split
    · rename_i c
      rw [Int64.lt_iff_toInt_lt] at c
      omega
    · exact h1
/-- a lot covers its lack, and is small -/
theorem mb_lot {rho : Int32} {q p : Nat} {g rc : Nat → Int64} {t : Nat} {pv : Int64}
    (hg : ∀ j, j < p → 0 ≤ (g j).toInt ∧ (g j).toInt ≤ 1000000000000) (hr : ∀ j, j < p → 0 ≤ (rc j).toInt ∧ (rc j).toInt ≤ 100000)
    (h0 : 0 ≤ pv.toInt) (h1 : pv.toInt ≤ 1000000000000000) (ht : t < p) (hp : p ≤ 16) (hq : rho = 1 → 1 ≤ q ∧ q ≤ 10000) (hl : 0 < (mr_lack g rc t pv).toInt) (hl2 : (mr_lack g rc t pv).toInt ≤ 1000000000000) :
    (mr_lack g rc t pv).toInt ≤ (mr_lot rho q p g rc t pv (mr_lack g rc t pv)).toInt ∧ (mr_lot rho q p g rc t pv (mr_lack g rc t pv)).toInt ≤ 17000000000000 := by
  unfold mr_lot
  split
  · rename_i c
    obtain ⟨q1, q2⟩ := hq c
    obtain ⟨w, hw, e⟩ := mb_of (M := 1000000000000) (Int.le_of_lt hl) hl2
    rw [e] at hl ⊢
    rw [pk_lT (by omega)] at hl
    have e1 : lN w + lN q - 1 = lN (w + q - 1) := by
      rw [lN_add]
      have : (1 : Int64) = lN 1 := rfl
      rw [this, lN_sub (by omega)]
    rw [e1, pk_lDiv (by omega) (by omega) (by omega), lN_mul]
    have d1 := Nat.div_add_mod (w + q - 1) q
    have d2 := Nat.mod_lt (w + q - 1) (show 0 < q by omega)
    have d3 : q * ((w + q - 1) / q) = (w + q - 1) / q * q := Nat.mul_comm _ _
    generalize (w + q - 1) / q * q = z at *
    rw [pk_lT (by omega), pk_lT (by omega)]
    omega
  · split
    · have a := mb_lk (t := t) hg hr h0 h1
      refine mb_mx ⟨Int.le_refl _, by omega⟩ _ fun j hj => ?_
      have hj' : j ≤ p - t := by
        split at hj <;> omega
      have b := a j (by omega) (by omega)
      omega
    · omega
theorem mb_lackI {g rc : Nat → Int64} {t : Nat} {pv : Int64} (hg : 0 ≤ (g t).toInt ∧ (g t).toInt ≤ 1000000000000) (hr : 0 ≤ (rc t).toInt ∧ (rc t).toInt ≤ 100000)
    (h0 : 0 ≤ pv.toInt) (h1 : pv.toInt ≤ 1000000000000000) : (mr_lack g rc t pv).toInt = (g t).toInt - (rc t).toInt - pv.toInt := by
  have e1 : (g t - rc t).toInt = (g t).toInt - (rc t).toInt := mb_sub (by omega) (by omega)
  show (g t - rc t - pv).toInt = _
  rw [mb_sub (by omega) (by omega), e1]
theorem mb_pl {rho : Int32} {q p : Nat} {g rc : Nat → Int64} {t : Nat} {pv : Int64}
    (hg : ∀ j, j < p → 0 ≤ (g j).toInt ∧ (g j).toInt ≤ 1000000000000) (hr : ∀ j, j < p → 0 ≤ (rc j).toInt ∧ (rc j).toInt ≤ 100000)
    (h0 : 0 ≤ pv.toInt) (h1 : pv.toInt ≤ 1000000000000000) (ht : t < p) (hp : p ≤ 16) (hq : rho = 1 → 1 ≤ q ∧ q ≤ 10000) :
    0 ≤ (mr_pl rho q p g rc t pv).toInt ∧ (mr_pl rho q p g rc t pv).toInt ≤ 17000000000000 ∧ (mr_lack g rc t pv).toInt ≤ (mr_pl rho q p g rc t pv).toInt := by
  have hl := mb_lackI (hg t ht) (hr t ht) h0 h1
  have a1 := hg t ht
  have a2 := hr t ht
  unfold mr_pl
  split
  · rename_i c
    rw [Int64.lt_iff_toInt_lt, Int64.toInt_zero] at c
    have := mb_lot hg hr h0 h1 ht hp hq c (by omega)
    omega
  · rename_i c
    rw [Int64.lt_iff_toInt_lt, Int64.toInt_zero] at c
    rw [Int64.toInt_zero]; omega
theorem mb_pv {rho : Int32} {q p : Nat} {g rc : Nat → Int64} {oh : Int64}
    (hg : ∀ j, j < p → 0 ≤ (g j).toInt ∧ (g j).toInt ≤ 1000000000000) (hr : ∀ j, j < p → 0 ≤ (rc j).toInt ∧ (rc j).toInt ≤ 100000)
    (ho : 0 ≤ oh.toInt ∧ oh.toInt ≤ 100000) (hp : p ≤ 16) (hq : rho = 1 → 1 ≤ q ∧ q ≤ 10000) :
    ∀ t, t ≤ p → 0 ≤ (mr_pv rho q p g rc oh t).toInt ∧ (mr_pv rho q p g rc oh t).toInt ≤ 100000 + 18000000000000 * (t : Int) := by
  intro t
  induction t with
  | zero => intro _; show 0 ≤ oh.toInt ∧ oh.toInt ≤ 100000 + 18000000000000 * ((0 : Nat) : Int); omega
  | succ t ih =>
    intro ht
    have a := ih (by omega)
    have b := mb_pl (rho := rho) (q := q) (t := t) (pv := mr_pv rho q p g rc oh t) hg hr a.1 (by omega) (by omega) hp hq
    have c := mb_lackI (t := t) (pv := mr_pv rho q p g rc oh t) (hg t (by omega)) (hr t (by omega)) a.1 (by omega)
    have d1 := hg t (by omega)
    have d2 := hr t (by omega)
    show 0 ≤ (mr_pv rho q p g rc oh t + rc t + mr_pl rho q p g rc t (mr_pv rho q p g rc oh t) - g t).toInt ∧ (mr_pv rho q p g rc oh t + rc t + mr_pl rho q p g rc t (mr_pv rho q p g rc oh t) - g t).toInt ≤ 100000 + 18000000000000 * ((t + 1 : Nat) : Int)
    generalize mr_pl rho q p g rc t (mr_pv rho q p g rc oh t) = z at *
    generalize mr_pv rho q p g rc oh t = y at *
    have e1 : (y + rc t).toInt = y.toInt + (rc t).toInt := mb_add (by omega) (by omega)
    have e2 : (y + rc t + z).toInt = (y + rc t).toInt + z.toInt := mb_add (by omega) (by omega)
    have e3 : (y + rc t + z - g t).toInt = (y + rc t + z).toInt - (g t).toInt := mb_sub (by omega) (by omega)
    rw [e3, e2, e1]; omega
/-- every lot of a row is a small natural -/
theorem mb_P {rho : Int32} {q p : Nat} {g rc : Nat → Int64} {oh : Int64}
    (hg : ∀ j, j < p → 0 ≤ (g j).toInt ∧ (g j).toInt ≤ 1000000000000) (hr : ∀ j, j < p → 0 ≤ (rc j).toInt ∧ (rc j).toInt ≤ 100000)
    (ho : 0 ≤ oh.toInt ∧ oh.toInt ≤ 100000) (hp : p ≤ 16) (hq : rho = 1 → 1 ≤ q ∧ q ≤ 10000) (t : Nat) (ht : t < p) :
    ∃ w, w ≤ 17000000000000 ∧ mr_P rho q p g rc oh t = lN w := by
  have a := mb_pv hg hr ho hp hq t (by omega)
  have b := mb_pl (rho := rho) (q := q) (t := t) (pv := mr_pv rho q p g rc oh t) hg hr a.1 (by omega) ht hp hq
  exact mb_of (M := 17000000000000) b.1 b.2.1
theorem mb_rl {lot : Nat → Int64} {p : Nat} (hp : p ≤ 16) (h : ∀ t, t < p → ∃ w, w ≤ 17000000000000 ∧ lot t = lN w) (l s : Nat) : ∃ w, w ≤ 272000000000000 ∧ mr_rl lot l s p = lN w := by
  obtain ⟨w, hw, e⟩ := mb_s (f := fun t => if t - l = s then lot t else 0) (M := 17000000000000) p (fun j hj => by
    show ∃ w, w ≤ 17000000000000 ∧ (if j - l = s then lot j else 0) = lN w
    split
    · exact h j hj
    · exact ⟨0, by omega, rfl⟩)
  have : p * 17000000000000 ≤ 16 * 17000000000000 := Nat.mul_le_mul_right _ hp
  exact ⟨w, by omega, e⟩
/-- GROSS is no less than 0 where the parents' releases are small -/
theorem mb_g {m i d : Nat} {P C : Nat → Nat} {u : Nat → Nat} {rel : Nat → Int64} (hm : m ≤ 32) (hd : d ≤ 100000) (hu : ∀ e, e < m → u e ≤ 9)
    (hR : ∀ e, e < m → C e = i → ∃ w, w ≤ 272000000000000 ∧ rel (P e) = lN w) :
    0 ≤ (lN d + ms_s (fun e => if C e = i then lN (u e) * rel (P e) else 0) m).toInt := by
  obtain ⟨w, hw, e⟩ := mb_s (f := fun e => if C e = i then lN (u e) * rel (P e) else 0) (M := 9 * 272000000000000) m (fun j hj => by
    show ∃ w, w ≤ 9 * 272000000000000 ∧ (if C j = i then lN (u j) * rel (P j) else 0) = lN w
    split
    · rename_i c
      obtain ⟨w, hw, e⟩ := hR j hj c
      exact ⟨u j * w, Nat.mul_le_mul (hu j hj) hw, by rw [e, lN_mul]⟩
    · exact ⟨0, by omega, rfl⟩)
  have h1 : m * (9 * 272000000000000) ≤ 32 * (9 * 272000000000000) := Nat.mul_le_mul_right _ hm
  rw [e, lN_add, pk_lT (by omega)]
  omega
