/-! the number of FREE cells below n -/
def er_cn (f : Nat → Int32) : Nat → Nat
  | 0 => 0
  | n + 1 => er_cn f n + (if f n = 0 then 1 else 0)
theorem er_cn_le (f : Nat → Int32) : ∀ n, er_cn f n ≤ n := by
  intro n
  induction n with
  | zero => exact Nat.le_refl _
  | succ n ih =>
    show er_cn f n + (if f n = 0 then 1 else 0) ≤ n + 1
    split <;> omega
theorem er_cn_out {f : Nat → Int32} {k : Nat} {x : Int32} : ∀ n, n ≤ k → er_cn (upd f k x) n = er_cn f n := by
  intro n
  induction n with
  | zero => exact fun _ => rfl
  | succ n ih =>
    intro h
    show er_cn (upd f k x) n + (if upd f k x n = 0 then 1 else 0) = er_cn f n + (if f n = 0 then 1 else 0)
    rw [ih (by omega), pk_un (by omega)]
theorem er_cn_upd {f : Nat → Int32} {k : Nat} {x : Int32} : ∀ n, k < n → er_cn (upd f k x) n + (if f k = 0 then 1 else 0) = er_cn f n + (if x = 0 then 1 else 0) := by
  intro n
  induction n with
  | zero => intro h; omega
  | succ n ih =>
    intro h
    show er_cn (upd f k x) n + (if upd f k x n = 0 then 1 else 0) + (if f k = 0 then 1 else 0) = er_cn f n + (if f n = 0 then 1 else 0) + (if x = 0 then 1 else 0)
    by_cases e : n = k
    · subst e
      rw [er_cn_out n (Nat.le_refl _), pk_us]
      generalize (if f n = 0 then 1 else 0) = a
      generalize (if x = 0 then 1 else 0) = b
      omega
    · rw [pk_un e]
      have j := ih (by omega)
      generalize (if f n = 0 then 1 else 0) = a at j ⊢
      generalize (if f k = 0 then 1 else 0) = c at j ⊢
      generalize (if x = 0 then 1 else 0) = b at j ⊢
      omega
theorem er_cn_take {f : Nat → Int32} {k n : Nat} {x : Int32} (h : k < n) (h0 : f k = 0) (hx : ¬ x = 0) : er_cn f n = er_cn (upd f k x) n + 1 := by
  have j := er_cn_upd (f := f) (x := x) n h
  rw [if_pos h0, if_neg hx] at j
  omega
theorem er_cn_free {f : Nat → Int32} {k n : Nat} (h : k < n) (h0 : ¬ f k = 0) : er_cn (upd f k 0) n = er_cn f n + 1 := by
  have j := er_cn_upd (f := f) (x := 0) n h
  rw [if_neg h0, if_pos rfl] at j
  omega
theorem er_cn_same {f : Nat → Int32} {k n : Nat} {x : Int32} (h : k < n) (h0 : ¬ f k = 0) (hx : ¬ x = 0) : er_cn (upd f k x) n = er_cn f n := by
  have j := er_cn_upd (f := f) (x := x) n h
  rw [if_neg h0, if_neg hx] at j
  omega
theorem er_cn_dec {f : Nat → Int32} {k n : Nat} {x : Int32} (h : k < n) (h0 : f k = 0) (hx : ¬ x = 0) : nI (er_cn f n) + (-1) = nI (er_cn (upd f k x) n) := by
  rw [er_cn_take h h0 hx, pk_m1]
theorem er_cn_dec' {f : Nat → Int32} {k n : Nat} {x : Int32} (h : k < n) (h0 : f k = 0) (hx : ¬ x = 0) : nI (er_cn f n) - 1 = nI (er_cn (upd f k x) n) := by
  rw [er_cn_take h h0 hx, nI_pred]
theorem er_cn_inc {f : Nat → Int32} {k n : Nat} (h : k < n) (h0 : ¬ f k = 0) : nI (er_cn f n) + 1 = nI (er_cn (upd f k 0) n) := by
  rw [er_cn_free h h0, nI_1]
theorem er_cn_0 : ∀ n, er_cn (fun _ => 0) n = n := by
  intro n
  induction n with
  | zero => rfl
  | succ n ih =>
    show er_cn (fun _ => 0) n + (if (0 : Int32) = 0 then 1 else 0) = n + 1
    rw [ih, if_pos rfl]
/-! the list of an epoch -/
theorem er_m3 (x : Int32) : (x - x / 3 * 3 < 0 → ∃ k, k < 3 ∧ x - x / 3 * 3 + 3 = nI k) ∧ (¬ x - x / 3 * 3 < 0 → ∃ k, k < 3 ∧ x - x / 3 * 3 = nI k) := by
  have e := rem_toInt x 3
  have b := tmod_bounds (a := x.toInt) (M := 3) (by decide)
  have e3 : (3 : Int32).toInt = 3 := by decide
  have e0 : (0 : Int32).toInt = 0 := by decide
  rw [e3] at e
  rw [← e] at b
  generalize x - x / 3 * 3 = r at b ⊢
  constructor
  · intro h
    rw [Int32.lt_iff_toInt_lt, e0] at h
    have hb : (r.toInt + 3).bmod (2 ^ 32) = r.toInt + 3 := Int.bmod_eq_of_le (by omega) (by omega)
    refine ⟨(r.toInt + 3).toNat, by omega, Int32.toInt_inj.mp ?_⟩
    rw [Int32.toInt_add, nI_toInt (by omega), e3, hb]
    omega
  · intro h
    rw [Int32.lt_iff_toInt_lt, e0] at h
    refine ⟨r.toInt.toNat, by omega, Int32.toInt_inj.mp ?_⟩
    rw [nI_toInt (by omega)]
    omega
/-! clamping -/
theorem er_cl (x : Int32) (a b : Nat) (hab : a ≤ b) (hb : b < 2 ^ 31) : x < nI a ∨ (¬ x < nI a ∧ nI b < x ∧ ¬ x ≤ nI b) ∨ (¬ x < nI a ∧ ¬ nI b < x ∧ x ≤ nI b ∧ ∃ j, a ≤ j ∧ j ≤ b ∧ x = nI j) := by
  by_cases h : x < nI a
  · exact Or.inl h
  · right
    have h0 : ¬ x < 0 := by
      have g := nI_pos' (n := a) (by omega)
      rw [Int32.lt_iff_toInt_lt] at h ⊢
      rw [Int32.le_iff_toInt_le] at g
      omega
    obtain ⟨j, hj, rfl⟩ := nI_of h0
    have ha : a ≤ j := by
      rw [nI_ltI hj (by omega)] at h
      omega
    by_cases g : nI b < nI j
    · have g2 : b < j := (nI_ltI hb hj).mp g
      exact Or.inl ⟨h, g, nI_ge g2 hj⟩
    · have g2 : ¬ b < j := fun z => g ((nI_ltI hb hj).mpr z)
      exact Or.inr ⟨h, g, nI_le (by omega) hb, j, ha, by omega, rfl⟩
/-! the least FREE cell -/
theorem er_least (f : Nat → Int32) (n : Nat) : (∀ j, j < n → ¬ f j = 0) ∨ ∃ c, c < n ∧ f c = 0 ∧ ∀ j, j < c → ¬ f j = 0 := by
  induction n with
  | zero => exact Or.inl fun j h => absurd h (Nat.not_lt_zero j)
  | succ n ih =>
    rcases ih with h | ⟨c, h1, h2, h3⟩
    · by_cases e : f n = 0
      · exact Or.inr ⟨n, Nat.lt_succ_self n, e, h⟩
      · refine Or.inl fun j hj => ?_
        by_cases q : j = n
        · rw [q]; exact e
        · exact h j (by omega)
    · exact Or.inr ⟨c, by omega, h2, h3⟩
/-! indices -/
theorem er_ix (x : Int32) {n : Nat} (hn : n < 2 ^ 31) : x < 0 ∨ (¬ x < 0 ∧ ¬ x < nI n ∧ nI n ≤ x) ∨ ∃ j : Nat, j < n ∧ x = nI j := by
  rcases pk_ix x hn with h | h | h
  · exact Or.inl h
  · have g := nI_pos' (n := n) hn
    rw [Int32.le_iff_toInt_le] at g h
    refine Or.inr (Or.inl ⟨?_, ?_, ?_⟩)
    · rw [Int32.lt_iff_toInt_lt]
      have e0 : (0 : Int32).toInt = 0 := by decide
      omega
    · rw [Int32.lt_iff_toInt_lt]
      omega
    · rw [Int32.le_iff_toInt_le]
      exact h
  · exact Or.inr (Or.inr h)
theorem er_ne0 {p : Nat} (h0 : p ≠ 0) (h : p < 2 ^ 31) : ¬ nI p = 0 := nI_ne0 (by omega) h
theorem er_ne {a b : Nat} (h : a ≠ b) (ha : a < 2 ^ 31) (hb : b < 2 ^ 31) : ¬ nI a = nI b := fun e => h ((nI_eq ha hb).mp e)
