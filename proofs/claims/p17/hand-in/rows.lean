section
/-! the number of FREE cells below n -/
def er_cn (f : Nat → Int32) : Nat → Nat
  | 0 => 0
  | n + 1 => er_cn f n + (if f n = 0 then 1 else 0)
theorem er_cn_le (f : Nat → Int32) : ∀ n, er_cn f n ≤ n := by
  intro n
  induction n with
  | zero => exact Nat.le_refl _
  | succ n ih =>
    show er_cn f n + (if f n = 0 then 1 else 0) ≤ n + 1
    split <;> omega
theorem er_cn_out {f : Nat → Int32} {k : Nat} {x : Int32} : ∀ n, n ≤ k → er_cn (upd f k x) n = er_cn f n := by
  intro n
  induction n with
  | zero => exact fun _ => rfl
  | succ n ih =>
    intro h
    show er_cn (upd f k x) n + (if upd f k x n = 0 then 1 else 0) = er_cn f n + (if f n = 0 then 1 else 0)
    rw [ih (by omega), pk_un (by omega)]
theorem er_cn_upd {f : Nat → Int32} {k : Nat} {x : Int32} : ∀ n, k < n → er_cn (upd f k x) n + (if f k = 0 then 1 else 0) = er_cn f n + (if x = 0 then 1 else 0) := by
  intro n
  induction n with
  | zero => intro h; omega
  | succ n ih =>
    intro h
    show er_cn (upd f k x) n + (if upd f k x n = 0 then 1 else 0) + (if f k = 0 then 1 else 0) = er_cn f n + (if f n = 0 then 1 else 0) + (if x = 0 then 1 else 0)
    by_cases e : n = k
    · subst e
      rw [er_cn_out n (Nat.le_refl _), pk_us]
      generalize (if f n = 0 then 1 else 0) = a
      generalize (if x = 0 then 1 else 0) = b
      omega
    · rw [pk_un e]
      have j := ih (by omega)
      generalize (if f n = 0 then 1 else 0) = a at j ⊢
      generalize (if f k = 0 then 1 else 0) = c at j ⊢
      generalize (if x = 0 then 1 else 0) = b at j ⊢
      omega
theorem er_cn_take {f : Nat → Int32} {k n : Nat} {x : Int32} (h : k < n) (h0 : f k = 0) (hx : ¬ x = 0) : er_cn f n = er_cn (upd f k x) n + 1 := by
  have j := er_cn_upd (f := f) (x := x) n h
  rw [if_pos h0, if_neg hx] at j
  omega
theorem er_cn_free {f : Nat → Int32} {k n : Nat} (h : k < n) (h0 : ¬ f k = 0) : er_cn (upd f k 0) n = er_cn f n + 1 := by
  have j := er_cn_upd (f := f) (x := 0) n h
  rw [if_neg h0, if_pos rfl] at j
  omega
theorem er_cn_same {f : Nat → Int32} {k n : Nat} {x : Int32} (h : k < n) (h0 : ¬ f k = 0) (hx : ¬ x = 0) : er_cn (upd f k x) n = er_cn f n := by
  have j := er_cn_upd (f := f) (x := x) n h
  rw [if_neg h0, if_neg hx] at j
  omega
theorem er_cn_dec {f : Nat → Int32} {k n : Nat} {x : Int32} (h : k < n) (h0 : f k = 0) (hx : ¬ x = 0) : nI (er_cn f n) + (-1) = nI (er_cn (upd f k x) n) := by
  rw [er_cn_take h h0 hx, pk_m1]
theorem er_cn_dec' {f : Nat → Int32} {k n : Nat} {x : Int32} (h : k < n) (h0 : f k = 0) (hx : ¬ x = 0) : nI (er_cn f n) - 1 = nI (er_cn (upd f k x) n) := by
  rw [er_cn_take h h0 hx, nI_pred]
theorem er_cn_inc {f : Nat → Int32} {k n : Nat} (h : k < n) (h0 : ¬ f k = 0) : nI (er_cn f n) + 1 = nI (er_cn (upd f k 0) n) := by
  rw [er_cn_free h h0, nI_1]
theorem er_cn_0 : ∀ n, er_cn (fun _ => 0) n = n := by
  intro n
  induction n with
  | zero => rfl
  | succ n ih =>
    show er_cn (fun _ => 0) n + (if (0 : Int32) = 0 then 1 else 0) = n + 1
    rw [ih, if_pos rfl]
/-! the list of an epoch -/
theorem er_m3 (x : Int32) : (x - x / 3 * 3 < 0 → ∃ k, k < 3 ∧ x - x / 3 * 3 + 3 = nI k) ∧ (¬ x - x / 3 * 3 < 0 → ∃ k, k < 3 ∧ x - x / 3 * 3 = nI k) := by
  have e := rem_toInt x 3
  have b := tmod_bounds (a := x.toInt) (M := 3) (by decide)
  have e3 : (3 : Int32).toInt = 3 := by decide
  have e0 : (0 : Int32).toInt = 0 := by decide
  rw [e3] at e
  rw [← e] at b
  generalize x - x / 3 * 3 = r at b ⊢
  constructor
  · intro h
    rw [Int32.lt_iff_toInt_lt, e0] at h
    have hb : (r.toInt + 3).bmod (2 ^ 32) = r.toInt + 3 := Int.bmod_eq_of_le (by omega) (by omega)
    refine ⟨(r.toInt + 3).toNat, by omega, Int32.toInt_inj.mp ?_⟩
    rw [Int32.toInt_add, nI_toInt (by omega), e3, hb]
    omega
  · intro h
    rw [Int32.lt_iff_toInt_lt, e0] at h
    refine ⟨r.toInt.toNat, by omega, Int32.toInt_inj.mp ?_⟩
    rw [nI_toInt (by omega)]
    omega
/-! clamping -/
theorem er_cl (x : Int32) (a b : Nat) (hab : a ≤ b) (hb : b < 2 ^ 31) : x < nI a ∨ (¬ x < nI a ∧ nI b < x ∧ ¬ x ≤ nI b) ∨ (¬ x < nI a ∧ ¬ nI b < x ∧ x ≤ nI b ∧ ∃ j, a ≤ j ∧ j ≤ b ∧ x = nI j) := by
  by_cases h : x < nI a
  · exact Or.inl h
  · right
    have h0 : ¬ x < 0 := by
      have g := nI_pos' (n := a) (by omega)
      rw [Int32.lt_iff_toInt_lt] at h ⊢
      rw [Int32.le_iff_toInt_le] at g
      omega
    obtain ⟨j, hj, rfl⟩ := nI_of h0
    have ha : a ≤ j := by
      rw [nI_ltI hj (by omega)] at h
      omega
    by_cases g : nI b < nI j
    · have g2 : b < j := (nI_ltI hb hj).mp g
      exact Or.inl ⟨h, g, nI_ge g2 hj⟩
    · have g2 : ¬ b < j := fun z => g ((nI_ltI hb hj).mpr z)
      exact Or.inr ⟨h, g, nI_le (by omega) hb, j, ha, by omega, rfl⟩
/-! the least FREE cell -/
theorem er_least (f : Nat → Int32) (n : Nat) : (∀ j, j < n → ¬ f j = 0) ∨ ∃ c, c < n ∧ f c = 0 ∧ ∀ j, j < c → ¬ f j = 0 := by
  induction n with
  | zero => exact Or.inl fun j h => absurd h (Nat.not_lt_zero j)
  | succ n ih =>
    rcases ih with h | ⟨c, h1, h2, h3⟩
    · by_cases e : f n = 0
      · exact Or.inr ⟨n, Nat.lt_succ_self n, e, h⟩
      · refine Or.inl fun j hj => ?_
        by_cases q : j = n
        · rw [q]; exact e
        · exact h j (by omega)
    · exact Or.inr ⟨c, by omega, h2, h3⟩
/-! indices -/
theorem er_ix (x : Int32) {n : Nat} (hn : n < 2 ^ 31) : x < 0 ∨ (¬ x < 0 ∧ ¬ x < nI n ∧ nI n ≤ x) ∨ ∃ j : Nat, j < n ∧ x = nI j := by
  rcases pk_ix x hn with h | h | h
  · exact Or.inl h
  · have g := nI_pos' (n := n) hn
    rw [Int32.le_iff_toInt_le] at g h
    refine Or.inr (Or.inl ⟨?_, ?_, ?_⟩)
    · rw [Int32.lt_iff_toInt_lt]
      have e0 : (0 : Int32).toInt = 0 := by decide
      omega
    · rw [Int32.lt_iff_toInt_lt]
      omega
    · rw [Int32.le_iff_toInt_le]
      exact h
  · exact Or.inr (Or.inr h)
theorem er_ne0 {p : Nat} (h0 : p ≠ 0) (h : p < 2 ^ 31) : ¬ nI p = 0 := nI_ne0 (by omega) h
theorem er_ne {a b : Nat} (h : a ≠ b) (ha : a < 2 ^ 31) (hb : b < 2 ^ 31) : ¬ nI a = nI b := fun e => h ((nI_eq ha hb).mp e)
end
section
/-! the picture: own c says whose a cell is: 0 FREE, 1 on the chain, 2 + k in limbo list k, 5 + t held by pushing thread t, 9 + t held by popping thread t that has still to retire it -/
def ew_st (o : Nat) : Int32 := if o = 0 then 0 else if o = 1 then 1 else if o < 5 then 2 else 1
def ew_up (f : Nat → Nat) (k v : Nat) : Nat → Nat := fun j => if j = k then v else f j
theorem ew_us {f : Nat → Nat} {k v : Nat} : ew_up f k v k = v := if_pos rfl
theorem ew_un {f : Nat → Nat} {k v j : Nat} (h : j ≠ k) : ew_up f k v j = f j := if_neg h
theorem ew_uc (f : Nat → Nat) (k v j : Nat) : (j = k ∧ ew_up f k v j = v) ∨ (j ≠ k ∧ ew_up f k v j = f j) := by
  by_cases e : j = k
  · exact Or.inl ⟨e, by rw [e, ew_us]⟩
  · exact Or.inr ⟨e, ew_un e⟩
theorem ew_vc (f : Nat → Int32) (k : Nat) (x : Int32) (j : Nat) : (j = k ∧ upd f k x j = x) ∨ (j ≠ k ∧ upd f k x j = f j) := by
  by_cases e : j = k
  · exact Or.inl ⟨e, by rw [e, pk_us]⟩
  · exact Or.inr ⟨e, pk_un e⟩
theorem ew_st0 : ew_st 0 = 0 := rfl
theorem ew_st1 : ew_st 1 = 1 := rfl
theorem ew_st2 {k : Nat} (h : k < 3) : ew_st (2 + k) = 2 := by
  unfold ew_st
  rw [if_neg (by omega), if_neg (by omega), if_pos (by omega)]
theorem ew_st5 {o : Nat} (h : 5 ≤ o) : ew_st o = 1 := by
  unfold ew_st
  rw [if_neg (by omega), if_neg (by omega), if_neg (by omega)]
theorem ew_stn {o : Nat} (h : o ≠ 0) : ¬ ew_st o = 0 := by
  unfold ew_st
  rw [if_neg h]
  by_cases h1 : o = 1
  · rw [if_pos h1]; decide
  · rw [if_neg h1]
    by_cases h2 : o < 5
    · rw [if_pos h2]; decide
    · rw [if_neg h2]; decide
theorem ew_stz {o : Nat} (h : ew_st o = 0) : o = 0 := by
  by_cases e : o = 0
  · exact e
  · exact absurd h (ew_stn e)
/-! the chain -/
def ew_ch (N : Nat → Int32) : List Nat → Int32 → Prop
  | [], x => x = -1
  | c :: l, x => x = nI c ∧ ew_ch N l (N c)
theorem ew_ch_upd {N : Nat → Int32} {c : Nat} {y : Int32} : ∀ (l : List Nat) (x : Int32), c ∉ l → ew_ch N l x → ew_ch (upd N c y) l x := by
  intro l
  induction l with
  | nil => exact fun x _ h => h
  | cons d l ih =>
    intro x hc h
    have hd : d ≠ c := fun e => hc (by rw [e]; exact List.mem_cons_self)
    refine ⟨h.1, ?_⟩
    rw [pk_un hd]
    exact ih _ (fun z => hc (List.mem_cons_of_mem d z)) h.2
theorem ew_m1 {n : Nat} (h : n < 2 ^ 31) : ¬ nI n = -1 := by
  intro e
  have g := nI_toInt h
  rw [e] at g
  have e1 : (-1 : Int32).toInt = -1 := by decide
  omega
theorem ew_ch_nil {N : Nat → Int32} {l : List Nat} (h : ew_ch N l (-1)) (hl : ∀ c, c ∈ l → c < 2 ^ 31) : l = [] := by
  cases l with
  | nil => rfl
  | cons c l => exact absurd h.1.symm (ew_m1 (hl c List.mem_cons_self))
theorem ew_ch_cons {N : Nat → Int32} {l : List Nat} {c : Nat} (hc : c < 2 ^ 31) (h : ew_ch N l (nI c)) (hl : ∀ d, d ∈ l → d < 2 ^ 31) : ∃ l', l = c :: l' ∧ ew_ch N l' (N c) := by
  cases l with
  | nil => exact absurd h (ew_m1 hc)
  | cons d l =>
    have e : c = d := (nI_eq hc (hl d List.mem_cons_self)).mp h.1
    subst e
    exact ⟨l, rfl, h.2⟩
theorem ew_ch_ne {N : Nat → Int32} {l : List Nat} {x : Int32} (hx : ¬ x = -1) (h : ew_ch N l x) : ∃ c l', l = c :: l' ∧ x = nI c ∧ ew_ch N l' (N c) := by
  cases l with
  | nil => exact absurd h hx
  | cons d l => exact ⟨d, l, rfl, h.1, h.2⟩
/-! counting -/
theorem ew_cn_congr {f g : Nat → Int32} : ∀ n, (∀ c, c < n → (f c = 0 ↔ g c = 0)) → er_cn f n = er_cn g n := by
  intro n
  induction n with
  | zero => exact fun _ => rfl
  | succ n ih =>
    intro h
    show er_cn f n + (if f n = 0 then 1 else 0) = er_cn g n + (if g n = 0 then 1 else 0)
    rw [ih fun c hc => h c (by omega)]
    have e := h n (Nat.lt_succ_self n)
    by_cases q : f n = 0
    · rw [if_pos q, if_pos (e.mp q)]
    · rw [if_neg q, if_neg fun z => q (e.mpr z)]
theorem ew_cnl {C : Nat} : ∀ l : List Nat, l.Nodup → (∀ c, c ∈ l → c < C) → ∃ f : Nat → Int32, er_cn f C + l.length = C ∧ ∀ c, (f c = 0 ↔ c ∉ l) := by
  intro l
  induction l with
  | nil => exact fun _ _ => ⟨fun _ => 0, er_cn_0 C, fun c => ⟨fun _ h => (nomatch h), fun _ => rfl⟩⟩
  | cons d l ih =>
    intro hn hl
    have hn' := List.nodup_cons.mp hn
    obtain ⟨f, h1, h2⟩ := ih hn'.2 fun c hc => hl c (List.mem_cons_of_mem d hc)
    have h0 : f d = 0 := (h2 d).mpr hn'.1
    have hx : ¬ (1 : Int32) = 0 := by decide
    refine ⟨upd f d 1, ?_, fun c => ?_⟩
    · have t := er_cn_take (hl d List.mem_cons_self) h0 hx
      rw [List.length_cons]
      omega
    · rcases ew_vc f d 1 c with ⟨e, u⟩ | ⟨e, u⟩
      · rw [u]
        exact ⟨fun z => absurd z hx, fun z => absurd (by rw [e]; exact List.mem_cons_self) z⟩
      · rw [u, h2 c]
        exact ⟨fun z w => z ((List.mem_cons.mp w).resolve_left e), fun z w => z (List.mem_cons_of_mem d w)⟩
theorem ew_len {C : Nat} {l : List Nat} (hn : l.Nodup) (hl : ∀ c, c ∈ l → c < C) : l.length ≤ C := by
  obtain ⟨f, h1, _⟩ := ew_cnl l hn hl
  omega
/-! a thread: p its phase, k its kind -/
def ew_PA (e : Nat) (b a : Int32) : Prop := b = 1 ∧ ∃ n, a = nI n ∧ (n = e ∨ n + 1 = e)
def ew_HU (C t : Nat) (own : Nat → Nat) (m : Int32) (c : Nat) : Prop := c < C ∧ m = nI c ∧ own c = 5 + t
def ew_HO (C t : Nat) (own : Nat → Nat) (m : Int32) (c : Nat) : Prop := c < C ∧ m = nI c ∧ own c = 9 + t
def ew_PC (C e : Nat) (own : Nat → Nat) (a m : Int32) (c : Nat) : Prop := c < C ∧ m = nI c ∧ own c ≠ 0 ∧ (own c < 5 ∨ 9 ≤ own c) ∧ (own c = 2 + (e + 1) % 3 → ¬ a = nI e)
def ew_TA (p k : Nat) : Prop := p ≤ 8 ∧ k ≤ 2 ∧ (1 ≤ p → 1 ≤ k) ∧ (p = 2 → k = 1) ∧ (p = 4 → k = 1) ∧ (p = 5 → k = 2) ∧ (p = 7 → k = 2)
def ew_TH (C e t : Nat) (own : Nat → Nat) (N : Nat → Int32) (p k : Nat) (b a m z : Int32) : Prop :=
  ew_TA p k ∧ (p ≤ 1 → b = 0) ∧ (2 ≤ p → ew_PA e b a) ∧
  (k = 1 → (p = 3 ∨ p = 4 ∨ p = 6) → ∃ c, ew_HU C t own m c ∧ (p = 6 → N c = z)) ∧
  (k = 2 → (p = 5 ∨ p = 6) → ∃ c, ew_PC C e own a m c ∧ (p = 6 → own c = 1 → N c = z)) ∧
  (p = 7 → ∃ c, ew_HO C t own m c)
theorem ew_TH_mono {C e t : Nat} {own own' : Nat → Nat} {N N' : Nat → Int32} {p k : Nat} {b a m z : Int32}
    (h1 : ∀ c, c < C → own c = 5 + t → own' c = 5 + t ∧ N' c = N c)
    (h2 : ∀ c, c < C → own c = 9 + t → own' c = 9 + t)
    (h3 : ∀ c, c < C → own c ≠ 0 → (own c < 5 ∨ 9 ≤ own c) → own' c ≠ 0 ∧ (own' c < 5 ∨ 9 ≤ own' c) ∧ (own' c = 2 + (e + 1) % 3 → own c = 2 + (e + 1) % 3) ∧ (own' c = 1 → own c = 1 ∧ N' c = N c))
    (h : ew_TH C e t own N p k b a m z) : ew_TH C e t own' N' p k b a m z := by
  obtain ⟨g1, g2, g3, g4, g5, g6⟩ := h
  refine ⟨g1, g2, g3, fun x y => ?_, fun x y => ?_, fun x => ?_⟩
  · obtain ⟨c, ⟨q1, q2, q3⟩, q⟩ := g4 x y
    refine ⟨c, ⟨q1, q2, (h1 c q1 q3).1⟩, fun w => ?_⟩
    rw [(h1 c q1 q3).2]
    exact q w
  · obtain ⟨c, ⟨q1, q2, q3, q4, q5⟩, q⟩ := g5 x y
    obtain ⟨r1, r2, r3, r4⟩ := h3 c q1 q3 q4
    refine ⟨c, ⟨q1, q2, r1, r2, fun w => q5 (r3 w)⟩, fun w o => ?_⟩
    rw [(r4 o).2]
    exact q w (r4 o).1
  · obtain ⟨c, q1, q2, q3⟩ := g6 x
    exact ⟨c, q1, q2, h2 c q1 q3⟩
/-! the whole picture -/
def ew_LM (C : Nat) (own : Nat → Nat) (E L : Nat → Int32) (lim : Nat → List Nat) (k : Nat) : Prop :=
  L k = nI (lim k).length ∧ (lim k).Nodup ∧ (∀ c, c ∈ lim k ↔ c < C ∧ own c = 2 + k) ∧ (∀ i c, (lim k)[i]? = some c → E (k * 32 + i) = nI c)
def ew_RV (T : Nat) (P K M : Nat → Int32) (own : Nat → Nat) (c : Nat) : Prop :=
  ∃ t, t < T ∧ M t = nI c ∧ ((own c = 5 + t ∧ K t = nI 1 ∧ (P t = nI 3 ∨ P t = nI 4 ∨ P t = nI 6)) ∨ (own c = 9 + t ∧ P t = nI 7))
def ew_TT (C T e : Nat) (own : Nat → Nat) (N P B A K M Z : Nat → Int32) : Prop :=
  ∀ t, t < T → ∃ p k, P t = nI p ∧ K t = nI k ∧ ew_TH C e t own N p k (B t) (A t) (M t) (Z t)
def ew_RR (C T : Nat) (own : Nat → Nat) (P K M : Nat → Int32) : Prop := ∀ c, c < C → 5 ≤ own c → ew_RV T P K M own c
def ew_CC (C : Nat) (own : Nat → Nat) (top : Int32) (S N : Nat → Int32) (ch : List Nat) : Prop :=
  (∀ c, c < C → S c = ew_st (own c)) ∧ ew_ch N ch top ∧ ch.Nodup ∧ (∀ c, c ∈ ch ↔ c < C ∧ own c = 1)
def ew_I (C T e : Nat) (top : Int32) (S N E L P B A K M Z : Nat → Int32) (own : Nat → Nat) (ch : List Nat) (lim : Nat → List Nat) : Prop :=
  ew_CC C own top S N ch ∧ (∀ k, k < 3 → ew_LM C own E L lim k) ∧ ew_TT C T e own N P B A K M Z ∧ ew_RR C T own P K M
theorem ew_tt {C T e t p k : Nat} {own own' : Nat → Nat} {N N' P B A K M Z : Nat → Int32} {b a m z : Int32}
    (h : ew_TT C T e own N P B A K M Z)
    (hm : ∀ t', t' < T → t' ≠ t → ∀ p k b a m z, ew_TH C e t' own N p k b a m z → ew_TH C e t' own' N' p k b a m z)
    (ht : ew_TH C e t own' N' p k b a m z) : ew_TT C T e own' N' (upd P t (nI p)) (upd B t b) (upd A t a) (upd K t (nI k)) (upd M t m) (upd Z t z) := by
  intro s hs
  by_cases x : s = t
  · subst x
    exact ⟨p, k, pk_us, pk_us, by rw [pk_us, pk_us, pk_us, pk_us]; exact ht⟩
  · obtain ⟨p', k', h1, h2, h3⟩ := h s hs
    exact ⟨p', k', by rw [pk_un x]; exact h1, by rw [pk_un x]; exact h2, by rw [pk_un x, pk_un x, pk_un x, pk_un x]; exact hm s hs x _ _ _ _ _ _ h3⟩
theorem ew_rr {C T t p k : Nat} {own own' : Nat → Nat} {P K M : Nat → Int32} {m : Int32} (h : ew_RR C T own P K M) (ht : t < T)
    (h1 : ∀ c, c < C → (own' c = 5 + t ∨ own' c = 9 + t) → m = nI c ∧ ((own' c = 5 + t ∧ k = 1 ∧ (p = 3 ∨ p = 4 ∨ p = 6)) ∨ (own' c = 9 + t ∧ p = 7)))
    (h2 : ∀ c, c < C → 5 ≤ own' c → ¬ (own' c = 5 + t ∨ own' c = 9 + t) → own' c = own c) : ew_RR C T own' (upd P t (nI p)) (upd K t (nI k)) (upd M t m) := by
  intro c hc h5
  by_cases x : own' c = 5 + t ∨ own' c = 9 + t
  · obtain ⟨g1, g2⟩ := h1 c hc x
    refine ⟨t, ht, by rw [pk_us]; exact g1, ?_⟩
    rw [pk_us, pk_us]
    rcases g2 with ⟨a, b, d⟩ | ⟨a, b⟩
    · refine Or.inl ⟨a, by rw [b], ?_⟩
      rcases d with d | d | d
      · exact Or.inl (by rw [d])
      · exact Or.inr (Or.inl (by rw [d]))
      · exact Or.inr (Or.inr (by rw [d]))
    · exact Or.inr ⟨a, by rw [b]⟩
  · have e := h2 c hc h5 x
    obtain ⟨s, hs, g1, g2⟩ := h c hc (by omega)
    have st : s ≠ t := by
      intro w
      subst w
      rcases g2 with g | g
      · exact x (Or.inl (by omega))
      · exact x (Or.inr (by omega))
    refine ⟨s, hs, by rw [pk_un st]; exact g1, ?_⟩
    rw [pk_un st, pk_un st, e]
    exact g2
theorem ew_hu {C T t c : Nat} {own : Nat → Nat} {P K M : Nat → Int32} (h : ew_RR C T own P K M) (hT : T ≤ 4) (ht : t < T) (hc : c < C) (ho : own c = 5 + t) : M t = nI c ∧ K t = nI 1 ∧ (P t = nI 3 ∨ P t = nI 4 ∨ P t = nI 6) := by
  obtain ⟨s, hs, g1, ⟨g2, g3⟩ | ⟨g2, g3⟩⟩ := h c hc (by omega)
  · have e : s = t := by omega
    subst e
    exact ⟨g1, g3⟩
  · omega
theorem ew_ho {C T t c : Nat} {own : Nat → Nat} {P K M : Nat → Int32} (h : ew_RR C T own P K M) (hT : T ≤ 4) (ht : t < T) (hc : c < C) (ho : own c = 9 + t) : M t = nI c ∧ P t = nI 7 := by
  obtain ⟨s, hs, g1, ⟨g2, g3⟩ | ⟨g2, g3⟩⟩ := h c hc (by omega)
  · omega
  · have e : s = t := by omega
    subst e
    exact ⟨g1, g3⟩
theorem ew_self (f : Nat → Int32) (k : Nat) : upd f k (f k) = f := by
  funext j
  rcases ew_vc f k (f k) j with ⟨e, u⟩ | ⟨e, u⟩
  · rw [u, e]
  · exact u
/-! a thread's own fields change, the cells don't -/
theorem ew_loc {C T e t p k p0 k0 : Nat} {top : Int32} {S N E L P B A K M Z : Nat → Int32} {own : Nat → Nat} {ch : List Nat} {lim : Nat → List Nat} {b a m z : Int32}
    (h : ew_I C T e top S N E L P B A K M Z own ch lim) (hT : T ≤ 4) (ht : t < T) (hp : P t = nI p0) (hk : K t = nI k0) (b0 : p0 < 2 ^ 31) (b1 : k0 < 2 ^ 31)
    (hh : ew_TH C e t own N p k b a m z)
    (hu : k0 = 1 → (p0 = 3 ∨ p0 = 4 ∨ p0 = 6) → k = 1 ∧ (p = 3 ∨ p = 4 ∨ p = 6) ∧ m = M t)
    (ho : p0 = 7 → p = 7 ∧ m = M t) :
    ew_I C T e top S N E L (upd P t (nI p)) (upd B t b) (upd A t a) (upd K t (nI k)) (upd M t m) (upd Z t z) own ch lim := by
  obtain ⟨h1, h2, h3, h4⟩ := h
  refine ⟨h1, h2, ew_tt h3 (fun _ _ _ _ _ _ _ _ _ g => g) hh, ew_rr h4 ht ?_ (fun _ _ _ _ => rfl)⟩
  intro c hc x
  rcases x with x | x
  · obtain ⟨g1, g2, g3⟩ := ew_hu h4 hT ht hc x
    rw [hk, nI_eq b1 (by omega)] at g2
    rw [hp, nI_eq b0 (by omega), nI_eq b0 (by omega), nI_eq b0 (by omega)] at g3
    obtain ⟨q1, q2, q3⟩ := hu g2 g3
    exact ⟨by rw [q3]; exact g1, Or.inl ⟨x, q1, q2⟩⟩
  · obtain ⟨g1, g2⟩ := ew_ho h4 hT ht hc x
    rw [hp, nI_eq b0 (by omega)] at g2
    obtain ⟨q1, q2⟩ := ho g2
    exact ⟨by rw [q2]; exact g1, Or.inr ⟨x, q1⟩⟩
end
section
/-! the steps, one by one, over the picture -/
theorem ew_mono1 {C e t' x v : Nat} {own : Nat → Nat} {N N' : Nat → Int32} (hN : ∀ c, c ≠ x → N' c = N c) (hx1 : own x ≠ 5 + t') (hx2 : own x ≠ 9 + t')
    (hx3 : own x ≠ 0 → (own x < 5 ∨ 9 ≤ own x) → v ≠ 0 ∧ (v < 5 ∨ 9 ≤ v) ∧ (v = 2 + (e + 1) % 3 → own x = 2 + (e + 1) % 3) ∧ (v = 1 → own x = 1 ∧ N' x = N x)) :
    ∀ p k b a m z, ew_TH C e t' own N p k b a m z → ew_TH C e t' (ew_up own x v) N' p k b a m z := by
  intro p k b a m z h
  refine ew_TH_mono (fun c _ o => ?_) (fun c _ o => ?_) (fun c _ o1 o2 => ?_) h
  · rcases ew_uc own x v c with ⟨e, u⟩ | ⟨e, u⟩
    · subst e; exact absurd o hx1
    · exact ⟨by rw [u]; exact o, hN c e⟩
  · rcases ew_uc own x v c with ⟨e, u⟩ | ⟨e, u⟩
    · subst e; exact absurd o hx2
    · rw [u]; exact o
  · rcases ew_uc own x v c with ⟨e, u⟩ | ⟨e, u⟩
    · subst e; rw [u]; exact hx3 o1 o2
    · rw [u]; exact ⟨o1, o2, fun w => w, fun w => ⟨w, hN c e⟩⟩
theorem ew_lm_own {C k : Nat} {own own' : Nat → Nat} {E L : Nat → Int32} {lim : Nat → List Nat} (h : ew_LM C own E L lim k) (ho : ∀ c, c < C → (own' c = 2 + k ↔ own c = 2 + k)) : ew_LM C own' E L lim k := by
  obtain ⟨h1, h2, h3, h4⟩ := h
  refine ⟨h1, h2, fun c => ?_, h4⟩
  rw [h3 c]
  exact ⟨fun w => ⟨w.1, (ho c w.1).mpr w.2⟩, fun w => ⟨w.1, (ho c w.1).mp w.2⟩⟩
/-- what the step of thread t finds -/
theorem ew_at {C T e t p0 : Nat} {top : Int32} {S N E L P B A K M Z : Nat → Int32} {own : Nat → Nat} {ch : List Nat} {lim : Nat → List Nat}
    (h : ew_I C T e top S N E L P B A K M Z own ch lim) (ht : t < T) (hp : P t = nI p0) (b0 : p0 < 2 ^ 31) : ∃ k, K t = nI k ∧ k ≤ 2 ∧ ew_TH C e t own N p0 k (B t) (A t) (M t) (Z t) := by
  obtain ⟨p, k, h1, h2, h3⟩ := h.2.2.1 t ht
  have e : p = p0 := (nI_eq (by have := h3.1.1; omega) b0).mp (h1.symm.trans hp)
  subst e
  exact ⟨k, h2, h3.1.2.1, h3⟩
section T
variable {C T e t k : Nat} {top : Int32} {S N E L P B A K M Z : Nat → Int32} {own : Nat → Nat} {ch : List Nat} {lim : Nat → List Nat}
theorem ew_s_start {q : Nat} (h : ew_I C T e top S N E L P B A K M Z own ch lim) (hT : T ≤ 4) (ht : t < T) (hp : P t = nI 0) (hq : q = 1 ∨ q = 2) :
    ew_I C T e top S N E L (upd P t (nI 1)) B A (upd K t (nI q)) (upd M t (-1)) (upd Z t (-1)) own ch lim := by
  obtain ⟨k, hk, k2, hh⟩ := ew_at h ht hp (by omega)
  have j := ew_loc (b := B t) (a := A t) (m := -1) (z := -1) (p := 1) (k := q) h hT ht hp hk (by omega) (by omega)
    ⟨by unfold ew_TA; omega, fun _ => hh.2.1 (by omega), fun x => by omega, fun _ x => by omega, fun _ x => by omega, fun x => by omega⟩ (fun _ x => by omega) (fun x => by omega)
  rw [ew_self B t, ew_self A t] at j
  exact j
theorem ew_s_pin (h : ew_I C T e top S N E L P B A K M Z own ch lim) (hT : T ≤ 4) (ht : t < T) (hp : P t = nI 1) (hk : K t = nI k) (hk2 : k ≤ 2) {q : Nat} (hq : q = if k = 1 then 2 else 3) :
    ew_I C T e top S N E L (upd P t (nI q)) (upd B t 1) (upd A t (nI e)) K M Z own ch lim := by
  obtain ⟨k', hk', k2, hh⟩ := ew_at h ht hp (by omega)
  have ek : k' = k := (nI_eq (by omega) (by omega)).mp (hk'.symm.trans hk)
  subst ek
  have k1 := hh.1.2.2.1 (by omega)
  have q3 : (k' = 1 ∧ q = 2) ∨ (k' = 2 ∧ q = 3) := by
    by_cases c : k' = 1
    · rw [if_pos c] at hq; exact Or.inl ⟨c, hq⟩
    · rw [if_neg c] at hq; exact Or.inr ⟨by omega, hq⟩
  have j := ew_loc (b := 1) (a := nI e) (m := M t) (z := Z t) (p := q) (k := k') h hT ht hp hk (by omega) (by omega)
    ⟨by unfold ew_TA; omega, fun x => by omega, fun _ => ⟨rfl, e, rfl, Or.inl rfl⟩, fun _ x => by omega, fun _ x => by omega, fun x => by omega⟩ (fun _ x => by omega) (fun x => by omega)
  rw [← hk, ew_self K t, ew_self M t, ew_self Z t] at j
  exact j
theorem ew_s_full (h : ew_I C T e top S N E L P B A K M Z own ch lim) (hT : T ≤ 4) (ht : t < T) (hp : P t = nI 2) :
    ew_I C T e top S N E L (upd P t (nI 8)) B A K M Z own ch lim := by
  obtain ⟨k, hk, k2, hh⟩ := ew_at h ht hp (by omega)
  have k1 := hh.1.2.2.1 (by omega)
  have j := ew_loc (b := B t) (a := A t) (m := M t) (z := Z t) (p := 8) (k := k) h hT ht hp hk (by omega) (by omega)
    ⟨by unfold ew_TA; omega, fun x => by omega, fun _ => hh.2.2.1 (by omega), fun _ x => by omega, fun _ x => by omega, fun x => by omega⟩ (fun _ x => by omega) (fun x => by omega)
  rw [← hk, ew_self K t, ew_self M t, ew_self Z t, ew_self B t, ew_self A t] at j
  exact j
theorem ew_s_alloc {c : Nat} (h : ew_I C T e top S N E L P B A K M Z own ch lim) (hT : T ≤ 4) (ht : t < T) (hp : P t = nI 2) (hc : c < C) (h0 : S c = 0) :
    ew_I C T e top (upd S c 1) (upd N c (-1)) E L (upd P t (nI 3)) B A K (upd M t (nI c)) Z (ew_up own c (5 + t)) ch lim := by
  obtain ⟨k, hk, k2, hh⟩ := ew_at h ht hp (by omega)
  have k1 : k = 1 := hh.1.2.2.2.1 rfl
  subst k1
  obtain ⟨⟨a1, a2, a3, a4⟩, h2, h3, h4⟩ := h
  have o0 : own c = 0 := ew_stz (by rw [← a1 c hc]; exact h0)
  have nc : c ∉ ch := fun w => by have := ((a4 c).mp w).2; omega
  have j3 := ew_tt (t := t) (own' := ew_up own c (5 + t)) (N' := upd N c (-1)) (p := 3) (k := 1) (b := B t) (a := A t) (m := nI c) (z := Z t) h3
    (fun t' _ _ => ew_mono1 (fun d hd => pk_un hd) (by omega) (by omega) (fun w => absurd o0 w))
    ⟨by unfold ew_TA; omega, fun x => by omega, fun _ => hh.2.2.1 (by omega), fun _ _ => ⟨c, ⟨hc, rfl, ew_us⟩, fun x => by omega⟩, fun _ x => by omega, fun x => by omega⟩
  rw [← hk, ew_self K t, ew_self Z t, ew_self B t, ew_self A t] at j3
  have j4 := ew_rr (t := t) (own' := ew_up own c (5 + t)) (p := 3) (k := 1) (m := nI c) h4 ht (fun d hd w => by
      rcases ew_uc own c (5 + t) d with ⟨x, u⟩ | ⟨x, u⟩
      · exact ⟨by rw [x], Or.inl ⟨u, rfl, Or.inl rfl⟩⟩
      · rw [u] at w
        rcases w with w | w
        · have g := (ew_hu h4 hT ht hd w).2.2
          rw [hp, nI_eq (by omega) (by omega), nI_eq (by omega) (by omega), nI_eq (by omega) (by omega)] at g
          omega
        · have g := (ew_ho h4 hT ht hd w).2
          rw [hp, nI_eq (by omega) (by omega)] at g
          omega)
    (fun d hd w1 w2 => by
      rcases ew_uc own c (5 + t) d with ⟨x, u⟩ | ⟨x, u⟩
      · exact absurd (Or.inl u) w2
      · exact u)
  rw [← hk, ew_self K t] at j4
  refine ⟨⟨fun d hd => ?_, ew_ch_upd ch top nc a2, a3, fun d => ?_⟩, fun q hq => ew_lm_own (h2 q hq) fun d hd => ?_, j3, j4⟩
  · rcases ew_uc own c (5 + t) d with ⟨x, u⟩ | ⟨x, u⟩
    · rw [u, x, pk_us, ew_st5 (by omega)]
    · rw [u, pk_un x]; exact a1 d hd
  · rw [a4 d]
    rcases ew_uc own c (5 + t) d with ⟨x, u⟩ | ⟨x, u⟩
    · rw [u, x, o0]; omega
    · rw [u]
  · rcases ew_uc own c (5 + t) d with ⟨x, u⟩ | ⟨x, u⟩
    · rw [u, x, o0]; omega
    · rw [u]
theorem ew_s_rtPush (h : ew_I C T e top S N E L P B A K M Z own ch lim) (hT : T ≤ 4) (ht : t < T) (hp : P t = nI 3) (hk : K t = nI 1) :
    ew_I C T e top S N E L (upd P t (nI 4)) B A K M (upd Z t top) own ch lim := by
  obtain ⟨k', hk', k2, hh⟩ := ew_at h ht hp (by omega)
  have ek : k' = 1 := (nI_eq (by omega) (by omega)).mp (hk'.symm.trans hk)
  subst ek
  obtain ⟨c, hc, _⟩ := hh.2.2.2.1 rfl (Or.inl rfl)
  have j := ew_loc (b := B t) (a := A t) (m := M t) (z := top) (p := 4) (k := 1) h hT ht hp hk (by omega) (by omega)
    ⟨by unfold ew_TA; omega, fun x => by omega, fun _ => hh.2.2.1 (by omega), fun _ _ => ⟨c, hc, fun x => by omega⟩, fun _ x => by omega, fun x => by omega⟩ (fun _ _ => ⟨rfl, Or.inr (Or.inl rfl), rfl⟩) (fun x => by omega)
  rw [← hk, ew_self K t, ew_self M t, ew_self B t, ew_self A t] at j
  exact j
theorem ew_s_rtNil {m : Int32} (h : ew_I C T e top S N E L P B A K M Z own ch lim) (hT : T ≤ 4) (ht : t < T) (hp : P t = nI 3) (hk : K t = nI k) (hk1 : k ≠ 1) (hk2 : k ≤ 2) :
    ew_I C T e top S N E L (upd P t (nI 8)) B A K (upd M t m) Z own ch lim := by
  obtain ⟨k', hk', k2, hh⟩ := ew_at h ht hp (by omega)
  have ek : k' = k := (nI_eq (by omega) (by omega)).mp (hk'.symm.trans hk)
  subst ek
  have k3 := hh.1.2.2.1 (by omega)
  have j := ew_loc (b := B t) (a := A t) (m := m) (z := Z t) (p := 8) (k := k') h hT ht hp hk (by omega) (by omega)
    ⟨by unfold ew_TA; omega, fun x => by omega, fun _ => hh.2.2.1 (by omega), fun _ x => by omega, fun _ x => by omega, fun x => by omega⟩ (fun x _ => absurd x hk1) (fun x => by omega)
  rw [← hk, ew_self K t, ew_self Z t, ew_self B t, ew_self A t] at j
  exact j
theorem ew_s_rtPop (h : ew_I C T e top S N E L P B A K M Z own ch lim) (hT : T ≤ 4) (ht : t < T) (hp : P t = nI 3) (hk : K t = nI k) (hk1 : k ≠ 1) (hk2 : k ≤ 2) (hx : ¬ top = -1) :
    ew_I C T e top S N E L (upd P t (nI 5)) B A K (upd M t top) Z own ch lim := by
  obtain ⟨k', hk', k2, hh⟩ := ew_at h ht hp (by omega)
  have ek : k' = k := (nI_eq (by omega) (by omega)).mp (hk'.symm.trans hk)
  subst ek
  have k3 := hh.1.2.2.1 (by omega)
  obtain ⟨c, l, e1, e2, _⟩ := ew_ch_ne hx h.1.2.1
  have hc := (h.1.2.2.2 c).mp (by rw [e1]; exact List.mem_cons_self)
  have j := ew_loc (b := B t) (a := A t) (m := top) (z := Z t) (p := 5) (k := k') h hT ht hp hk (by omega) (by omega)
    ⟨by unfold ew_TA; omega, fun x => by omega, fun _ => hh.2.2.1 (by omega), fun x => absurd x hk1, fun _ _ => ⟨c, ⟨hc.1, e2, by omega, by omega, fun w => by omega⟩, fun x => by omega⟩, fun x => by omega⟩ (fun x _ => absurd x hk1) (fun x => by omega)
  rw [← hk, ew_self K t, ew_self Z t, ew_self B t, ew_self A t] at j
  exact j
theorem ew_s_link {c : Nat} (h : ew_I C T e top S N E L P B A K M Z own ch lim) (hT : T ≤ 4) (ht : t < T) (hp : P t = nI 4) (hc : c < C) (hm : M t = nI c) (ho : own c = 5 + t) :
    ew_I C T e top S (upd N c (Z t)) E L (upd P t (nI 6)) B A K M Z own ch lim := by
  obtain ⟨k, hk, k2, hh⟩ := ew_at h ht hp (by omega)
  have k1 : k = 1 := hh.1.2.2.2.2.1 rfl
  subst k1
  obtain ⟨⟨a1, a2, a3, a4⟩, h2, h3, h4⟩ := h
  have nc : c ∉ ch := fun w => by have := ((a4 c).mp w).2; omega
  have j3 := ew_tt (t := t) (own' := own) (N' := upd N c (Z t)) (p := 6) (k := 1) (b := B t) (a := A t) (m := M t) (z := Z t) h3
    (fun t' ht' nt p k b a m z g => ew_TH_mono (fun d _ o => ⟨o, pk_un (fun w => by subst w; omega)⟩) (fun d _ o => o) (fun d _ o1 o2 => ⟨o1, o2, fun w => w, fun w => ⟨w, pk_un (fun w => by subst w; omega)⟩⟩) g)
    ⟨by unfold ew_TA; omega, fun x => by omega, fun _ => hh.2.2.1 (by omega), fun _ _ => ⟨c, ⟨hc, hm, ho⟩, fun _ => pk_us⟩, fun x => by omega, fun x => by omega⟩
  rw [← hk, ew_self K t, ew_self Z t, ew_self B t, ew_self A t, ew_self M t] at j3
  have j4 := ew_rr (t := t) (own' := own) (p := 6) (k := 1) (m := M t) h4 ht (fun d hd w => by
      rcases w with w | w
      · exact ⟨(ew_hu h4 hT ht hd w).1, Or.inl ⟨w, rfl, Or.inr (Or.inr rfl)⟩⟩
      · have g := (ew_ho h4 hT ht hd w).2
        rw [hp, nI_eq (by omega) (by omega)] at g
        omega)
    (fun _ _ _ _ => rfl)
  rw [← hk, ew_self K t, ew_self M t] at j4
  exact ⟨⟨a1, ew_ch_upd ch top nc a2, a3, a4⟩, h2, j3, j4⟩
theorem ew_s_read {c : Nat} (h : ew_I C T e top S N E L P B A K M Z own ch lim) (hT : T ≤ 4) (ht : t < T) (hp : P t = nI 5) (hm : M t = nI c) (hC : C ≤ 32) (hc : c < C) :
    ew_I C T e top S N E L (upd P t (nI 6)) B A K M (upd Z t (N c)) own ch lim := by
  obtain ⟨k, hk, k2, hh⟩ := ew_at h ht hp (by omega)
  have k1 : k = 2 := hh.1.2.2.2.2.2.1 rfl
  subst k1
  obtain ⟨d, hd, _⟩ := hh.2.2.2.2.1 rfl (Or.inl rfl)
  have hd1 := hd.1
  have ed : d = c := (nI_eq (by omega) (by omega)).mp (hd.2.1.symm.trans hm)
  subst ed
  have j := ew_loc (b := B t) (a := A t) (m := M t) (z := N d) (p := 6) (k := 2) h hT ht hp hk (by omega) (by omega)
    ⟨by unfold ew_TA; omega, fun x => by omega, fun _ => hh.2.2.1 (by omega), fun x => by omega, fun _ _ => ⟨d, hd, fun _ _ => rfl⟩, fun x => by omega⟩ (fun x _ => by omega) (fun x => by omega)
  rw [← hk, ew_self K t, ew_self M t, ew_self B t, ew_self A t] at j
  exact j
theorem ew_s_casF (h : ew_I C T e top S N E L P B A K M Z own ch lim) (hT : T ≤ 4) (ht : t < T) (hp : P t = nI 6) :
    ew_I C T e top S N E L (upd P t (nI 3)) B A K M Z own ch lim := by
  obtain ⟨k, hk, k2, hh⟩ := ew_at h ht hp (by omega)
  have k3 := hh.1.2.2.1 (by omega)
  have j := ew_loc (b := B t) (a := A t) (m := M t) (z := Z t) (p := 3) (k := k) h hT ht hp hk (by omega) (by omega)
    ⟨by unfold ew_TA; omega, fun x => by omega, fun _ => hh.2.2.1 (by omega), fun x _ => (hh.2.2.2.1 x (Or.inr (Or.inr rfl))).elim fun c g => ⟨c, g.1, fun x => by omega⟩, fun _ x => by omega, fun x => by omega⟩ (fun x _ => ⟨x, Or.inl rfl, rfl⟩) (fun x => by omega)
  rw [← hk, ew_self K t, ew_self M t, ew_self Z t, ew_self B t, ew_self A t] at j
  exact j
theorem ew_s_casPush (hC : C ≤ 32) (h : ew_I C T e top S N E L P B A K M Z own ch lim) (hT : T ≤ 4) (ht : t < T) (hp : P t = nI 6) (hk : K t = nI 1) (hx : top = Z t) :
    ∃ own' ch', ew_I C T e (M t) S N E L (upd P t (nI 8)) B A K M Z own' ch' lim := by
  obtain ⟨k', hk', k2, hh⟩ := ew_at h ht hp (by omega)
  have ek : k' = 1 := (nI_eq (by omega) (by omega)).mp (hk'.symm.trans hk)
  subst ek
  obtain ⟨c, ⟨hc, hm, ho⟩, hN⟩ := hh.2.2.2.1 rfl (Or.inr (Or.inr rfl))
  have hN := hN rfl
  obtain ⟨⟨a1, a2, a3, a4⟩, h2, h3, h4⟩ := h
  have nc : c ∉ ch := fun w => by have := ((a4 c).mp w).2; omega
  have j3 := ew_tt (t := t) (own' := ew_up own c 1) (N' := N) (p := 8) (k := 1) (b := B t) (a := A t) (m := M t) (z := Z t) h3
    (fun t' ht' nt => ew_mono1 (fun d hd => rfl) (by omega) (by omega) (fun w1 w2 => by exfalso; omega))
    ⟨by unfold ew_TA; omega, fun x => by omega, fun _ => hh.2.2.1 (by omega), fun _ x => by omega, fun _ x => by omega, fun x => by omega⟩
  rw [← hk, ew_self K t, ew_self Z t, ew_self B t, ew_self A t, ew_self M t] at j3
  have j4 := ew_rr (t := t) (own' := ew_up own c 1) (p := 8) (k := 1) (m := M t) h4 ht (fun d hd w => by
      rcases ew_uc own c 1 d with ⟨x, u⟩ | ⟨x, u⟩
      · rw [u] at w; omega
      · rw [u] at w
        rcases w with w | w
        · have g := (ew_hu h4 hT ht hd w).1
          have g2 := (ew_hu h4 hT ht hc ho).1
          exact absurd ((nI_eq (by omega) (by omega)).mp (g.symm.trans g2)) x
        · have g := (ew_ho h4 hT ht hd w).2
          rw [hp, nI_eq (by omega) (by omega)] at g
          omega)
    (fun d hd w1 w2 => by
      rcases ew_uc own c 1 d with ⟨x, u⟩ | ⟨x, u⟩
      · rw [u] at w1; omega
      · exact u)
  rw [← hk, ew_self K t, ew_self M t] at j4
  refine ⟨ew_up own c 1, c :: ch, ⟨fun d hd => ?_, ⟨hm, by rw [hN, ← hx]; exact a2⟩, List.nodup_cons.mpr ⟨nc, a3⟩, fun d => ?_⟩, fun q hq => ew_lm_own (h2 q hq) fun d hd => ?_, j3, j4⟩
  · rcases ew_uc own c 1 d with ⟨x, u⟩ | ⟨x, u⟩
    · rw [u, x, a1 c hc, ho, ew_st5 (by omega), ew_st1]
    · rw [u]; exact a1 d hd
  · rw [List.mem_cons, a4 d]
    rcases ew_uc own c 1 d with ⟨x, u⟩ | ⟨x, u⟩
    · rw [u, x]; exact ⟨fun _ => ⟨hc, rfl⟩, fun _ => Or.inl rfl⟩
    · rw [u]; exact ⟨fun w => w.resolve_left x, Or.inr⟩
  · rcases ew_uc own c 1 d with ⟨x, u⟩ | ⟨x, u⟩
    · rw [u, x, ho]; omega
    · rw [u]
theorem ew_s_casPop (hC : C ≤ 32) (h : ew_I C T e top S N E L P B A K M Z own ch lim) (hT : T ≤ 4) (ht : t < T) (hp : P t = nI 6) (hk : K t = nI k) (hk1 : k ≠ 1) (hk2 : k ≤ 2) (hx : top = M t) :
    ∃ own' ch', ew_I C T e (Z t) S N E L (upd P t (nI 7)) B A K M Z own' ch' lim := by
  obtain ⟨k', hk', k2, hh⟩ := ew_at h ht hp (by omega)
  have ek : k' = k := (nI_eq (by omega) (by omega)).mp (hk'.symm.trans hk)
  subst ek
  have k3 := hh.1.2.2.1 (by omega)
  have k4 : k' = 2 := by omega
  obtain ⟨c, ⟨hc, hm, ho, ho2, ho3⟩, hN⟩ := hh.2.2.2.2.1 k4 (Or.inr rfl)
  obtain ⟨⟨a1, a2, a3, a4⟩, h2, h3, h4⟩ := h
  rw [hx, hm] at a2
  obtain ⟨l, el, hl⟩ := ew_ch_cons (by omega) a2 (fun d hd => by have := ((a4 d).mp hd).1; omega)
  have o1 : own c = 1 := ((a4 c).mp (by rw [el]; exact List.mem_cons_self)).2
  have hN := hN rfl o1
  rw [el] at a3
  have a3' := List.nodup_cons.mp a3
  have j3 := ew_tt (t := t) (own' := ew_up own c (9 + t)) (N' := N) (p := 7) (k := k') (b := B t) (a := A t) (m := M t) (z := Z t) h3
    (fun t' ht' nt => ew_mono1 (fun d hd => rfl) (by omega) (by omega) (fun w1 w2 => ⟨by omega, by omega, fun w => by omega, fun w => by omega⟩))
    ⟨by unfold ew_TA; omega, fun x => by omega, fun _ => hh.2.2.1 (by omega), fun _ x => by omega, fun _ x => by omega, fun x => ⟨c, hc, hm, ew_us⟩⟩
  rw [← hk, ew_self K t, ew_self Z t, ew_self B t, ew_self A t, ew_self M t] at j3
  have j4 := ew_rr (t := t) (own' := ew_up own c (9 + t)) (p := 7) (k := k') (m := M t) h4 ht (fun d hd w => by
      rcases ew_uc own c (9 + t) d with ⟨x, u⟩ | ⟨x, u⟩
      · exact ⟨by rw [x]; exact hm, Or.inr ⟨u, rfl⟩⟩
      · rw [u] at w
        rcases w with w | w
        · have g := (ew_hu h4 hT ht hd w).2.1
          rw [hk, nI_eq (by omega) (by omega)] at g
          omega
        · have g := (ew_ho h4 hT ht hd w).2
          rw [hp, nI_eq (by omega) (by omega)] at g
          omega)
    (fun d hd w1 w2 => by
      rcases ew_uc own c (9 + t) d with ⟨x, u⟩ | ⟨x, u⟩
      · exact absurd (Or.inr u) w2
      · exact u)
  rw [← hk, ew_self K t, ew_self M t] at j4
  refine ⟨ew_up own c (9 + t), l, ⟨fun d hd => ?_, by rw [← hN]; exact hl, a3'.2, fun d => ?_⟩, fun q hq => ew_lm_own (h2 q hq) fun d hd => ?_, j3, j4⟩
  · rcases ew_uc own c (9 + t) d with ⟨x, u⟩ | ⟨x, u⟩
    · rw [u, x, a1 c hc, o1, ew_st1, ew_st5 (by omega)]
    · rw [u]; exact a1 d hd
  · rcases ew_uc own c (9 + t) d with ⟨x, u⟩ | ⟨x, u⟩
    · rw [u, x]; exact ⟨fun w => absurd w a3'.1, fun w => by omega⟩
    · rw [u, ← a4 d, el, List.mem_cons]; exact ⟨Or.inr, fun w => w.resolve_left x⟩
  · rcases ew_uc own c (9 + t) d with ⟨x, u⟩ | ⟨x, u⟩
    · rw [u, x, o1]; omega
    · rw [u]
theorem ew_s_unpin (h : ew_I C T e top S N E L P B A K M Z own ch lim) (hT : T ≤ 4) (ht : t < T) (hp : P t = nI 8) :
    ew_I C T e top S N E L (upd P t (nI 0)) (upd B t 0) A K M Z own ch lim := by
  obtain ⟨k, hk, k2, hh⟩ := ew_at h ht hp (by omega)
  have j := ew_loc (b := 0) (a := A t) (m := M t) (z := Z t) (p := 0) (k := k) h hT ht hp hk (by omega) (by omega)
    ⟨by unfold ew_TA; omega, fun x => rfl, fun x => by omega, fun _ x => by omega, fun _ x => by omega, fun x => by omega⟩ (fun _ x => by omega) (fun x => by omega)
  rw [← hk, ew_self K t, ew_self M t, ew_self Z t, ew_self A t] at j
  exact j
/-- RETIRE: list n mod 3, n the announced epoch; there is room -/
theorem ew_s_room {q : Nat} (h : ew_I C T e top S N E L P B A K M Z own ch lim) (ht : t < T) (hp : P t = nI 7) (hq : q < 3) :
    ∃ c n, c < C ∧ M t = nI c ∧ own c = 9 + t ∧ A t = nI n ∧ (n = e ∨ n + 1 = e) ∧ L q = nI (lim q).length ∧ (lim q).length < C ∧ S c = 1 := by
  obtain ⟨k, hk, k2, hh⟩ := ew_at h ht hp (by omega)
  obtain ⟨c, hc, hm, ho⟩ := hh.2.2.2.2.2 rfl
  obtain ⟨_, n, hn, hn2⟩ := hh.2.2.1 (by omega)
  obtain ⟨l1, l2, l3, l4⟩ := h.2.1 q hq
  have nc : c ∉ lim q := fun w => by have := ((l3 c).mp w).2; omega
  have g := ew_len (C := C) (l := c :: lim q) (List.nodup_cons.mpr ⟨nc, l2⟩) (fun d hd => by
    rcases List.mem_cons.mp hd with x | x
    · rw [x]; exact hc
    · exact ((l3 d).mp x).1)
  rw [List.length_cons] at g
  exact ⟨c, n, hc, hm, ho, hn, hn2, l1, by omega, by rw [h.1.1 c hc, ho, ew_st5 (by omega)]⟩
def ew_lu (lim : Nat → List Nat) (q : Nat) (l : List Nat) : Nat → List Nat := fun j => if j = q then l else lim j
theorem ew_lus {lim : Nat → List Nat} {q : Nat} {l : List Nat} : ew_lu lim q l q = l := if_pos rfl
theorem ew_lun {lim : Nat → List Nat} {q j : Nat} {l : List Nat} (h : j ≠ q) : ew_lu lim q l j = lim j := if_neg h
theorem ew_s_retire {q c n : Nat} (hC : C ≤ 32) (h : ew_I C T e top S N E L P B A K M Z own ch lim) (hT : T ≤ 4) (ht : t < T) (hp : P t = nI 7) (hc : c < C) (hm : M t = nI c) (ho : own c = 9 + t)
    (hA : A t = nI n) (hn : n = e ∨ n + 1 = e) (hq : q = n % 3) :
    ew_I C T e top (upd S c 2) N (upd E (q * 32 + (lim q).length) (nI c)) (upd L q (nI ((lim q).length + 1))) (upd P t (nI 8)) B A K M Z (ew_up own c (2 + q)) ch (ew_lu lim q (lim q ++ [c])) := by
  obtain ⟨k, hk, k2, hh⟩ := ew_at h ht hp (by omega)
  have k3 := hh.1.2.2.1 (by omega)
  obtain ⟨⟨a1, a2, a3, a4⟩, h2, h3, h4⟩ := h
  have q3 : q < 3 := by omega
  have nc : c ∉ ch := fun w => by have := ((a4 c).mp w).2; omega
  have hlen : ∀ j, j < 3 → (lim j).length ≤ C := fun j hj => ew_len (h2 j hj).2.1 (fun d hd => (((h2 j hj).2.2.1 d).mp hd).1)
  have j3 := ew_tt (t := t) (own' := ew_up own c (2 + q)) (N' := N) (p := 8) (k := k) (b := B t) (a := A t) (m := M t) (z := Z t) h3
    (fun t' ht' nt => ew_mono1 (fun d hd => rfl) (by omega) (by omega) (fun w1 w2 => ⟨by omega, by omega, fun w => by omega, fun w => by omega⟩))
    ⟨by unfold ew_TA; omega, fun x => by omega, fun _ => hh.2.2.1 (by omega), fun _ x => by omega, fun _ x => by omega, fun x => by omega⟩
  rw [← hk, ew_self K t, ew_self Z t, ew_self B t, ew_self A t, ew_self M t] at j3
  have j4 := ew_rr (t := t) (own' := ew_up own c (2 + q)) (p := 8) (k := k) (m := M t) h4 ht (fun d hd w => by
      rcases ew_uc own c (2 + q) d with ⟨x, u⟩ | ⟨x, u⟩
      · rw [u] at w; omega
      · rw [u] at w
        rcases w with w | w
        · have g := (ew_hu h4 hT ht hd w).2.2
          rw [hp, nI_eq (by omega) (by omega), nI_eq (by omega) (by omega), nI_eq (by omega) (by omega)] at g
          omega
        · have g := (ew_ho h4 hT ht hd w).1
          have g2 := (ew_ho h4 hT ht hc ho).1
          exact absurd ((nI_eq (by omega) (by omega)).mp (g.symm.trans g2)) x)
    (fun d hd w1 w2 => by
      rcases ew_uc own c (2 + q) d with ⟨x, u⟩ | ⟨x, u⟩
      · rw [u] at w1; omega
      · exact u)
  rw [← hk, ew_self K t, ew_self M t] at j4
  refine ⟨⟨fun d hd => ?_, a2, a3, fun d => ?_⟩, fun j hj => ?_, j3, j4⟩
  · rcases ew_uc own c (2 + q) d with ⟨x, u⟩ | ⟨x, u⟩
    · rw [u, x, pk_us, ew_st2 q3]
    · rw [u, pk_un x]; exact a1 d hd
  · rw [a4 d]
    rcases ew_uc own c (2 + q) d with ⟨x, u⟩ | ⟨x, u⟩
    · rw [u, x, ho]; omega
    · rw [u]
  · have hj2 := h2 j hj
    by_cases x : j = q
    · subst x
      obtain ⟨l1, l2, l3, l4⟩ := hj2
      have nl : c ∉ lim j := fun w => by have := ((l3 c).mp w).2; omega
      refine ⟨?_, ?_, fun d => ?_, fun i d hi => ?_⟩
      · rw [pk_us, ew_lus, List.length_append]; rfl
      · rw [ew_lus]
        refine List.nodup_append.mpr ⟨l2, List.nodup_cons.mpr ⟨fun w => (nomatch w), List.nodup_nil⟩, fun a ha b hb w => ?_⟩
        rw [List.mem_singleton] at hb
        exact nl (by rw [← hb, ← w]; exact ha)
      · rw [ew_lus, List.mem_append, l3 d, List.mem_singleton]
        rcases ew_uc own c (2 + j) d with ⟨y, u⟩ | ⟨y, u⟩
        · rw [u, y]; exact ⟨fun _ => ⟨hc, rfl⟩, fun _ => Or.inr rfl⟩
        · rw [u]; exact ⟨fun w => w.resolve_right y, Or.inl⟩
      · rw [ew_lus] at hi
        by_cases y : i < (lim j).length
        · rw [List.getElem?_append_left y] at hi
          rw [pk_un (by omega)]
          exact l4 i d hi
        · rw [List.getElem?_append_right (by omega)] at hi
          have z : i = (lim j).length := by
            by_cases z : i - (lim j).length = 0
            · omega
            · obtain ⟨r, hr⟩ : ∃ r, i - (lim j).length = r + 1 := ⟨i - (lim j).length - 1, by omega⟩
              rw [hr] at hi
              exact absurd hi (by simp)
          rw [z, Nat.sub_self] at hi
          have z2 : c = d := by simpa using hi
          rw [z, pk_us, z2]
    · obtain ⟨l1, l2, l3, l4⟩ := hj2
      refine ⟨?_, ?_, fun d => ?_, fun i d hi => ?_⟩
      · rw [pk_un x, ew_lun x]; exact l1
      · rw [ew_lun x]; exact l2
      · rw [ew_lun x, l3 d]
        rcases ew_uc own c (2 + q) d with ⟨y, u⟩ | ⟨y, u⟩
        · rw [u, y, ho]; omega
        · rw [u]
      · rw [ew_lun x] at hi
        have hi2 : i < (lim j).length := (List.getElem?_eq_some_iff.mp hi).1
        have g1 := hlen j hj
        have g2 := hlen q q3
        have g3 : (lim q).length < 32 := by
          have nl : c ∉ lim q := fun w => by have := (((h2 q q3).2.2.1 c).mp w).2; omega
          have g := ew_len (C := C) (l := c :: lim q) (List.nodup_cons.mpr ⟨nl, (h2 q q3).2.1⟩) (fun d hd => by
            rcases List.mem_cons.mp hd with x | x
            · rw [x]; exact hc
            · exact (((h2 q q3).2.2.1 d).mp x).1)
          rw [List.length_cons] at g
          omega
        rw [pk_un (by omega)]
        exact l4 i d hi
end T
end
section
/-! the advance -/
theorem ew_nd : ∀ (l : List Nat), l.Nodup → ∀ (i j c : Nat), l[i]? = some c → l[j]? = some c → i = j := by
  intro l
  induction l with
  | nil => intro _ i j c h; exact absurd h (by simp)
  | cons d l ih =>
    intro hn i j c h1 h2
    have hn' := List.nodup_cons.mp hn
    cases i with
    | zero =>
      cases j with
      | zero => rfl
      | succ j =>
        have e : d = c := by simpa using h1
        have m : l[j]? = some c := by simpa using h2
        exact absurd (by rw [e]; exact List.mem_of_getElem? m) hn'.1
    | succ i =>
      cases j with
      | zero =>
        have e : d = c := by simpa using h2
        have m : l[i]? = some c := by simpa using h1
        exact absurd (by rw [e]; exact List.mem_of_getElem? m) hn'.1
      | succ j =>
        have m1 : l[i]? = some c := by simpa using h1
        have m2 : l[j]? = some c := by simpa using h2
        rw [ih hn'.2 i j c m1 m2]
/-- f is S with the first i of l made FREE -/
def ew_FR (l : List Nat) (S f : Nat → Int32) (i : Nat) : Prop := (∀ d, (∃ j, j < i ∧ l[j]? = some d) → f d = 0) ∧ (∀ d, ¬ (∃ j, j < i ∧ l[j]? = some d) → f d = S d)
theorem ew_fr0 {l : List Nat} {S : Nat → Int32} : ew_FR l S S 0 := ⟨fun d h => by obtain ⟨j, hj, _⟩ := h; omega, fun _ _ => rfl⟩
theorem ew_frs {l : List Nat} {S f : Nat → Int32} {i c : Nat} (hn : l.Nodup) (h : ew_FR l S f i) (hi : l[i]? = some c) : f c = S c ∧ ew_FR l S (upd f c 0) (i + 1) := by
  refine ⟨h.2 c fun ⟨j, hj, hx⟩ => ?_, fun d hd => ?_, fun d hd => ?_⟩
  · have := ew_nd l hn j i c hx hi
    omega
  · rcases ew_vc f c 0 d with ⟨e, u⟩ | ⟨e, u⟩
    · exact u
    · rw [u]
      obtain ⟨j, hj, hx⟩ := hd
      refine h.1 d ⟨j, ?_, hx⟩
      have : j ≠ i := fun w => by
        rw [w, hi] at hx
        exact e (Option.some.inj hx).symm
      omega
  · have ne : d ≠ c := fun w => hd ⟨i, by omega, by rw [w]; exact hi⟩
    rw [pk_un ne]
    exact h.2 d fun ⟨j, hj, hx⟩ => hd ⟨j, by omega, hx⟩
theorem ew_fre {l : List Nat} {S f : Nat → Int32} (h : ew_FR l S f l.length) (d : Nat) : (d ∈ l → f d = 0) ∧ (d ∉ l → f d = S d) := by
  refine ⟨fun m => ?_, fun m => h.2 d fun ⟨j, _, hx⟩ => m (List.mem_of_getElem? hx)⟩
  obtain ⟨j, hj⟩ := List.mem_iff_getElem?.mp m
  exact h.1 d ⟨j, (List.getElem?_eq_some_iff.mp hj).1, hj⟩
theorem ew_TH_adv {C e t : Nat} {own own' : Nat → Nat} {N : Nat → Int32} {p k : Nat} {b a m z : Int32} (he : e + 1 < 2 ^ 31)
    (ho : ∀ c, c < C → own c ≠ 2 + (e + 1) % 3 → own' c = own c) (hb : ¬ b = 0 → a = nI e) (h : ew_TH C e t own N p k b a m z) : ew_TH C (e + 1) t own' N p k b a m z := by
  obtain ⟨g1, g2, g3, g4, g5, g6⟩ := h
  have ha : 2 ≤ p → b = 1 ∧ a = nI e := fun x => by
    have b1 := (g3 x).1
    exact ⟨b1, hb (by rw [b1]; decide)⟩
  refine ⟨g1, g2, fun x => ⟨(ha x).1, e, (ha x).2, Or.inr rfl⟩, fun x y => ?_, fun x y => ?_, fun x => ?_⟩
  · obtain ⟨c, ⟨q1, q2, q3⟩, q⟩ := g4 x y
    exact ⟨c, ⟨q1, q2, by rw [ho c q1 (by omega)]; exact q3⟩, q⟩
  · obtain ⟨c, ⟨q1, q2, q3, q4, q5⟩, q⟩ := g5 x y
    have hx := (ha (by omega)).2
    have hn : own c ≠ 2 + (e + 1) % 3 := fun w => q5 w hx
    have ho' := ho c q1 hn
    refine ⟨c, ⟨q1, q2, by rw [ho']; exact q3, by rw [ho']; exact q4, fun _ w => ?_⟩, fun w o => q w (by rw [← ho']; exact o)⟩
    rw [hx, nI_eq (by omega) (by omega)] at w
    omega
  · obtain ⟨c, q1, q2, q3⟩ := g6 x
    exact ⟨c, q1, q2, by rw [ho c q1 (by omega)]; exact q3⟩
theorem ew_s_adv {C T e j : Nat} {top : Int32} {S S' N E L P B A K M Z : Nat → Int32} {own : Nat → Nat} {ch : List Nat} {lim : Nat → List Nat} (he : e + 1 < 2 ^ 31)
    (h : ew_I C T e top S N E L P B A K M Z own ch lim) (hb : ∀ t, t < T → ¬ B t = 0 → A t = nI e) (hj : j = (e + 1) % 3) (hf : ew_FR (lim j) S S' (lim j).length) :
    ∃ own', ew_I C T (e + 1) top S' N E (upd L j 0) P B A K M Z own' ch (ew_lu lim j []) := by
  obtain ⟨⟨a1, a2, a3, a4⟩, h2, h3, h4⟩ := h
  have j3 : j < 3 := by omega
  obtain ⟨l1, l2, l3, l4⟩ := h2 j j3
  have hz : ∀ c, c < C → own c = 2 + j → S' c = 0 := fun c hc w => (ew_fre hf c).1 ((l3 c).mpr ⟨hc, w⟩)
  have hs : ∀ c, own c ≠ 2 + j → S' c = S c := fun c w => (ew_fre hf c).2 fun m => w ((l3 c).mp m).2
  let own' : Nat → Nat := fun c => if own c = 2 + j then 0 else own c
  have o1 : ∀ c, own c = 2 + j → own' c = 0 := fun c w => if_pos w
  have o2 : ∀ c, own c ≠ 2 + j → own' c = own c := fun c w => if_neg w
  refine ⟨own', ⟨fun c hc => ?_, a2, a3, fun c => ?_⟩, fun k hk => ?_, fun t ht => ?_, fun c hc h5 => ?_⟩
  · by_cases w : own c = 2 + j
    · rw [o1 c w, hz c hc w, ew_st0]
    · rw [o2 c w, hs c w]; exact a1 c hc
  · rw [a4 c]
    by_cases w : own c = 2 + j
    · rw [o1 c w]; omega
    · rw [o2 c w]
  · by_cases x : k = j
    · subst x
      refine ⟨by rw [pk_us, ew_lus]; rfl, by rw [ew_lus]; exact List.nodup_nil, fun c => ?_, fun i c hi => ?_⟩
      · rw [ew_lus]
        refine ⟨fun w => (nomatch w), fun w => ?_⟩
        by_cases y : own c = 2 + k
        · rw [o1 c y] at w; omega
        · rw [o2 c y] at w; omega
      · rw [ew_lus] at hi
        exact absurd hi (by simp)
    · obtain ⟨m1, m2, m3, m4⟩ := h2 k hk
      refine ⟨by rw [pk_un x, ew_lun x]; exact m1, by rw [ew_lun x]; exact m2, fun c => ?_, fun i c hi => m4 i c (by rw [ew_lun x] at hi; exact hi)⟩
      rw [ew_lun x, m3 c]
      by_cases y : own c = 2 + j
      · rw [o1 c y]; omega
      · rw [o2 c y]
  · obtain ⟨p, k, q1, q2, q3⟩ := h3 t ht
    exact ⟨p, k, q1, q2, ew_TH_adv he (fun c _ w => o2 c (by rw [hj]; exact w)) (hb t ht) q3⟩
  · by_cases y : own c = 2 + j
    · rw [o1 c y] at h5; omega
    · have u := o2 c y
      rw [u] at h5
      obtain ⟨t, ht, g⟩ := h4 c hc h5
      refine ⟨t, ht, ?_⟩
      rw [u]
      exact g
/-! all at rest -/
theorem ew_idle {C T e : Nat} {top : Int32} {S N E L P B A K M Z : Nat → Int32} {own : Nat → Nat} {ch : List Nat} {lim : Nat → List Nat}
    (h : ew_I C T e top S N E L P B A K M Z own ch lim) (hz : ∀ t, t < T → P t = nI 0) : (∀ t, t < T → B t = 0) ∧ (∀ c, c < C → own c < 5) := by
  refine ⟨fun t ht => ?_, fun c hc => ?_⟩
  · obtain ⟨k, hk, _, hh⟩ := ew_at h ht (hz t ht) (by omega)
    exact hh.2.1 (by omega)
  · by_cases y : 5 ≤ own c
    · obtain ⟨t, ht, _, ⟨_, _, g | g | g⟩ | ⟨_, g⟩⟩ := h.2.2.2 c hc y
      · rw [hz t ht, nI_eq (by omega) (by omega)] at g; omega
      · rw [hz t ht, nI_eq (by omega) (by omega)] at g; omega
      · rw [hz t ht, nI_eq (by omega) (by omega)] at g; omega
      · rw [hz t ht, nI_eq (by omega) (by omega)] at g; omega
    · omega
/-- at rest, the lists empty: a cell is on the chain or FREE, and the numbers add up -/
theorem ew_rest {C T e : Nat} {top : Int32} {S N E L P B A K M Z : Nat → Int32} {own : Nat → Nat} {ch : List Nat} {lim : Nat → List Nat}
    (h : ew_I C T e top S N E L P B A K M Z own ch lim) (hz : ∀ t, t < T → P t = nI 0) (hl : ∀ k, k < 3 → lim k = []) :
    (∀ c, c < C → c ∉ ch → S c = 0) ∧ (∀ c, c ∈ ch → c < C ∧ S c = 1) ∧ er_cn S C + ch.length = C := by
  obtain ⟨_, i2⟩ := ew_idle h hz
  obtain ⟨⟨a1, a2, a3, a4⟩, h2, h3, h4⟩ := h
  have f1 : ∀ c, c < C → c ∉ ch → S c = 0 := fun c hc hn => by
    have n1 : own c ≠ 1 := fun w => hn ((a4 c).mpr ⟨hc, w⟩)
    have n2 : ∀ k, k < 3 → own c ≠ 2 + k := fun k hk w => by
      have m := ((h2 k hk).2.2.1 c).mpr ⟨hc, w⟩
      rw [hl k hk] at m
      exact nomatch m
    have n3 := n2 0 (by omega)
    have n4 := n2 1 (by omega)
    have n5 := n2 2 (by omega)
    have n6 := i2 c hc
    have z : own c = 0 := by omega
    rw [a1 c hc, z, ew_st0]
  have f2 : ∀ c, c ∈ ch → c < C ∧ S c = 1 := fun c hm => by
    have w := (a4 c).mp hm
    exact ⟨w.1, by rw [a1 c w.1, w.2, ew_st1]⟩
  refine ⟨f1, f2, ?_⟩
  obtain ⟨f, g1, g2⟩ := ew_cnl (C := C) ch a3 (fun c hc => (f2 c hc).1)
  rw [ew_cn_congr (f := S) (g := f) C fun c hc => ?_]
  · exact g1
  · rw [g2 c]
    refine ⟨fun w hm => ?_, fun w => f1 c hc w⟩
    rw [(f2 c hm).2] at w
    exact absurd w (by decide)
/-- the start -/
theorem ew_init {C T : Nat} {N M Z : Nat → Int32} : ew_I C T 0 (-1) (fun _ => 0) N (fun _ => 0) (fun _ => 0) (fun _ => 0) (fun _ => 0) (fun _ => 0) (fun _ => 0) M Z (fun _ => 0) [] (fun _ => []) := by
  refine ⟨⟨fun c _ => rfl, rfl, List.nodup_nil, fun c => ⟨fun w => (nomatch w), fun w => by have := w.2; dsimp only at this; omega⟩⟩, fun k hk => ⟨rfl, List.nodup_nil, fun c => ⟨fun w => (nomatch w), fun w => ?_⟩, fun i c hi => absurd hi (by simp)⟩, fun t ht => ⟨0, 0, rfl, rfl, by unfold ew_TA; omega, fun _ => rfl, fun x => by omega, fun x => by omega, fun x => by omega, fun x => by omega⟩, fun c hc h5 => ?_⟩
  · have := w.2
    dsimp only at this
    omega
  · dsimp only at h5
    omega
end
section
section
variable {nc nt gp tc ep tr df lt dr ad fc re : Int32} {cs cv cx le lc tp pn an kd mn sn vl rs er ev : Nat → Int32}
variable {x y : Int32}
/-! a number within 0 .. n - 1 -/
def er_ir (x n : Int32) : Prop := ¬ x < 0 ∧ ¬ n ≤ x
theorem er_10 : ¬ (1 : Int32) = 0 := by decide
theorem er_ir_in {T N : Nat} (hT : T ≤ N) (hN : N < 2 ^ 31) (h : er_ir x (nI T)) : vp_in x N ∧ x.toNatClampNeg < T := by
  obtain ⟨j, hj, rfl⟩ := nI_of h.1
  have g : j < T := by
    have h2 := h.2
    rw [nI_leI (by omega) hj] at h2
    omega
  exact ⟨vp_in_nI (by omega) hN, by rw [nI_clamp hj]; exact g⟩
theorem er_ir_nI {j T : Nat} (h : j < T) (hT : T < 2 ^ 31) : er_ir (nI j) (nI T) := ⟨nI_pos (by omega), nI_ge h hT⟩
/-! what isn't one of 0 .. n falls out of the switch -/
theorem er_sw (x : Int32) (n : Nat) (hn : n < 2 ^ 31) (h : ∀ j, j ≤ n → ¬ x = nI j) : x < 0 ∨ (¬ x < 0 ∧ nI n < x) := by
  by_cases h0 : x < 0
  · exact Or.inl h0
  · obtain ⟨j, hj, rfl⟩ := nI_of h0
    have g : ¬ j ≤ n := fun z => h j z rfl
    exact Or.inr ⟨h0, nI_lt (by omega) hj⟩
theorem xq_T1 {post : Int32 → Prop} (h : er_ir x nt) (hp : post 1) : wpX_isThread post (nc, nt, gp, tc, ep, tr, df, lt, dr, ad, fc, re, cs, cv, cx, le, lc, tp, pn, an, kd, mn, sn, vl, rs, er, ev) x := br_f h.1 (br_f h.2 hp)
theorem xq_T0 {post : Int32 → Prop} (h : ¬ er_ir x nt) (hp : post 0) : wpX_isThread post (nc, nt, gp, tc, ep, tr, df, lt, dr, ad, fc, re, cs, cv, cx, le, lc, tp, pn, an, kd, mn, sn, vl, rs, er, ev) x := br_c (fun _ => hp) (fun h0 => br_c (fun _ => hp) (fun h1 => absurd ⟨h0, h1⟩ h))
theorem xq_C1 {post : Int32 → Prop} (h : er_ir x nc) (hp : post 1) : wpX_isCell post (nc, nt, gp, tc, ep, tr, df, lt, dr, ad, fc, re, cs, cv, cx, le, lc, tp, pn, an, kd, mn, sn, vl, rs, er, ev) x := br_f h.1 (br_f h.2 hp)
theorem xq_C0 {post : Int32 → Prop} (h : ¬ er_ir x nc) (hp : post 0) : wpX_isCell post (nc, nt, gp, tc, ep, tr, df, lt, dr, ad, fc, re, cs, cv, cx, le, lc, tp, pn, an, kd, mn, sn, vl, rs, er, ev) x := br_c (fun _ => hp) (fun h0 => br_c (fun _ => hp) (fun h1 => absurd ⟨h0, h1⟩ h))
theorem xq_phase1 {post : Int32 → Prop} (h : er_ir x nt) (hv : vp_in x 4) (hp : post (tp x.toNatClampNeg)) : wpX_phase post (nc, nt, gp, tc, ep, tr, df, lt, dr, ad, fc, re, cs, cv, cx, le, lc, tp, pn, an, kd, mn, sn, vl, rs, er, ev) x := by
  unfold wpX_phase
  exact xq_T1 h (br_f er_10 ⟨hv, hp⟩)
theorem xq_phase0 {post : Int32 → Prop} (h : ¬ er_ir x nt) (hp : post (-1)) : wpX_phase post (nc, nt, gp, tc, ep, tr, df, lt, dr, ad, fc, re, cs, cv, cx, le, lc, tp, pn, an, kd, mn, sn, vl, rs, er, ev) x := by
  unfold wpX_phase
  exact xq_T0 h (br_t rfl hp)
theorem xq_cell_0 {post : Int32 → Prop} (h : er_ir x nc) (hv : vp_in x 32) (hp : post (cs x.toNatClampNeg)) : wpX_cell post (nc, nt, gp, tc, ep, tr, df, lt, dr, ad, fc, re, cs, cv, cx, le, lc, tp, pn, an, kd, mn, sn, vl, rs, er, ev) x 0 := by
  unfold wpX_cell
  exact xq_C1 h (br_f er_10 (br_f (by decide) (br_f (by decide) (br_t rfl ⟨hv, hp⟩))))
theorem xq_cell_1 {post : Int32 → Prop} (h : er_ir x nc) (hv : vp_in x 32) (hp : post (cv x.toNatClampNeg)) : wpX_cell post (nc, nt, gp, tc, ep, tr, df, lt, dr, ad, fc, re, cs, cv, cx, le, lc, tp, pn, an, kd, mn, sn, vl, rs, er, ev) x 1 := by
  unfold wpX_cell
  exact xq_C1 h (br_f er_10 (br_f (by decide) (br_f (by decide) (br_f (by decide) (br_t rfl ⟨hv, hp⟩)))))
theorem xq_cell_2 {post : Int32 → Prop} (h : er_ir x nc) (hv : vp_in x 32) (hp : post (cx x.toNatClampNeg)) : wpX_cell post (nc, nt, gp, tc, ep, tr, df, lt, dr, ad, fc, re, cs, cv, cx, le, lc, tp, pn, an, kd, mn, sn, vl, rs, er, ev) x 2 := by
  unfold wpX_cell
  exact xq_C1 h (br_f er_10 (br_f (by decide) (br_f (by decide) (br_f (by decide) (br_f (by decide) (br_t rfl ⟨hv, hp⟩))))))
theorem xq_cell_o {post : Int32 → Prop} (h : er_ir x nc) (h0 : ¬ y = 0) (h1 : ¬ y = 1) (h2 : ¬ y = 2) (hp : post (-1)) : wpX_cell post (nc, nt, gp, tc, ep, tr, df, lt, dr, ad, fc, re, cs, cv, cx, le, lc, tp, pn, an, kd, mn, sn, vl, rs, er, ev) x y := by
  unfold wpX_cell
  have G : y < 0 ∨ (¬ y < 0 ∧ nI 2 < y) := er_sw y 2 (by decide) (fun j hj => by
    rcases (by omega : j = 0 ∨ j = 1 ∨ j = 2) with rfl | rfl | rfl
    · exact h0
    · exact h1
    · exact h2)
  refine xq_C1 h (br_f er_10 ?_)
  rcases G with g | ⟨g1, g2⟩
  · exact br_t g hp
  · exact br_f g1 (br_t g2 hp)
theorem xq_cell_n {post : Int32 → Prop} (h : ¬ er_ir x nc) (hp : post (-1)) : wpX_cell post (nc, nt, gp, tc, ep, tr, df, lt, dr, ad, fc, re, cs, cv, cx, le, lc, tp, pn, an, kd, mn, sn, vl, rs, er, ev) x y := by
  unfold wpX_cell
  exact xq_C0 h (br_t rfl hp)
theorem xq_start2 {post : Int32 → St2 → Prop} {k v : Int32} (h : er_ir x nt) (hv : vp_in x 4) (h0 : tp x.toNatClampNeg = 0) (hp : post 1 (nc, nt, gp, tc, ep, tr, df, lt, dr, ad, fc, re, cs, cv, cx, le, lc, upd tp x.toNatClampNeg 1, pn, an, upd kd x.toNatClampNeg k, upd mn x.toNatClampNeg (-1), upd sn x.toNatClampNeg (-1), upd vl x.toNatClampNeg v, upd rs x.toNatClampNeg 0, er, ev)) : wpX_start post (nc, nt, gp, tc, ep, tr, df, lt, dr, ad, fc, re, cs, cv, cx, le, lc, tp, pn, an, kd, mn, sn, vl, rs, er, ev) x k v := by
  unfold wpX_start
  exact xq_T1 h (br_f er_10 ⟨hv, br_t h0 ⟨hv, nm_e ⟨hv, nm_e ⟨hv, nm_e ⟨hv, nm_e ⟨hv, nm_e ⟨hv, nm_e hp⟩⟩⟩⟩⟩⟩⟩)
theorem xq_start1 {post : Int32 → St2 → Prop} {k v : Int32} (h : er_ir x nt) (hv : vp_in x 4) (h0 : ¬ tp x.toNatClampNeg = 0) (hp : post 0 (nc, nt, gp, tc, ep, tr, df, lt, dr, ad, fc, re, cs, cv, cx, le, lc, tp, pn, an, kd, mn, sn, vl, rs, er, ev)) : wpX_start post (nc, nt, gp, tc, ep, tr, df, lt, dr, ad, fc, re, cs, cv, cx, le, lc, tp, pn, an, kd, mn, sn, vl, rs, er, ev) x k v := by
  unfold wpX_start
  exact xq_T1 h (br_f er_10 ⟨hv, br_f h0 hp⟩)
theorem xq_start0 {post : Int32 → St2 → Prop} {k v : Int32} (h : ¬ er_ir x nt) (hp : post 0 (nc, nt, gp, tc, ep, tr, df, lt, dr, ad, fc, re, cs, cv, cx, le, lc, tp, pn, an, kd, mn, sn, vl, rs, er, ev)) : wpX_start post (nc, nt, gp, tc, ep, tr, df, lt, dr, ad, fc, re, cs, cv, cx, le, lc, tp, pn, an, kd, mn, sn, vl, rs, er, ev) x k v := by
  unfold wpX_start
  exact xq_T0 h (br_t rfl hp)
theorem xq_push2 {post : Int32 → St2 → Prop} (h : er_ir x nt) (hv : vp_in x 4) (h0 : tp x.toNatClampNeg = 0) (hp : post 1 (nc, nt, gp, tc, ep, tr, df, lt, dr, ad, fc, re, cs, cv, cx, le, lc, upd tp x.toNatClampNeg 1, pn, an, upd kd x.toNatClampNeg 1, upd mn x.toNatClampNeg (-1), upd sn x.toNatClampNeg (-1), upd vl x.toNatClampNeg y, upd rs x.toNatClampNeg 0, er, ev)) : wpX_push post (nc, nt, gp, tc, ep, tr, df, lt, dr, ad, fc, re, cs, cv, cx, le, lc, tp, pn, an, kd, mn, sn, vl, rs, er, ev) x y := by
  unfold wpX_push
  exact xq_start2 h hv h0 ⟨rfl, hp⟩
theorem xq_push1 {post : Int32 → St2 → Prop} (h : er_ir x nt) (hv : vp_in x 4) (h0 : ¬ tp x.toNatClampNeg = 0) (hp : post 0 (nc, nt, gp, tc, ep, tr, df, lt, dr, ad, fc, re, cs, cv, cx, le, lc, tp, pn, an, kd, mn, sn, vl, rs, er, ev)) : wpX_push post (nc, nt, gp, tc, ep, tr, df, lt, dr, ad, fc, re, cs, cv, cx, le, lc, tp, pn, an, kd, mn, sn, vl, rs, er, ev) x y := by
  unfold wpX_push
  exact xq_start1 h hv h0 ⟨rfl, hp⟩
theorem xq_push0 {post : Int32 → St2 → Prop} (h : ¬ er_ir x nt) (hp : post 0 (nc, nt, gp, tc, ep, tr, df, lt, dr, ad, fc, re, cs, cv, cx, le, lc, tp, pn, an, kd, mn, sn, vl, rs, er, ev)) : wpX_push post (nc, nt, gp, tc, ep, tr, df, lt, dr, ad, fc, re, cs, cv, cx, le, lc, tp, pn, an, kd, mn, sn, vl, rs, er, ev) x y := by
  unfold wpX_push
  exact xq_start0 h ⟨rfl, hp⟩
theorem xq_pop2 {post : Int32 → St2 → Prop} (h : er_ir x nt) (hv : vp_in x 4) (h0 : tp x.toNatClampNeg = 0) (hp : post 1 (nc, nt, gp, tc, ep, tr, df, lt, dr, ad, fc, re, cs, cv, cx, le, lc, upd tp x.toNatClampNeg 1, pn, an, upd kd x.toNatClampNeg 2, upd mn x.toNatClampNeg (-1), upd sn x.toNatClampNeg (-1), upd vl x.toNatClampNeg 0, upd rs x.toNatClampNeg 0, er, ev)) : wpX_pop post (nc, nt, gp, tc, ep, tr, df, lt, dr, ad, fc, re, cs, cv, cx, le, lc, tp, pn, an, kd, mn, sn, vl, rs, er, ev) x := by
  unfold wpX_pop
  exact xq_start2 h hv h0 ⟨rfl, hp⟩
theorem xq_pop1 {post : Int32 → St2 → Prop} (h : er_ir x nt) (hv : vp_in x 4) (h0 : ¬ tp x.toNatClampNeg = 0) (hp : post 0 (nc, nt, gp, tc, ep, tr, df, lt, dr, ad, fc, re, cs, cv, cx, le, lc, tp, pn, an, kd, mn, sn, vl, rs, er, ev)) : wpX_pop post (nc, nt, gp, tc, ep, tr, df, lt, dr, ad, fc, re, cs, cv, cx, le, lc, tp, pn, an, kd, mn, sn, vl, rs, er, ev) x := by
  unfold wpX_pop
  exact xq_start1 h hv h0 ⟨rfl, hp⟩
theorem xq_pop0 {post : Int32 → St2 → Prop} (h : ¬ er_ir x nt) (hp : post 0 (nc, nt, gp, tc, ep, tr, df, lt, dr, ad, fc, re, cs, cv, cx, le, lc, tp, pn, an, kd, mn, sn, vl, rs, er, ev)) : wpX_pop post (nc, nt, gp, tc, ep, tr, df, lt, dr, ad, fc, re, cs, cv, cx, le, lc, tp, pn, an, kd, mn, sn, vl, rs, er, ev) x := by
  unfold wpX_pop
  exact xq_start0 h ⟨rfl, hp⟩
end
end
section
/-! the private methods of X, each with a general post -/
section
variable {nc nt gp tc ep tr df lt dr ad fc re : Int32} {cs cv cx le lc tp pn an kd mn sn vl rs er ev : Nat → Int32}
variable {x y : Int32} {post : St2 → Prop}
theorem xq_pin1 (hv : vp_in x 4) (hk : kd x.toNatClampNeg = 1) (hp : post (nc, nt, gp, tc, ep, tr, df, lt, dr, ad, fc, re, cs, cv, cx, le, lc, upd tp x.toNatClampNeg 2, upd pn x.toNatClampNeg (vp_nar .boolean 1), upd an x.toNatClampNeg ep, kd, mn, sn, vl, rs, er, ev)) : wpX_pin post (nc, nt, gp, tc, ep, tr, df, lt, dr, ad, fc, re, cs, cv, cx, le, lc, tp, pn, an, kd, mn, sn, vl, rs, er, ev) x :=
  ⟨hv, nm_e ⟨hv, nm_e ⟨hv, br_t hk ⟨hv, nm_e hp⟩⟩⟩⟩
theorem xq_pin2 (hv : vp_in x 4) (hk : ¬ kd x.toNatClampNeg = 1) (hp : post (nc, nt, gp, tc, ep, tr, df, lt, dr, ad, fc, re, cs, cv, cx, le, lc, upd tp x.toNatClampNeg 3, upd pn x.toNatClampNeg (vp_nar .boolean 1), upd an x.toNatClampNeg ep, kd, mn, sn, vl, rs, er, ev)) : wpX_pin post (nc, nt, gp, tc, ep, tr, df, lt, dr, ad, fc, re, cs, cv, cx, le, lc, tp, pn, an, kd, mn, sn, vl, rs, er, ev) x :=
  ⟨hv, nm_e ⟨hv, nm_e ⟨hv, br_f hk ⟨hv, nm_e hp⟩⟩⟩⟩
/-! the lowest FREE cell, upwards -/
theorem xq_low {C c : Nat} {q : Int32 → Prop} (hC : C ≤ 32) (hc : c ≤ C) (hn : ∀ j, j < c → ¬ cs j = 0) (hq : (c = C ∧ q (-1)) ∨ (c < C ∧ cs c = 0 ∧ q (nI c))) :
    ∀ d i, i + d = c → wX_lowestFreeCell_2 q (nI C) nt gp tc ep tr df lt dr ad fc re cs cv cx le lc tp pn an kd mn sn vl rs er ev (d + 1) (nI i) := by
  intro d
  induction d with
  | zero =>
    intro i hi
    have e : i = c := by omega
    subst e
    rcases hq with ⟨e, hq⟩ | ⟨h1, h2, hq⟩
    · subst e
      exact br_t (nI_le (Nat.le_refl _) (by omega)) hq
    · exact br_f (nI_ge h1 (by omega)) ⟨vp_in_nI (by omega) (by omega), br_t (by rw [nI_clamp (by omega)]; exact h2) hq⟩
  | succ d ih =>
    intro i hi
    refine br_f (nI_ge (by omega) (by omega)) ⟨vp_in_nI (by omega) (by omega), br_f (by rw [nI_clamp (by omega)]; exact hn i (by omega)) (nm_r (nI_1 i) ?_)⟩
    exact ih (i + 1) (by omega)
theorem xq_lowest {C c : Nat} {q : Int32 → Prop} (hC : C ≤ 32) (hc : c ≤ C) (hn : ∀ j, j < c → ¬ cs j = 0) (hq : (c = C ∧ q (-1)) ∨ (c < C ∧ cs c = 0 ∧ q (nI c))) :
    wpX_lowestFreeCell q (nI C, nt, gp, tc, ep, tr, df, lt, dr, ad, fc, re, cs, cv, cx, le, lc, tp, pn, an, kd, mn, sn, vl, rs, er, ev) := by
  unfold wpX_lowestFreeCell
  exact ⟨c + 1, xq_low hC hc hn hq c 0 (by omega)⟩
theorem xq_alloc0 {C : Nat} (hv : vp_in x 4) (hC : C ≤ 32) (hn : ∀ j, j < C → ¬ cs j = 0) (hp : post (nI C, nt, gp, tc, ep, tr, df, lt, dr, ad, fc, re, cs, cv, cx, le, lc, upd tp x.toNatClampNeg 8, pn, an, kd, mn, sn, vl, upd rs x.toNatClampNeg 3, er, ev)) : wpX_allocate post (nI C, nt, gp, tc, ep, tr, df, lt, dr, ad, fc, re, cs, cv, cx, le, lc, tp, pn, an, kd, mn, sn, vl, rs, er, ev) x := by
  unfold wpX_allocate
  exact xq_lowest hC (Nat.le_refl C) hn (Or.inl ⟨rfl, br_t rfl ⟨hv, nm_e ⟨hv, nm_e hp⟩⟩⟩)
theorem er_nm1 {n : Nat} (h : n < 2 ^ 31) : ¬ nI n = -1 := by
  intro e
  have g := nI_toInt h
  rw [e] at g
  have e1 : (-1 : Int32).toInt = -1 := by decide
  omega
theorem xq_alloc1 {C c : Nat} {f : Int32} (hv : vp_in x 4) (hC : C ≤ 32) (hc : c < C) (hn : ∀ j, j < c → ¬ cs j = 0) (h0 : cs c = 0) (hf : fc - 1 = f)
    (hp : post (nI C, nt, gp, tc, ep, tr, df, lt, dr, ad, f, re, upd cs (nI c).toNatClampNeg 1, upd cv (nI c).toNatClampNeg (vl x.toNatClampNeg), upd cx (nI c).toNatClampNeg (-1), le, lc, upd tp x.toNatClampNeg 3, pn, an, kd, upd mn x.toNatClampNeg (nI c), sn, vl, rs, er, ev)) : wpX_allocate post (nI C, nt, gp, tc, ep, tr, df, lt, dr, ad, fc, re, cs, cv, cx, le, lc, tp, pn, an, kd, mn, sn, vl, rs, er, ev) x := by
  unfold wpX_allocate
  have w : vp_in (nI c) 32 := vp_in_nI (by omega) (by omega)
  exact xq_lowest hC (Nat.le_of_lt hc) hn (Or.inr ⟨hc, h0, br_f (er_nm1 (by omega)) ⟨w, nm_e ⟨hv, w, nm_e ⟨w, nm_e (nm_r hf ⟨hv, nm_e ⟨hv, nm_e hp⟩⟩)⟩⟩⟩⟩)
theorem xq_top1 (hv : vp_in x 4) (hk : kd x.toNatClampNeg = 1) (hp : post (nc, nt, gp, tc, ep, tr, df, lt, dr, ad, fc, re, cs, cv, cx, le, lc, upd tp x.toNatClampNeg 4, pn, an, kd, mn, upd sn x.toNatClampNeg tc, vl, rs, er, ev)) : wpX_readTop post (nc, nt, gp, tc, ep, tr, df, lt, dr, ad, fc, re, cs, cv, cx, le, lc, tp, pn, an, kd, mn, sn, vl, rs, er, ev) x :=
  ⟨hv, br_t hk ⟨hv, nm_e ⟨hv, nm_e hp⟩⟩⟩
theorem xq_top2 (hv : vp_in x 4) (hk : ¬ kd x.toNatClampNeg = 1) (ht : tc = -1) (hp : post (nc, nt, gp, tc, ep, tr, df, lt, dr, ad, fc, re, cs, cv, cx, le, lc, upd tp x.toNatClampNeg 8, pn, an, kd, upd mn x.toNatClampNeg tc, sn, upd vl x.toNatClampNeg 0, upd rs x.toNatClampNeg 2, er, ev)) : wpX_readTop post (nc, nt, gp, tc, ep, tr, df, lt, dr, ad, fc, re, cs, cv, cx, le, lc, tp, pn, an, kd, mn, sn, vl, rs, er, ev) x :=
  ⟨hv, br_f hk ⟨hv, nm_e (br_t ht ⟨hv, nm_e ⟨hv, nm_e ⟨hv, nm_e hp⟩⟩⟩)⟩⟩
theorem xq_top3 (hv : vp_in x 4) (hk : ¬ kd x.toNatClampNeg = 1) (ht : ¬ tc = -1) (hp : post (nc, nt, gp, tc, ep, tr, df, lt, dr, ad, fc, re, cs, cv, cx, le, lc, upd tp x.toNatClampNeg 5, pn, an, kd, upd mn x.toNatClampNeg tc, sn, vl, rs, er, ev)) : wpX_readTop post (nc, nt, gp, tc, ep, tr, df, lt, dr, ad, fc, re, cs, cv, cx, le, lc, tp, pn, an, kd, mn, sn, vl, rs, er, ev) x :=
  ⟨hv, br_f hk ⟨hv, nm_e (br_f ht ⟨hv, nm_e hp⟩)⟩⟩
theorem xq_trap1 (hv : vp_in y 32) (h0 : cs y.toNatClampNeg = 0) (hp : post (nc, nt, gp, tc, ep, tr + 1, df, y, dr, ad, fc, re, cs, cv, cx, le, lc, tp, pn, an, kd, mn, sn, vl, rs, er, ev)) : wpX_trapIfFree post (nc, nt, gp, tc, ep, tr, df, lt, dr, ad, fc, re, cs, cv, cx, le, lc, tp, pn, an, kd, mn, sn, vl, rs, er, ev) y := ⟨hv, br_t h0 (nm_e hp)⟩
theorem xq_trap0 (hv : vp_in y 32) (h0 : ¬ cs y.toNatClampNeg = 0) (hp : post (nc, nt, gp, tc, ep, tr, df, lt, dr, ad, fc, re, cs, cv, cx, le, lc, tp, pn, an, kd, mn, sn, vl, rs, er, ev)) : wpX_trapIfFree post (nc, nt, gp, tc, ep, tr, df, lt, dr, ad, fc, re, cs, cv, cx, le, lc, tp, pn, an, kd, mn, sn, vl, rs, er, ev) y := ⟨hv, br_f h0 hp⟩
theorem xq_link0 (hv : vp_in x 4) (hy : mn x.toNatClampNeg = y) (hc : ¬ er_ir y nc) (hp : post (nc, nt, gp, tc, ep, tr, df, lt, dr, ad, fc, re, cs, cv, cx, le, lc, upd tp x.toNatClampNeg 6, pn, an, kd, mn, sn, vl, rs, er, ev)) : wpX_link post (nc, nt, gp, tc, ep, tr, df, lt, dr, ad, fc, re, cs, cv, cx, le, lc, tp, pn, an, kd, mn, sn, vl, rs, er, ev) x := by
  unfold wpX_link
  exact ⟨hv, nm_r hy (xq_C0 hc (br_t rfl ⟨hv, nm_e hp⟩))⟩
theorem xq_link1 (hv : vp_in x 4) (hy : mn x.toNatClampNeg = y) (hc : er_ir y nc) (hw : vp_in y 32) (h0 : cs y.toNatClampNeg = 0) (hp : post (nc, nt, gp, tc, ep, tr + 1, df, y, dr, ad, fc, re, cs, cv, upd cx y.toNatClampNeg (sn x.toNatClampNeg), le, lc, upd tp x.toNatClampNeg 6, pn, an, kd, mn, sn, vl, rs, er, ev)) : wpX_link post (nc, nt, gp, tc, ep, tr, df, lt, dr, ad, fc, re, cs, cv, cx, le, lc, tp, pn, an, kd, mn, sn, vl, rs, er, ev) x := by
  unfold wpX_link
  exact ⟨hv, nm_r hy (xq_C1 hc (br_f er_10 (xq_trap1 hw h0 ⟨hv, hw, nm_e ⟨hv, nm_e hp⟩⟩)))⟩
theorem xq_link2 (hv : vp_in x 4) (hy : mn x.toNatClampNeg = y) (hc : er_ir y nc) (hw : vp_in y 32) (h0 : ¬ cs y.toNatClampNeg = 0) (hp : post (nc, nt, gp, tc, ep, tr, df, lt, dr, ad, fc, re, cs, cv, upd cx y.toNatClampNeg (sn x.toNatClampNeg), le, lc, upd tp x.toNatClampNeg 6, pn, an, kd, mn, sn, vl, rs, er, ev)) : wpX_link post (nc, nt, gp, tc, ep, tr, df, lt, dr, ad, fc, re, cs, cv, cx, le, lc, tp, pn, an, kd, mn, sn, vl, rs, er, ev) x := by
  unfold wpX_link
  exact ⟨hv, nm_r hy (xq_C1 hc (br_f er_10 (xq_trap0 hw h0 ⟨hv, hw, nm_e ⟨hv, nm_e hp⟩⟩)))⟩
theorem xq_read0 (hv : vp_in x 4) (hy : mn x.toNatClampNeg = y) (hc : ¬ er_ir y nc) (hp : post (nc, nt, gp, tc, ep, tr, df, lt, dr, ad, fc, re, cs, cv, cx, le, lc, upd tp x.toNatClampNeg 6, pn, an, kd, mn, sn, vl, rs, er, ev)) : wpX_readCell post (nc, nt, gp, tc, ep, tr, df, lt, dr, ad, fc, re, cs, cv, cx, le, lc, tp, pn, an, kd, mn, sn, vl, rs, er, ev) x := by
  unfold wpX_readCell
  exact ⟨hv, nm_r hy (xq_C0 hc (br_t rfl ⟨hv, nm_e hp⟩))⟩
theorem xq_read1 (hv : vp_in x 4) (hy : mn x.toNatClampNeg = y) (hc : er_ir y nc) (hw : vp_in y 32) (h0 : cs y.toNatClampNeg = 0) (hp : post (nc, nt, gp, tc, ep, tr + 1, df, y, dr, ad, fc, re, cs, cv, cx, le, lc, upd tp x.toNatClampNeg 6, pn, an, kd, mn, upd sn x.toNatClampNeg (cx y.toNatClampNeg), upd vl x.toNatClampNeg (cv y.toNatClampNeg), rs, er, ev)) : wpX_readCell post (nc, nt, gp, tc, ep, tr, df, lt, dr, ad, fc, re, cs, cv, cx, le, lc, tp, pn, an, kd, mn, sn, vl, rs, er, ev) x := by
  unfold wpX_readCell
  exact ⟨hv, nm_r hy (xq_C1 hc (br_f er_10 (xq_trap1 hw h0 ⟨hw, hv, nm_e ⟨hw, hv, nm_e ⟨hv, nm_e hp⟩⟩⟩)))⟩
theorem xq_read2 (hv : vp_in x 4) (hy : mn x.toNatClampNeg = y) (hc : er_ir y nc) (hw : vp_in y 32) (h0 : ¬ cs y.toNatClampNeg = 0) (hp : post (nc, nt, gp, tc, ep, tr, df, lt, dr, ad, fc, re, cs, cv, cx, le, lc, upd tp x.toNatClampNeg 6, pn, an, kd, mn, upd sn x.toNatClampNeg (cx y.toNatClampNeg), upd vl x.toNatClampNeg (cv y.toNatClampNeg), rs, er, ev)) : wpX_readCell post (nc, nt, gp, tc, ep, tr, df, lt, dr, ad, fc, re, cs, cv, cx, le, lc, tp, pn, an, kd, mn, sn, vl, rs, er, ev) x := by
  unfold wpX_readCell
  exact ⟨hv, nm_r hy (xq_C1 hc (br_f er_10 (xq_trap0 hw h0 ⟨hw, hv, nm_e ⟨hw, hv, nm_e ⟨hv, nm_e hp⟩⟩⟩)))⟩
theorem xq_cas1 (hv : vp_in x 4) (hk : kd x.toNatClampNeg = 1) (ht : tc = sn x.toNatClampNeg) (hp : post (nc, nt, gp, mn x.toNatClampNeg, ep, tr, df, lt, dr, ad, fc, re, cs, cv, cx, le, lc, upd tp x.toNatClampNeg 8, pn, an, kd, mn, sn, vl, upd rs x.toNatClampNeg 1, er, ev)) : wpX_compareAndSwap post (nc, nt, gp, tc, ep, tr, df, lt, dr, ad, fc, re, cs, cv, cx, le, lc, tp, pn, an, kd, mn, sn, vl, rs, er, ev) x :=
  ⟨hv, br_t hk (br_f er_10 ⟨hv, br_t ht (br_f er_10 ⟨hv, hv, nm_e (br_f er_10 ⟨hv, nm_e hp⟩)⟩)⟩)⟩
theorem xq_cas2 (hv : vp_in x 4) (hk : kd x.toNatClampNeg = 1) (ht : ¬ tc = sn x.toNatClampNeg) (hp : post (nc, nt, gp, tc, ep, tr, df, lt, dr, ad, fc, re, cs, cv, cx, le, lc, upd tp x.toNatClampNeg 3, pn, an, kd, mn, sn, vl, rs, er, ev)) : wpX_compareAndSwap post (nc, nt, gp, tc, ep, tr, df, lt, dr, ad, fc, re, cs, cv, cx, le, lc, tp, pn, an, kd, mn, sn, vl, rs, er, ev) x :=
  ⟨hv, br_t hk (br_f er_10 ⟨hv, br_f ht ⟨hv, nm_e hp⟩⟩)⟩
theorem xq_cas3 (hv : vp_in x 4) (hk : ¬ kd x.toNatClampNeg = 1) (ht : tc = mn x.toNatClampNeg) (hp : post (nc, nt, gp, sn x.toNatClampNeg, ep, tr, df, lt, dr, ad, fc, re, cs, cv, cx, le, lc, upd tp x.toNatClampNeg 7, pn, an, kd, mn, sn, vl, upd rs x.toNatClampNeg 1, er, ev)) : wpX_compareAndSwap post (nc, nt, gp, tc, ep, tr, df, lt, dr, ad, fc, re, cs, cv, cx, le, lc, tp, pn, an, kd, mn, sn, vl, rs, er, ev) x :=
  ⟨hv, br_f hk (br_t rfl ⟨hv, br_t ht (br_t rfl ⟨hv, hv, nm_e (br_t rfl ⟨hv, nm_e hp⟩)⟩)⟩)⟩
theorem xq_cas4 (hv : vp_in x 4) (hk : ¬ kd x.toNatClampNeg = 1) (ht : ¬ tc = mn x.toNatClampNeg) (hp : post (nc, nt, gp, tc, ep, tr, df, lt, dr, ad, fc, re, cs, cv, cx, le, lc, upd tp x.toNatClampNeg 3, pn, an, kd, mn, sn, vl, rs, er, ev)) : wpX_compareAndSwap post (nc, nt, gp, tc, ep, tr, df, lt, dr, ad, fc, re, cs, cv, cx, le, lc, tp, pn, an, kd, mn, sn, vl, rs, er, ev) x :=
  ⟨hv, br_f hk (br_t rfl ⟨hv, br_f ht ⟨hv, nm_e hp⟩⟩)⟩
/-! the list of an epoch: one number l below 3 -/
def er_l3 (x l : Int32) : Prop := (0 ≤ x - x / 3 * 3 ∧ l = x - x / 3 * 3) ∨ (¬ 0 ≤ x - x / 3 * 3 ∧ l = x - x / 3 * 3 + 3)
theorem er_l3_ex (x : Int32) : ∃ l, er_l3 x (nI l) ∧ l < 3 := by
  have h := er_m3 x
  by_cases g : 0 ≤ x - x / 3 * 3
  · obtain ⟨k, hk, e⟩ := h.2 (Int32.not_lt.mpr g)
    exact ⟨k, Or.inl ⟨g, e.symm⟩, hk⟩
  · obtain ⟨k, hk, e⟩ := h.1 (Int32.not_le.mp g)
    exact ⟨k, Or.inr ⟨g, e.symm⟩, hk⟩
theorem xq_listOf {q : Int32 → Prop} {l : Int32} (h : er_l3 x l) (hq : q l) : wpX_listOf q () x := by
  rcases h with ⟨g, e⟩ | ⟨g, e⟩
  · subst e
    exact ⟨by decide, nm_e (br_t g hq)⟩
  · subst e
    exact ⟨by decide, nm_e (br_f g hq)⟩
theorem xq_app1 {l : Int32} (hl : vp_in l 3) (hn : ¬ 32 ≤ lc l.toNatClampNeg) (hi : vp_in (l * 32 + lc l.toNatClampNeg) 96) (hp : post (nc, nt, gp, tc, ep, tr, df, lt, dr, ad, fc, re, cs, cv, cx, upd le (l * 32 + lc l.toNatClampNeg).toNatClampNeg y, upd lc l.toNatClampNeg (lc l.toNatClampNeg + 1), tp, pn, an, kd, mn, sn, vl, rs, er, ev)) : wpX_appendToLimbo post (nc, nt, gp, tc, ep, tr, df, lt, dr, ad, fc, re, cs, cv, cx, le, lc, tp, pn, an, kd, mn, sn, vl, rs, er, ev) l y :=
  ⟨hl, br_f hn ⟨hl, hi, nm_e ⟨hl, hl, nm_e hp⟩⟩⟩
theorem xq_app2 {l : Int32} (hl : vp_in l 3) (hn : 32 ≤ lc l.toNatClampNeg) (hp : post (nc, nt, gp, tc, ep, tr, df, lt, dr + 1, ad, fc, re, cs, cv, cx, le, lc, tp, pn, an, kd, mn, sn, vl, rs, er, ev)) : wpX_appendToLimbo post (nc, nt, gp, tc, ep, tr, df, lt, dr, ad, fc, re, cs, cv, cx, le, lc, tp, pn, an, kd, mn, sn, vl, rs, er, ev) l y :=
  ⟨hl, br_t hn (nm_e hp)⟩
/-! what becomes of the cell at RETIRE: s' is the states afterwards -/
def er_rt (nc : Int32) (cs : Nat → Int32) (y : Int32) (s' : Nat → Int32) : Prop := (¬ er_ir y nc ∧ s' = cs) ∨ (er_ir y nc ∧ vp_in y 32 ∧ ((cs y.toNatClampNeg = 1 ∧ s' = upd cs y.toNatClampNeg 2) ∨ (¬ cs y.toNatClampNeg = 1 ∧ s' = cs)))
theorem xq_ret1 {l : Int32} {s' : Nat → Int32} (hv : vp_in x 4) (hy : mn x.toNatClampNeg = y) (h3 : er_l3 (an x.toNatClampNeg) l) (hl : vp_in l 3) (hn : ¬ 32 ≤ lc l.toNatClampNeg) (hi : vp_in (l * 32 + lc l.toNatClampNeg) 96) (hs : er_rt nc cs y s')
    (hp : post (nc, nt, gp, tc, ep, tr, df, lt, dr, ad, fc, re + 1, s', cv, cx, upd le (l * 32 + lc l.toNatClampNeg).toNatClampNeg y, upd lc l.toNatClampNeg (lc l.toNatClampNeg + 1), upd tp x.toNatClampNeg 8, pn, an, kd, mn, sn, vl, rs, er, ev)) : wpX_retire post (nc, nt, gp, tc, ep, tr, df, lt, dr, ad, fc, re, cs, cv, cx, le, lc, tp, pn, an, kd, mn, sn, vl, rs, er, ev) x := by
  unfold wpX_retire
  refine ⟨hv, nm_r hy ⟨hv, xq_listOf h3 (xq_app1 hl hn hi ?_)⟩⟩
  rcases hs with ⟨g, e⟩ | ⟨g, w, ⟨g2, e⟩ | ⟨g2, e⟩⟩
  · subst e
    exact xq_C0 g (br_t rfl (nm_e ⟨hv, nm_e hp⟩))
  · subst e
    exact xq_C1 g (br_f er_10 ⟨w, br_t g2 ⟨w, nm_e (nm_e ⟨hv, nm_e hp⟩)⟩⟩)
  · subst e
    exact xq_C1 g (br_f er_10 ⟨w, br_f g2 (nm_e ⟨hv, nm_e hp⟩)⟩)
theorem xq_ret2 {l : Int32} {s' : Nat → Int32} (hv : vp_in x 4) (hy : mn x.toNatClampNeg = y) (h3 : er_l3 (an x.toNatClampNeg) l) (hl : vp_in l 3) (hn : 32 ≤ lc l.toNatClampNeg) (hs : er_rt nc cs y s')
    (hp : post (nc, nt, gp, tc, ep, tr, df, lt, dr + 1, ad, fc, re + 1, s', cv, cx, le, lc, upd tp x.toNatClampNeg 8, pn, an, kd, mn, sn, vl, rs, er, ev)) : wpX_retire post (nc, nt, gp, tc, ep, tr, df, lt, dr, ad, fc, re, cs, cv, cx, le, lc, tp, pn, an, kd, mn, sn, vl, rs, er, ev) x := by
  unfold wpX_retire
  refine ⟨hv, nm_r hy ⟨hv, xq_listOf h3 (xq_app2 hl hn ?_)⟩⟩
  rcases hs with ⟨g, e⟩ | ⟨g, w, ⟨g2, e⟩ | ⟨g2, e⟩⟩
  · subst e
    exact xq_C0 g (br_t rfl (nm_e ⟨hv, nm_e hp⟩))
  · subst e
    exact xq_C1 g (br_f er_10 ⟨w, br_t g2 ⟨w, nm_e (nm_e ⟨hv, nm_e hp⟩)⟩⟩)
  · subst e
    exact xq_C1 g (br_f er_10 ⟨w, br_f g2 (nm_e ⟨hv, nm_e hp⟩)⟩)
theorem xq_unpin (hv : vp_in x 4) (hp : post (nc, nt, gp, tc, ep, tr, df, lt, dr, ad, fc, re, cs, cv, cx, le, lc, upd tp x.toNatClampNeg 0, upd pn x.toNatClampNeg (vp_nar .boolean 0), an, kd, mn, sn, vl, rs, upd er x.toNatClampNeg (rs x.toNatClampNeg), upd ev x.toNatClampNeg (vl x.toNatClampNeg))) : wpX_unpin post (nc, nt, gp, tc, ep, tr, df, lt, dr, ad, fc, re, cs, cv, cx, le, lc, tp, pn, an, kd, mn, sn, vl, rs, er, ev) x :=
  ⟨hv, nm_e ⟨hv, hv, nm_e ⟨hv, hv, nm_e ⟨hv, nm_e hp⟩⟩⟩⟩
/-! the switch of executePhase -/
theorem xq_exec1 {u' : St2} (hv : vp_in x 4) (hk : tp x.toNatClampNeg = 1) (H : ∀ post : St2 → Prop, post u' → wpX_pin post (nc, nt, gp, tc, ep, tr, df, lt, dr, ad, fc, re, cs, cv, cx, le, lc, tp, pn, an, kd, mn, sn, vl, rs, er, ev) x) (hp : post u') : wpX_executePhase post (nc, nt, gp, tc, ep, tr, df, lt, dr, ad, fc, re, cs, cv, cx, le, lc, tp, pn, an, kd, mn, sn, vl, rs, er, ev) x := by
  obtain ⟨a1, a2, a3, a4, a5, a6, a7, a8, a9, a10, a11, a12, a13, a14, a15, a16, a17, a18, a19, a20, a21, a22, a23, a24, a25, a26, a27⟩ := u'
  unfold wpX_executePhase
  exact ⟨hv, nm_r hk (br_f (by decide) (br_f (by decide) (br_t rfl (H _ hp))))⟩
theorem xq_exec2 {u' : St2} (hv : vp_in x 4) (hk : tp x.toNatClampNeg = 2) (H : ∀ post : St2 → Prop, post u' → wpX_allocate post (nc, nt, gp, tc, ep, tr, df, lt, dr, ad, fc, re, cs, cv, cx, le, lc, tp, pn, an, kd, mn, sn, vl, rs, er, ev) x) (hp : post u') : wpX_executePhase post (nc, nt, gp, tc, ep, tr, df, lt, dr, ad, fc, re, cs, cv, cx, le, lc, tp, pn, an, kd, mn, sn, vl, rs, er, ev) x := by
  obtain ⟨a1, a2, a3, a4, a5, a6, a7, a8, a9, a10, a11, a12, a13, a14, a15, a16, a17, a18, a19, a20, a21, a22, a23, a24, a25, a26, a27⟩ := u'
  unfold wpX_executePhase
  exact ⟨hv, nm_r hk (br_f (by decide) (br_f (by decide) (br_f (by decide) (br_t rfl (H _ hp)))))⟩
theorem xq_exec3 {u' : St2} (hv : vp_in x 4) (hk : tp x.toNatClampNeg = 3) (H : ∀ post : St2 → Prop, post u' → wpX_readTop post (nc, nt, gp, tc, ep, tr, df, lt, dr, ad, fc, re, cs, cv, cx, le, lc, tp, pn, an, kd, mn, sn, vl, rs, er, ev) x) (hp : post u') : wpX_executePhase post (nc, nt, gp, tc, ep, tr, df, lt, dr, ad, fc, re, cs, cv, cx, le, lc, tp, pn, an, kd, mn, sn, vl, rs, er, ev) x := by
  obtain ⟨a1, a2, a3, a4, a5, a6, a7, a8, a9, a10, a11, a12, a13, a14, a15, a16, a17, a18, a19, a20, a21, a22, a23, a24, a25, a26, a27⟩ := u'
  unfold wpX_executePhase
  exact ⟨hv, nm_r hk (br_f (by decide) (br_f (by decide) (br_f (by decide) (br_f (by decide) (br_t rfl (H _ hp))))))⟩
theorem xq_exec4 {u' : St2} (hv : vp_in x 4) (hk : tp x.toNatClampNeg = 4) (H : ∀ post : St2 → Prop, post u' → wpX_link post (nc, nt, gp, tc, ep, tr, df, lt, dr, ad, fc, re, cs, cv, cx, le, lc, tp, pn, an, kd, mn, sn, vl, rs, er, ev) x) (hp : post u') : wpX_executePhase post (nc, nt, gp, tc, ep, tr, df, lt, dr, ad, fc, re, cs, cv, cx, le, lc, tp, pn, an, kd, mn, sn, vl, rs, er, ev) x := by
  obtain ⟨a1, a2, a3, a4, a5, a6, a7, a8, a9, a10, a11, a12, a13, a14, a15, a16, a17, a18, a19, a20, a21, a22, a23, a24, a25, a26, a27⟩ := u'
  unfold wpX_executePhase
  exact ⟨hv, nm_r hk (br_f (by decide) (br_f (by decide) (br_f (by decide) (br_f (by decide) (br_f (by decide) (br_t rfl (H _ hp)))))))⟩
theorem xq_exec5 {u' : St2} (hv : vp_in x 4) (hk : tp x.toNatClampNeg = 5) (H : ∀ post : St2 → Prop, post u' → wpX_readCell post (nc, nt, gp, tc, ep, tr, df, lt, dr, ad, fc, re, cs, cv, cx, le, lc, tp, pn, an, kd, mn, sn, vl, rs, er, ev) x) (hp : post u') : wpX_executePhase post (nc, nt, gp, tc, ep, tr, df, lt, dr, ad, fc, re, cs, cv, cx, le, lc, tp, pn, an, kd, mn, sn, vl, rs, er, ev) x := by
  obtain ⟨a1, a2, a3, a4, a5, a6, a7, a8, a9, a10, a11, a12, a13, a14, a15, a16, a17, a18, a19, a20, a21, a22, a23, a24, a25, a26, a27⟩ := u'
  unfold wpX_executePhase
  exact ⟨hv, nm_r hk (br_f (by decide) (br_f (by decide) (br_f (by decide) (br_f (by decide) (br_f (by decide) (br_f (by decide) (br_t rfl (H _ hp))))))))⟩
theorem xq_exec6 {u' : St2} (hv : vp_in x 4) (hk : tp x.toNatClampNeg = 6) (H : ∀ post : St2 → Prop, post u' → wpX_compareAndSwap post (nc, nt, gp, tc, ep, tr, df, lt, dr, ad, fc, re, cs, cv, cx, le, lc, tp, pn, an, kd, mn, sn, vl, rs, er, ev) x) (hp : post u') : wpX_executePhase post (nc, nt, gp, tc, ep, tr, df, lt, dr, ad, fc, re, cs, cv, cx, le, lc, tp, pn, an, kd, mn, sn, vl, rs, er, ev) x := by
  obtain ⟨a1, a2, a3, a4, a5, a6, a7, a8, a9, a10, a11, a12, a13, a14, a15, a16, a17, a18, a19, a20, a21, a22, a23, a24, a25, a26, a27⟩ := u'
  unfold wpX_executePhase
  exact ⟨hv, nm_r hk (br_f (by decide) (br_f (by decide) (br_f (by decide) (br_f (by decide) (br_f (by decide) (br_f (by decide) (br_f (by decide) (br_t rfl (H _ hp)))))))))⟩
theorem xq_exec7 {u' : St2} (hv : vp_in x 4) (hk : tp x.toNatClampNeg = 7) (H : ∀ post : St2 → Prop, post u' → wpX_retire post (nc, nt, gp, tc, ep, tr, df, lt, dr, ad, fc, re, cs, cv, cx, le, lc, tp, pn, an, kd, mn, sn, vl, rs, er, ev) x) (hp : post u') : wpX_executePhase post (nc, nt, gp, tc, ep, tr, df, lt, dr, ad, fc, re, cs, cv, cx, le, lc, tp, pn, an, kd, mn, sn, vl, rs, er, ev) x := by
  obtain ⟨a1, a2, a3, a4, a5, a6, a7, a8, a9, a10, a11, a12, a13, a14, a15, a16, a17, a18, a19, a20, a21, a22, a23, a24, a25, a26, a27⟩ := u'
  unfold wpX_executePhase
  exact ⟨hv, nm_r hk (br_f (by decide) (br_f (by decide) (br_f (by decide) (br_f (by decide) (br_f (by decide) (br_f (by decide) (br_f (by decide) (br_f (by decide) (br_t rfl (H _ hp))))))))))⟩
theorem xq_exec8 {u' : St2} (hv : vp_in x 4) (hk : tp x.toNatClampNeg = 8) (H : ∀ post : St2 → Prop, post u' → wpX_unpin post (nc, nt, gp, tc, ep, tr, df, lt, dr, ad, fc, re, cs, cv, cx, le, lc, tp, pn, an, kd, mn, sn, vl, rs, er, ev) x) (hp : post u') : wpX_executePhase post (nc, nt, gp, tc, ep, tr, df, lt, dr, ad, fc, re, cs, cv, cx, le, lc, tp, pn, an, kd, mn, sn, vl, rs, er, ev) x := by
  obtain ⟨a1, a2, a3, a4, a5, a6, a7, a8, a9, a10, a11, a12, a13, a14, a15, a16, a17, a18, a19, a20, a21, a22, a23, a24, a25, a26, a27⟩ := u'
  unfold wpX_executePhase
  exact ⟨hv, nm_r hk (br_f (by decide) (br_f (by decide) (br_f (by decide) (br_f (by decide) (br_f (by decide) (br_f (by decide) (br_f (by decide) (br_f (by decide) (br_f (by decide) (br_t rfl (H _ hp)))))))))))⟩
end
end
section
/-! clamping -/
theorem er_clampX (y : Int32) (a b : Nat) (hab : a ≤ b) (hb : b < 2 ^ 31) : ∃ m, a ≤ m ∧ m ≤ b ∧ (∀ q : Int32 → Prop, q (nI m) → wpX_clamp q () y (nI a) (nI b)) := by
  rcases er_cl y a b hab hb with h | ⟨h1, h2, h3⟩ | ⟨h1, h2, h3, j, h4, h5, h6⟩
  · have g : ¬ nI a ≤ y := Int32.not_le.mpr h
    exact ⟨a, Nat.le_refl a, hab, fun q hq => br_f g hq⟩
  · have g : nI a ≤ y := Int32.not_lt.mp h1
    exact ⟨b, hab, Nat.le_refl b, fun q hq => br_t g (br_f h3 hq)⟩
  · have g : nI a ≤ y := Int32.not_lt.mp h1
    subst h6
    exact ⟨j, h4, h5, fun q hq => br_t g (br_t h3 hq)⟩
theorem er_vi {k i : Nat} (hk : k < 3) (hi : i < 32) : vp_in (nI k * 32 + nI i) 96 := by
  show vp_in (nI k * nI 32 + nI i) 96
  rw [pk_mul, nI_add]
  exact vp_in_nI (by omega) (by omega)
section
variable {nc nt gp tc ep tr df lt dr ad fc re : Int32} {cs cv cx le lc tp pn an kd mn sn vl rs er ev : Nat → Int32}
variable {x y : Int32}
theorem xq_busy1 {q : Int32 → Prop} (h : er_ir x nt) (hv : vp_in x 4) (h0 : ¬ tp x.toNatClampNeg = 0) (hp : q 1) : wpX_isBusy q (nc, nt, gp, tc, ep, tr, df, lt, dr, ad, fc, re, cs, cv, cx, le, lc, tp, pn, an, kd, mn, sn, vl, rs, er, ev) x := by
  unfold wpX_isBusy
  exact xq_T1 h (br_f er_10 ⟨hv, br_f h0 hp⟩)
theorem xq_busy0 {q : Int32 → Prop} (h : er_ir x nt) (hv : vp_in x 4) (h0 : tp x.toNatClampNeg = 0) (hp : q 0) : wpX_isBusy q (nc, nt, gp, tc, ep, tr, df, lt, dr, ad, fc, re, cs, cv, cx, le, lc, tp, pn, an, kd, mn, sn, vl, rs, er, ev) x := by
  unfold wpX_isBusy
  exact xq_T1 h (br_f er_10 ⟨hv, br_t h0 hp⟩)
theorem xq_busyN {q : Int32 → Prop} (h : ¬ er_ir x nt) (hp : q 0) : wpX_isBusy q (nc, nt, gp, tc, ep, tr, df, lt, dr, ad, fc, re, cs, cv, cx, le, lc, tp, pn, an, kd, mn, sn, vl, rs, er, ev) x := by
  unfold wpX_isBusy
  exact xq_T0 h (br_t rfl hp)
/-! the loops of run, over a state in one piece -/
def er_wx (post : Int32 → St2 → Prop) (x m : Int32) (n : Nat) (j : Int32) (u : St2) : Prop := match u with
  | (nc, nt, gp, tc, ep, tr, df, lt, dr, ad, fc, re, cs, cv, cx, le, lc, tp, pn, an, kd, mn, sn, vl, rs, er, ev) => wX_run_21 post x m n j nc nt gp tc ep tr df lt dr ad fc re cs cv cx le lc tp pn an kd mn sn vl rs er ev
end

/-! tryAdvance: the scan, then the list -/
theorem er_lags (pn an : Nat → Int32) (ep : Int32) (T : Nat) : ∃ c, c ≤ T ∧ (∀ j, j < c → pn j = 0 ∨ an j = ep) ∧ (c = T ∨ (c < T ∧ ¬ pn c = 0 ∧ ¬ an c = ep)) := by
  induction T with
  | zero => exact ⟨0, Nat.le_refl 0, fun j h => absurd h (Nat.not_lt_zero j), Or.inl rfl⟩
  | succ T ih =>
    obtain ⟨c, h1, h2, h3⟩ := ih
    rcases h3 with h3 | ⟨h3, h4, h5⟩
    · subst h3
      by_cases p : pn c = 0
      · exact ⟨c + 1, Nat.le_refl _, lt_s h2 (Or.inl p), Or.inl rfl⟩
      · by_cases q : an c = ep
        · exact ⟨c + 1, Nat.le_refl _, lt_s h2 (Or.inr q), Or.inl rfl⟩
        · exact ⟨c, by omega, h2, Or.inr ⟨by omega, p, q⟩⟩
    · exact ⟨c, by omega, h2, Or.inr ⟨by omega, h4, h5⟩⟩
section
variable {nc nt gp tc ep tr df lt dr ad fc re : Int32} {cs cv cx le lc tp pn an kd mn sn vl rs er ev : Nat → Int32}
variable {x y : Int32}
theorem xq_lag {T c : Nat} {q : Int32 → Prop} (hT : T ≤ 4) (hc : c ≤ T) (hn : ∀ j, j < c → pn j = 0 ∨ an j = ep) (hq : (c = T ∧ q 0) ∨ (c < T ∧ ¬ pn c = 0 ∧ ¬ an c = ep ∧ q 1)) :
    ∀ d i, i + d = c → wX_someThreadLagsBehind_2 q nc (nI T) gp tc ep tr df lt dr ad fc re cs cv cx le lc tp pn an kd mn sn vl rs er ev (d + 1) (nI i) := by
  intro d
  induction d with
  | zero =>
    intro i hi
    have e : i = c := by omega
    subst e
    rcases hq with ⟨e, hq⟩ | ⟨h1, h2, h3, hq⟩
    · subst e
      exact br_t (nI_le (Nat.le_refl _) (by omega)) hq
    · have w : vp_in (nI i) 4 := vp_in_nI (by omega) (by omega)
      exact br_f (nI_ge h1 (by omega)) ⟨w, br_f (by rw [nI_clamp (by omega)]; exact h2) ⟨w, br_f (by rw [nI_clamp (by omega)]; exact h3) hq⟩⟩
  | succ d ih =>
    intro i hi
    have w : vp_in (nI i) 4 := vp_in_nI (by omega) (by omega)
    have K := ih (i + 1) (by omega)
    have cl : (nI i).toNatClampNeg = i := nI_clamp (by omega)
    refine br_f (nI_ge (by omega) (by omega)) ⟨w, ?_⟩
    by_cases p : pn i = 0
    · exact br_t (by rw [cl]; exact p) (nm_r (nI_1 i) K)
    · have a : an i = ep := (hn i (by omega)).resolve_left p
      exact br_f (by rw [cl]; exact p) ⟨w, br_t (by rw [cl]; exact a) (nm_r (nI_1 i) K)⟩
theorem xq_free0 {q : St2 → Prop} (h : ¬ er_ir y nc) (hp : q (nc, nt, gp, tc, ep, tr, df, lt, dr, ad, fc, re, cs, cv, cx, le, lc, tp, pn, an, kd, mn, sn, vl, rs, er, ev)) : wpX_freeCell q (nc, nt, gp, tc, ep, tr, df, lt, dr, ad, fc, re, cs, cv, cx, le, lc, tp, pn, an, kd, mn, sn, vl, rs, er, ev) y := by
  unfold wpX_freeCell
  exact xq_C0 h (br_t rfl hp)
theorem xq_free1 {q : St2 → Prop} (h : er_ir y nc) (hw : vp_in y 32) (h0 : cs y.toNatClampNeg = 0) (hp : q (nc, nt, gp, tc, ep, tr, df + 1, y, dr, ad, fc, re, cs, cv, cx, le, lc, tp, pn, an, kd, mn, sn, vl, rs, er, ev)) : wpX_freeCell q (nc, nt, gp, tc, ep, tr, df, lt, dr, ad, fc, re, cs, cv, cx, le, lc, tp, pn, an, kd, mn, sn, vl, rs, er, ev) y := by
  unfold wpX_freeCell
  exact xq_C1 h (br_f er_10 ⟨hw, br_t h0 (nm_e hp)⟩)
theorem xq_free2 {q : St2 → Prop} {f : Int32} (h : er_ir y nc) (hw : vp_in y 32) (h0 : ¬ cs y.toNatClampNeg = 0) (hf : fc + 1 = f) (hp : q (nc, nt, gp, tc, ep, tr, df, lt, dr, ad, f, re, upd cs y.toNatClampNeg 0, cv, cx, le, lc, tp, pn, an, kd, mn, sn, vl, rs, er, ev)) : wpX_freeCell q (nc, nt, gp, tc, ep, tr, df, lt, dr, ad, fc, re, cs, cv, cx, le, lc, tp, pn, an, kd, mn, sn, vl, rs, er, ev) y := by
  unfold wpX_freeCell
  exact xq_C1 h (br_f er_10 ⟨hw, br_f h0 ⟨hw, nm_e (nm_r hf hp)⟩⟩)
end
end
section
/-! a step of the class, over the picture -/
def ew_G (C T e : Nat) (u : St2) : Prop := ∃ (tc lt ad re : Int32) (cs cv cx le lc tp pn an kd mn sn vl rs er ev : Nat → Int32) (own : Nat → Nat) (ch : List Nat) (lim : Nat → List Nat), u = (nI C, nI T, nI 3, tc, nI e, 0, 0, lt, 0, ad, nI (er_cn cs C), re, cs, cv, cx, le, lc, tp, pn, an, kd, mn, sn, vl, rs, er, ev) ∧ ew_I C T e tc cs cx le lc tp pn an kd mn sn own ch lim
def ew_X (C T e t : Nat) (u : St2) : Prop := ∃ u', ew_G C T e u' ∧ ∀ post : St2 → Prop, post u' → wpX_executePhase post u (nI t)
theorem er_l3n {n : Nat} (h : n < 2 ^ 31) : er_l3 (nI n) (nI (n % 3)) := by
  have e : nI n - nI n / 3 * 3 = nI (n % 3) := pk_rem (d := 3) h (by omega) (by omega)
  exact Or.inl ⟨by rw [e]; exact nI_pos' (by omega), e.symm⟩
theorem er_ci {k i : Nat} (hk : k < 3) (hi : i < 32) : (nI k * 32 + nI i).toNatClampNeg = k * 32 + i := by
  show (nI k * nI 32 + nI i).toNatClampNeg = k * 32 + i
  rw [pk_mul, nI_add, nI_clamp (by omega)]
section
variable {C T e t : Nat} {tc lt ad re : Int32} {cs cv cx le lc tp pn an kd mn sn vl rs er ev : Nat → Int32} {own : Nat → Nat} {ch : List Nat} {lim : Nat → List Nat}
theorem ew_p1 (hT : T ≤ 4) (h : ew_I C T e tc cs cx le lc tp pn an kd mn sn own ch lim) (ht : t < T) (hp : tp t = nI 1) : ew_X C T e t (nI C, nI T, nI 3, tc, nI e, 0, 0, lt, 0, ad, nI (er_cn cs C), re, cs, cv, cx, le, lc, tp, pn, an, kd, mn, sn, vl, rs, er, ev) := by
  have cl : (nI t).toNatClampNeg = t := nI_clamp (by omega)
  have hv : vp_in (nI t) 4 := vp_in_nI (by omega) (by omega)
  have hp' : tp (nI t).toNatClampNeg = 1 := by rw [cl]; exact hp
  obtain ⟨k, hk, k2, hh⟩ := ew_at h ht hp (by omega)
  by_cases k1 : k = 1
  · have hk' : kd (nI t).toNatClampNeg = 1 := by rw [cl, hk, k1]; rfl
    refine ⟨(nI C, nI T, nI 3, tc, nI e, 0, 0, lt, 0, ad, nI (er_cn cs C), re, cs, cv, cx, le, lc, upd tp (nI t).toNatClampNeg 2, upd pn (nI t).toNatClampNeg (vp_nar .boolean 1), upd an (nI t).toNatClampNeg (nI e), kd, mn, sn, vl, rs, er, ev), ⟨_, _, _, _, _, _, _, _, _, _, _, _, _, _, _, _, _, _, _, own, ch, lim, rfl, ?_⟩, fun post hq => xq_exec1 hv hp' (fun _ => xq_pin1 hv hk') hq⟩
    rw [cl]
    exact ew_s_pin h hT ht hp hk k2 (q := 2) (by rw [if_pos k1])
  · have hk' : ¬ kd (nI t).toNatClampNeg = 1 := by rw [cl, hk]; exact er_ne (b := 1) k1 (by omega) (by omega)
    refine ⟨(nI C, nI T, nI 3, tc, nI e, 0, 0, lt, 0, ad, nI (er_cn cs C), re, cs, cv, cx, le, lc, upd tp (nI t).toNatClampNeg 3, upd pn (nI t).toNatClampNeg (vp_nar .boolean 1), upd an (nI t).toNatClampNeg (nI e), kd, mn, sn, vl, rs, er, ev), ⟨_, _, _, _, _, _, _, _, _, _, _, _, _, _, _, _, _, _, _, own, ch, lim, rfl, ?_⟩, fun post hq => xq_exec1 hv hp' (fun _ => xq_pin2 hv hk') hq⟩
    rw [cl]
    exact ew_s_pin h hT ht hp hk k2 (q := 3) (by rw [if_neg k1])
theorem ew_p2 (hC : C ≤ 32) (hT : T ≤ 4) (h : ew_I C T e tc cs cx le lc tp pn an kd mn sn own ch lim) (ht : t < T) (hp : tp t = nI 2) : ew_X C T e t (nI C, nI T, nI 3, tc, nI e, 0, 0, lt, 0, ad, nI (er_cn cs C), re, cs, cv, cx, le, lc, tp, pn, an, kd, mn, sn, vl, rs, er, ev) := by
  have cl : (nI t).toNatClampNeg = t := nI_clamp (by omega)
  have hv : vp_in (nI t) 4 := vp_in_nI (by omega) (by omega)
  have hp' : tp (nI t).toNatClampNeg = 2 := by rw [cl]; exact hp
  rcases er_least cs C with hn | ⟨c, hc, hz, hn⟩
  · refine ⟨(nI C, nI T, nI 3, tc, nI e, 0, 0, lt, 0, ad, nI (er_cn cs C), re, cs, cv, cx, le, lc, upd tp (nI t).toNatClampNeg 8, pn, an, kd, mn, sn, vl, upd rs (nI t).toNatClampNeg 3, er, ev), ⟨_, _, _, _, _, _, _, _, _, _, _, _, _, _, _, _, _, _, _, own, ch, lim, rfl, ?_⟩, fun post hq => xq_exec2 hv hp' (fun _ => xq_alloc0 hv hC hn) hq⟩
    rw [cl]
    exact ew_s_full h hT ht hp
  · have clc : (nI c).toNatClampNeg = c := nI_clamp (by omega)
    have hf : nI (er_cn cs C) - 1 = nI (er_cn (upd cs (nI c).toNatClampNeg 1) C) := by
      rw [clc]
      exact er_cn_dec' hc hz (by decide)
    refine ⟨(nI C, nI T, nI 3, tc, nI e, 0, 0, lt, 0, ad, nI (er_cn (upd cs (nI c).toNatClampNeg 1) C), re, upd cs (nI c).toNatClampNeg 1, upd cv (nI c).toNatClampNeg (vl (nI t).toNatClampNeg), upd cx (nI c).toNatClampNeg (-1), le, lc, upd tp (nI t).toNatClampNeg 3, pn, an, kd, upd mn (nI t).toNatClampNeg (nI c), sn, vl, rs, er, ev), ⟨_, _, _, _, _, _, _, _, _, _, _, _, _, _, _, _, _, _, _, ew_up own c (5 + t), ch, lim, rfl, ?_⟩, fun post hq => xq_exec2 hv hp' (fun _ => xq_alloc1 hv hC hc hn hz hf) hq⟩
    rw [cl, clc]
    exact ew_s_alloc h hT ht hp hc hz
theorem ew_p3 (hT : T ≤ 4) (h : ew_I C T e tc cs cx le lc tp pn an kd mn sn own ch lim) (ht : t < T) (hp : tp t = nI 3) : ew_X C T e t (nI C, nI T, nI 3, tc, nI e, 0, 0, lt, 0, ad, nI (er_cn cs C), re, cs, cv, cx, le, lc, tp, pn, an, kd, mn, sn, vl, rs, er, ev) := by
  have cl : (nI t).toNatClampNeg = t := nI_clamp (by omega)
  have hv : vp_in (nI t) 4 := vp_in_nI (by omega) (by omega)
  have hp' : tp (nI t).toNatClampNeg = 3 := by rw [cl]; exact hp
  obtain ⟨k, hk, k2, hh⟩ := ew_at h ht hp (by omega)
  by_cases k1 : k = 1
  · have hk' : kd (nI t).toNatClampNeg = 1 := by rw [cl, hk, k1]; rfl
    refine ⟨(nI C, nI T, nI 3, tc, nI e, 0, 0, lt, 0, ad, nI (er_cn cs C), re, cs, cv, cx, le, lc, upd tp (nI t).toNatClampNeg 4, pn, an, kd, mn, upd sn (nI t).toNatClampNeg tc, vl, rs, er, ev), ⟨_, _, _, _, _, _, _, _, _, _, _, _, _, _, _, _, _, _, _, own, ch, lim, rfl, ?_⟩, fun post hq => xq_exec3 hv hp' (fun _ => xq_top1 hv hk') hq⟩
    rw [cl]
    exact ew_s_rtPush h hT ht hp (by rw [hk, k1])
  · have hk' : ¬ kd (nI t).toNatClampNeg = 1 := by rw [cl, hk]; exact er_ne (b := 1) k1 (by omega) (by omega)
    by_cases g : tc = -1
    · refine ⟨(nI C, nI T, nI 3, tc, nI e, 0, 0, lt, 0, ad, nI (er_cn cs C), re, cs, cv, cx, le, lc, upd tp (nI t).toNatClampNeg 8, pn, an, kd, upd mn (nI t).toNatClampNeg tc, sn, upd vl (nI t).toNatClampNeg 0, upd rs (nI t).toNatClampNeg 2, er, ev), ⟨_, _, _, _, _, _, _, _, _, _, _, _, _, _, _, _, _, _, _, own, ch, lim, rfl, ?_⟩, fun post hq => xq_exec3 hv hp' (fun _ => xq_top2 hv hk' g) hq⟩
      rw [cl]
      exact ew_s_rtNil h hT ht hp hk k1 k2
    · refine ⟨(nI C, nI T, nI 3, tc, nI e, 0, 0, lt, 0, ad, nI (er_cn cs C), re, cs, cv, cx, le, lc, upd tp (nI t).toNatClampNeg 5, pn, an, kd, upd mn (nI t).toNatClampNeg tc, sn, vl, rs, er, ev), ⟨_, _, _, _, _, _, _, _, _, _, _, _, _, _, _, _, _, _, _, own, ch, lim, rfl, ?_⟩, fun post hq => xq_exec3 hv hp' (fun _ => xq_top3 hv hk' g) hq⟩
      rw [cl]
      exact ew_s_rtPop h hT ht hp hk k1 k2 g
theorem ew_p4 (hC : C ≤ 32) (hT : T ≤ 4) (h : ew_I C T e tc cs cx le lc tp pn an kd mn sn own ch lim) (ht : t < T) (hp : tp t = nI 4) : ew_X C T e t (nI C, nI T, nI 3, tc, nI e, 0, 0, lt, 0, ad, nI (er_cn cs C), re, cs, cv, cx, le, lc, tp, pn, an, kd, mn, sn, vl, rs, er, ev) := by
  have cl : (nI t).toNatClampNeg = t := nI_clamp (by omega)
  have hv : vp_in (nI t) 4 := vp_in_nI (by omega) (by omega)
  have hp' : tp (nI t).toNatClampNeg = 4 := by rw [cl]; exact hp
  obtain ⟨k, hk, k2, hh⟩ := ew_at h ht hp (by omega)
  obtain ⟨c, ⟨hc, hm, ho⟩, _⟩ := hh.2.2.2.1 (hh.1.2.2.2.2.1 rfl) (Or.inr (Or.inl rfl))
  have clc : (nI c).toNatClampNeg = c := nI_clamp (by omega)
  have hw : vp_in (nI c) 32 := vp_in_nI (by omega) (by omega)
  have hz : ¬ cs (nI c).toNatClampNeg = 0 := by rw [clc, h.1.1 c hc, ho]; exact ew_stn (by omega)
  have hm' : mn (nI t).toNatClampNeg = nI c := by rw [cl]; exact hm
  refine ⟨(nI C, nI T, nI 3, tc, nI e, 0, 0, lt, 0, ad, nI (er_cn cs C), re, cs, cv, upd cx (nI c).toNatClampNeg (sn (nI t).toNatClampNeg), le, lc, upd tp (nI t).toNatClampNeg 6, pn, an, kd, mn, sn, vl, rs, er, ev), ⟨_, _, _, _, _, _, _, _, _, _, _, _, _, _, _, _, _, _, _, own, ch, lim, rfl, ?_⟩, fun post hq => xq_exec4 hv hp' (fun _ => xq_link2 hv hm' (er_ir_nI hc (by omega)) hw hz) hq⟩
  rw [cl, clc]
  exact ew_s_link h hT ht hp hc hm ho
theorem ew_p5 (hC : C ≤ 32) (hT : T ≤ 4) (h : ew_I C T e tc cs cx le lc tp pn an kd mn sn own ch lim) (ht : t < T) (hp : tp t = nI 5) : ew_X C T e t (nI C, nI T, nI 3, tc, nI e, 0, 0, lt, 0, ad, nI (er_cn cs C), re, cs, cv, cx, le, lc, tp, pn, an, kd, mn, sn, vl, rs, er, ev) := by
  have cl : (nI t).toNatClampNeg = t := nI_clamp (by omega)
  have hv : vp_in (nI t) 4 := vp_in_nI (by omega) (by omega)
  have hp' : tp (nI t).toNatClampNeg = 5 := by rw [cl]; exact hp
  obtain ⟨k, hk, k2, hh⟩ := ew_at h ht hp (by omega)
  obtain ⟨c, ⟨hc, hm, ho, _, _⟩, _⟩ := hh.2.2.2.2.1 (hh.1.2.2.2.2.2.1 rfl) (Or.inl rfl)
  have clc : (nI c).toNatClampNeg = c := nI_clamp (by omega)
  have hw : vp_in (nI c) 32 := vp_in_nI (by omega) (by omega)
  have hz : ¬ cs (nI c).toNatClampNeg = 0 := by rw [clc, h.1.1 c hc]; exact ew_stn ho
  have hm' : mn (nI t).toNatClampNeg = nI c := by rw [cl]; exact hm
  refine ⟨(nI C, nI T, nI 3, tc, nI e, 0, 0, lt, 0, ad, nI (er_cn cs C), re, cs, cv, cx, le, lc, upd tp (nI t).toNatClampNeg 6, pn, an, kd, mn, upd sn (nI t).toNatClampNeg (cx (nI c).toNatClampNeg), upd vl (nI t).toNatClampNeg (cv (nI c).toNatClampNeg), rs, er, ev), ⟨_, _, _, _, _, _, _, _, _, _, _, _, _, _, _, _, _, _, _, own, ch, lim, rfl, ?_⟩, fun post hq => xq_exec5 hv hp' (fun _ => xq_read2 hv hm' (er_ir_nI hc (by omega)) hw hz) hq⟩
  rw [cl, clc]
  exact ew_s_read h hT ht hp hm hC hc
theorem ew_p6 (hC : C ≤ 32) (hT : T ≤ 4) (h : ew_I C T e tc cs cx le lc tp pn an kd mn sn own ch lim) (ht : t < T) (hp : tp t = nI 6) : ew_X C T e t (nI C, nI T, nI 3, tc, nI e, 0, 0, lt, 0, ad, nI (er_cn cs C), re, cs, cv, cx, le, lc, tp, pn, an, kd, mn, sn, vl, rs, er, ev) := by
  have cl : (nI t).toNatClampNeg = t := nI_clamp (by omega)
  have hv : vp_in (nI t) 4 := vp_in_nI (by omega) (by omega)
  have hp' : tp (nI t).toNatClampNeg = 6 := by rw [cl]; exact hp
  obtain ⟨k, hk, k2, hh⟩ := ew_at h ht hp (by omega)
  by_cases k1 : k = 1
  · have hk' : kd (nI t).toNatClampNeg = 1 := by rw [cl, hk, k1]; rfl
    by_cases g : tc = sn (nI t).toNatClampNeg
    · obtain ⟨own', ch', J⟩ := ew_s_casPush hC h hT ht hp (by rw [hk, k1]) (by rw [cl] at g; exact g)
      refine ⟨(nI C, nI T, nI 3, mn (nI t).toNatClampNeg, nI e, 0, 0, lt, 0, ad, nI (er_cn cs C), re, cs, cv, cx, le, lc, upd tp (nI t).toNatClampNeg 8, pn, an, kd, mn, sn, vl, upd rs (nI t).toNatClampNeg 1, er, ev), ⟨_, _, _, _, _, _, _, _, _, _, _, _, _, _, _, _, _, _, _, own', ch', lim, rfl, ?_⟩, fun post hq => xq_exec6 hv hp' (fun _ => xq_cas1 hv hk' g) hq⟩
      rw [cl]
      exact J
    · refine ⟨(nI C, nI T, nI 3, tc, nI e, 0, 0, lt, 0, ad, nI (er_cn cs C), re, cs, cv, cx, le, lc, upd tp (nI t).toNatClampNeg 3, pn, an, kd, mn, sn, vl, rs, er, ev), ⟨_, _, _, _, _, _, _, _, _, _, _, _, _, _, _, _, _, _, _, own, ch, lim, rfl, ?_⟩, fun post hq => xq_exec6 hv hp' (fun _ => xq_cas2 hv hk' g) hq⟩
      rw [cl]
      exact ew_s_casF h hT ht hp
  · have hk' : ¬ kd (nI t).toNatClampNeg = 1 := by rw [cl, hk]; exact er_ne (b := 1) k1 (by omega) (by omega)
    by_cases g : tc = mn (nI t).toNatClampNeg
    · obtain ⟨own', ch', J⟩ := ew_s_casPop hC h hT ht hp hk k1 k2 (by rw [cl] at g; exact g)
      refine ⟨(nI C, nI T, nI 3, sn (nI t).toNatClampNeg, nI e, 0, 0, lt, 0, ad, nI (er_cn cs C), re, cs, cv, cx, le, lc, upd tp (nI t).toNatClampNeg 7, pn, an, kd, mn, sn, vl, upd rs (nI t).toNatClampNeg 1, er, ev), ⟨_, _, _, _, _, _, _, _, _, _, _, _, _, _, _, _, _, _, _, own', ch', lim, rfl, ?_⟩, fun post hq => xq_exec6 hv hp' (fun _ => xq_cas3 hv hk' g) hq⟩
      rw [cl]
      exact J
    · refine ⟨(nI C, nI T, nI 3, tc, nI e, 0, 0, lt, 0, ad, nI (er_cn cs C), re, cs, cv, cx, le, lc, upd tp (nI t).toNatClampNeg 3, pn, an, kd, mn, sn, vl, rs, er, ev), ⟨_, _, _, _, _, _, _, _, _, _, _, _, _, _, _, _, _, _, _, own, ch, lim, rfl, ?_⟩, fun post hq => xq_exec6 hv hp' (fun _ => xq_cas4 hv hk' g) hq⟩
      rw [cl]
      exact ew_s_casF h hT ht hp
theorem ew_p7 (hC : C ≤ 32) (hT : T ≤ 4) (he : e < 2 ^ 30) (h : ew_I C T e tc cs cx le lc tp pn an kd mn sn own ch lim) (ht : t < T) (hp : tp t = nI 7) : ew_X C T e t (nI C, nI T, nI 3, tc, nI e, 0, 0, lt, 0, ad, nI (er_cn cs C), re, cs, cv, cx, le, lc, tp, pn, an, kd, mn, sn, vl, rs, er, ev) := by
  have cl : (nI t).toNatClampNeg = t := nI_clamp (by omega)
  have hv : vp_in (nI t) 4 := vp_in_nI (by omega) (by omega)
  have hp' : tp (nI t).toNatClampNeg = 7 := by rw [cl]; exact hp
  obtain ⟨k, hk, k2, hh⟩ := ew_at h ht hp (by omega)
  obtain ⟨_, n, hA, hn⟩ := hh.2.2.1 (by omega)
  obtain ⟨q, hq⟩ : ∃ q, q = n % 3 := ⟨_, rfl⟩
  have q3 : q < 3 := by omega
  obtain ⟨c, _, hc, hm, ho, _, _, hl, hlen, h1⟩ := ew_s_room (q := q) h ht hp q3
  have clc : (nI c).toNatClampNeg = c := nI_clamp (by omega)
  have clq : (nI q).toNatClampNeg = q := nI_clamp (by omega)
  have hw : vp_in (nI c) 32 := vp_in_nI (by omega) (by omega)
  have hwq : vp_in (nI q) 3 := vp_in_nI q3 (by omega)
  have hm' : mn (nI t).toNatClampNeg = nI c := by rw [cl]; exact hm
  have hl' : lc (nI q).toNatClampNeg = nI (lim q).length := by rw [clq]; exact hl
  have h3 : er_l3 (an (nI t).toNatClampNeg) (nI q) := by rw [cl, hA, hq]; exact er_l3n (by omega)
  have g1 : ¬ 32 ≤ lc (nI q).toNatClampNeg := by rw [hl']; exact nI_ge (b := 32) (by omega) (by decide)
  have g2 : vp_in (nI q * 32 + lc (nI q).toNatClampNeg) 96 := by rw [hl']; exact er_vi q3 (by omega)
  have h1' : cs (nI c).toNatClampNeg = 1 := by rw [clc]; exact h1
  have hs : er_rt (nI C) cs (nI c) (upd cs (nI c).toNatClampNeg 2) := Or.inr ⟨er_ir_nI hc (by omega), hw, Or.inl ⟨h1', rfl⟩⟩
  have hcn : er_cn (upd cs (nI c).toNatClampNeg 2) C = er_cn cs C := by rw [clc]; exact er_cn_same hc (by rw [h1]; decide) (by decide)
  refine ⟨(nI C, nI T, nI 3, tc, nI e, 0, 0, lt, 0, ad, nI (er_cn (upd cs (nI c).toNatClampNeg 2) C), re + 1, upd cs (nI c).toNatClampNeg 2, cv, cx, upd le (nI q * 32 + lc (nI q).toNatClampNeg).toNatClampNeg (nI c), upd lc (nI q).toNatClampNeg (lc (nI q).toNatClampNeg + 1), upd tp (nI t).toNatClampNeg 8, pn, an, kd, mn, sn, vl, rs, er, ev), ⟨_, _, _, _, _, _, _, _, _, _, _, _, _, _, _, _, _, _, _, ew_up own c (2 + q), ch, ew_lu lim q (lim q ++ [c]), rfl, ?_⟩, fun post hp9 => ?_⟩
  · have ei : (nI q * 32 + lc (nI q).toNatClampNeg).toNatClampNeg = q * 32 + (lim q).length := by rw [hl']; exact er_ci q3 (by omega)
    have el : lc (nI q).toNatClampNeg + 1 = nI ((lim q).length + 1) := by rw [hl', nI_1]
    rw [ei, el, clq, clc, cl]
    exact ew_s_retire hC h hT ht hp hc hm ho hA hn hq
  · rw [hcn] at hp9
    exact xq_exec7 hv hp' (fun _ => xq_ret1 hv hm' h3 hwq g1 g2 hs) hp9
theorem ew_p8 (hT : T ≤ 4) (h : ew_I C T e tc cs cx le lc tp pn an kd mn sn own ch lim) (ht : t < T) (hp : tp t = nI 8) : ew_X C T e t (nI C, nI T, nI 3, tc, nI e, 0, 0, lt, 0, ad, nI (er_cn cs C), re, cs, cv, cx, le, lc, tp, pn, an, kd, mn, sn, vl, rs, er, ev) := by
  have cl : (nI t).toNatClampNeg = t := nI_clamp (by omega)
  have hv : vp_in (nI t) 4 := vp_in_nI (by omega) (by omega)
  have hp' : tp (nI t).toNatClampNeg = 8 := by rw [cl]; exact hp
  refine ⟨(nI C, nI T, nI 3, tc, nI e, 0, 0, lt, 0, ad, nI (er_cn cs C), re, cs, cv, cx, le, lc, upd tp (nI t).toNatClampNeg 0, upd pn (nI t).toNatClampNeg (vp_nar .boolean 0), an, kd, mn, sn, vl, rs, upd er (nI t).toNatClampNeg (rs (nI t).toNatClampNeg), upd ev (nI t).toNatClampNeg (vl (nI t).toNatClampNeg)), ⟨_, _, _, _, _, _, _, _, _, _, _, _, _, _, _, _, _, _, _, own, ch, lim, rfl, ?_⟩, fun post hq => xq_exec8 hv hp' (fun _ => xq_unpin hv) hq⟩
  rw [cl]
  exact ew_s_unpin h hT ht hp
theorem ew_exec (hC : C ≤ 32) (hT : T ≤ 4) (he : e < 2 ^ 30) (h : ew_I C T e tc cs cx le lc tp pn an kd mn sn own ch lim) (ht : t < T) (h0 : ¬ tp t = 0) : ew_X C T e t (nI C, nI T, nI 3, tc, nI e, 0, 0, lt, 0, ad, nI (er_cn cs C), re, cs, cv, cx, le, lc, tp, pn, an, kd, mn, sn, vl, rs, er, ev) := by
  obtain ⟨p, k, hp, _, hh⟩ := h.2.2.1 t ht
  have p8 := hh.1.1
  rcases (by omega : p = 0 ∨ p = 1 ∨ p = 2 ∨ p = 3 ∨ p = 4 ∨ p = 5 ∨ p = 6 ∨ p = 7 ∨ p = 8) with rfl | rfl | rfl | rfl | rfl | rfl | rfl | rfl | rfl
  · exact absurd hp h0
  · exact ew_p1 hT h ht hp
  · exact ew_p2 hC hT h ht hp
  · exact ew_p3 hT h ht hp
  · exact ew_p4 hC hT h ht hp
  · exact ew_p5 hC hT h ht hp
  · exact ew_p6 hC hT h ht hp
  · exact ew_p7 hC hT he h ht hp
  · exact ew_p8 hT h ht hp
end
end
section
/-! the calls that change the state, over the picture -/
section
variable {C T e t : Nat} {tc lt ad re : Int32} {cs cv cx le lc tp pn an kd mn sn vl rs er ev : Nat → Int32} {own : Nat → Nat} {ch : List Nat} {lim : Nat → List Nat}
theorem ew_step (hC : C ≤ 32) (hT : T ≤ 4) (he : e < 2 ^ 30) (h : ew_I C T e tc cs cx le lc tp pn an kd mn sn own ch lim) (ht : t < T) : ∃ r u', ew_G C T e u' ∧ ∀ post : Int32 → St2 → Prop, post r u' → wpX_step post (nI C, nI T, nI 3, tc, nI e, 0, 0, lt, 0, ad, nI (er_cn cs C), re, cs, cv, cx, le, lc, tp, pn, an, kd, mn, sn, vl, rs, er, ev) (nI t) := by
  have cl : (nI t).toNatClampNeg = t := nI_clamp (by omega)
  have hv : vp_in (nI t) 4 := vp_in_nI (by omega) (by omega)
  have hi : er_ir (nI t) (nI T) := er_ir_nI ht (by omega)
  by_cases h0 : tp t = 0
  · refine ⟨0, (nI C, nI T, nI 3, tc, nI e, 0, 0, lt, 0, ad, nI (er_cn cs C), re, cs, cv, cx, le, lc, tp, pn, an, kd, mn, sn, vl, rs, er, ev), ⟨_, _, _, _, _, _, _, _, _, _, _, _, _, _, _, _, _, _, _, own, ch, lim, rfl, h⟩, fun post hq => ?_⟩
    unfold wpX_step
    exact xq_busy0 hi hv (by rw [cl]; exact h0) (br_t rfl hq)
  · obtain ⟨u', R, HX⟩ := ew_exec (ad := ad) (lt := lt) (re := re) (cv := cv) (vl := vl) (rs := rs) (er := er) (ev := ev) hC hT he h ht h0
    have R' := R
    obtain ⟨tc', lt', ad', re', cs', cv', cx', le', lc', tp', pn', an', kd', mn', sn', vl', rs', er', ev', own', ch', lim', rfl, h'⟩ := R
    refine ⟨tp (nI t).toNatClampNeg, _, R', fun post hq => ?_⟩
    unfold wpX_step
    exact xq_busy1 hi hv (by rw [cl]; exact h0) (br_f er_10 ⟨hv, nm_e (HX _ hq)⟩)
theorem ew_loop {m : Nat} (hC : C ≤ 32) (hT : T ≤ 4) (he : e < 2 ^ 30) (hm : m ≤ 64) (ht : t < T) : ∀ d j, j + d = m → ∀ u, ew_G C T e u → ∃ r u', ew_G C T e u' ∧ (∀ post : Int32 → St2 → Prop, post r u' → er_wx post (nI t) (nI m) (d + 1) (nI j) u) := by
  have cl : (nI t).toNatClampNeg = t := nI_clamp (by omega)
  have hv : vp_in (nI t) 4 := vp_in_nI (by omega) (by omega)
  intro d
  induction d with
  | zero =>
    intro j hj u R
    have g : nI m ≤ nI j := nI_le (by omega) (by omega)
    have R' := R
    obtain ⟨tc, lt, ad, re, cs, cv, cx, le, lc, tp, pn, an, kd, mn, sn, vl, rs, er, ev, own, ch, lim, rfl, h⟩ := R
    exact ⟨nI j, _, R', fun post hq => br_t g hq⟩
  | succ d ih =>
    intro j hj u R
    have g : ¬ nI m ≤ nI j := nI_ge (by omega) (by omega)
    have R' := R
    obtain ⟨tc, lt, ad, re, cs, cv, cx, le, lc, tp, pn, an, kd, mn, sn, vl, rs, er, ev, own, ch, lim, rfl, h⟩ := R
    by_cases h0 : tp t = 0
    · exact ⟨nI j, _, R', fun post hq => br_f g ⟨hv, br_t (by rw [cl]; exact h0) hq⟩⟩
    · obtain ⟨u', R2, HX⟩ := ew_exec (ad := ad) (lt := lt) (re := re) (cv := cv) (vl := vl) (rs := rs) (er := er) (ev := ev) hC hT he h ht h0
      obtain ⟨r, u3, R3, KX⟩ := ih (j + 1) (by omega) u' R2
      obtain ⟨tc', lt', ad', re', cs', cv', cx', le', lc', tp', pn', an', kd', mn', sn', vl', rs', er', ev', own', ch', lim', rfl, h'⟩ := R2
      exact ⟨r, u3, R3, fun post hq => br_f g ⟨hv, br_f (by rw [cl]; exact h0) (HX _ (nm_r (nI_1 j) (KX post hq)))⟩⟩
theorem ew_run {y : Int32} (hC : C ≤ 32) (hT : T ≤ 4) (he : e < 2 ^ 30) (h : ew_I C T e tc cs cx le lc tp pn an kd mn sn own ch lim) (ht : t < T) : ∃ r u', ew_G C T e u' ∧ ∀ post : Int32 → St2 → Prop, post r u' → wpX_run post (nI C, nI T, nI 3, tc, nI e, 0, 0, lt, 0, ad, nI (er_cn cs C), re, cs, cv, cx, le, lc, tp, pn, an, kd, mn, sn, vl, rs, er, ev) (nI t) y := by
  have cl : (nI t).toNatClampNeg = t := nI_clamp (by omega)
  have hv : vp_in (nI t) 4 := vp_in_nI (by omega) (by omega)
  have hi : er_ir (nI t) (nI T) := er_ir_nI ht (by omega)
  by_cases h0 : tp t = 0
  · refine ⟨0, (nI C, nI T, nI 3, tc, nI e, 0, 0, lt, 0, ad, nI (er_cn cs C), re, cs, cv, cx, le, lc, tp, pn, an, kd, mn, sn, vl, rs, er, ev), ⟨_, _, _, _, _, _, _, _, _, _, _, _, _, _, _, _, _, _, _, own, ch, lim, rfl, h⟩, fun post hq => ?_⟩
    unfold wpX_run
    exact xq_busy0 hi hv (by rw [cl]; exact h0) (br_t rfl hq)
  · obtain ⟨m, m1, m2, m3⟩ := er_clampX y 1 64 (by omega) (by omega)
    obtain ⟨r, u', R, KX⟩ := ew_loop hC hT he m2 ht m 0 (by omega) (nI C, nI T, nI 3, tc, nI e, 0, 0, lt, 0, ad, nI (er_cn cs C), re, cs, cv, cx, le, lc, tp, pn, an, kd, mn, sn, vl, rs, er, ev) ⟨_, _, _, _, _, _, _, _, _, _, _, _, _, _, _, _, _, _, _, own, ch, lim, rfl, h⟩
    have KX' : ∀ post : Int32 → St2 → Prop, post r u' → wX_run_21 post (nI t) (nI m) (m + 1) 0 (nI C) (nI T) (nI 3) tc (nI e) 0 0 lt 0 ad (nI (er_cn cs C)) re cs cv cx le lc tp pn an kd mn sn vl rs er ev := KX
    refine ⟨r, u', R, fun post hq => ?_⟩
    unfold wpX_run
    exact xq_busy1 hi hv (by rw [cl]; exact h0) (br_f er_10 (m3 _ ⟨m + 1, KX' _ hq⟩))
theorem ew_push {y : Int32} (hT : T ≤ 4) (h : ew_I C T e tc cs cx le lc tp pn an kd mn sn own ch lim) (ht : t < T) : ∃ r u', ew_G C T e u' ∧ ∀ post : Int32 → St2 → Prop, post r u' → wpX_push post (nI C, nI T, nI 3, tc, nI e, 0, 0, lt, 0, ad, nI (er_cn cs C), re, cs, cv, cx, le, lc, tp, pn, an, kd, mn, sn, vl, rs, er, ev) (nI t) y := by
  have cl : (nI t).toNatClampNeg = t := nI_clamp (by omega)
  have hv : vp_in (nI t) 4 := vp_in_nI (by omega) (by omega)
  have hi : er_ir (nI t) (nI T) := er_ir_nI ht (by omega)
  by_cases h0 : tp t = 0
  · refine ⟨1, (nI C, nI T, nI 3, tc, nI e, 0, 0, lt, 0, ad, nI (er_cn cs C), re, cs, cv, cx, le, lc, upd tp (nI t).toNatClampNeg 1, pn, an, upd kd (nI t).toNatClampNeg 1, upd mn (nI t).toNatClampNeg (-1), upd sn (nI t).toNatClampNeg (-1), upd vl (nI t).toNatClampNeg y, upd rs (nI t).toNatClampNeg 0, er, ev), ⟨_, _, _, _, _, _, _, _, _, _, _, _, _, _, _, _, _, _, _, own, ch, lim, rfl, ?_⟩, fun post hq => xq_push2 hi hv (by rw [cl]; exact h0) hq⟩
    rw [cl]
    exact ew_s_start (q := 1) h hT ht h0 (Or.inl rfl)
  · exact ⟨0, (nI C, nI T, nI 3, tc, nI e, 0, 0, lt, 0, ad, nI (er_cn cs C), re, cs, cv, cx, le, lc, tp, pn, an, kd, mn, sn, vl, rs, er, ev), ⟨_, _, _, _, _, _, _, _, _, _, _, _, _, _, _, _, _, _, _, own, ch, lim, rfl, h⟩, fun post hq => xq_push1 hi hv (by rw [cl]; exact h0) hq⟩
theorem ew_pop (hT : T ≤ 4) (h : ew_I C T e tc cs cx le lc tp pn an kd mn sn own ch lim) (ht : t < T) : ∃ r u', ew_G C T e u' ∧ ∀ post : Int32 → St2 → Prop, post r u' → wpX_pop post (nI C, nI T, nI 3, tc, nI e, 0, 0, lt, 0, ad, nI (er_cn cs C), re, cs, cv, cx, le, lc, tp, pn, an, kd, mn, sn, vl, rs, er, ev) (nI t) := by
  have cl : (nI t).toNatClampNeg = t := nI_clamp (by omega)
  have hv : vp_in (nI t) 4 := vp_in_nI (by omega) (by omega)
  have hi : er_ir (nI t) (nI T) := er_ir_nI ht (by omega)
  by_cases h0 : tp t = 0
  · refine ⟨1, (nI C, nI T, nI 3, tc, nI e, 0, 0, lt, 0, ad, nI (er_cn cs C), re, cs, cv, cx, le, lc, upd tp (nI t).toNatClampNeg 1, pn, an, upd kd (nI t).toNatClampNeg 2, upd mn (nI t).toNatClampNeg (-1), upd sn (nI t).toNatClampNeg (-1), upd vl (nI t).toNatClampNeg 0, upd rs (nI t).toNatClampNeg 0, er, ev), ⟨_, _, _, _, _, _, _, _, _, _, _, _, _, _, _, _, _, _, _, own, ch, lim, rfl, ?_⟩, fun post hq => xq_pop2 hi hv (by rw [cl]; exact h0) hq⟩
    rw [cl]
    exact ew_s_start (q := 2) h hT ht h0 (Or.inr rfl)
  · exact ⟨0, (nI C, nI T, nI 3, tc, nI e, 0, 0, lt, 0, ad, nI (er_cn cs C), re, cs, cv, cx, le, lc, tp, pn, an, kd, mn, sn, vl, rs, er, ev), ⟨_, _, _, _, _, _, _, _, _, _, _, _, _, _, _, _, _, _, _, own, ch, lim, rfl, h⟩, fun post hq => xq_pop1 hi hv (by rw [cl]; exact h0) hq⟩
/-! tryAdvance -/
theorem ew_floop {j : Nat} {E1 A1 : Int32} (hC : C ≤ 32) (h : ew_I C T e tc cs cx le lc tp pn an kd mn sn own ch lim) (j3 : j < 3) : ∀ d i, i + d = (lim j).length → ∀ f, ew_FR (lim j) cs f i → ∃ f', ew_FR (lim j) cs f' (lim j).length ∧
    ∀ post : St2 → Prop, post (nI C, nI T, nI 3, tc, E1, 0, 0, lt, 0, A1, nI (er_cn f' C), re, f', cv, cx, le, upd lc (nI j).toNatClampNeg 0, tp, pn, an, kd, mn, sn, vl, rs, er, ev) → wX_freeLimboList_2 post (nI j) (d + 1) (nI i) (nI C) (nI T) (nI 3) tc E1 0 0 lt 0 A1 (nI (er_cn f C)) re f cv cx le lc tp pn an kd mn sn vl rs er ev := by
  obtain ⟨l1, l2, l3, l4⟩ := h.2.1 j j3
  have hlen : (lim j).length ≤ C := ew_len l2 (fun c hc => ((l3 c).mp hc).1)
  have clj : (nI j).toNatClampNeg = j := nI_clamp (by omega)
  have w : vp_in (nI j) 3 := vp_in_nI j3 (by omega)
  have hl : lc (nI j).toNatClampNeg = nI (lim j).length := by rw [clj]; exact l1
  intro d
  induction d with
  | zero =>
    intro i hi f hf
    have g : lc (nI j).toNatClampNeg ≤ nI i := by rw [hl]; exact nI_le (by omega) (by omega)
    have e9 : i = (lim j).length := by omega
    rw [e9] at hf
    exact ⟨f, hf, fun post hq => ⟨w, br_t g ⟨w, nm_e hq⟩⟩⟩
  | succ d ih =>
    intro i hi f hf
    have g : ¬ lc (nI j).toNatClampNeg ≤ nI i := by rw [hl]; exact nI_ge (by omega) (by omega)
    have wi : vp_in (nI j * 32 + nI i) 96 := er_vi j3 (by omega)
    obtain ⟨c, hc⟩ : ∃ c, (lim j)[i]? = some c := ⟨_, List.getElem?_eq_getElem (by omega)⟩
    obtain ⟨cC, co⟩ := (l3 c).mp (List.mem_of_getElem? hc)
    have clc : (nI c).toNatClampNeg = c := nI_clamp (by omega)
    obtain ⟨f1, f2⟩ := ew_frs l2 hf hc
    have z : ¬ f (nI c).toNatClampNeg = 0 := by rw [clc, f1, h.1.1 c cC, co]; exact ew_stn (by omega)
    have hy : le (nI j * 32 + nI i).toNatClampNeg = nI c := by rw [er_ci j3 (by omega)]; exact l4 i c hc
    rw [← clc] at f2
    obtain ⟨f', g1, KX⟩ := ih (i + 1) (by omega) _ f2
    refine ⟨f', g1, fun post hq => ⟨w, br_f g ⟨wi, ?_⟩⟩⟩
    rw [hy]
    exact xq_free2 (er_ir_nI cC (by omega)) (vp_in_nI (by omega) (by omega)) z (er_cn_inc (by rw [clc]; exact cC) z) (nm_r (nI_1 i) (KX post hq))
theorem ew_tryA (hC : C ≤ 32) (hT : T ≤ 4) (he : e < 2 ^ 30) (h : ew_I C T e tc cs cx le lc tp pn an kd mn sn own ch lim) (hb : ∀ s, s < T → pn s = 0 ∨ an s = nI e) :
    ∃ own' f', ew_I C T (e + 1) tc f' cx le (upd lc ((e + 1) % 3) 0) tp pn an kd mn sn own' ch (ew_lu lim ((e + 1) % 3) []) ∧
      ∀ post : Int32 → St2 → Prop, post 1 (nI C, nI T, nI 3, tc, nI (e + 1), 0, 0, lt, 0, ad + 1, nI (er_cn f' C), re, f', cv, cx, le, upd lc ((e + 1) % 3) 0, tp, pn, an, kd, mn, sn, vl, rs, er, ev) → wpX_tryAdvance post (nI C, nI T, nI 3, tc, nI e, 0, 0, lt, 0, ad, nI (er_cn cs C), re, cs, cv, cx, le, lc, tp, pn, an, kd, mn, sn, vl, rs, er, ev) := by
  obtain ⟨j, hj⟩ : ∃ j, j = (e + 1) % 3 := ⟨_, rfl⟩
  have j3 : j < 3 := by omega
  have clj : (nI j).toNatClampNeg = j := nI_clamp (by omega)
  obtain ⟨f', hf, KX⟩ := ew_floop (E1 := nI (e + 1)) (A1 := ad + 1) (lt := lt) (re := re) (cv := cv) (vl := vl) (rs := rs) (er := er) (ev := ev) hC h j3 (lim j).length 0 (by omega) cs ew_fr0
  obtain ⟨own', J⟩ := ew_s_adv (by omega) h (fun s hs b => (hb s hs).resolve_left b) hj hf
  refine ⟨own', f', ?_, fun post hq => ?_⟩
  · rw [← hj]
    exact J
  · rw [← hj, ← clj] at hq
    have e9 : nI (e + 1) + 3 - nI 3 = nI (e + 1) := Int32.add_sub_cancel _ (nI 3)
    have h3 : er_l3 (nI (e + 1) + 3 - nI 3) (nI j) := by rw [e9, hj]; exact er_l3n (by omega)
    unfold wpX_tryAdvance
    unfold wpX_someThreadLagsBehind
    refine ⟨T + 1, xq_lag hT (Nat.le_refl T) hb (Or.inl ⟨rfl, br_t rfl ?_⟩) T 0 (by omega)⟩
    intro f1 e1 f2 e2
    rw [nI_1] at e1
    subst e1 e2
    refine xq_listOf h3 ?_
    unfold wpX_freeLimboList
    exact ⟨(lim j).length + 1, KX _ hq⟩
theorem ew_tryN {c : Nat} (hT : T ≤ 4) (hc : c < T) (hb : ∀ s, s < c → pn s = 0 ∨ an s = nI e) (h1 : ¬ pn c = 0) (h2 : ¬ an c = nI e) : ∀ post : Int32 → St2 → Prop, post 0 (nI C, nI T, nI 3, tc, nI e, 0, 0, lt, 0, ad, nI (er_cn cs C), re, cs, cv, cx, le, lc, tp, pn, an, kd, mn, sn, vl, rs, er, ev) → wpX_tryAdvance post (nI C, nI T, nI 3, tc, nI e, 0, 0, lt, 0, ad, nI (er_cn cs C), re, cs, cv, cx, le, lc, tp, pn, an, kd, mn, sn, vl, rs, er, ev) := by
  intro post hq
  unfold wpX_tryAdvance
  unfold wpX_someThreadLagsBehind
  exact ⟨c + 1, xq_lag hT (Nat.le_of_lt hc) hb (Or.inr ⟨hc, h1, h2, br_f er_10 hq⟩) c 0 (by omega)⟩
theorem ew_try (hC : C ≤ 32) (hT : T ≤ 4) (he : e < 2 ^ 30) (h : ew_I C T e tc cs cx le lc tp pn an kd mn sn own ch lim) : ∃ r u' e', (e' = e ∨ e' = e + 1) ∧ ew_G C T e' u' ∧ ∀ post : Int32 → St2 → Prop, post r u' → wpX_tryAdvance post (nI C, nI T, nI 3, tc, nI e, 0, 0, lt, 0, ad, nI (er_cn cs C), re, cs, cv, cx, le, lc, tp, pn, an, kd, mn, sn, vl, rs, er, ev) := by
  obtain ⟨c, hc, hn, g | ⟨g1, g2, g3⟩⟩ := er_lags pn an (nI e) T
  · rw [g] at hn
    obtain ⟨own', f', J, K⟩ := ew_tryA (lt := lt) (ad := ad) (re := re) (cv := cv) (vl := vl) (rs := rs) (er := er) (ev := ev) hC hT he h hn
    exact ⟨1, (nI C, nI T, nI 3, tc, nI (e + 1), 0, 0, lt, 0, ad + 1, nI (er_cn f' C), re, f', cv, cx, le, upd lc ((e + 1) % 3) 0, tp, pn, an, kd, mn, sn, vl, rs, er, ev), e + 1, Or.inr rfl, ⟨_, _, _, _, _, _, _, _, _, _, _, _, _, _, _, _, _, _, _, own', ch, _, rfl, J⟩, K⟩
  · exact ⟨0, (nI C, nI T, nI 3, tc, nI e, 0, 0, lt, 0, ad, nI (er_cn cs C), re, cs, cv, cx, le, lc, tp, pn, an, kd, mn, sn, vl, rs, er, ev), e, Or.inl rfl, ⟨_, _, _, _, _, _, _, _, _, _, _, _, _, _, _, _, _, _, _, own, ch, lim, rfl, h⟩, ew_tryN hT g1 hn g2 g3⟩
end
end
section
/-! rows pasted from the bits -/
theorem ts_bit {w : Int64} {s : UInt64} {j : Nat} (hj : j < 64) (hs : s.toNat = j) : ((w.toUInt64 >>> s).toInt64 &&& 1) = 0 ↔ w.toBitVec.getLsbD j = false := by
  have e : (w.toUInt64 >>> s).toInt64.toBitVec = w.toBitVec >>> j := by
    apply BitVec.eq_of_toNat_eq
    show (w.toUInt64 >>> s).toNat = _
    rw [UInt64.toNat_shiftRight, hs, Nat.mod_eq_of_lt hj, BitVec.toNat_ushiftRight]
    rfl
  rw [← Int64.toBitVec_inj, Int64.toBitVec_and, e]
  show w.toBitVec >>> j &&& 1#64 = 0#64 ↔ _
  constructor
  · intro h
    have t := congrArg (fun x => x.getLsbD 0) h
    simpa using t
  · intro h
    apply BitVec.eq_of_getLsbD_eq
    intro i hi
    cases i with
    | zero => simp [h]
    | succ i => simp
theorem wb_of32 (x : Int32) : ∃ n, n < 2 ^ 32 ∧ x = nI n := ⟨x.toBitVec.toNat, x.toBitVec.isLt, Int32.toBitVec_inj.mp (by show _ = BitVec.ofNat 32 _; simp)⟩
theorem wb_cu : ∀ k, k < 64 → ((nI k).toInt64.toUInt64 &&& Int64.toUInt64 63) = UInt64.ofNat k := by decide +kernel
theorem u_tn {n : Nat} (h : n < 2 ^ 64) : (UInt64.ofNat n).toNat = n := Nat.mod_eq_of_lt h
/-! the law's bit set -/
theorem ew_sh : ∀ l, l < 32 → ((1 : Int64) <<< ((nI l).toInt64 &&& 63)).toBitVec = BitVec.twoPow 64 l := by decide +kernel
theorem ew_tp : ∀ l, l < 32 → BitVec.twoPow 64 l ≠ 0#64 := by decide +kernel
def ew_BS (x : Int64) (p : List Nat) : Prop := ∀ c, c < 32 → (x.toBitVec.getLsbD c = true ↔ c ∈ p)
theorem ew_bs0 : ew_BS 0 [] := fun c _ => ⟨fun h => by
    have : (0 : Int64).toBitVec = 0#64 := rfl
    rw [this] at h
    simp at h, fun h => (nomatch h)⟩
theorem ew_bsn {x : Int64} {p : List Nat} {c : Nat} (h : ew_BS x p) (hc : c < 32) (hn : c ∉ p) : (x &&& ((1 : Int64) <<< ((nI c).toInt64 &&& 63))) = 0 := by
  rw [← Int64.toBitVec_inj, Int64.toBitVec_and, ew_sh c hc, BitVec.and_twoPow]
  have g : ¬ x.toBitVec.getLsbD c = true := fun z => hn ((h c hc).mp z)
  rw [if_neg g]
  rfl
theorem ew_bss {x : Int64} {p : List Nat} {c : Nat} (h : ew_BS x p) (hc : c < 32) : ew_BS (x ||| ((1 : Int64) <<< ((nI c).toInt64 &&& 63))) (p ++ [c]) := by
  intro d hd
  rw [Int64.toBitVec_or, ew_sh c hc, BitVec.getLsbD_or, BitVec.getLsbD_twoPow, List.mem_append, List.mem_singleton, Bool.or_eq_true, h d hd]
  have g : (decide (c < 64) && decide (c = d)) = true ↔ d = c := by
    rw [Bool.and_eq_true, decide_eq_true_eq, decide_eq_true_eq]
    omega
  rw [g]
theorem ew_bsb {x : Int64} {p : List Nat} {c : Nat} (h : ew_BS x p) (hc : c < 32) (hb : ((x.toUInt64 >>> ((nI c).toInt64.toUInt64 &&& Int64.toUInt64 63)).toInt64 &&& 1) = 0) : c ∉ p := by
  rw [wb_cu c (by omega), ts_bit (j := c) (by omega) (u_tn (by omega))] at hb
  intro m
  have g := (h c hc).mpr m
  rw [hb] at g
  exact absurd g (by decide)
/-! the getters that the law asks -/
section
variable {nc nt gp tc ep tr df lt dr ad fc re : Int32} {cs cv cx le lc tp pn an kd mn sn vl rs er ev : Nat → Int32}
theorem xq_cok {post : Int32 → Prop} (hp : post 1) : wpL_countersOk post (nc, nt, gp, tc, ep, 0, 0, lt, 0, ad, fc, re, cs, cv, cx, le, lc, tp, pn, an, kd, mn, sn, vl, rs, er, ev) := by
  unfold wpL_countersOk
  exact br_f (by decide) (br_f (by decide) (br_t rfl (br_t rfl (br_f (by decide) (br_f (by decide) (br_f (by decide) (br_t rfl (br_t rfl (br_f (by decide) (br_f (by decide) (br_f (by decide) (br_f (by decide) (br_f (by decide) (br_t rfl (br_t rfl hp)))))))))))))))
theorem xq_cnt5 {post : Int32 → Prop} (hp : post fc) : wpX_counter post (nc, nt, gp, tc, ep, tr, df, lt, dr, ad, fc, re, cs, cv, cx, le, lc, tp, pn, an, kd, mn, sn, vl, rs, er, ev) 5 := by
  unfold wpX_counter
  exact br_f (by decide) (br_f (by decide) (br_f (by decide) (br_f (by decide) (br_f (by decide) (br_f (by decide) (br_f (by decide) (br_t rfl hp)))))))
theorem xq_lsz {post : Int32 → Prop} {k : Nat} (hk : k < 3) (hp : post (lc (nI k).toNatClampNeg)) : wpX_limboSize post (nc, nt, gp, tc, ep, tr, df, lt, dr, ad, fc, re, cs, cv, cx, le, lc, tp, pn, an, kd, mn, sn, vl, rs, er, ev) (nI k) := by
  unfold wpX_limboSize
  exact br_f (nI_pos (by omega)) (br_f (nI_ge (b := 3) hk (by decide)) (br_f er_10 ⟨vp_in_nI hk (by omega), hp⟩))
end
end
section
/-! the quiesce check -/
section
variable {C T e t : Nat} {tc lt ad re : Int32} {cs cv cx le lc tp pn an kd mn sn vl rs er ev : Nat → Int32} {own : Nat → Nat} {ch : List Nat} {lim : Nat → List Nat}
variable {post : Int32 → St2 → Prop}
theorem ew_q207 {x3 : Int64} {n : Nat} (hC : C ≤ 32) (hb : ∀ c, c < C → ((x3.toUInt64 >>> ((nI c).toInt64.toUInt64 &&& Int64.toUInt64 63)).toInt64 &&& 1) = 0 → cs c = 0) (hs : er_cn cs C + n = C) (hp : post 1 (nI C, nI T, nI 3, tc, nI e, 0, 0, lt, 0, ad, nI (er_cn cs C), re, cs, cv, cx, le, lc, tp, pn, an, kd, mn, sn, vl, rs, er, ev)) :
    ∀ d i, i + d = C → wL_quiesceOk_207 post (nI C) x3 (nI n) (nI C) (nI T) (nI 3) tc (nI e) 0 0 lt 0 ad (nI (er_cn cs C)) re cs cv cx le lc tp pn an kd mn sn vl rs er ev (d + 1) (nI i) := by
  intro d
  induction d with
  | zero =>
    intro i hi
    have e9 : nI (er_cn cs C) + nI n = nI C := by rw [nI_add, hs]
    exact br_t (nI_le (by omega) (by omega)) (xq_cnt5 (br_t e9 hp))
  | succ d ih =>
    intro i hi
    have K := ih (i + 1) (by omega)
    have cl : (nI i).toNatClampNeg = i := nI_clamp (by omega)
    refine br_f (nI_ge (by omega) (by omega)) ?_
    by_cases b : ((x3.toUInt64 >>> ((nI i).toInt64.toUInt64 &&& Int64.toUInt64 63)).toInt64 &&& 1) = 0
    · exact br_t b (xq_cell_0 (er_ir_nI (by omega) (by omega)) (vp_in_nI (by omega) (by omega)) (br_t (by rw [cl]; exact hb i (by omega) b) (nm_r (nI_1 i) K)))
    · exact br_f b (nm_r (nI_1 i) K)
theorem ew_q121 (hC : C ≤ 32) (f1 : ∀ c, c < C → c ∉ ch → cs c = 0) (f2 : ∀ c, c ∈ ch → c < C ∧ cs c = 1) (hn : ch.Nodup) (hs : er_cn cs C + ch.length = C) (hp : post 1 (nI C, nI T, nI 3, tc, nI e, 0, 0, lt, 0, ad, nI (er_cn cs C), re, cs, cv, cx, le, lc, tp, pn, an, kd, mn, sn, vl, rs, er, ev)) :
    ∀ (l pre : List Nat) (x3 : Int64) (cur : Int32), ch = pre ++ l → ew_ch cx l cur → ew_BS x3 pre → wL_quiesceOk_121 post (nI C) (nI C) (nI T) (nI 3) tc (nI e) 0 0 lt 0 ad (nI (er_cn cs C)) re cs cv cx le lc tp pn an kd mn sn vl rs er ev (l.length + 1) x3 (nI pre.length) cur := by
  intro l
  induction l with
  | nil =>
    intro pre x3 cur hl hc hb
    rw [List.append_nil] at hl
    have hc' : cur = -1 := hc
    subst hc'
    refine br_t rfl (br_t rfl ⟨C + 1, ?_⟩)
    exact ew_q207 hC (fun c hc b => f1 c hc (by rw [hl]; exact ew_bsb hb (by omega) b)) (by rw [← hl]; exact hs) hp C 0 (by omega)
  | cons c l ih =>
    intro pre x3 cur hl hc hb
    have hc1 : cur = nI c := hc.1
    have hc2 : ew_ch cx l (cx c) := hc.2
    subst hc1
    have cm : c ∈ ch := by rw [hl]; exact List.mem_append.mpr (Or.inr List.mem_cons_self)
    obtain ⟨cC, c1⟩ := f2 c cm
    have cl : (nI c).toNatClampNeg = c := nI_clamp (by omega)
    have len : pre.length + (l.length + 1) ≤ C := by
      have g : ch.length = pre.length + (l.length + 1) := by rw [hl, List.length_append, List.length_cons]
      omega
    have np : c ∉ pre := by
      rw [hl] at hn
      intro m
      exact (List.nodup_append.mp hn).2.2 c m c List.mem_cons_self rfl
    have ir : er_ir (nI c) (nI C) := er_ir_nI cC (by omega)
    have w : vp_in (nI c) 32 := vp_in_nI (by omega) (by omega)
    have K := ih (pre ++ [c]) (x3 ||| ((1 : Int64) <<< ((nI c).toInt64 &&& 63))) (cx c) (by rw [hl, List.append_assoc]; rfl) hc2 (ew_bss hb (by omega))
    rw [List.length_append] at K
    have c1' : cs (nI c).toNatClampNeg = 1 := by rw [cl]; exact c1
    have m1 : ¬ nI c = -1 := er_nm1 (by omega)
    have m2 : ¬ nI C ≤ nI pre.length := nI_ge (by omega) (by omega)
    have m3 : ¬ nI c < 0 := nI_pos (by omega)
    refine br_f m1 (br_f m2 (br_f m3 (br_t (nI_lt cC (by omega)) ?_)))
    intro x7 e7
    subst e7
    refine br_t (ew_bsn hb (by omega) np) (xq_cell_0 ir w (br_t c1' ?_))
    intro x9 e9
    subst e9
    refine nm_r (nI_1 _) (xq_cell_2 ir w ?_)
    rw [cl]
    exact K
end
theorem ew_k3 {e k : Nat} (hk : k < 3) : ∃ i, i < 3 ∧ (e + 3 - i) % 3 = k := ⟨(e + 3 - k) % 3, by omega, by omega⟩
theorem ew_q55 {C T : Nat} {post : Int32 → St2 → Prop} (hC : C ≤ 32) (hT : T ≤ 4) : ∀ d i, i + d = 3 → ∀ (e : Nat) (tc lt ad re : Int32) (cs cv cx le lc tp pn an kd mn sn vl rs er ev : Nat → Int32) (own : Nat → Nat) (ch : List Nat) (lim : Nat → List Nat), e + d < 2 ^ 30 → ew_I C T e tc cs cx le lc tp pn an kd mn sn own ch lim → (∀ s, s < T → tp s = nI 0) → (∀ q, q < i → lim ((e + 3 - q) % 3) = []) →
    (∀ u', ew_G C T (e + d) u' → post 1 u') → wL_quiesceOk_55 post (nI C) (d + 1) (nI i) (nI C) (nI T) (nI 3) tc (nI e) 0 0 lt 0 ad (nI (er_cn cs C)) re cs cv cx le lc tp pn an kd mn sn vl rs er ev := by
  intro d
  induction d with
  | zero =>
    intro i hi e tc lt ad re cs cv cx le lc tp pn an kd mn sn vl rs er ev own ch lim he h hz hl hp
    have i3 : i = 3 := by omega
    subst i3
    have hl3 : ∀ k, k < 3 → lim k = [] := fun k hk => by
      obtain ⟨q, hq, e9⟩ := ew_k3 (e := e) hk
      rw [← e9]
      exact hl q hq
    have hlc : ∀ k, k < 3 → lc (nI k).toNatClampNeg = 0 := fun k hk => by
      rw [nI_clamp (by omega), (h.2.1 k hk).1, hl3 k hk]
      rfl
    obtain ⟨r1, r2, r3⟩ := ew_rest h hz hl3
    have hq := hp (nI C, nI T, nI 3, tc, nI e, 0, 0, lt, 0, ad, nI (er_cn cs C), re, cs, cv, cx, le, lc, tp, pn, an, kd, mn, sn, vl, rs, er, ev) ⟨_, _, _, _, _, _, _, _, _, _, _, _, _, _, _, _, _, _, _, own, ch, lim, rfl, h⟩
    exact br_t (by decide) (xq_lsz (k := 0) (by omega) (br_t (hlc 0 (by omega)) (xq_lsz (k := 1) (by omega) (br_t (hlc 1 (by omega)) (xq_lsz (k := 2) (by omega) (br_t (hlc 2 (by omega)) ⟨ch.length + 1, ew_q121 hC r1 r2 h.1.2.2.1 r3 hq ch [] 0 tc rfl h.1.2.1 ew_bs0⟩))))))
  | succ d ih =>
    intro i hi e tc lt ad re cs cv cx le lc tp pn an kd mn sn vl rs er ev own ch lim he h hz hl hp
    obtain ⟨b0, _⟩ := ew_idle h hz
    obtain ⟨own', f', J, K⟩ := ew_tryA (lt := lt) (ad := ad) (re := re) (cv := cv) (vl := vl) (rs := rs) (er := er) (ev := ev) hC hT (by omega) h (fun s hs => Or.inl (b0 s hs))
    refine br_f (nI_ge (b := 3) (by omega) (by decide)) (K _ (br_f er_10 (xq_cok (br_f er_10 (nm_r (nI_1 i) ?_)))))
    refine ih (i + 1) (by omega) (e + 1) tc lt (ad + 1) re f' cv cx le _ tp pn an kd mn sn vl rs er ev own' ch _ (by omega) J hz (fun q hq => ?_) (fun u' hu => hp u' (by rw [show e + (d + 1) = e + 1 + d from by omega]; exact hu))
    by_cases x : (e + 1 + 3 - q) % 3 = (e + 1) % 3
    · rw [x]
      exact ew_lus
    · rw [ew_lun x]
      obtain ⟨q', rfl⟩ : ∃ q', q = q' + 1 := ⟨q - 1, by omega⟩
      have e9 : e + 1 + 3 - (q' + 1) = e + 3 - q' := by omega
      rw [e9]
      exact hl q' (by omega)
section
variable {C T e t : Nat} {tc lt ad re : Int32} {cs cv cx le lc tp pn an kd mn sn vl rs er ev : Nat → Int32} {own : Nat → Nat} {ch : List Nat} {lim : Nat → List Nat}
variable {post : Int32 → St2 → Prop}
theorem ew_q32 (hC : C ≤ 32) (hT : T ≤ 4) (he : e + 3 < 2 ^ 30) (h : ew_I C T e tc cs cx le lc tp pn an kd mn sn own ch lim) (hp : ∀ e' u', e ≤ e' → e' ≤ e + 3 → ew_G C T e' u' → post 1 u') : ∀ d i, i + d = T → (∀ s, s < i → tp s = nI 0) → wL_quiesceOk_32 post (nI C) (nI T) (nI C) (nI T) (nI 3) tc (nI e) 0 0 lt 0 ad (nI (er_cn cs C)) re cs cv cx le lc tp pn an kd mn sn vl rs er ev (d + 1) (nI i) := by
  intro d
  induction d with
  | zero =>
    intro i hi hz
    have e9 : i = T := by omega
    subst e9
    exact br_t (nI_le (Nat.le_refl _) (by omega)) ⟨4, ew_q55 hC hT 3 0 (by omega) e tc lt ad re cs cv cx le lc tp pn an kd mn sn vl rs er ev own ch lim (by omega) h hz (fun q hq => absurd hq (Nat.not_lt_zero q)) (fun u' hu => hp (e + 3) u' (by omega) (by omega) hu)⟩
  | succ d ih =>
    intro i hi hz
    have cl : (nI i).toNatClampNeg = i := nI_clamp (by omega)
    refine br_f (nI_ge (by omega) (by omega)) (xq_phase1 (er_ir_nI (by omega) (by omega)) (vp_in_nI (by omega) (by omega)) ?_)
    rw [cl]
    by_cases z : tp i = 0
    · exact br_t z (nm_r (nI_1 i) (ih (i + 1) (by omega) (lt_s hz z)))
    · exact br_f z (hp e (nI C, nI T, nI 3, tc, nI e, 0, 0, lt, 0, ad, nI (er_cn cs C), re, cs, cv, cx, le, lc, tp, pn, an, kd, mn, sn, vl, rs, er, ev) (Nat.le_refl e) (by omega) ⟨_, _, _, _, _, _, _, _, _, _, _, _, _, _, _, _, _, _, _, own, ch, lim, rfl, h⟩)
def er_wq (post : Int32 → St2 → Prop) (x1 x2 : Int32) (n : Nat) (i : Int32) (u : St2) : Prop := match u with
  | (nc, nt, gp, tc, ep, tr, df, lt, dr, ad, fc, re, cs, cv, cx, le, lc, tp, pn, an, kd, mn, sn, vl, rs, er, ev) => wL_quiesceOk_2 post x1 x2 n i nc nt gp tc ep tr df lt dr ad fc re cs cv cx le lc tp pn an kd mn sn vl rs er ev
theorem ew_q2 (hC : C ≤ 32) (hT : T ≤ 4) (he : e + 3 < 2 ^ 30) (hp : ∀ e' u', e ≤ e' → e' ≤ e + 3 → ew_G C T e' u' → post 1 u') : ∀ d i, i + d = T → ∀ u, ew_G C T e u → er_wq post (nI C) (nI T) (d + 1) (nI i) u := by
  intro d
  induction d with
  | zero =>
    intro i hi u R
    obtain ⟨tc, lt, ad, re, cs, cv, cx, le, lc, tp, pn, an, kd, mn, sn, vl, rs, er, ev, own, ch, lim, rfl, h⟩ := R
    exact br_t (nI_le (by omega) (by omega)) ⟨T + 1, ew_q32 hC hT he h hp T 0 (by omega) (fun s hs => absurd hs (Nat.not_lt_zero s))⟩
  | succ d ih =>
    intro i hi u R
    obtain ⟨tc, lt, ad, re, cs, cv, cx, le, lc, tp, pn, an, kd, mn, sn, vl, rs, er, ev, own, ch, lim, rfl, h⟩ := R
    obtain ⟨r, u', R2, K⟩ := ew_run (y := 64) (lt := lt) (ad := ad) (re := re) (cv := cv) (vl := vl) (rs := rs) (er := er) (ev := ev) hC hT (by omega) h (t := i) (by omega)
    have Q := ih (i + 1) (by omega) u' R2
    obtain ⟨tc', lt', ad', re', cs', cv', cx', le', lc', tp', pn', an', kd', mn', sn', vl', rs', er', ev', own', ch', lim', rfl, h'⟩ := R2
    exact br_f (nI_ge (by omega) (by omega)) (K _ (xq_cok (br_f er_10 (nm_r (nI_1 i) Q))))
theorem ew_quiesce (hC : C ≤ 32) (hT : T ≤ 4) (he : e + 3 < 2 ^ 30) (h : ew_I C T e tc cs cx le lc tp pn an kd mn sn own ch lim) (hp : ∀ e' u', e ≤ e' → e' ≤ e + 3 → ew_G C T e' u' → post 1 u') : wpL_quiesceOk post (nI C, nI T, nI 3, tc, nI e, 0, 0, lt, 0, ad, nI (er_cn cs C), re, cs, cv, cx, le, lc, tp, pn, an, kd, mn, sn, vl, rs, er, ev) (nI C) (nI T) := by
  unfold wpL_quiesceOk
  have K : wL_quiesceOk_2 post (nI C) (nI T) (T + 1) 0 (nI C) (nI T) (nI 3) tc (nI e) 0 0 lt 0 ad (nI (er_cn cs C)) re cs cv cx le lc tp pn an kd mn sn vl rs er ev := ew_q2 hC hT he hp T 0 (by omega) (nI C, nI T, nI 3, tc, nI e, 0, 0, lt, 0, ad, nI (er_cn cs C), re, cs, cv, cx, le, lc, tp, pn, an, kd, mn, sn, vl, rs, er, ev) ⟨_, _, _, _, _, _, _, _, _, _, _, _, _, _, _, _, _, _, _, own, ch, lim, rfl, h⟩
  exact ⟨T + 1, K⟩
end
end
section
/-! the constructors -/
def er_fl (i : Nat) : Nat → Int32 := fun j => if j < i then -1 else 0
theorem er_fl_s (i : Nat) : upd (er_fl i) i (-1) = er_fl (i + 1) := by
  funext j
  by_cases e : j = i
  · rw [e, pk_us]
    exact (if_pos (by omega)).symm
  · rw [pk_un e]
    unfold er_fl
    by_cases g : j < i
    · rw [if_pos g, if_pos (by omega)]
    · rw [if_neg g, if_neg (by omega)]
theorem er_fl_0 : er_fl 0 = fun _ => 0 := by
  funext j
  exact if_neg (Nat.not_lt_zero j)
theorem er_uz (k : Nat) : upd (fun _ => 0) k 0 = fun _ => 0 := by
  funext j
  by_cases e : j = k
  · rw [e, pk_us]
  · rw [pk_un e]
theorem er_uzb (k : Nat) : upd (fun _ => 0) k (vp_nar .boolean 0) = fun _ => 0 := er_uz k
section
variable {nc nt gp tc ep tr df lt dr ad fc re : Int32} {cs cv cx le lc tp pn an kd mn sn vl rs er ev : Nat → Int32}
variable {mc ms kc ks : Nat}
theorem xq_i2 {post : St2 → Prop} (hp : post (nc, nt, gp, tc, ep, tr, df, lt, dr, ad, fc, re, cs, cv, cx, le, lc, tp, pn, an, kd, er_fl 4, er_fl 4, vl, rs, er, ev)) : ∀ d i, i + d = 4 → wX_init_220 post mc ms kc ks nc nt gp tc ep tr df lt dr ad fc re (d + 1) (nI i) cs cv cx le lc tp pn an kd (er_fl i) (er_fl i) vl rs er ev := by
  intro d
  induction d with
  | zero =>
    intro i hi
    have e : i = 4 := by omega
    subst e
    exact br_t (by decide) hp
  | succ d ih =>
    intro i hi
    have w : vp_in (nI i) 4 := vp_in_nI (by omega) (by omega)
    have cl : upd (er_fl i) (nI i).toNatClampNeg (-1) = er_fl (i + 1) := by rw [nI_clamp (by omega)]; exact er_fl_s i
    exact br_f (nI_ge (b := 4) (by omega) (by decide)) ⟨w, nm_r cl ⟨w, nm_r cl (nm_r (nI_1 i) (ih (i + 1) (by omega)))⟩⟩
theorem xq_i1 {post : St2 → Prop} (hp : post (nc, nt, gp, tc, ep, tr, df, lt, dr, ad, fc, re, cs, cv, er_fl 32, le, lc, tp, pn, an, kd, er_fl 4, er_fl 4, vl, rs, er, ev)) : ∀ d i, i + d = 32 → wX_init_196 post mc ms kc ks nc nt gp tc ep tr df lt dr ad fc re (d + 1) (nI i) cs cv (er_fl i) le lc tp pn an kd (er_fl 0) (er_fl 0) vl rs er ev := by
  intro d
  induction d with
  | zero =>
    intro i hi
    have e : i = 32 := by omega
    subst e
    exact br_t (by decide) ⟨5, xq_i2 hp 4 0 rfl⟩
  | succ d ih =>
    intro i hi
    have w : vp_in (nI i) 32 := vp_in_nI (by omega) (by omega)
    have cl : upd (er_fl i) (nI i).toNatClampNeg (-1) = er_fl (i + 1) := by rw [nI_clamp (by omega)]; exact er_fl_s i
    exact br_f (nI_ge (b := 32) (by omega) (by decide)) ⟨w, nm_r cl (nm_r (nI_1 i) (ih (i + 1) (by omega)))⟩
end
def er_x0 (C T G : Nat) : St2 := (nI C, nI T, nI G, -1, 0, 0, 0, -1, 0, 0, nI C, 0, fun _ => 0, fun _ => 0, er_fl 32, fun _ => 0, fun _ => 0, fun _ => 0, fun _ => 0, fun _ => 0, fun _ => 0, er_fl 4, er_fl 4, fun _ => 0, fun _ => 0, fun _ => 0, fun _ => 0)
theorem xq_clampI {q : Int32 → Prop} {m a b : Nat} (h1 : a ≤ m) (h2 : m ≤ b) (hb : b < 2 ^ 31) (hq : q (nI m)) : wpX_clamp q () (nI m) (nI a) (nI b) := br_t (nI_le h1 (by omega)) (br_t (nI_le h2 hb) hq)
theorem xq_clampG {q : Int32 → Prop} {g : Nat} (hg : g < 8) (hq : q (nI 3)) : wpX_clamp q () (nI (3 + g)) (nI 1) (nI 3) := by
  refine br_t (nI_le (by omega) (by omega)) ?_
  by_cases z : g = 0
  · subst z
    exact br_t (nI_le (by omega) (by omega)) hq
  · exact br_f (nI_ge (by omega) (by omega)) hq
theorem xq_init {post : St2 → Prop} {C T g : Nat} (c1 : 8 ≤ C) (c2 : C ≤ 32) (t1 : 2 ≤ T) (t2 : T ≤ 4) (hg : g < 8) (hp : post (er_x0 C T 3)) : wpX_init post 15 235 (0, 0, 0, 0, 0, 0, 0, 0, 0, 0, 0, 0) (nI C) (nI T) (nI (3 + g)) := by
  unfold wpX_init
  refine ⟨by omega, by omega, by omega, by omega, by omega, by omega, by omega, by omega, by omega, by omega, by omega, by omega, by omega, by omega, by omega, by omega, by omega, by omega, by omega, by omega, by omega, by omega, by omega, by omega, by omega, by omega, by omega, by omega, by omega, by omega, ?_⟩
  refine xq_clampI (a := 8) (b := 32) c1 c2 (by decide) (xq_clampI (a := 2) (b := 4) t1 t2 (by decide) (xq_clampG hg ⟨33, ?_⟩))
  have K := xq_i1 (post := post) (mc := 15) (ms := 235) (kc := 15) (ks := 235) (nc := nI C) (nt := nI T) (gp := nI 3) (tc := -1) (ep := 0) (tr := 0) (df := 0) (lt := -1) (dr := 0) (ad := 0) (fc := nI C) (re := 0) (cs := fun _ => 0) (cv := fun _ => 0) (le := fun _ => 0) (lc := fun _ => 0) (tp := fun _ => 0) (pn := fun _ => 0) (an := fun _ => 0) (kd := fun _ => 0) (vl := fun _ => 0) (rs := fun _ => 0) (er := fun _ => 0) (ev := fun _ => 0) hp 32 0 rfl
  rw [er_fl_0] at K
  exact K
theorem ew_g0 (C T : Nat) : ew_G C T 0 (er_x0 C T 3) := by
  refine ⟨-1, -1, 0, 0, fun _ => 0, fun _ => 0, er_fl 32, fun _ => 0, fun _ => 0, fun _ => 0, fun _ => 0, fun _ => 0, fun _ => 0, er_fl 4, er_fl 4, fun _ => 0, fun _ => 0, fun _ => 0, fun _ => 0, fun _ => 0, [], fun _ => [], ?_, ew_init⟩
  rw [er_cn_0]
  rfl
/-! the law's own small methods -/
theorem er_modm (x : Int32) (m : Nat) (h0 : 0 < m) (hm : m < 2 ^ 30) : (0 ≤ x - x / nI m * nI m → ∃ j, j < m ∧ x - x / nI m * nI m = nI j) ∧ (¬ 0 ≤ x - x / nI m * nI m → ∃ j, j < m ∧ x - x / nI m * nI m + nI m = nI j) := by
  have e := rem_toInt x (nI m)
  have em : (nI m).toInt = (m : Int) := nI_toInt (by omega)
  have b := tmod_bounds (a := x.toInt) (M := (m : Int)) (by omega)
  have e0 : (0 : Int32).toInt = 0 := by decide
  rw [em] at e
  rw [← e] at b
  generalize x - x / nI m * nI m = r at b ⊢
  constructor
  · intro h
    rw [Int32.le_iff_toInt_le, e0] at h
    refine ⟨r.toInt.toNat, by omega, Int32.toInt_inj.mp ?_⟩
    rw [nI_toInt (by omega)]
    omega
  · intro h
    rw [Int32.le_iff_toInt_le, e0] at h
    have hb : (r.toInt + m).bmod (2 ^ 32) = r.toInt + m := Int.bmod_eq_of_le (by omega) (by omega)
    refine ⟨(r.toInt + m).toNat, by omega, Int32.toInt_inj.mp ?_⟩
    rw [Int32.toInt_add, em, hb, nI_toInt (by omega)]
    omega
theorem xq_modN {q : Int32 → Prop} {p0 : Int32} (m : Nat) (h0 : 0 < m) (hm : m < 2 ^ 30) (H : ∀ j, j < m → q (nI j)) : wpL_mod q () p0 (nI m) := by
  have g := er_modm p0 m h0 hm
  refine ⟨nI_ne0 h0 (by omega), ?_⟩
  intro x e
  subst e
  refine br_c (fun z => ?_) (fun z => ?_)
  · obtain ⟨j, hj, e⟩ := g.1 z
    rw [e]
    exact H j hj
  · obtain ⟨j, hj, e⟩ := g.2 z
    rw [e]
    exact H j hj
theorem xq_cellL {q : Int32 → Prop} {L : Nat} {xs : Nat → Int32} (k : Nat) (hk : k < 2 ^ 31) (hL : L ≤ 260) (H : ∀ r, q r) : wpL_cell q L xs () (nI k) := by
  refine br_c (fun _ => H 0) (fun h => ⟨?_, H _⟩)
  have g : ¬ nI L ≤ nI k := h
  rw [nI_leI (by omega) hk] at g
  exact vp_in_nI (by omega) (by omega)
theorem er_ush (x : Int32) : ∃ a, a < 2 ^ 28 ∧ (x.toUInt32 >>> ((4 : Int32).toUInt32 &&& Int32.toUInt32 31)).toInt32 = nI a := by
  obtain ⟨n, hn, rfl⟩ := wb_of32 x
  exact ⟨n / 2 ^ 4, by omega, pk_ushrN hn 4 4 (by decide)⟩
/-! the law's loop -/
def er_J (J : Int32 → Int32 → Int32 → Int32 → Int32 → Int32 → Int32 → Int32 → Int32 → Int32 → Int32 → Int32 → Int32 → (Nat → Int32) → (Nat → Int32) → (Nat → Int32) → (Nat → Int32) → (Nat → Int32) → (Nat → Int32) → (Nat → Int32) → (Nat → Int32) → (Nat → Int32) → (Nat → Int32) → (Nat → Int32) → (Nat → Int32) → (Nat → Int32) → (Nat → Int32) → (Nat → Int32) → Prop) (x : Int32) (u : St2) : Prop := match u with
  | (nc, nt, gp, tc, ep, tr, df, lt, dr, ad, fc, re, cs, cv, cx, le, lc, tp, pn, an, kd, mn, sn, vl, rs, er, ev) => J x nc nt gp tc ep tr df lt dr ad fc re cs cv cx le lc tp pn an kd mn sn vl rs er ev
section
variable {C T e t : Nat} {tc lt ad re : Int32} {cs cv cx le lc tp pn an kd mn sn vl rs er ev : Nat → Int32} {own : Nat → Nat} {ch : List Nat} {lim : Nat → List Nat}
variable {P : Int32 → Prop} {L k kc ks : Nat} {xs : Nat → Int32} {x1 x2 x9 : Int32} {J : Int32 → Int32 → Int32 → Int32 → Int32 → Int32 → Int32 → Int32 → Int32 → Int32 → Int32 → Int32 → Int32 → (Nat → Int32) → (Nat → Int32) → (Nat → Int32) → (Nat → Int32) → (Nat → Int32) → (Nat → Int32) → (Nat → Int32) → (Nat → Int32) → (Nat → Int32) → (Nat → Int32) → (Nat → Int32) → (Nat → Int32) → (Nat → Int32) → (Nat → Int32) → (Nat → Int32) → Prop}
theorem ew_l232 (HJ : J (nI (k + 1)) (nI C) (nI T) (nI 3) tc (nI e) 0 0 lt 0 ad (nI (er_cn cs C)) re cs cv cx le lc tp pn an kd mn sn vl rs er ev) : wL_law_232 P L xs J x1 x2 (nI k) kc ks (nI C) (nI T) (nI 3) tc (nI e) 0 0 lt 0 ad (nI (er_cn cs C)) re cs cv cx le lc tp pn an kd mn sn vl rs er ev := by
  unfold wL_law_232
  exact xq_cok (br_f er_10 (nm_r (nI_1 k) HJ))
theorem ew_l110 (hT : T ≤ 4) (h : ew_I C T e tc cs cx le lc tp pn an kd mn sn own ch lim) (ht : t < T) (HJ : ∀ u', ew_G C T e u' → er_J J (nI (k + 1)) u') : wL_law_110 P L xs J x1 x2 (nI k) (nI t) x9 kc ks (nI C) (nI T) (nI 3) tc (nI e) 0 0 lt 0 ad (nI (er_cn cs C)) re cs cv cx le lc tp pn an kd mn sn vl rs er ev := by
  unfold wL_law_110
  obtain ⟨r, u', R, K⟩ := ew_push (y := x9) (lt := lt) (ad := ad) (re := re) (cv := cv) (vl := vl) (rs := rs) (er := er) (ev := ev) hT h ht
  have Q := HJ u' R
  obtain ⟨tc', lt', ad', re', cs', cv', cx', le', lc', tp', pn', an', kd', mn', sn', vl', rs', er', ev', own', ch', lim', rfl, h'⟩ := R
  exact K _ (ew_l232 Q)
theorem ew_l135 (hT : T ≤ 4) (h : ew_I C T e tc cs cx le lc tp pn an kd mn sn own ch lim) (ht : t < T) (HJ : ∀ u', ew_G C T e u' → er_J J (nI (k + 1)) u') : wL_law_135 P L xs J x1 x2 (nI k) (nI t) kc ks (nI C) (nI T) (nI 3) tc (nI e) 0 0 lt 0 ad (nI (er_cn cs C)) re cs cv cx le lc tp pn an kd mn sn vl rs er ev := by
  unfold wL_law_135
  obtain ⟨r, u', R, K⟩ := ew_pop (lt := lt) (ad := ad) (re := re) (cv := cv) (vl := vl) (rs := rs) (er := er) (ev := ev) hT h ht
  have Q := HJ u' R
  obtain ⟨tc', lt', ad', re', cs', cv', cx', le', lc', tp', pn', an', kd', mn', sn', vl', rs', er', ev', own', ch', lim', rfl, h'⟩ := R
  exact K _ (ew_l232 Q)
theorem ew_l165 (hC : C ≤ 32) (hT : T ≤ 4) (he : e < 2 ^ 30) (h : ew_I C T e tc cs cx le lc tp pn an kd mn sn own ch lim) (ht : t < T) (HJ : ∀ u', ew_G C T e u' → er_J J (nI (k + 1)) u') : wL_law_165 P L xs J x1 x2 (nI k) (nI t) kc ks (nI C) (nI T) (nI 3) tc (nI e) 0 0 lt 0 ad (nI (er_cn cs C)) re cs cv cx le lc tp pn an kd mn sn vl rs er ev := by
  unfold wL_law_165
  obtain ⟨r, u', R, K⟩ := ew_step (lt := lt) (ad := ad) (re := re) (cv := cv) (vl := vl) (rs := rs) (er := er) (ev := ev) hC hT he h ht
  have Q := HJ u' R
  obtain ⟨tc', lt', ad', re', cs', cv', cx', le', lc', tp', pn', an', kd', mn', sn', vl', rs', er', ev', own', ch', lim', rfl, h'⟩ := R
  exact K _ (ew_l232 Q)
theorem ew_lend {n : Nat} (hC : C ≤ 32) (hT : T ≤ 4) (he : e + 3 < 2 ^ 30) (h : ew_I C T e tc cs cx le lc tp pn an kd mn sn own ch lim) (hk : L ≤ k) (hk2 : k < 2 ^ 31) : wL_law_62 (fun r => r = 1) L xs (nI C) (nI T) kc ks (n + 1) (nI k) (nI C) (nI T) (nI 3) tc (nI e) 0 0 lt 0 ad (nI (er_cn cs C)) re cs cv cx le lc tp pn an kd mn sn vl rs er ev := by
  refine br_t (nI_le hk hk2) (ew_quiesce hC hT he h (fun e' u' _ _ R => ?_))
  obtain ⟨tc', lt', ad', re', cs', cv', cx', le', lc', tp', pn', an', kd', mn', sn', vl', rs', er', ev', own', ch', lim', rfl, h'⟩ := R
  exact rfl
theorem ew_lturn {n : Nat} (hC : C ≤ 32) (hT2 : 2 ≤ T) (hT : T ≤ 4) (he : e + 3 < 2 ^ 30) (h : ew_I C T e tc cs cx le lc tp pn an kd mn sn own ch lim) (hk : k < L) (hL : L ≤ 260) (HJ : ∀ e' u', e ≤ e' → e' ≤ e + 3 → ew_G C T e' u' → er_J (wL_law_62 (fun r => r = 1) L xs (nI C) (nI T) kc ks n) (nI (k + 1)) u') : wL_law_62 (fun r => r = 1) L xs (nI C) (nI T) kc ks (n + 1) (nI k) (nI C) (nI T) (nI 3) tc (nI e) 0 0 lt 0 ad (nI (er_cn cs C)) re cs cv cx le lc tp pn an kd mn sn vl rs er ev := by
  have HJ0 : ∀ u', ew_G C T e u' → er_J (wL_law_62 (fun r => r = 1) L xs (nI C) (nI T) kc ks n) (nI (k + 1)) u' := fun u' R => HJ e u' (Nat.le_refl e) (by omega) R
  have gL : ¬ nI L ≤ nI k := nI_ge hk (by omega)
  refine br_f gL ⟨vp_in_nI hk (by omega), ?_⟩
  intro x6 e6
  refine xq_modN 10 (by omega) (by omega) (fun r _ => ?_)
  refine ⟨nI_ne0 (by omega) (by omega), ?_⟩
  intro x8 e8 x9 e9
  obtain ⟨a, ha, ea⟩ := er_ush x6
  rw [ea, pk_rem (by omega) (by omega) (by omega)] at e8
  subst e8
  have ht : a % T < T := Nat.mod_lt a (by omega)
  have he' : e < 2 ^ 30 := by omega
  refine br_c (fun _ => ew_l110 hT h ht HJ0) (fun _ => br_c (fun _ => ew_l110 hT h ht HJ0) (fun _ => br_c (fun _ => ew_l135 hT h ht HJ0) (fun _ => br_c (fun _ => ew_l135 hT h ht HJ0) (fun _ => br_c (fun _ => ew_l165 hC hT he' h ht HJ0) (fun _ => br_c (fun _ => ew_l165 hC hT he' h ht HJ0) (fun _ => br_c (fun _ => ew_l165 hC hT he' h ht HJ0) (fun _ => br_c (fun _ => ?_) (fun _ => br_c (fun _ => ?_) (fun _ => ?_)))))))))
  · obtain ⟨r, u', R, K⟩ := ew_run (y := 1 + (((x6.toUInt32 >>> ((8 : Int32).toUInt32 &&& Int32.toUInt32 31)).toInt32) &&& 7)) (lt := lt) (ad := ad) (re := re) (cv := cv) (vl := vl) (rs := rs) (er := er) (ev := ev) hC hT he' h ht
    have Q := HJ0 u' R
    obtain ⟨tc', lt', ad', re', cs', cv', cx', le', lc', tp', pn', an', kd', mn', sn', vl', rs', er', ev', own', ch', lim', rfl, h'⟩ := R
    exact K _ (ew_l232 Q)
  · obtain ⟨r, u', e', ee, R, K⟩ := ew_try (lt := lt) (ad := ad) (re := re) (cv := cv) (vl := vl) (rs := rs) (er := er) (ev := ev) hC hT he' h
    have Q := HJ e' u' (by omega) (by omega) R
    obtain ⟨tc', lt', ad', re', cs', cv', cx', le', lc', tp', pn', an', kd', mn', sn', vl', rs', er', ev', own', ch', lim', rfl, h'⟩ := R
    exact K _ (ew_l232 Q)
  · refine ew_quiesce hC hT he h (fun e' u' g1 g2 R => ?_)
    have Q := HJ e' u' g1 g2 R
    obtain ⟨tc', lt', ad', re', cs', cv', cx', le', lc', tp', pn', an', kd', mn', sn', vl', rs', er', ev', own', ch', lim', rfl, h'⟩ := R
    exact br_f er_10 (ew_l232 Q)
end
end
section
theorem ew_lloop {C T L B kc ks : Nat} {xs : Nat → Int32} (hC : C ≤ 32) (hT2 : 2 ≤ T) (hT : T ≤ 4) (hL : L ≤ 260) (hB : B ≤ 300) (hLB : L ≤ B) : ∀ d k, k + d = B → ∀ e u, e ≤ 3 * k → ew_G C T e u → er_J (wL_law_62 (fun r => r = 1) L xs (nI C) (nI T) kc ks (d + 1)) (nI k) u := by
  intro d
  induction d with
  | zero =>
    intro k hk e u he R
    obtain ⟨tc, lt, ad, re, cs, cv, cx, le, lc, tp, pn, an, kd, mn, sn, vl, rs, er, ev, own, ch, lim, rfl, h⟩ := R
    exact ew_lend hC hT (by omega) h (by omega) (by omega)
  | succ d ih =>
    intro k hk e u he R
    obtain ⟨tc, lt, ad, re, cs, cv, cx, le, lc, tp, pn, an, kd, mn, sn, vl, rs, er, ev, own, ch, lim, rfl, h⟩ := R
    by_cases g : L ≤ k
    · exact ew_lend hC hT (by omega) h g (by omega)
    · exact ew_lturn hC hT2 hT (by omega) h (by omega) hL (fun e' u' g1 g2 R => ih (k + 1) (by omega) e' u' (by omega) R)
theorem i_vc (xs : Nat → Int32) (L : Nat) (hL : L ≤ 260) : wpL_law (fun r => r = 1) L xs := by
  unfold wpL_law
  refine xq_cellL 0 (by omega) hL (fun r1 => ?_)
  refine xq_modN 25 (by omega) (by omega) (fun j hj => ?_)
  intro x1 e1
  have e1' : x1 = nI (8 + j) := by rw [e1]; exact nI_add 8 j
  subst e1'
  refine xq_cellL 1 (by omega) hL (fun r4 => ?_)
  refine xq_modN 3 (by omega) (by omega) (fun i hi => ?_)
  intro x2 e2
  have e2' : x2 = nI (2 + i) := by rw [e2]; exact nI_add 2 i
  subst e2'
  refine xq_cellL 2 (by omega) hL (fun r7 => ?_)
  intro x3 e3
  obtain ⟨g, hg, eg⟩ := pk_andE r7 (m := 7) 3 (by decide)
  have e3' : x3 = nI (3 + g) := by rw [e3, eg]; exact nI_add 3 g
  subst e3'
  refine ⟨15, 235, by omega, by omega, ?_⟩
  refine xq_init (by omega) (by omega) (by omega) (by omega) hg ?_
  have K := ew_lloop (C := 8 + j) (T := 2 + i) (L := L) (B := L + 3) (kc := 1 + 15) (ks := 27 + 235) (xs := xs) (by omega) (by omega) (by omega) hL (by omega) (by omega) L 3 (by omega) 0 (er_x0 (8 + j) (2 + i) 3) (by omega) (ew_g0 _ _)
  exact xq_cok (br_f er_10 ⟨L + 1, K⟩)
end
