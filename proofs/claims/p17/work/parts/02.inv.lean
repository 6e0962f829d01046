/-! the picture: own c says whose a cell is: 0 FREE, 1 on the chain, 2 + k in limbo list k, 5 + t held by pushing thread t, 9 + t held by popping thread t that has still to retire it -/
def ew_st (o : Nat) : Int32 := if o = 0 then 0 else if o = 1 then 1 else if o < 5 then 2 else 1
def ew_up (f : Nat → Nat) (k v : Nat) : Nat → Nat := fun j => if j = k then v else f j
theorem ew_us {f : Nat → Nat} {k v : Nat} : ew_up f k v k = v := if_pos rfl
theorem ew_un {f : Nat → Nat} {k v j : Nat} (h : j ≠ k) : ew_up f k v j = f j := if_neg h
theorem ew_uc (f : Nat → Nat) (k v j : Nat) : (j = k ∧ ew_up f k v j = v) ∨ (j ≠ k ∧ ew_up f k v j = f j) := by
  by_cases e : j = k
  · exact Or.inl ⟨e, by rw [e, ew_us]⟩
  · exact Or.inr ⟨e, ew_un e⟩
theorem ew_vc (f : Nat → Int32) (k : Nat) (x : Int32) (j : Nat) : (j = k ∧ upd f k x j = x) ∨ (j ≠ k ∧ upd f k x j = f j) := by
  by_cases e : j = k
  · exact Or.inl ⟨e, by rw [e, pk_us]⟩
  · exact Or.inr ⟨e, pk_un e⟩
theorem ew_st0 : ew_st 0 = 0 := rfl
theorem ew_st1 : ew_st 1 = 1 := rfl
theorem ew_st2 {k : Nat} (h : k < 3) : ew_st (2 + k) = 2 := by
  unfold ew_st
  rw [if_neg (by omega), if_neg (by omega), if_pos (by omega)]
theorem ew_st5 {o : Nat} (h : 5 ≤ o) : ew_st o = 1 := by
  unfold ew_st
  rw [if_neg (by omega), if_neg (by omega), if_neg (by omega)]
theorem ew_stn {o : Nat} (h : o ≠ 0) : ¬ ew_st o = 0 := by
  unfold ew_st
  rw [if_neg h]
  by_cases h1 : o = 1
  · rw [if_pos h1]; decide
  · rw [if_neg h1]
    by_cases h2 : o < 5
    · rw [if_pos h2]; decide
    · rw [if_neg h2]; decide
theorem ew_stz {o : Nat} (h : ew_st o = 0) : o = 0 := by
  by_cases e : o = 0
  · exact e
  · exact absurd h (ew_stn e)
/-! the chain -/
def ew_ch (N : Nat → Int32) : List Nat → Int32 → Prop
  | [], x => x = -1
  | c :: l, x => x = nI c ∧ ew_ch N l (N c)
theorem ew_ch_upd {N : Nat → Int32} {c : Nat} {y : Int32} : ∀ (l : List Nat) (x : Int32), c ∉ l → ew_ch N l x → ew_ch (upd N c y) l x := by
  intro l
  induction l with
  | nil => exact fun x _ h => h
  | cons d l ih =>
    intro x hc h
    have hd : d ≠ c := fun e => hc (by rw [e]; exact List.mem_cons_self)
    refine ⟨h.1, ?_⟩
    rw [pk_un hd]
    exact ih _ (fun z => hc (List.mem_cons_of_mem d z)) h.2
theorem ew_m1 {n : Nat} (h : n < 2 ^ 31) : ¬ nI n = -1 := by
  intro e
  have g := nI_toInt h
  rw [e] at g
  have e1 : (-1 : Int32).toInt = -1 := by decide
  omega
theorem ew_ch_nil {N : Nat → Int32} {l : List Nat} (h : ew_ch N l (-1)) (hl : ∀ c, c ∈ l → c < 2 ^ 31) : l = [] := by
  cases l with
  | nil => rfl
  | cons c l => exact absurd h.1.symm (ew_m1 (hl c List.mem_cons_self))
theorem ew_ch_cons {N : Nat → Int32} {l : List Nat} {c : Nat} (hc : c < 2 ^ 31) (h : ew_ch N l (nI c)) (hl : ∀ d, d ∈ l → d < 2 ^ 31) : ∃ l', l = c :: l' ∧ ew_ch N l' (N c) := by
  cases l with
  | nil => exact absurd h (ew_m1 hc)
  | cons d l =>
    have e : c = d := (nI_eq hc (hl d List.mem_cons_self)).mp h.1
    subst e
    exact ⟨l, rfl, h.2⟩
theorem ew_ch_ne {N : Nat → Int32} {l : List Nat} {x : Int32} (hx : ¬ x = -1) (h : ew_ch N l x) : ∃ c l', l = c :: l' ∧ x = nI c ∧ ew_ch N l' (N c) := by
  cases l with
  | nil => exact absurd h hx
  | cons d l => exact ⟨d, l, rfl, h.1, h.2⟩
/-! counting -/
theorem ew_cn_congr {f g : Nat → Int32} : ∀ n, (∀ c, c < n → (f c = 0 ↔ g c = 0)) → er_cn f n = er_cn g n := by
  intro n
  induction n with
  | zero => exact fun _ => rfl
  | succ n ih =>
    intro h
    show er_cn f n + (if f n = 0 then 1 else 0) = er_cn g n + (if g n = 0 then 1 else 0)
    rw [ih fun c hc => h c (by omega)]
    have e := h n (Nat.lt_succ_self n)
    by_cases q : f n = 0
    · rw [if_pos q, if_pos (e.mp q)]
    · rw [if_neg q, if_neg fun z => q (e.mpr z)]
theorem ew_cnl {C : Nat} : ∀ l : List Nat, l.Nodup → (∀ c, c ∈ l → c < C) → ∃ f : Nat → Int32, er_cn f C + l.length = C ∧ ∀ c, (f c = 0 ↔ c ∉ l) := by
  intro l
  induction l with
  | nil => exact fun _ _ => ⟨fun _ => 0, er_cn_0 C, fun c => ⟨fun _ h => (nomatch h), fun _ => rfl⟩⟩
  | cons d l ih =>
    intro hn hl
    have hn' := List.nodup_cons.mp hn
    obtain ⟨f, h1, h2⟩ := ih hn'.2 fun c hc => hl c (List.mem_cons_of_mem d hc)
    have h0 : f d = 0 := (h2 d).mpr hn'.1
    have hx : ¬ (1 : Int32) = 0 := by decide
    refine ⟨upd f d 1, ?_, fun c => ?_⟩
    · have t := er_cn_take (hl d List.mem_cons_self) h0 hx
      rw [List.length_cons]
      omega
    · rcases ew_vc f d 1 c with ⟨e, u⟩ | ⟨e, u⟩
      · rw [u]
        exact ⟨fun z => absurd z hx, fun z => absurd (by rw [e]; exact List.mem_cons_self) z⟩
      · rw [u, h2 c]
        exact ⟨fun z w => z ((List.mem_cons.mp w).resolve_left e), fun z w => z (List.mem_cons_of_mem d w)⟩
theorem ew_len {C : Nat} {l : List Nat} (hn : l.Nodup) (hl : ∀ c, c ∈ l → c < C) : l.length ≤ C := by
  obtain ⟨f, h1, _⟩ := ew_cnl l hn hl
  omega
/-! a thread: p its phase, k its kind -/
def ew_PA (e : Nat) (b a : Int32) : Prop := b = 1 ∧ ∃ n, a = nI n ∧ (n = e ∨ n + 1 = e)
def ew_HU (C t : Nat) (own : Nat → Nat) (m : Int32) (c : Nat) : Prop := c < C ∧ m = nI c ∧ own c = 5 + t
def ew_HO (C t : Nat) (own : Nat → Nat) (m : Int32) (c : Nat) : Prop := c < C ∧ m = nI c ∧ own c = 9 + t
def ew_PC (C e : Nat) (own : Nat → Nat) (a m : Int32) (c : Nat) : Prop := c < C ∧ m = nI c ∧ own c ≠ 0 ∧ (own c < 5 ∨ 9 ≤ own c) ∧ (own c = 2 + (e + 1) % 3 → ¬ a = nI e)
def ew_TA (p k : Nat) : Prop := p ≤ 8 ∧ k ≤ 2 ∧ (1 ≤ p → 1 ≤ k) ∧ (p = 2 → k = 1) ∧ (p = 4 → k = 1) ∧ (p = 5 → k = 2) ∧ (p = 7 → k = 2)
def ew_TH (C e t : Nat) (own : Nat → Nat) (N : Nat → Int32) (p k : Nat) (b a m z : Int32) : Prop :=
  ew_TA p k ∧ (p ≤ 1 → b = 0) ∧ (2 ≤ p → ew_PA e b a) ∧
  (k = 1 → (p = 3 ∨ p = 4 ∨ p = 6) → ∃ c, ew_HU C t own m c ∧ (p = 6 → N c = z)) ∧
  (k = 2 → (p = 5 ∨ p = 6) → ∃ c, ew_PC C e own a m c ∧ (p = 6 → own c = 1 → N c = z)) ∧
  (p = 7 → ∃ c, ew_HO C t own m c)
theorem ew_TH_mono {C e t : Nat} {own own' : Nat → Nat} {N N' : Nat → Int32} {p k : Nat} {b a m z : Int32}
    (h1 : ∀ c, c < C → own c = 5 + t → own' c = 5 + t ∧ N' c = N c)
    (h2 : ∀ c, c < C → own c = 9 + t → own' c = 9 + t)
    (h3 : ∀ c, c < C → own c ≠ 0 → (own c < 5 ∨ 9 ≤ own c) → own' c ≠ 0 ∧ (own' c < 5 ∨ 9 ≤ own' c) ∧ (own' c = 2 + (e + 1) % 3 → own c = 2 + (e + 1) % 3) ∧ (own' c = 1 → own c = 1 ∧ N' c = N c))
    (h : ew_TH C e t own N p k b a m z) : ew_TH C e t own' N' p k b a m z := by
  obtain ⟨g1, g2, g3, g4, g5, g6⟩ := h
  refine ⟨g1, g2, g3, fun x y => ?_, fun x y => ?_, fun x => ?_⟩
  · obtain ⟨c, ⟨q1, q2, q3⟩, q⟩ := g4 x y
    refine ⟨c, ⟨q1, q2, (h1 c q1 q3).1⟩, fun w => ?_⟩
    rw [(h1 c q1 q3).2]
    exact q w
  · obtain ⟨c, ⟨q1, q2, q3, q4, q5⟩, q⟩ := g5 x y
    obtain ⟨r1, r2, r3, r4⟩ := h3 c q1 q3 q4
    refine ⟨c, ⟨q1, q2, r1, r2, fun w => q5 (r3 w)⟩, fun w o => ?_⟩
    rw [(r4 o).2]
    exact q w (r4 o).1
  · obtain ⟨c, q1, q2, q3⟩ := g6 x
    exact ⟨c, q1, q2, h2 c q1 q3⟩
/-! the whole picture -/
def ew_LM (C : Nat) (own : Nat → Nat) (E L : Nat → Int32) (lim : Nat → List Nat) (k : Nat) : Prop :=
  L k = nI (lim k).length ∧ (lim k).Nodup ∧ (∀ c, c ∈ lim k ↔ c < C ∧ own c = 2 + k) ∧ (∀ i c, (lim k)[i]? = some c → E (k * 32 + i) = nI c)
def ew_RV (T : Nat) (P K M : Nat → Int32) (own : Nat → Nat) (c : Nat) : Prop :=
  ∃ t, t < T ∧ M t = nI c ∧ ((own c = 5 + t ∧ K t = nI 1 ∧ (P t = nI 3 ∨ P t = nI 4 ∨ P t = nI 6)) ∨ (own c = 9 + t ∧ P t = nI 7))
def ew_TT (C T e : Nat) (own : Nat → Nat) (N P B A K M Z : Nat → Int32) : Prop :=
  ∀ t, t < T → ∃ p k, P t = nI p ∧ K t = nI k ∧ ew_TH C e t own N p k (B t) (A t) (M t) (Z t)
def ew_RR (C T : Nat) (own : Nat → Nat) (P K M : Nat → Int32) : Prop := ∀ c, c < C → 5 ≤ own c → ew_RV T P K M own c
def ew_CC (C : Nat) (own : Nat → Nat) (top : Int32) (S N : Nat → Int32) (ch : List Nat) : Prop :=
  (∀ c, c < C → S c = ew_st (own c)) ∧ ew_ch N ch top ∧ ch.Nodup ∧ (∀ c, c ∈ ch ↔ c < C ∧ own c = 1)
def ew_I (C T e : Nat) (top : Int32) (S N E L P B A K M Z : Nat → Int32) (own : Nat → Nat) (ch : List Nat) (lim : Nat → List Nat) : Prop :=
  ew_CC C own top S N ch ∧ (∀ k, k < 3 → ew_LM C own E L lim k) ∧ ew_TT C T e own N P B A K M Z ∧ ew_RR C T own P K M
theorem ew_tt {C T e t p k : Nat} {own own' : Nat → Nat} {N N' P B A K M Z : Nat → Int32} {b a m z : Int32}
    (h : ew_TT C T e own N P B A K M Z)
    (hm : ∀ t', t' < T → t' ≠ t → ∀ p k b a m z, ew_TH C e t' own N p k b a m z → ew_TH C e t' own' N' p k b a m z)
    (ht : ew_TH C e t own' N' p k b a m z) : ew_TT C T e own' N' (upd P t (nI p)) (upd B t b) (upd A t a) (upd K t (nI k)) (upd M t m) (upd Z t z) := by
  intro s hs
  by_cases x : s = t
  · subst x
    exact ⟨p, k, pk_us, pk_us, by rw [pk_us, pk_us, pk_us, pk_us]; exact ht⟩
  · obtain ⟨p', k', h1, h2, h3⟩ := h s hs
    exact ⟨p', k', by rw [pk_un x]; exact h1, by rw [pk_un x]; exact h2, by rw [pk_un x, pk_un x, pk_un x, pk_un x]; exact hm s hs x _ _ _ _ _ _ h3⟩
theorem ew_rr {C T t p k : Nat} {own own' : Nat → Nat} {P K M : Nat → Int32} {m : Int32} (h : ew_RR C T own P K M) (ht : t < T)
    (h1 : ∀ c, c < C → (own' c = 5 + t ∨ own' c = 9 + t) → m = nI c ∧ ((own' c = 5 + t ∧ k = 1 ∧ (p = 3 ∨ p = 4 ∨ p = 6)) ∨ (own' c = 9 + t ∧ p = 7)))
    (h2 : ∀ c, c < C → 5 ≤ own' c → ¬ (own' c = 5 + t ∨ own' c = 9 + t) → own' c = own c) : ew_RR C T own' (upd P t (nI p)) (upd K t (nI k)) (upd M t m) := by
  intro c hc h5
  by_cases x : own' c = 5 + t ∨ own' c = 9 + t
  · obtain ⟨g1, g2⟩ := h1 c hc x
    refine ⟨t, ht, by rw [pk_us]; exact g1, ?_⟩
    rw [pk_us, pk_us]
    rcases g2 with ⟨a, b, d⟩ | ⟨a, b⟩
    · refine Or.inl ⟨a, by rw [b], ?_⟩
      rcases d with d | d | d
      · exact Or.inl (by rw [d])
      · exact Or.inr (Or.inl (by rw [d]))
      · exact Or.inr (Or.inr (by rw [d]))
    · exact Or.inr ⟨a, by rw [b]⟩
  · have e := h2 c hc h5 x
    obtain ⟨s, hs, g1, g2⟩ := h c hc (by omega)
    have st : s ≠ t := by
      intro w
      subst w
      rcases g2 with g | g
      · exact x (Or.inl (by omega))
      · exact x (Or.inr (by omega))
    refine ⟨s, hs, by rw [pk_un st]; exact g1, ?_⟩
    rw [pk_un st, pk_un st, e]
    exact g2
theorem ew_hu {C T t c : Nat} {own : Nat → Nat} {P K M : Nat → Int32} (h : ew_RR C T own P K M) (hT : T ≤ 4) (ht : t < T) (hc : c < C) (ho : own c = 5 + t) : M t = nI c ∧ K t = nI 1 ∧ (P t = nI 3 ∨ P t = nI 4 ∨ P t = nI 6) := by
  obtain ⟨s, hs, g1, ⟨g2, g3⟩ | ⟨g2, g3⟩⟩ := h c hc (by omega)
  · have e : s = t := by omega
    subst e
    exact ⟨g1, g3⟩
  · omega
theorem ew_ho {C T t c : Nat} {own : Nat → Nat} {P K M : Nat → Int32} (h : ew_RR C T own P K M) (hT : T ≤ 4) (ht : t < T) (hc : c < C) (ho : own c = 9 + t) : M t = nI c ∧ P t = nI 7 := by
  obtain ⟨s, hs, g1, ⟨g2, g3⟩ | ⟨g2, g3⟩⟩ := h c hc (by omega)
  · omega
  · have e : s = t := by omega
    subst e
    exact ⟨g1, g3⟩
theorem ew_self (f : Nat → Int32) (k : Nat) : upd f k (f k) = f := by
  funext j
  rcases ew_vc f k (f k) j with ⟨e, u⟩ | ⟨e, u⟩
  · rw [u, e]
  · exact u
/-! a thread's own fields change, the cells don't -/
theorem ew_loc {C T e t p k p0 k0 : Nat} {top : Int32} {S N E L P B A K M Z : Nat → Int32} {own : Nat → Nat} {ch : List Nat} {lim : Nat → List Nat} {b a m z : Int32}
    (h : ew_I C T e top S N E L P B A K M Z own ch lim) (hT : T ≤ 4) (ht : t < T) (hp : P t = nI p0) (hk : K t = nI k0) (b0 : p0 < 2 ^ 31) (b1 : k0 < 2 ^ 31)
    (hh : ew_TH C e t own N p k b a m z)
    (hu : k0 = 1 → (p0 = 3 ∨ p0 = 4 ∨ p0 = 6) → k = 1 ∧ (p = 3 ∨ p = 4 ∨ p = 6) ∧ m = M t)
    (ho : p0 = 7 → p = 7 ∧ m = M t) :
    ew_I C T e top S N E L (upd P t (nI p)) (upd B t b) (upd A t a) (upd K t (nI k)) (upd M t m) (upd Z t z) own ch lim := by
  obtain ⟨h1, h2, h3, h4⟩ := h
  refine ⟨h1, h2, ew_tt h3 (fun _ _ _ _ _ _ _ _ _ g => g) hh, ew_rr h4 ht ?_ (fun _ _ _ _ => rfl)⟩
  intro c hc x
  rcases x with x | x
  · obtain ⟨g1, g2, g3⟩ := ew_hu h4 hT ht hc x
    rw [hk, nI_eq b1 (by omega)] at g2
    rw [hp, nI_eq b0 (by omega), nI_eq b0 (by omega), nI_eq b0 (by omega)] at g3
    obtain ⟨q1, q2, q3⟩ := hu g2 g3
    exact ⟨by rw [q3]; exact g1, Or.inl ⟨x, q1, q2⟩⟩
  · obtain ⟨g1, g2⟩ := ew_ho h4 hT ht hc x
    rw [hp, nI_eq b0 (by omega)] at g2
    obtain ⟨q1, q2⟩ := ho g2
    exact ⟨by rw [q2]; exact g1, Or.inr ⟨x, q1⟩⟩
