/-! the steps, one by one, over the picture -/
theorem ew_mono1 {C e t' x v : Nat} {own : Nat → Nat} {N N' : Nat → Int32} (hN : ∀ c, c ≠ x → N' c = N c) (hx1 : own x ≠ 5 + t') (hx2 : own x ≠ 9 + t')
    (hx3 : own x ≠ 0 → (own x < 5 ∨ 9 ≤ own x) → v ≠ 0 ∧ (v < 5 ∨ 9 ≤ v) ∧ (v = 2 + (e + 1) % 3 → own x = 2 + (e + 1) % 3) ∧ (v = 1 → own x = 1 ∧ N' x = N x)) :
    ∀ p k b a m z, ew_TH C e t' own N p k b a m z → ew_TH C e t' (ew_up own x v) N' p k b a m z := by
  intro p k b a m z h
  refine ew_TH_mono (fun c _ o => ?_) (fun c _ o => ?_) (fun c _ o1 o2 => ?_) h
  · rcases ew_uc own x v c with ⟨e, u⟩ | ⟨e, u⟩
    · subst e; exact absurd o hx1
    · exact ⟨by rw [u]; exact o, hN c e⟩
  · rcases ew_uc own x v c with ⟨e, u⟩ | ⟨e, u⟩
    · subst e; exact absurd o hx2
    · rw [u]; exact o
  · rcases ew_uc own x v c with ⟨e, u⟩ | ⟨e, u⟩
    · subst e; rw [u]; exact hx3 o1 o2
    · rw [u]; exact ⟨o1, o2, fun w => w, fun w => ⟨w, hN c e⟩⟩
theorem ew_lm_own {C k : Nat} {own own' : Nat → Nat} {E L : Nat → Int32} {lim : Nat → List Nat} (h : ew_LM C own E L lim k) (ho : ∀ c, c < C → (own' c = 2 + k ↔ own c = 2 + k)) : ew_LM C own' E L lim k := by
  obtain ⟨h1, h2, h3, h4⟩ := h
  refine ⟨h1, h2, fun c => ?_, h4⟩
  rw [h3 c]
  exact ⟨fun w => ⟨w.1, (ho c w.1).mpr w.2⟩, fun w => ⟨w.1, (ho c w.1).mp w.2⟩⟩
/-- what the step of thread t finds -/
theorem ew_at {C T e t p0 : Nat} {top : Int32} {S N E L P B A K M Z : Nat → Int32} {own : Nat → Nat} {ch : List Nat} {lim : Nat → List Nat}
    (h : ew_I C T e top S N E L P B A K M Z own ch lim) (ht : t < T) (hp : P t = nI p0) (b0 : p0 < 2 ^ 31) : ∃ k, K t = nI k ∧ k ≤ 2 ∧ ew_TH C e t own N p0 k (B t) (A t) (M t) (Z t) := by
  obtain ⟨p, k, h1, h2, h3⟩ := h.2.2.1 t ht
  have e : p = p0 := (nI_eq (by have := h3.1.1; omega) b0).mp (h1.symm.trans hp)
  subst e
  exact ⟨k, h2, h3.1.2.1, h3⟩
section T
variable {C T e t k : Nat} {top : Int32} {S N E L P B A K M Z : Nat → Int32} {own : Nat → Nat} {ch : List Nat} {lim : Nat → List Nat}
theorem ew_s_start {q : Nat} (h : ew_I C T e top S N E L P B A K M Z own ch lim) (hT : T ≤ 4) (ht : t < T) (hp : P t = nI 0) (hq : q = 1 ∨ q = 2) :
    ew_I C T e top S N E L (upd P t (nI 1)) B A (upd K t (nI q)) (upd M t (-1)) (upd Z t (-1)) own ch lim := by
  obtain ⟨k, hk, k2, hh⟩ := ew_at h ht hp (by omega)
  have j := ew_loc (b := B t) (a := A t) (m := -1) (z := -1) (p := 1) (k := q) h hT ht hp hk (by omega) (by omega)
    ⟨by unfold ew_TA; omega, fun _ => hh.2.1 (by omega), fun x => by omega, fun _ x => by omega, fun _ x => by omega, fun x => by omega⟩ (fun _ x => by omega) (fun x => by omega)
  rw [ew_self B t, ew_self A t] at j
  exact j
theorem ew_s_pin (h : ew_I C T e top S N E L P B A K M Z own ch lim) (hT : T ≤ 4) (ht : t < T) (hp : P t = nI 1) (hk : K t = nI k) (hk2 : k ≤ 2) {q : Nat} (hq : q = if k = 1 then 2 else 3) :
    ew_I C T e top S N E L (upd P t (nI q)) (upd B t 1) (upd A t (nI e)) K M Z own ch lim := by
  obtain ⟨k', hk', k2, hh⟩ := ew_at h ht hp (by omega)
  have ek : k' = k := (nI_eq (by omega) (by omega)).mp (hk'.symm.trans hk)
  subst ek
  have k1 := hh.1.2.2.1 (by omega)
  have q3 : (k' = 1 ∧ q = 2) ∨ (k' = 2 ∧ q = 3) := by
    by_cases c : k' = 1
    · rw [if_pos c] at hq; exact Or.inl ⟨c, hq⟩
    · rw [if_neg c] at hq; exact Or.inr ⟨by omega, hq⟩
  have j := ew_loc (b := 1) (a := nI e) (m := M t) (z := Z t) (p := q) (k := k') h hT ht hp hk (by omega) (by omega)
    ⟨by unfold ew_TA; omega, fun x => by omega, fun _ => ⟨rfl, e, rfl, Or.inl rfl⟩, fun _ x => by omega, fun _ x => by omega, fun x => by omega⟩ (fun _ x => by omega) (fun x => by omega)
  rw [← hk, ew_self K t, ew_self M t, ew_self Z t] at j
  exact j
theorem ew_s_full (h : ew_I C T e top S N E L P B A K M Z own ch lim) (hT : T ≤ 4) (ht : t < T) (hp : P t = nI 2) :
    ew_I C T e top S N E L (upd P t (nI 8)) B A K M Z own ch lim := by
  obtain ⟨k, hk, k2, hh⟩ := ew_at h ht hp (by omega)
  have k1 := hh.1.2.2.1 (by omega)
  have j := ew_loc (b := B t) (a := A t) (m := M t) (z := Z t) (p := 8) (k := k) h hT ht hp hk (by omega) (by omega)
    ⟨by unfold ew_TA; omega, fun x => by omega, fun _ => hh.2.2.1 (by omega), fun _ x => by omega, fun _ x => by omega, fun x => by omega⟩ (fun _ x => by omega) (fun x => by omega)
  rw [← hk, ew_self K t, ew_self M t, ew_self Z t, ew_self B t, ew_self A t] at j
  exact j
theorem ew_s_alloc {c : Nat} (h : ew_I C T e top S N E L P B A K M Z own ch lim) (hT : T ≤ 4) (ht : t < T) (hp : P t = nI 2) (hc : c < C) (h0 : S c = 0) :
    ew_I C T e top (upd S c 1) (upd N c (-1)) E L (upd P t (nI 3)) B A K (upd M t (nI c)) Z (ew_up own c (5 + t)) ch lim := by
  obtain ⟨k, hk, k2, hh⟩ := ew_at h ht hp (by omega)
  have k1 : k = 1 := hh.1.2.2.2.1 rfl
  subst k1
  obtain ⟨⟨a1, a2, a3, a4⟩, h2, h3, h4⟩ := h
  have o0 : own c = 0 := ew_stz (by rw [← a1 c hc]; exact h0)
  have nc : c ∉ ch := fun w => by have := ((a4 c).mp w).2; omega
  have j3 := ew_tt (t := t) (own' := ew_up own c (5 + t)) (N' := upd N c (-1)) (p := 3) (k := 1) (b := B t) (a := A t) (m := nI c) (z := Z t) h3
    (fun t' _ _ => ew_mono1 (fun d hd => pk_un hd) (by omega) (by omega) (fun w => absurd o0 w))
    ⟨by unfold ew_TA; omega, fun x => by omega, fun _ => hh.2.2.1 (by omega), fun _ _ => ⟨c, ⟨hc, rfl, ew_us⟩, fun x => by omega⟩, fun _ x => by omega, fun x => by omega⟩
  rw [← hk, ew_self K t, ew_self Z t, ew_self B t, ew_self A t] at j3
  have j4 := ew_rr (t := t) (own' := ew_up own c (5 + t)) (p := 3) (k := 1) (m := nI c) h4 ht (fun d hd w => by
      rcases ew_uc own c (5 + t) d with ⟨x, u⟩ | ⟨x, u⟩
      · exact ⟨by rw [x], Or.inl ⟨u, rfl, Or.inl rfl⟩⟩
      · rw [u] at w
        rcases w with w | w
        · have g := (ew_hu h4 hT ht hd w).2.2
          rw [hp, nI_eq (by omega) (by omega), nI_eq (by omega) (by omega), nI_eq (by omega) (by omega)] at g
          omega
        · have g := (ew_ho h4 hT ht hd w).2
          rw [hp, nI_eq (by omega) (by omega)] at g
          omega)
    (fun d hd w1 w2 => by
      rcases ew_uc own c (5 + t) d with ⟨x, u⟩ | ⟨x, u⟩
      · exact absurd (Or.inl u) w2
      · exact u)
  rw [← hk, ew_self K t] at j4
  refine ⟨⟨fun d hd => ?_, ew_ch_upd ch top nc a2, a3, fun d => ?_⟩, fun q hq => ew_lm_own (h2 q hq) fun d hd => ?_, j3, j4⟩
  · rcases ew_uc own c (5 + t) d with ⟨x, u⟩ | ⟨x, u⟩
    · rw [u, x, pk_us, ew_st5 (by omega)]
    · rw [u, pk_un x]; exact a1 d hd
  · rw [a4 d]
    rcases ew_uc own c (5 + t) d with ⟨x, u⟩ | ⟨x, u⟩
    · rw [u, x, o0]; omega
    · rw [u]
  · rcases ew_uc own c (5 + t) d with ⟨x, u⟩ | ⟨x, u⟩
    · rw [u, x, o0]; omega
    · rw [u]
theorem ew_s_rtPush (h : ew_I C T e top S N E L P B A K M Z own ch lim) (hT : T ≤ 4) (ht : t < T) (hp : P t = nI 3) (hk : K t = nI 1) :
    ew_I C T e top S N E L (upd P t (nI 4)) B A K M (upd Z t top) own ch lim := by
  obtain ⟨k', hk', k2, hh⟩ := ew_at h ht hp (by omega)
  have ek : k' = 1 := (nI_eq (by omega) (by omega)).mp (hk'.symm.trans hk)
  subst ek
  obtain ⟨c, hc, _⟩ := hh.2.2.2.1 rfl (Or.inl rfl)
  have j := ew_loc (b := B t) (a := A t) (m := M t) (z := top) (p := 4) (k := 1) h hT ht hp hk (by omega) (by omega)
    ⟨by unfold ew_TA; omega, fun x => by omega, fun _ => hh.2.2.1 (by omega), fun _ _ => ⟨c, hc, fun x => by omega⟩, fun _ x => by omega, fun x => by omega⟩ (fun _ _ => ⟨rfl, Or.inr (Or.inl rfl), rfl⟩) (fun x => by omega)
  rw [← hk, ew_self K t, ew_self M t, ew_self B t, ew_self A t] at j
  exact j
theorem ew_s_rtNil {m : Int32} (h : ew_I C T e top S N E L P B A K M Z own ch lim) (hT : T ≤ 4) (ht : t < T) (hp : P t = nI 3) (hk : K t = nI k) (hk1 : k ≠ 1) (hk2 : k ≤ 2) :
    ew_I C T e top S N E L (upd P t (nI 8)) B A K (upd M t m) Z own ch lim := by
  obtain ⟨k', hk', k2, hh⟩ := ew_at h ht hp (by omega)
  have ek : k' = k := (nI_eq (by omega) (by omega)).mp (hk'.symm.trans hk)
  subst ek
  have k3 := hh.1.2.2.1 (by omega)
  have j := ew_loc (b := B t) (a := A t) (m := m) (z := Z t) (p := 8) (k := k') h hT ht hp hk (by omega) (by omega)
    ⟨by unfold ew_TA; omega, fun x => by omega, fun _ => hh.2.2.1 (by omega), fun _ x => by omega, fun _ x => by omega, fun x => by omega⟩ (fun x _ => absurd x hk1) (fun x => by omega)
  rw [← hk, ew_self K t, ew_self Z t, ew_self B t, ew_self A t] at j
  exact j
theorem ew_s_rtPop (h : ew_I C T e top S N E L P B A K M Z own ch lim) (hT : T ≤ 4) (ht : t < T) (hp : P t = nI 3) (hk : K t = nI k) (hk1 : k ≠ 1) (hk2 : k ≤ 2) (hx : ¬ top = -1) :
    ew_I C T e top S N E L (upd P t (nI 5)) B A K (upd M t top) Z own ch lim := by
  obtain ⟨k', hk', k2, hh⟩ := ew_at h ht hp (by omega)
  have ek : k' = k := (nI_eq (by omega) (by omega)).mp (hk'.symm.trans hk)
  subst ek
  have k3 := hh.1.2.2.1 (by omega)
  obtain ⟨c, l, e1, e2, _⟩ := ew_ch_ne hx h.1.2.1
  have hc := (h.1.2.2.2 c).mp (by rw [e1]; exact List.mem_cons_self)
  have j := ew_loc (b := B t) (a := A t) (m := top) (z := Z t) (p := 5) (k := k') h hT ht hp hk (by omega) (by omega)
    ⟨by unfold ew_TA; omega, fun x => by omega, fun _ => hh.2.2.1 (by omega), fun x => absurd x hk1, fun _ _ => ⟨c, ⟨hc.1, e2, by omega, by omega, fun w => by omega⟩, fun x => by omega⟩, fun x => by omega⟩ (fun x _ => absurd x hk1) (fun x => by omega)
  rw [← hk, ew_self K t, ew_self Z t, ew_self B t, ew_self A t] at j
  exact j
theorem ew_s_link {c : Nat} (h : ew_I C T e top S N E L P B A K M Z own ch lim) (hT : T ≤ 4) (ht : t < T) (hp : P t = nI 4) (hc : c < C) (hm : M t = nI c) (ho : own c = 5 + t) :
    ew_I C T e top S (upd N c (Z t)) E L (upd P t (nI 6)) B A K M Z own ch lim := by
  obtain ⟨k, hk, k2, hh⟩ := ew_at h ht hp (by omega)
  have k1 : k = 1 := hh.1.2.2.2.2.1 rfl
  subst k1
  obtain ⟨⟨a1, a2, a3, a4⟩, h2, h3, h4⟩ := h
  have nc : c ∉ ch := fun w => by have := ((a4 c).mp w).2; omega
  have j3 := ew_tt (t := t) (own' := own) (N' := upd N c (Z t)) (p := 6) (k := 1) (b := B t) (a := A t) (m := M t) (z := Z t) h3
    (fun t' ht' nt p k b a m z g => ew_TH_mono (fun d _ o => ⟨o, pk_un (fun w => by subst w; omega)⟩) (fun d _ o => o) (fun d _ o1 o2 => ⟨o1, o2, fun w => w, fun w => ⟨w, pk_un (fun w => by subst w; omega)⟩⟩) g)
    ⟨by unfold ew_TA; omega, fun x => by omega, fun _ => hh.2.2.1 (by omega), fun _ _ => ⟨c, ⟨hc, hm, ho⟩, fun _ => pk_us⟩, fun x => by omega, fun x => by omega⟩
  rw [← hk, ew_self K t, ew_self Z t, ew_self B t, ew_self A t, ew_self M t] at j3
  have j4 := ew_rr (t := t) (own' := own) (p := 6) (k := 1) (m := M t) h4 ht (fun d hd w => by
      rcases w with w | w
      · exact ⟨(ew_hu h4 hT ht hd w).1, Or.inl ⟨w, rfl, Or.inr (Or.inr rfl)⟩⟩
      · have g := (ew_ho h4 hT ht hd w).2
        rw [hp, nI_eq (by omega) (by omega)] at g
        omega)
    (fun _ _ _ _ => rfl)
  rw [← hk, ew_self K t, ew_self M t] at j4
  exact ⟨⟨a1, ew_ch_upd ch top nc a2, a3, a4⟩, h2, j3, j4⟩
theorem ew_s_read {c : Nat} (h : ew_I C T e top S N E L P B A K M Z own ch lim) (hT : T ≤ 4) (ht : t < T) (hp : P t = nI 5) (hm : M t = nI c) (hC : C ≤ 32) (hc : c < C) :
    ew_I C T e top S N E L (upd P t (nI 6)) B A K M (upd Z t (N c)) own ch lim := by
  obtain ⟨k, hk, k2, hh⟩ := ew_at h ht hp (by omega)
  have k1 : k = 2 := hh.1.2.2.2.2.2.1 rfl
  subst k1
  obtain ⟨d, hd, _⟩ := hh.2.2.2.2.1 rfl (Or.inl rfl)
  have hd1 := hd.1
  have ed : d = c := (nI_eq (by omega) (by omega)).mp (hd.2.1.symm.trans hm)
  subst ed
  have j := ew_loc (b := B t) (a := A t) (m := M t) (z := N d) (p := 6) (k := 2) h hT ht hp hk (by omega) (by omega)
    ⟨by unfold ew_TA; omega, fun x => by omega, fun _ => hh.2.2.1 (by omega), fun x => by omega, fun _ _ => ⟨d, hd, fun _ _ => rfl⟩, fun x => by omega⟩ (fun x _ => by omega) (fun x => by omega)
  rw [← hk, ew_self K t, ew_self M t, ew_self B t, ew_self A t] at j
  exact j
theorem ew_s_casF (h : ew_I C T e top S N E L P B A K M Z own ch lim) (hT : T ≤ 4) (ht : t < T) (hp : P t = nI 6) :
    ew_I C T e top S N E L (upd P t (nI 3)) B A K M Z own ch lim := by
  obtain ⟨k, hk, k2, hh⟩ := ew_at h ht hp (by omega)
  have k3 := hh.1.2.2.1 (by omega)
  have j := ew_loc (b := B t) (a := A t) (m := M t) (z := Z t) (p := 3) (k := k) h hT ht hp hk (by omega) (by omega)
    ⟨by unfold ew_TA; omega, fun x => by omega, fun _ => hh.2.2.1 (by omega), fun x _ => (hh.2.2.2.1 x (Or.inr (Or.inr rfl))).elim fun c g => ⟨c, g.1, fun x => by omega⟩, fun _ x => by omega, fun x => by omega⟩ (fun x _ => ⟨x, Or.inl rfl, rfl⟩) (fun x => by omega)
  rw [← hk, ew_self K t, ew_self M t, ew_self Z t, ew_self B t, ew_self A t] at j
  exact j
theorem ew_s_casPush (hC : C ≤ 32) (h : ew_I C T e top S N E L P B A K M Z own ch lim) (hT : T ≤ 4) (ht : t < T) (hp : P t = nI 6) (hk : K t = nI 1) (hx : top = Z t) :
    ∃ own' ch', ew_I C T e (M t) S N E L (upd P t (nI 8)) B A K M Z own' ch' lim := by
  obtain ⟨k', hk', k2, hh⟩ := ew_at h ht hp (by omega)
  have ek : k' = 1 := (nI_eq (by omega) (by omega)).mp (hk'.symm.trans hk)
  subst ek
  obtain ⟨c, ⟨hc, hm, ho⟩, hN⟩ := hh.2.2.2.1 rfl (Or.inr (Or.inr rfl))
  have hN := hN rfl
  obtain ⟨⟨a1, a2, a3, a4⟩, h2, h3, h4⟩ := h
  have nc : c ∉ ch := fun w => by have := ((a4 c).mp w).2; omega
  have j3 := ew_tt (t := t) (own' := ew_up own c 1) (N' := N) (p := 8) (k := 1) (b := B t) (a := A t) (m := M t) (z := Z t) h3
    (fun t' ht' nt => ew_mono1 (fun d hd => rfl) (by omega) (by omega) (fun w1 w2 => by exfalso; omega))
    ⟨by unfold ew_TA; omega, fun x => by omega, fun _ => hh.2.2.1 (by omega), fun _ x => by omega, fun _ x => by omega, fun x => by omega⟩
  rw [← hk, ew_self K t, ew_self Z t, ew_self B t, ew_self A t, ew_self M t] at j3
  have j4 := ew_rr (t := t) (own' := ew_up own c 1) (p := 8) (k := 1) (m := M t) h4 ht (fun d hd w => by
      rcases ew_uc own c 1 d with ⟨x, u⟩ | ⟨x, u⟩
      · rw [u] at w; omega
      · rw [u] at w
        rcases w with w | w
        · have g := (ew_hu h4 hT ht hd w).1
          have g2 := (ew_hu h4 hT ht hc ho).1
          exact absurd ((nI_eq (by omega) (by omega)).mp (g.symm.trans g2)) x
        · have g := (ew_ho h4 hT ht hd w).2
          rw [hp, nI_eq (by omega) (by omega)] at g
          omega)
    (fun d hd w1 w2 => by
      rcases ew_uc own c 1 d with ⟨x, u⟩ | ⟨x, u⟩
      · rw [u] at w1; omega
      · exact u)
  rw [← hk, ew_self K t, ew_self M t] at j4
  refine ⟨ew_up own c 1, c :: ch, ⟨fun d hd => ?_, ⟨hm, by rw [hN, ← hx]; exact a2⟩, List.nodup_cons.mpr ⟨nc, a3⟩, fun d => ?_⟩, fun q hq => ew_lm_own (h2 q hq) fun d hd => ?_, j3, j4⟩
  · rcases ew_uc own c 1 d with ⟨x, u⟩ | ⟨x, u⟩
    · rw [u, x, a1 c hc, ho, ew_st5 (by omega), ew_st1]
    · rw [u]; exact a1 d hd
  · rw [List.mem_cons, a4 d]
    rcases ew_uc own c 1 d with ⟨x, u⟩ | ⟨x, u⟩
    · rw [u, x]; exact ⟨fun _ => ⟨hc, rfl⟩, fun _ => Or.inl rfl⟩
    · rw [u]; exact ⟨fun w => w.resolve_left x, Or.inr⟩
  · rcases ew_uc own c 1 d with ⟨x, u⟩ | ⟨x, u⟩
    · rw [u, x, ho]; omega
    · rw [u]
theorem ew_s_casPop (hC : C ≤ 32) (h : ew_I C T e top S N E L P B A K M Z own ch lim) (hT : T ≤ 4) (ht : t < T) (hp : P t = nI 6) (hk : K t = nI k) (hk1 : k ≠ 1) (hk2 : k ≤ 2) (hx : top = M t) :
    ∃ own' ch', ew_I C T e (Z t) S N E L (upd P t (nI 7)) B A K M Z own' ch' lim := by
  obtain ⟨k', hk', k2, hh⟩ := ew_at h ht hp (by omega)
  have ek : k' = k := (nI_eq (by omega) (by omega)).mp (hk'.symm.trans hk)
  subst ek
  have k3 := hh.1.2.2.1 (by omega)
  have k4 : k' = 2 := by omega
  obtain ⟨c, ⟨hc, hm, ho, ho2, ho3⟩, hN⟩ := hh.2.2.2.2.1 k4 (Or.inr rfl)
  obtain ⟨⟨a1, a2, a3, a4⟩, h2, h3, h4⟩ := h
  rw [hx, hm] at a2
  obtain ⟨l, el, hl⟩ := ew_ch_cons (by omega) a2 (fun d hd => by have := ((a4 d).mp hd).1; omega)
  have o1 : own c = 1 := ((a4 c).mp (by rw [el]; exact List.mem_cons_self)).2
  have hN := hN rfl o1
  rw [el] at a3
  have a3' := List.nodup_cons.mp a3
  have j3 := ew_tt (t := t) (own' := ew_up own c (9 + t)) (N' := N) (p := 7) (k := k') (b := B t) (a := A t) (m := M t) (z := Z t) h3
    (fun t' ht' nt => ew_mono1 (fun d hd => rfl) (by omega) (by omega) (fun w1 w2 => ⟨by omega, by omega, fun w => by omega, fun w => by omega⟩))
    ⟨by unfold ew_TA; omega, fun x => by omega, fun _ => hh.2.2.1 (by omega), fun _ x => by omega, fun _ x => by omega, fun x => ⟨c, hc, hm, ew_us⟩⟩
  rw [← hk, ew_self K t, ew_self Z t, ew_self B t, ew_self A t, ew_self M t] at j3
  have j4 := ew_rr (t := t) (own' := ew_up own c (9 + t)) (p := 7) (k := k') (m := M t) h4 ht (fun d hd w => by
      rcases ew_uc own c (9 + t) d with ⟨x, u⟩ | ⟨x, u⟩
      · exact ⟨by rw [x]; exact hm, Or.inr ⟨u, rfl⟩⟩
      · rw [u] at w
        rcases w with w | w
        · have g := (ew_hu h4 hT ht hd w).2.1
          rw [hk, nI_eq (by omega) (by omega)] at g
          omega
        · have g := (ew_ho h4 hT ht hd w).2
          rw [hp, nI_eq (by omega) (by omega)] at g
          omega)
    (fun d hd w1 w2 => by
      rcases ew_uc own c (9 + t) d with ⟨x, u⟩ | ⟨x, u⟩
      · exact absurd (Or.inr u) w2
      · exact u)
  rw [← hk, ew_self K t, ew_self M t] at j4
  refine ⟨ew_up own c (9 + t), l, ⟨fun d hd => ?_, by rw [← hN]; exact hl, a3'.2, fun d => ?_⟩, fun q hq => ew_lm_own (h2 q hq) fun d hd => ?_, j3, j4⟩
  · rcases ew_uc own c (9 + t) d with ⟨x, u⟩ | ⟨x, u⟩
    · rw [u, x, a1 c hc, o1, ew_st1, ew_st5 (by omega)]
    · rw [u]; exact a1 d hd
  · rcases ew_uc own c (9 + t) d with ⟨x, u⟩ | ⟨x, u⟩
    · rw [u, x]; exact ⟨fun w => absurd w a3'.1, fun w => by omega⟩
    · rw [u, ← a4 d, el, List.mem_cons]; exact ⟨Or.inr, fun w => w.resolve_left x⟩
  · rcases ew_uc own c (9 + t) d with ⟨x, u⟩ | ⟨x, u⟩
    · rw [u, x, o1]; omega
    · rw [u]
theorem ew_s_unpin (h : ew_I C T e top S N E L P B A K M Z own ch lim) (hT : T ≤ 4) (ht : t < T) (hp : P t = nI 8) :
    ew_I C T e top S N E L (upd P t (nI 0)) (upd B t 0) A K M Z own ch lim := by
  obtain ⟨k, hk, k2, hh⟩ := ew_at h ht hp (by omega)
  have j := ew_loc (b := 0) (a := A t) (m := M t) (z := Z t) (p := 0) (k := k) h hT ht hp hk (by omega) (by omega)
    ⟨by unfold ew_TA; omega, fun x => rfl, fun x => by omega, fun _ x => by omega, fun _ x => by omega, fun x => by omega⟩ (fun _ x => by omega) (fun x => by omega)
  rw [← hk, ew_self K t, ew_self M t, ew_self Z t, ew_self A t] at j
  exact j
/-- RETIRE: list n mod 3, n the announced epoch; there is room -/
theorem ew_s_room {q : Nat} (h : ew_I C T e top S N E L P B A K M Z own ch lim) (ht : t < T) (hp : P t = nI 7) (hq : q < 3) :
    ∃ c n, c < C ∧ M t = nI c ∧ own c = 9 + t ∧ A t = nI n ∧ (n = e ∨ n + 1 = e) ∧ L q = nI (lim q).length ∧ (lim q).length < C ∧ S c = 1 := by
  obtain ⟨k, hk, k2, hh⟩ := ew_at h ht hp (by omega)
  obtain ⟨c, hc, hm, ho⟩ := hh.2.2.2.2.2 rfl
  obtain ⟨_, n, hn, hn2⟩ := hh.2.2.1 (by omega)
  obtain ⟨l1, l2, l3, l4⟩ := h.2.1 q hq
  have nc : c ∉ lim q := fun w => by have := ((l3 c).mp w).2; omega
  have g := ew_len (C := C) (l := c :: lim q) (List.nodup_cons.mpr ⟨nc, l2⟩) (fun d hd => by
    rcases List.mem_cons.mp hd with x | x
    · rw [x]; exact hc
    · exact ((l3 d).mp x).1)
  rw [List.length_cons] at g
  exact ⟨c, n, hc, hm, ho, hn, hn2, l1, by omega, by rw [h.1.1 c hc, ho, ew_st5 (by omega)]⟩
def ew_lu (lim : Nat → List Nat) (q : Nat) (l : List Nat) : Nat → List Nat := fun j => if j = q then l else lim j
theorem ew_lus {lim : Nat → List Nat} {q : Nat} {l : List Nat} : ew_lu lim q l q = l := if_pos rfl
theorem ew_lun {lim : Nat → List Nat} {q j : Nat} {l : List Nat} (h : j ≠ q) : ew_lu lim q l j = lim j := if_neg h
theorem ew_s_retire {q c n : Nat} (hC : C ≤ 32) (h : ew_I C T e top S N E L P B A K M Z own ch lim) (hT : T ≤ 4) (ht : t < T) (hp : P t = nI 7) (hc : c < C) (hm : M t = nI c) (ho : own c = 9 + t)
    (hA : A t = nI n) (hn : n = e ∨ n + 1 = e) (hq : q = n % 3) :
    ew_I C T e top (upd S c 2) N (upd E (q * 32 + (lim q).length) (nI c)) (upd L q (nI ((lim q).length + 1))) (upd P t (nI 8)) B A K M Z (ew_up own c (2 + q)) ch (ew_lu lim q (lim q ++ [c])) := by
  obtain ⟨k, hk, k2, hh⟩ := ew_at h ht hp (by omega)
  have k3 := hh.1.2.2.1 (by omega)
  obtain ⟨⟨a1, a2, a3, a4⟩, h2, h3, h4⟩ := h
  have q3 : q < 3 := by omega
  have nc : c ∉ ch := fun w => by have := ((a4 c).mp w).2; omega
  have hlen : ∀ j, j < 3 → (lim j).length ≤ C := fun j hj => ew_len (h2 j hj).2.1 (fun d hd => (((h2 j hj).2.2.1 d).mp hd).1)
  have j3 := ew_tt (t := t) (own' := ew_up own c (2 + q)) (N' := N) (p := 8) (k := k) (b := B t) (a := A t) (m := M t) (z := Z t) h3
    (fun t' ht' nt => ew_mono1 (fun d hd => rfl) (by omega) (by omega) (fun w1 w2 => ⟨by omega, by omega, fun w => by omega, fun w => by omega⟩))
    ⟨by unfold ew_TA; omega, fun x => by omega, fun _ => hh.2.2.1 (by omega), fun _ x => by omega, fun _ x => by omega, fun x => by omega⟩
  rw [← hk, ew_self K t, ew_self Z t, ew_self B t, ew_self A t, ew_self M t] at j3
  have j4 := ew_rr (t := t) (own' := ew_up own c (2 + q)) (p := 8) (k := k) (m := M t) h4 ht (fun d hd w => by
      rcases ew_uc own c (2 + q) d with ⟨x, u⟩ | ⟨x, u⟩
      · rw [u] at w; omega
      · rw [u] at w
        rcases w with w | w
        · have g := (ew_hu h4 hT ht hd w).2.2
          rw [hp, nI_eq (by omega) (by omega), nI_eq (by omega) (by omega), nI_eq (by omega) (by omega)] at g
          omega
        · have g := (ew_ho h4 hT ht hd w).1
          have g2 := (ew_ho h4 hT ht hc ho).1
          exact absurd ((nI_eq (by omega) (by omega)).mp (g.symm.trans g2)) x)
    (fun d hd w1 w2 => by
      rcases ew_uc own c (2 + q) d with ⟨x, u⟩ | ⟨x, u⟩
      · rw [u] at w1; omega
      · exact u)
  rw [← hk, ew_self K t, ew_self M t] at j4
  refine ⟨⟨fun d hd => ?_, a2, a3, fun d => ?_⟩, fun j hj => ?_, j3, j4⟩
  · rcases ew_uc own c (2 + q) d with ⟨x, u⟩ | ⟨x, u⟩
    · rw [u, x, pk_us, ew_st2 q3]
    · rw [u, pk_un x]; exact a1 d hd
  · rw [a4 d]
    rcases ew_uc own c (2 + q) d with ⟨x, u⟩ | ⟨x, u⟩
    · rw [u, x, ho]; omega
    · rw [u]
  · have hj2 := h2 j hj
    by_cases x : j = q
    · subst x
      obtain ⟨l1, l2, l3, l4⟩ := hj2
      have nl : c ∉ lim j := fun w => by have := ((l3 c).mp w).2; omega
      refine ⟨?_, ?_, fun d => ?_, fun i d hi => ?_⟩
      · rw [pk_us, ew_lus, List.length_append]; rfl
      · rw [ew_lus]
        refine List.nodup_append.mpr ⟨l2, List.nodup_cons.mpr ⟨fun w => (nomatch w), List.nodup_nil⟩, fun a ha b hb w => ?_⟩
        rw [List.mem_singleton] at hb
        exact nl (by rw [← hb, ← w]; exact ha)
      · rw [ew_lus, List.mem_append, l3 d, List.mem_singleton]
        rcases ew_uc own c (2 + j) d with ⟨y, u⟩ | ⟨y, u⟩
        · rw [u, y]; exact ⟨fun _ => ⟨hc, rfl⟩, fun _ => Or.inr rfl⟩
        · rw [u]; exact ⟨fun w => w.resolve_right y, Or.inl⟩
      · rw [ew_lus] at hi
        by_cases y : i < (lim j).length
        · rw [List.getElem?_append_left y] at hi
          rw [pk_un (by omega)]
          exact l4 i d hi
        · rw [List.getElem?_append_right (by omega)] at hi
          have z : i = (lim j).length := by
            by_cases z : i - (lim j).length = 0
            · omega
            · obtain ⟨r, hr⟩ : ∃ r, i - (lim j).length = r + 1 := ⟨i - (lim j).length - 1, by omega⟩
              rw [hr] at hi
              exact absurd hi (by simp)
          rw [z, Nat.sub_self] at hi
          have z2 : c = d := by simpa using hi
          rw [z, pk_us, z2]
    · obtain ⟨l1, l2, l3, l4⟩ := hj2
      refine ⟨?_, ?_, fun d => ?_, fun i d hi => ?_⟩
      · rw [pk_un x, ew_lun x]; exact l1
      · rw [ew_lun x]; exact l2
      · rw [ew_lun x, l3 d]
        rcases ew_uc own c (2 + q) d with ⟨y, u⟩ | ⟨y, u⟩
        · rw [u, y, ho]; omega
        · rw [u]
      · rw [ew_lun x] at hi
        have hi2 : i < (lim j).length := (List.getElem?_eq_some_iff.mp hi).1
        have g1 := hlen j hj
        have g2 := hlen q q3
        have g3 : (lim q).length < 32 := by
          have nl : c ∉ lim q := fun w => by have := (((h2 q q3).2.2.1 c).mp w).2; omega
          have g := ew_len (C := C) (l := c :: lim q) (List.nodup_cons.mpr ⟨nl, (h2 q q3).2.1⟩) (fun d hd => by
            rcases List.mem_cons.mp hd with x | x
            · rw [x]; exact hc
            · exact (((h2 q q3).2.2.1 d).mp x).1)
          rw [List.length_cons] at g
          omega
        rw [pk_un (by omega)]
        exact l4 i d hi
end T
