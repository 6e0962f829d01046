/-! the calls that change the state, over the picture -/
section
variable {C T e t : Nat} {tc lt ad re : Int32} {cs cv cx le lc tp pn an kd mn sn vl rs er ev : Nat → Int32} {own : Nat → Nat} {ch : List Nat} {lim : Nat → List Nat}
theorem ew_step (hC : C ≤ 32) (hT : T ≤ 4) (he : e < 2 ^ 30) (h : ew_I C T e tc cs cx le lc tp pn an kd mn sn own ch lim) (ht : t < T) : ∃ r u', ew_G C T e u' ∧ ∀ post : Int32 → St2 → Prop, post r u' → wpX_step post (nI C, nI T, nI 3, tc, nI e, 0, 0, lt, 0, ad, nI (er_cn cs C), re, cs, cv, cx, le, lc, tp, pn, an, kd, mn, sn, vl, rs, er, ev) (nI t) := by
  have cl : (nI t).toNatClampNeg = t := nI_clamp (by omega)
  have hv : vp_in (nI t) 4 := vp_in_nI (by omega) (by omega)
  have hi : er_ir (nI t) (nI T) := er_ir_nI ht (by omega)
  by_cases h0 : tp t = 0
  · refine ⟨0, (nI C, nI T, nI 3, tc, nI e, 0, 0, lt, 0, ad, nI (er_cn cs C), re, cs, cv, cx, le, lc, tp, pn, an, kd, mn, sn, vl, rs, er, ev), ⟨_, _, _, _, _, _, _, _, _, _, _, _, _, _, _, _, _, _, _, own, ch, lim, rfl, h⟩, fun post hq => ?_⟩
    unfold wpX_step
    exact xq_busy0 hi hv (by rw [cl]; exact h0) (br_t rfl hq)
  · obtain ⟨u', R, HX⟩ := ew_exec (ad := ad) (lt := lt) (re := re) (cv := cv) (vl := vl) (rs := rs) (er := er) (ev := ev) hC hT he h ht h0
    have R' := R
    obtain ⟨tc', lt', ad', re', cs', cv', cx', le', lc', tp', pn', an', kd', mn', sn', vl', rs', er', ev', own', ch', lim', rfl, h'⟩ := R
    refine ⟨tp (nI t).toNatClampNeg, _, R', fun post hq => ?_⟩
    unfold wpX_step
    exact xq_busy1 hi hv (by rw [cl]; exact h0) (br_f er_10 ⟨hv, nm_e (HX _ hq)⟩)
theorem ew_loop {m : Nat} (hC : C ≤ 32) (hT : T ≤ 4) (he : e < 2 ^ 30) (hm : m ≤ 64) (ht : t < T) : ∀ d j, j + d = m → ∀ u, ew_G C T e u → ∃ r u', ew_G C T e u' ∧ (∀ post : Int32 → St2 → Prop, post r u' → er_wx post (nI t) (nI m) (d + 1) (nI j) u) := by
  have cl : (nI t).toNatClampNeg = t := nI_clamp (by omega)
  have hv : vp_in (nI t) 4 := vp_in_nI (by omega) (by omega)
  intro d
  induction d with
  | zero =>
    intro j hj u R
    have g : nI m ≤ nI j := nI_le (by omega) (by omega)
    have R' := R
    obtain ⟨tc, lt, ad, re, cs, cv, cx, le, lc, tp, pn, an, kd, mn, sn, vl, rs, er, ev, own, ch, lim, rfl, h⟩ := R
    exact ⟨nI j, _, R', fun post hq => br_t g hq⟩
  | succ d ih =>
    intro j hj u R
    have g : ¬ nI m ≤ nI j := nI_ge (by omega) (by omega)
    have R' := R
    obtain ⟨tc, lt, ad, re, cs, cv, cx, le, lc, tp, pn, an, kd, mn, sn, vl, rs, er, ev, own, ch, lim, rfl, h⟩ := R
    by_cases h0 : tp t = 0
    · exact ⟨nI j, _, R', fun post hq => br_f g ⟨hv, br_t (by rw [cl]; exact h0) hq⟩⟩
    · obtain ⟨u', R2, HX⟩ := ew_exec (ad := ad) (lt := lt) (re := re) (cv := cv) (vl := vl) (rs := rs) (er := er) (ev := ev) hC hT he h ht h0
      obtain ⟨r, u3, R3, KX⟩ := ih (j + 1) (by omega) u' R2
      obtain ⟨tc', lt', ad', re', cs', cv', cx', le', lc', tp', pn', an', kd', mn', sn', vl', rs', er', ev', own', ch', lim', rfl, h'⟩ := R2
      exact ⟨r, u3, R3, fun post hq => br_f g ⟨hv, br_f (by rw [cl]; exact h0) (HX _ (nm_r (nI_1 j) (KX post hq)))⟩⟩
theorem ew_run {y : Int32} (hC : C ≤ 32) (hT : T ≤ 4) (he : e < 2 ^ 30) (h : ew_I C T e tc cs cx le lc tp pn an kd mn sn own ch lim) (ht : t < T) : ∃ r u', ew_G C T e u' ∧ ∀ post : Int32 → St2 → Prop, post r u' → wpX_run post (nI C, nI T, nI 3, tc, nI e, 0, 0, lt, 0, ad, nI (er_cn cs C), re, cs, cv, cx, le, lc, tp, pn, an, kd, mn, sn, vl, rs, er, ev) (nI t) y := by
  have cl : (nI t).toNatClampNeg = t := nI_clamp (by omega)
  have hv : vp_in (nI t) 4 := vp_in_nI (by omega) (by omega)
  have hi : er_ir (nI t) (nI T) := er_ir_nI ht (by omega)
  by_cases h0 : tp t = 0
  · refine ⟨0, (nI C, nI T, nI 3, tc, nI e, 0, 0, lt, 0, ad, nI (er_cn cs C), re, cs, cv, cx, le, lc, tp, pn, an, kd, mn, sn, vl, rs, er, ev), ⟨_, _, _, _, _, _, _, _, _, _, _, _, _, _, _, _, _, _, _, own, ch, lim, rfl, h⟩, fun post hq => ?_⟩
    unfold wpX_run
    exact xq_busy0 hi hv (by rw [cl]; exact h0) (br_t rfl hq)
  · obtain ⟨m, m1, m2, m3⟩ := er_clampX y 1 64 (by omega) (by omega)
    obtain ⟨r, u', R, KX⟩ := ew_loop hC hT he m2 ht m 0 (by omega) (nI C, nI T, nI 3, tc, nI e, 0, 0, lt, 0, ad, nI (er_cn cs C), re, cs, cv, cx, le, lc, tp, pn, an, kd, mn, sn, vl, rs, er, ev) ⟨_, _, _, _, _, _, _, _, _, _, _, _, _, _, _, _, _, _, _, own, ch, lim, rfl, h⟩
    have KX' : ∀ post : Int32 → St2 → Prop, post r u' → wX_run_21 post (nI t) (nI m) (m + 1) 0 (nI C) (nI T) (nI 3) tc (nI e) 0 0 lt 0 ad (nI (er_cn cs C)) re cs cv cx le lc tp pn an kd mn sn vl rs er ev := KX
    refine ⟨r, u', R, fun post hq => ?_⟩
    unfold wpX_run
    exact xq_busy1 hi hv (by rw [cl]; exact h0) (br_f er_10 (m3 _ ⟨m + 1, KX' _ hq⟩))
theorem ew_push {y : Int32} (hT : T ≤ 4) (h : ew_I C T e tc cs cx le lc tp pn an kd mn sn own ch lim) (ht : t < T) : ∃ r u', ew_G C T e u' ∧ ∀ post : Int32 → St2 → Prop, post r u' → wpX_push post (nI C, nI T, nI 3, tc, nI e, 0, 0, lt, 0, ad, nI (er_cn cs C), re, cs, cv, cx, le, lc, tp, pn, an, kd, mn, sn, vl, rs, er, ev) (nI t) y := by
  have cl : (nI t).toNatClampNeg = t := nI_clamp (by omega)
  have hv : vp_in (nI t) 4 := vp_in_nI (by omega) (by omega)
  have hi : er_ir (nI t) (nI T) := er_ir_nI ht (by omega)
  by_cases h0 : tp t = 0
  · refine ⟨1, (nI C, nI T, nI 3, tc, nI e, 0, 0, lt, 0, ad, nI (er_cn cs C), re, cs, cv, cx, le, lc, upd tp (nI t).toNatClampNeg 1, pn, an, upd kd (nI t).toNatClampNeg 1, upd mn (nI t).toNatClampNeg (-1), upd sn (nI t).toNatClampNeg (-1), upd vl (nI t).toNatClampNeg y, upd rs (nI t).toNatClampNeg 0, er, ev), ⟨_, _, _, _, _, _, _, _, _, _, _, _, _, _, _, _, _, _, _, own, ch, lim, rfl, ?_⟩, fun post hq => xq_push2 hi hv (by rw [cl]; exact h0) hq⟩
    rw [cl]
    exact ew_s_start (q := 1) h hT ht h0 (Or.inl rfl)
  · exact ⟨0, (nI C, nI T, nI 3, tc, nI e, 0, 0, lt, 0, ad, nI (er_cn cs C), re, cs, cv, cx, le, lc, tp, pn, an, kd, mn, sn, vl, rs, er, ev), ⟨_, _, _, _, _, _, _, _, _, _, _, _, _, _, _, _, _, _, _, own, ch, lim, rfl, h⟩, fun post hq => xq_push1 hi hv (by rw [cl]; exact h0) hq⟩
theorem ew_pop (hT : T ≤ 4) (h : ew_I C T e tc cs cx le lc tp pn an kd mn sn own ch lim) (ht : t < T) : ∃ r u', ew_G C T e u' ∧ ∀ post : Int32 → St2 → Prop, post r u' → wpX_pop post (nI C, nI T, nI 3, tc, nI e, 0, 0, lt, 0, ad, nI (er_cn cs C), re, cs, cv, cx, le, lc, tp, pn, an, kd, mn, sn, vl, rs, er, ev) (nI t) := by
  have cl : (nI t).toNatClampNeg = t := nI_clamp (by omega)
  have hv : vp_in (nI t) 4 := vp_in_nI (by omega) (by omega)
  have hi : er_ir (nI t) (nI T) := er_ir_nI ht (by omega)
  by_cases h0 : tp t = 0
  · refine ⟨1, (nI C, nI T, nI 3, tc, nI e, 0, 0, lt, 0, ad, nI (er_cn cs C), re, cs, cv, cx, le, lc, upd tp (nI t).toNatClampNeg 1, pn, an, upd kd (nI t).toNatClampNeg 2, upd mn (nI t).toNatClampNeg (-1), upd sn (nI t).toNatClampNeg (-1), upd vl (nI t).toNatClampNeg 0, upd rs (nI t).toNatClampNeg 0, er, ev), ⟨_, _, _, _, _, _, _, _, _, _, _, _, _, _, _, _, _, _, _, own, ch, lim, rfl, ?_⟩, fun post hq => xq_pop2 hi hv (by rw [cl]; exact h0) hq⟩
    rw [cl]
    exact ew_s_start (q := 2) h hT ht h0 (Or.inr rfl)
  · exact ⟨0, (nI C, nI T, nI 3, tc, nI e, 0, 0, lt, 0, ad, nI (er_cn cs C), re, cs, cv, cx, le, lc, tp, pn, an, kd, mn, sn, vl, rs, er, ev), ⟨_, _, _, _, _, _, _, _, _, _, _, _, _, _, _, _, _, _, _, own, ch, lim, rfl, h⟩, fun post hq => xq_pop1 hi hv (by rw [cl]; exact h0) hq⟩
/-! tryAdvance -/
theorem ew_floop {j : Nat} {E1 A1 : Int32} (hC : C ≤ 32) (h : ew_I C T e tc cs cx le lc tp pn an kd mn sn own ch lim) (j3 : j < 3) : ∀ d i, i + d = (lim j).length → ∀ f, ew_FR (lim j) cs f i → ∃ f', ew_FR (lim j) cs f' (lim j).length ∧
    ∀ post : St2 → Prop, post (nI C, nI T, nI 3, tc, E1, 0, 0, lt, 0, A1, nI (er_cn f' C), re, f', cv, cx, le, upd lc (nI j).toNatClampNeg 0, tp, pn, an, kd, mn, sn, vl, rs, er, ev) → wX_freeLimboList_2 post (nI j) (d + 1) (nI i) (nI C) (nI T) (nI 3) tc E1 0 0 lt 0 A1 (nI (er_cn f C)) re f cv cx le lc tp pn an kd mn sn vl rs er ev := by
  obtain ⟨l1, l2, l3, l4⟩ := h.2.1 j j3
  have hlen : (lim j).length ≤ C := ew_len l2 (fun c hc => ((l3 c).mp hc).1)
  have clj : (nI j).toNatClampNeg = j := nI_clamp (by omega)
  have w : vp_in (nI j) 3 := vp_in_nI j3 (by omega)
  have hl : lc (nI j).toNatClampNeg = nI (lim j).length := by rw [clj]; exact l1
  intro d
  induction d with
  | zero =>
    intro i hi f hf
    have g : lc (nI j).toNatClampNeg ≤ nI i := by rw [hl]; exact nI_le (by omega) (by omega)
    have e9 : i = (lim j).length := by omega
    rw [e9] at hf
    exact ⟨f, hf, fun post hq => ⟨w, br_t g ⟨w, nm_e hq⟩⟩⟩
  | succ d ih =>
    intro i hi f hf
    have g : ¬ lc (nI j).toNatClampNeg ≤ nI i := by rw [hl]; exact nI_ge (by omega) (by omega)
    have wi : vp_in (nI j * 32 + nI i) 96 := er_vi j3 (by omega)
    obtain ⟨c, hc⟩ : ∃ c, (lim j)[i]? = some c := ⟨_, List.getElem?_eq_getElem (by omega)⟩
    obtain ⟨cC, co⟩ := (l3 c).mp (List.mem_of_getElem? hc)
    have clc : (nI c).toNatClampNeg = c := nI_clamp (by omega)
    obtain ⟨f1, f2⟩ := ew_frs l2 hf hc
    have z : ¬ f (nI c).toNatClampNeg = 0 := by rw [clc, f1, h.1.1 c cC, co]; exact ew_stn (by omega)
    have hy : le (nI j * 32 + nI i).toNatClampNeg = nI c := by rw [er_ci j3 (by omega)]; exact l4 i c hc
    rw [← clc] at f2
    obtain ⟨f', g1, KX⟩ := ih (i + 1) (by omega) _ f2
    refine ⟨f', g1, fun post hq => ⟨w, br_f g ⟨wi, ?_⟩⟩⟩
    rw [hy]
    exact xq_free2 (er_ir_nI cC (by omega)) (vp_in_nI (by omega) (by omega)) z (er_cn_inc (by rw [clc]; exact cC) z) (nm_r (nI_1 i) (KX post hq))
theorem ew_tryA (hC : C ≤ 32) (hT : T ≤ 4) (he : e < 2 ^ 30) (h : ew_I C T e tc cs cx le lc tp pn an kd mn sn own ch lim) (hb : ∀ s, s < T → pn s = 0 ∨ an s = nI e) :
    ∃ own' f', ew_I C T (e + 1) tc f' cx le (upd lc ((e + 1) % 3) 0) tp pn an kd mn sn own' ch (ew_lu lim ((e + 1) % 3) []) ∧
      ∀ post : Int32 → St2 → Prop, post 1 (nI C, nI T, nI 3, tc, nI (e + 1), 0, 0, lt, 0, ad + 1, nI (er_cn f' C), re, f', cv, cx, le, upd lc ((e + 1) % 3) 0, tp, pn, an, kd, mn, sn, vl, rs, er, ev) → wpX_tryAdvance post (nI C, nI T, nI 3, tc, nI e, 0, 0, lt, 0, ad, nI (er_cn cs C), re, cs, cv, cx, le, lc, tp, pn, an, kd, mn, sn, vl, rs, er, ev) := by
  obtain ⟨j, hj⟩ : ∃ j, j = (e + 1) % 3 := ⟨_, rfl⟩
  have j3 : j < 3 := by omega
  have clj : (nI j).toNatClampNeg = j := nI_clamp (by omega)
  obtain ⟨f', hf, KX⟩ := ew_floop (E1 := nI (e + 1)) (A1 := ad + 1) (lt := lt) (re := re) (cv := cv) (vl := vl) (rs := rs) (er := er) (ev := ev) hC h j3 (lim j).length 0 (by omega) cs ew_fr0
  obtain ⟨own', J⟩ := ew_s_adv (by omega) h (fun s hs b => (hb s hs).resolve_left b) hj hf
  refine ⟨own', f', ?_, fun post hq => ?_⟩
  · rw [← hj]
    exact J
  · rw [← hj, ← clj] at hq
    have e9 : nI (e + 1) + 3 - nI 3 = nI (e + 1) := Int32.add_sub_cancel _ (nI 3)
    have h3 : er_l3 (nI (e + 1) + 3 - nI 3) (nI j) := by rw [e9, hj]; exact er_l3n (by omega)
    unfold wpX_tryAdvance
    unfold wpX_someThreadLagsBehind
    refine ⟨T + 1, xq_lag hT (Nat.le_refl T) hb (Or.inl ⟨rfl, br_t rfl ?_⟩) T 0 (by omega)⟩
    intro f1 e1 f2 e2
    rw [nI_1] at e1
    subst e1 e2
    refine xq_listOf h3 ?_
    unfold wpX_freeLimboList
    exact ⟨(lim j).length + 1, KX _ hq⟩
theorem ew_tryN {c : Nat} (hT : T ≤ 4) (hc : c < T) (hb : ∀ s, s < c → pn s = 0 ∨ an s = nI e) (h1 : ¬ pn c = 0) (h2 : ¬ an c = nI e) : ∀ post : Int32 → St2 → Prop, post 0 (nI C, nI T, nI 3, tc, nI e, 0, 0, lt, 0, ad, nI (er_cn cs C), re, cs, cv, cx, le, lc, tp, pn, an, kd, mn, sn, vl, rs, er, ev) → wpX_tryAdvance post (nI C, nI T, nI 3, tc, nI e, 0, 0, lt, 0, ad, nI (er_cn cs C), re, cs, cv, cx, le, lc, tp, pn, an, kd, mn, sn, vl, rs, er, ev) := by
  intro post hq
  unfold wpX_tryAdvance
  unfold wpX_someThreadLagsBehind
  exact ⟨c + 1, xq_lag hT (Nat.le_of_lt hc) hb (Or.inr ⟨hc, h1, h2, br_f er_10 hq⟩) c 0 (by omega)⟩
theorem ew_try (hC : C ≤ 32) (hT : T ≤ 4) (he : e < 2 ^ 30) (h : ew_I C T e tc cs cx le lc tp pn an kd mn sn own ch lim) : ∃ r u' e', (e' = e ∨ e' = e + 1) ∧ ew_G C T e' u' ∧ ∀ post : Int32 → St2 → Prop, post r u' → wpX_tryAdvance post (nI C, nI T, nI 3, tc, nI e, 0, 0, lt, 0, ad, nI (er_cn cs C), re, cs, cv, cx, le, lc, tp, pn, an, kd, mn, sn, vl, rs, er, ev) := by
  obtain ⟨c, hc, hn, g | ⟨g1, g2, g3⟩⟩ := er_lags pn an (nI e) T
  · rw [g] at hn
    obtain ⟨own', f', J, K⟩ := ew_tryA (lt := lt) (ad := ad) (re := re) (cv := cv) (vl := vl) (rs := rs) (er := er) (ev := ev) hC hT he h hn
    exact ⟨1, (nI C, nI T, nI 3, tc, nI (e + 1), 0, 0, lt, 0, ad + 1, nI (er_cn f' C), re, f', cv, cx, le, upd lc ((e + 1) % 3) 0, tp, pn, an, kd, mn, sn, vl, rs, er, ev), e + 1, Or.inr rfl, ⟨_, _, _, _, _, _, _, _, _, _, _, _, _, _, _, _, _, _, _, own', ch, _, rfl, J⟩, K⟩
  · exact ⟨0, (nI C, nI T, nI 3, tc, nI e, 0, 0, lt, 0, ad, nI (er_cn cs C), re, cs, cv, cx, le, lc, tp, pn, an, kd, mn, sn, vl, rs, er, ev), e, Or.inl rfl, ⟨_, _, _, _, _, _, _, _, _, _, _, _, _, _, _, _, _, _, _, own, ch, lim, rfl, h⟩, ew_tryN hT g1 hn g2 g3⟩
end
