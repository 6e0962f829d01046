/-! the private methods of X, each with a general post -/
section
variable {nc nt gp tc ep tr df lt dr ad fc re : Int32} {cs cv cx le lc tp pn an kd mn sn vl rs er ev : Nat → Int32}
variable {x y : Int32} {post : St2 → Prop}
theorem xq_pin1 (hv : vp_in x 4) (hk : kd x.toNatClampNeg = 1) (hp : post (nc, nt, gp, tc, ep, tr, df, lt, dr, ad, fc, re, cs, cv, cx, le, lc, upd tp x.toNatClampNeg 2, upd pn x.toNatClampNeg (vp_nar .boolean 1), upd an x.toNatClampNeg ep, kd, mn, sn, vl, rs, er, ev)) : wpX_pin post (nc, nt, gp, tc, ep, tr, df, lt, dr, ad, fc, re, cs, cv, cx, le, lc, tp, pn, an, kd, mn, sn, vl, rs, er, ev) x :=
  ⟨hv, nm_e ⟨hv, nm_e ⟨hv, br_t hk ⟨hv, nm_e hp⟩⟩⟩⟩
theorem xq_pin2 (hv : vp_in x 4) (hk : ¬ kd x.toNatClampNeg = 1) (hp : post (nc, nt, gp, tc, ep, tr, df, lt, dr, ad, fc, re, cs, cv, cx, le, lc, upd tp x.toNatClampNeg 3, upd pn x.toNatClampNeg (vp_nar .boolean 1), upd an x.toNatClampNeg ep, kd, mn, sn, vl, rs, er, ev)) : wpX_pin post (nc, nt, gp, tc, ep, tr, df, lt, dr, ad, fc, re, cs, cv, cx, le, lc, tp, pn, an, kd, mn, sn, vl, rs, er, ev) x :=
  ⟨hv, nm_e ⟨hv, nm_e ⟨hv, br_f hk ⟨hv, nm_e hp⟩⟩⟩⟩
/-! the lowest FREE cell, upwards -/
theorem xq_low {C c : Nat} {q : Int32 → Prop} (hC : C ≤ 32) (hc : c ≤ C) (hn : ∀ j, j < c → ¬ cs j = 0) (hq : (c = C ∧ q (-1)) ∨ (c < C ∧ cs c = 0 ∧ q (nI c))) :
    ∀ d i, i + d = c → wX_lowestFreeCell_2 q (nI C) nt gp tc ep tr df lt dr ad fc re cs cv cx le lc tp pn an kd mn sn vl rs er ev (d + 1) (nI i) := by
  intro d
  induction d with
  | zero =>
    intro i hi
    have e : i = c := by omega
    subst e
    rcases hq with ⟨e, hq⟩ | ⟨h1, h2, hq⟩
    · subst e
      exact br_t (nI_le (Nat.le_refl _) (by omega)) hq
    · exact br_f (nI_ge h1 (by omega)) ⟨vp_in_nI (by omega) (by omega), br_t (by rw [nI_clamp (by omega)]; exact h2) hq⟩
  | succ d ih =>
    intro i hi
    refine br_f (nI_ge (by omega) (by omega)) ⟨vp_in_nI (by omega) (by omega), br_f (by rw [nI_clamp (by omega)]; exact hn i (by omega)) (nm_r (nI_1 i) ?_)⟩
    exact ih (i + 1) (by omega)
theorem xq_lowest {C c : Nat} {q : Int32 → Prop} (hC : C ≤ 32) (hc : c ≤ C) (hn : ∀ j, j < c → ¬ cs j = 0) (hq : (c = C ∧ q (-1)) ∨ (c < C ∧ cs c = 0 ∧ q (nI c))) :
    wpX_lowestFreeCell q (nI C, nt, gp, tc, ep, tr, df, lt, dr, ad, fc, re, cs, cv, cx, le, lc, tp, pn, an, kd, mn, sn, vl, rs, er, ev) := by
  unfold wpX_lowestFreeCell
  exact ⟨c + 1, xq_low hC hc hn hq c 0 (by omega)⟩
theorem xq_alloc0 {C : Nat} (hv : vp_in x 4) (hC : C ≤ 32) (hn : ∀ j, j < C → ¬ cs j = 0) (hp : post (nI C, nt, gp, tc, ep, tr, df, lt, dr, ad, fc, re, cs, cv, cx, le, lc, upd tp x.toNatClampNeg 8, pn, an, kd, mn, sn, vl, upd rs x.toNatClampNeg 3, er, ev)) : wpX_allocate post (nI C, nt, gp, tc, ep, tr, df, lt, dr, ad, fc, re, cs, cv, cx, le, lc, tp, pn, an, kd, mn, sn, vl, rs, er, ev) x := by
  unfold wpX_allocate
  exact xq_lowest hC (Nat.le_refl C) hn (Or.inl ⟨rfl, br_t rfl ⟨hv, nm_e ⟨hv, nm_e hp⟩⟩⟩)
theorem er_nm1 {n : Nat} (h : n < 2 ^ 31) : ¬ nI n = -1 := by
  intro e
  have g := nI_toInt h
  rw [e] at g
  have e1 : (-1 : Int32).toInt = -1 := by decide
  omega
theorem xq_alloc1 {C c : Nat} {f : Int32} (hv : vp_in x 4) (hC : C ≤ 32) (hc : c < C) (hn : ∀ j, j < c → ¬ cs j = 0) (h0 : cs c = 0) (hf : fc - 1 = f)
    (hp : post (nI C, nt, gp, tc, ep, tr, df, lt, dr, ad, f, re, upd cs (nI c).toNatClampNeg 1, upd cv (nI c).toNatClampNeg (vl x.toNatClampNeg), upd cx (nI c).toNatClampNeg (-1), le, lc, upd tp x.toNatClampNeg 3, pn, an, kd, upd mn x.toNatClampNeg (nI c), sn, vl, rs, er, ev)) : wpX_allocate post (nI C, nt, gp, tc, ep, tr, df, lt, dr, ad, fc, re, cs, cv, cx, le, lc, tp, pn, an, kd, mn, sn, vl, rs, er, ev) x := by
  unfold wpX_allocate
  have w : vp_in (nI c) 32 := vp_in_nI (by omega) (by omega)
  exact xq_lowest hC (Nat.le_of_lt hc) hn (Or.inr ⟨hc, h0, br_f (er_nm1 (by omega)) ⟨w, nm_e ⟨hv, w, nm_e ⟨w, nm_e (nm_r hf ⟨hv, nm_e ⟨hv, nm_e hp⟩⟩)⟩⟩⟩⟩)
theorem xq_top1 (hv : vp_in x 4) (hk : kd x.toNatClampNeg = 1) (hp : post (nc, nt, gp, tc, ep, tr, df, lt, dr, ad, fc, re, cs, cv, cx, le, lc, upd tp x.toNatClampNeg 4, pn, an, kd, mn, upd sn x.toNatClampNeg tc, vl, rs, er, ev)) : wpX_readTop post (nc, nt, gp, tc, ep, tr, df, lt, dr, ad, fc, re, cs, cv, cx, le, lc, tp, pn, an, kd, mn, sn, vl, rs, er, ev) x :=
  ⟨hv, br_t hk ⟨hv, nm_e ⟨hv, nm_e hp⟩⟩⟩
theorem xq_top2 (hv : vp_in x 4) (hk : ¬ kd x.toNatClampNeg = 1) (ht : tc = -1) (hp : post (nc, nt, gp, tc, ep, tr, df, lt, dr, ad, fc, re, cs, cv, cx, le, lc, upd tp x.toNatClampNeg 8, pn, an, kd, upd mn x.toNatClampNeg tc, sn, upd vl x.toNatClampNeg 0, upd rs x.toNatClampNeg 2, er, ev)) : wpX_readTop post (nc, nt, gp, tc, ep, tr, df, lt, dr, ad, fc, re, cs, cv, cx, le, lc, tp, pn, an, kd, mn, sn, vl, rs, er, ev) x :=
  ⟨hv, br_f hk ⟨hv, nm_e (br_t ht ⟨hv, nm_e ⟨hv, nm_e ⟨hv, nm_e hp⟩⟩⟩)⟩⟩
theorem xq_top3 (hv : vp_in x 4) (hk : ¬ kd x.toNatClampNeg = 1) (ht : ¬ tc = -1) (hp : post (nc, nt, gp, tc, ep, tr, df, lt, dr, ad, fc, re, cs, cv, cx, le, lc, upd tp x.toNatClampNeg 5, pn, an, kd, upd mn x.toNatClampNeg tc, sn, vl, rs, er, ev)) : wpX_readTop post (nc, nt, gp, tc, ep, tr, df, lt, dr, ad, fc, re, cs, cv, cx, le, lc, tp, pn, an, kd, mn, sn, vl, rs, er, ev) x :=
  ⟨hv, br_f hk ⟨hv, nm_e (br_f ht ⟨hv, nm_e hp⟩)⟩⟩
theorem xq_trap1 (hv : vp_in y 32) (h0 : cs y.toNatClampNeg = 0) (hp : post (nc, nt, gp, tc, ep, tr + 1, df, y, dr, ad, fc, re, cs, cv, cx, le, lc, tp, pn, an, kd, mn, sn, vl, rs, er, ev)) : wpX_trapIfFree post (nc, nt, gp, tc, ep, tr, df, lt, dr, ad, fc, re, cs, cv, cx, le, lc, tp, pn, an, kd, mn, sn, vl, rs, er, ev) y := ⟨hv, br_t h0 (nm_e hp)⟩
theorem xq_trap0 (hv : vp_in y 32) (h0 : ¬ cs y.toNatClampNeg = 0) (hp : post (nc, nt, gp, tc, ep, tr, df, lt, dr, ad, fc, re, cs, cv, cx, le, lc, tp, pn, an, kd, mn, sn, vl, rs, er, ev)) : wpX_trapIfFree post (nc, nt, gp, tc, ep, tr, df, lt, dr, ad, fc, re, cs, cv, cx, le, lc, tp, pn, an, kd, mn, sn, vl, rs, er, ev) y := ⟨hv, br_f h0 hp⟩
theorem xq_link0 (hv : vp_in x 4) (hy : mn x.toNatClampNeg = y) (hc : ¬ er_ir y nc) (hp : post (nc, nt, gp, tc, ep, tr, df, lt, dr, ad, fc, re, cs, cv, cx, le, lc, upd tp x.toNatClampNeg 6, pn, an, kd, mn, sn, vl, rs, er, ev)) : wpX_link post (nc, nt, gp, tc, ep, tr, df, lt, dr, ad, fc, re, cs, cv, cx, le, lc, tp, pn, an, kd, mn, sn, vl, rs, er, ev) x := by
  unfold wpX_link
  exact ⟨hv, nm_r hy (xq_C0 hc (br_t rfl ⟨hv, nm_e hp⟩))⟩
theorem xq_link1 (hv : vp_in x 4) (hy : mn x.toNatClampNeg = y) (hc : er_ir y nc) (hw : vp_in y 32) (h0 : cs y.toNatClampNeg = 0) (hp : post (nc, nt, gp, tc, ep, tr + 1, df, y, dr, ad, fc, re, cs, cv, upd cx y.toNatClampNeg (sn x.toNatClampNeg), le, lc, upd tp x.toNatClampNeg 6, pn, an, kd, mn, sn, vl, rs, er, ev)) : wpX_link post (nc, nt, gp, tc, ep, tr, df, lt, dr, ad, fc, re, cs, cv, cx, le, lc, tp, pn, an, kd, mn, sn, vl, rs, er, ev) x := by
  unfold wpX_link
  exact ⟨hv, nm_r hy (xq_C1 hc (br_f er_10 (xq_trap1 hw h0 ⟨hv, hw, nm_e ⟨hv, nm_e hp⟩⟩)))⟩
theorem xq_link2 (hv : vp_in x 4) (hy : mn x.toNatClampNeg = y) (hc : er_ir y nc) (hw : vp_in y 32) (h0 : ¬ cs y.toNatClampNeg = 0) (hp : post (nc, nt, gp, tc, ep, tr, df, lt, dr, ad, fc, re, cs, cv, upd cx y.toNatClampNeg (sn x.toNatClampNeg), le, lc, upd tp x.toNatClampNeg 6, pn, an, kd, mn, sn, vl, rs, er, ev)) : wpX_link post (nc, nt, gp, tc, ep, tr, df, lt, dr, ad, fc, re, cs, cv, cx, le, lc, tp, pn, an, kd, mn, sn, vl, rs, er, ev) x := by
  unfold wpX_link
  exact ⟨hv, nm_r hy (xq_C1 hc (br_f er_10 (xq_trap0 hw h0 ⟨hv, hw, nm_e ⟨hv, nm_e hp⟩⟩)))⟩
theorem xq_read0 (hv : vp_in x 4) (hy : mn x.toNatClampNeg = y) (hc : ¬ er_ir y nc) (hp : post (nc, nt, gp, tc, ep, tr, df, lt, dr, ad, fc, re, cs, cv, cx, le, lc, upd tp x.toNatClampNeg 6, pn, an, kd, mn, sn, vl, rs, er, ev)) : wpX_readCell post (nc, nt, gp, tc, ep, tr, df, lt, dr, ad, fc, re, cs, cv, cx, le, lc, tp, pn, an, kd, mn, sn, vl, rs, er, ev) x := by
  unfold wpX_readCell
  exact ⟨hv, nm_r hy (xq_C0 hc (br_t rfl ⟨hv, nm_e hp⟩))⟩
theorem xq_read1 (hv : vp_in x 4) (hy : mn x.toNatClampNeg = y) (hc : er_ir y nc) (hw : vp_in y 32) (h0 : cs y.toNatClampNeg = 0) (hp : post (nc, nt, gp, tc, ep, tr + 1, df, y, dr, ad, fc, re, cs, cv, cx, le, lc, upd tp x.toNatClampNeg 6, pn, an, kd, mn, upd sn x.toNatClampNeg (cx y.toNatClampNeg), upd vl x.toNatClampNeg (cv y.toNatClampNeg), rs, er, ev)) : wpX_readCell post (nc, nt, gp, tc, ep, tr, df, lt, dr, ad, fc, re, cs, cv, cx, le, lc, tp, pn, an, kd, mn, sn, vl, rs, er, ev) x := by
  unfold wpX_readCell
  exact ⟨hv, nm_r hy (xq_C1 hc (br_f er_10 (xq_trap1 hw h0 ⟨hw, hv, nm_e ⟨hw, hv, nm_e ⟨hv, nm_e hp⟩⟩⟩)))⟩
theorem xq_read2 (hv : vp_in x 4) (hy : mn x.toNatClampNeg = y) (hc : er_ir y nc) (hw : vp_in y 32) (h0 : ¬ cs y.toNatClampNeg = 0) (hp : post (nc, nt, gp, tc, ep, tr, df, lt, dr, ad, fc, re, cs, cv, cx, le, lc, upd tp x.toNatClampNeg 6, pn, an, kd, mn, upd sn x.toNatClampNeg (cx y.toNatClampNeg), upd vl x.toNatClampNeg (cv y.toNatClampNeg), rs, er, ev)) : wpX_readCell post (nc, nt, gp, tc, ep, tr, df, lt, dr, ad, fc, re, cs, cv, cx, le, lc, tp, pn, an, kd, mn, sn, vl, rs, er, ev) x := by
  unfold wpX_readCell
  exact ⟨hv, nm_r hy (xq_C1 hc (br_f er_10 (xq_trap0 hw h0 ⟨hw, hv, nm_e ⟨hw, hv, nm_e ⟨hv, nm_e hp⟩⟩⟩)))⟩
theorem xq_cas1 (hv : vp_in x 4) (hk : kd x.toNatClampNeg = 1) (ht : tc = sn x.toNatClampNeg) (hp : post (nc, nt, gp, mn x.toNatClampNeg, ep, tr, df, lt, dr, ad, fc, re, cs, cv, cx, le, lc, upd tp x.toNatClampNeg 8, pn, an, kd, mn, sn, vl, upd rs x.toNatClampNeg 1, er, ev)) : wpX_compareAndSwap post (nc, nt, gp, tc, ep, tr, df, lt, dr, ad, fc, re, cs, cv, cx, le, lc, tp, pn, an, kd, mn, sn, vl, rs, er, ev) x :=
  ⟨hv, br_t hk (br_f er_10 ⟨hv, br_t ht (br_f er_10 ⟨hv, hv, nm_e (br_f er_10 ⟨hv, nm_e hp⟩)⟩)⟩)⟩
theorem xq_cas2 (hv : vp_in x 4) (hk : kd x.toNatClampNeg = 1) (ht : ¬ tc = sn x.toNatClampNeg) (hp : post (nc, nt, gp, tc, ep, tr, df, lt, dr, ad, fc, re, cs, cv, cx, le, lc, upd tp x.toNatClampNeg 3, pn, an, kd, mn, sn, vl, rs, er, ev)) : wpX_compareAndSwap post (nc, nt, gp, tc, ep, tr, df, lt, dr, ad, fc, re, cs, cv, cx, le, lc, tp, pn, an, kd, mn, sn, vl, rs, er, ev) x :=
  ⟨hv, br_t hk (br_f er_10 ⟨hv, br_f ht ⟨hv, nm_e hp⟩⟩)⟩
theorem xq_cas3 (hv : vp_in x 4) (hk : ¬ kd x.toNatClampNeg = 1) (ht : tc = mn x.toNatClampNeg) (hp : post (nc, nt, gp, sn x.toNatClampNeg, ep, tr, df, lt, dr, ad, fc, re, cs, cv, cx, le, lc, upd tp x.toNatClampNeg 7, pn, an, kd, mn, sn, vl, upd rs x.toNatClampNeg 1, er, ev)) : wpX_compareAndSwap post (nc, nt, gp, tc, ep, tr, df, lt, dr, ad, fc, re, cs, cv, cx, le, lc, tp, pn, an, kd, mn, sn, vl, rs, er, ev) x :=
  ⟨hv, br_f hk (br_t rfl ⟨hv, br_t ht (br_t rfl ⟨hv, hv, nm_e (br_t rfl ⟨hv, nm_e hp⟩)⟩)⟩)⟩
theorem xq_cas4 (hv : vp_in x 4) (hk : ¬ kd x.toNatClampNeg = 1) (ht : ¬ tc = mn x.toNatClampNeg) (hp : post (nc, nt, gp, tc, ep, tr, df, lt, dr, ad, fc, re, cs, cv, cx, le, lc, upd tp x.toNatClampNeg 3, pn, an, kd, mn, sn, vl, rs, er, ev)) : wpX_compareAndSwap post (nc, nt, gp, tc, ep, tr, df, lt, dr, ad, fc, re, cs, cv, cx, le, lc, tp, pn, an, kd, mn, sn, vl, rs, er, ev) x :=
  ⟨hv, br_f hk (br_t rfl ⟨hv, br_f ht ⟨hv, nm_e hp⟩⟩)⟩
/-! the list of an epoch: one number l below 3 -/
def er_l3 (x l : Int32) : Prop := (0 ≤ x - x / 3 * 3 ∧ l = x - x / 3 * 3) ∨ (¬ 0 ≤ x - x / 3 * 3 ∧ l = x - x / 3 * 3 + 3)
theorem er_l3_ex (x : Int32) : ∃ l, er_l3 x (nI l) ∧ l < 3 := by
  have h := er_m3 x
  by_cases g : 0 ≤ x - x / 3 * 3
  · obtain ⟨k, hk, e⟩ := h.2 (Int32.not_lt.mpr g)
    exact ⟨k, Or.inl ⟨g, e.symm⟩, hk⟩
  · obtain ⟨k, hk, e⟩ := h.1 (Int32.not_le.mp g)
    exact ⟨k, Or.inr ⟨g, e.symm⟩, hk⟩
theorem xq_listOf {q : Int32 → Prop} {l : Int32} (h : er_l3 x l) (hq : q l) : wpX_listOf q () x := by
  rcases h with ⟨g, e⟩ | ⟨g, e⟩
  · subst e
    exact ⟨by decide, nm_e (br_t g hq)⟩
  · subst e
    exact ⟨by decide, nm_e (br_f g hq)⟩
theorem xq_app1 {l : Int32} (hl : vp_in l 3) (hn : ¬ 32 ≤ lc l.toNatClampNeg) (hi : vp_in (l * 32 + lc l.toNatClampNeg) 96) (hp : post (nc, nt, gp, tc, ep, tr, df, lt, dr, ad, fc, re, cs, cv, cx, upd le (l * 32 + lc l.toNatClampNeg).toNatClampNeg y, upd lc l.toNatClampNeg (lc l.toNatClampNeg + 1), tp, pn, an, kd, mn, sn, vl, rs, er, ev)) : wpX_appendToLimbo post (nc, nt, gp, tc, ep, tr, df, lt, dr, ad, fc, re, cs, cv, cx, le, lc, tp, pn, an, kd, mn, sn, vl, rs, er, ev) l y :=
  ⟨hl, br_f hn ⟨hl, hi, nm_e ⟨hl, hl, nm_e hp⟩⟩⟩
theorem xq_app2 {l : Int32} (hl : vp_in l 3) (hn : 32 ≤ lc l.toNatClampNeg) (hp : post (nc, nt, gp, tc, ep, tr, df, lt, dr + 1, ad, fc, re, cs, cv, cx, le, lc, tp, pn, an, kd, mn, sn, vl, rs, er, ev)) : wpX_appendToLimbo post (nc, nt, gp, tc, ep, tr, df, lt, dr, ad, fc, re, cs, cv, cx, le, lc, tp, pn, an, kd, mn, sn, vl, rs, er, ev) l y :=
  ⟨hl, br_t hn (nm_e hp)⟩
/-! what becomes of the cell at RETIRE: s' is the states afterwards -/
def er_rt (nc : Int32) (cs : Nat → Int32) (y : Int32) (s' : Nat → Int32) : Prop := (¬ er_ir y nc ∧ s' = cs) ∨ (er_ir y nc ∧ vp_in y 32 ∧ ((cs y.toNatClampNeg = 1 ∧ s' = upd cs y.toNatClampNeg 2) ∨ (¬ cs y.toNatClampNeg = 1 ∧ s' = cs)))
theorem xq_ret1 {l : Int32} {s' : Nat → Int32} (hv : vp_in x 4) (hy : mn x.toNatClampNeg = y) (h3 : er_l3 (an x.toNatClampNeg) l) (hl : vp_in l 3) (hn : ¬ 32 ≤ lc l.toNatClampNeg) (hi : vp_in (l * 32 + lc l.toNatClampNeg) 96) (hs : er_rt nc cs y s')
    (hp : post (nc, nt, gp, tc, ep, tr, df, lt, dr, ad, fc, re + 1, s', cv, cx, upd le (l * 32 + lc l.toNatClampNeg).toNatClampNeg y, upd lc l.toNatClampNeg (lc l.toNatClampNeg + 1), upd tp x.toNatClampNeg 8, pn, an, kd, mn, sn, vl, rs, er, ev)) : wpX_retire post (nc, nt, gp, tc, ep, tr, df, lt, dr, ad, fc, re, cs, cv, cx, le, lc, tp, pn, an, kd, mn, sn, vl, rs, er, ev) x := by
  unfold wpX_retire
  refine ⟨hv, nm_r hy ⟨hv, xq_listOf h3 (xq_app1 hl hn hi ?_)⟩⟩
  rcases hs with ⟨g, e⟩ | ⟨g, w, ⟨g2, e⟩ | ⟨g2, e⟩⟩
  · subst e
    exact xq_C0 g (br_t rfl (nm_e ⟨hv, nm_e hp⟩))
  · subst e
    exact xq_C1 g (br_f er_10 ⟨w, br_t g2 ⟨w, nm_e (nm_e ⟨hv, nm_e hp⟩)⟩⟩)
  · subst e
    exact xq_C1 g (br_f er_10 ⟨w, br_f g2 (nm_e ⟨hv, nm_e hp⟩)⟩)
theorem xq_ret2 {l : Int32} {s' : Nat → Int32} (hv : vp_in x 4) (hy : mn x.toNatClampNeg = y) (h3 : er_l3 (an x.toNatClampNeg) l) (hl : vp_in l 3) (hn : 32 ≤ lc l.toNatClampNeg) (hs : er_rt nc cs y s')
    (hp : post (nc, nt, gp, tc, ep, tr, df, lt, dr + 1, ad, fc, re + 1, s', cv, cx, le, lc, upd tp x.toNatClampNeg 8, pn, an, kd, mn, sn, vl, rs, er, ev)) : wpX_retire post (nc, nt, gp, tc, ep, tr, df, lt, dr, ad, fc, re, cs, cv, cx, le, lc, tp, pn, an, kd, mn, sn, vl, rs, er, ev) x := by
  unfold wpX_retire
  refine ⟨hv, nm_r hy ⟨hv, xq_listOf h3 (xq_app2 hl hn ?_)⟩⟩
  rcases hs with ⟨g, e⟩ | ⟨g, w, ⟨g2, e⟩ | ⟨g2, e⟩⟩
  · subst e
    exact xq_C0 g (br_t rfl (nm_e ⟨hv, nm_e hp⟩))
  · subst e
    exact xq_C1 g (br_f er_10 ⟨w, br_t g2 ⟨w, nm_e (nm_e ⟨hv, nm_e hp⟩)⟩⟩)
  · subst e
    exact xq_C1 g (br_f er_10 ⟨w, br_f g2 (nm_e ⟨hv, nm_e hp⟩)⟩)
theorem xq_unpin (hv : vp_in x 4) (hp : post (nc, nt, gp, tc, ep, tr, df, lt, dr, ad, fc, re, cs, cv, cx, le, lc, upd tp x.toNatClampNeg 0, upd pn x.toNatClampNeg (vp_nar .boolean 0), an, kd, mn, sn, vl, rs, upd er x.toNatClampNeg (rs x.toNatClampNeg), upd ev x.toNatClampNeg (vl x.toNatClampNeg))) : wpX_unpin post (nc, nt, gp, tc, ep, tr, df, lt, dr, ad, fc, re, cs, cv, cx, le, lc, tp, pn, an, kd, mn, sn, vl, rs, er, ev) x :=
  ⟨hv, nm_e ⟨hv, hv, nm_e ⟨hv, hv, nm_e ⟨hv, nm_e hp⟩⟩⟩⟩
/-! the switch of executePhase -/
theorem xq_exec1 {u' : St2} (hv : vp_in x 4) (hk : tp x.toNatClampNeg = 1) (H : ∀ post : St2 → Prop, post u' → wpX_pin post (nc, nt, gp, tc, ep, tr, df, lt, dr, ad, fc, re, cs, cv, cx, le, lc, tp, pn, an, kd, mn, sn, vl, rs, er, ev) x) (hp : post u') : wpX_executePhase post (nc, nt, gp, tc, ep, tr, df, lt, dr, ad, fc, re, cs, cv, cx, le, lc, tp, pn, an, kd, mn, sn, vl, rs, er, ev) x := by
  obtain ⟨a1, a2, a3, a4, a5, a6, a7, a8, a9, a10, a11, a12, a13, a14, a15, a16, a17, a18, a19, a20, a21, a22, a23, a24, a25, a26, a27⟩ := u'
  unfold wpX_executePhase
  exact ⟨hv, nm_r hk (br_f (by decide) (br_f (by decide) (br_t rfl (H _ hp))))⟩
theorem xq_exec2 {u' : St2} (hv : vp_in x 4) (hk : tp x.toNatClampNeg = 2) (H : ∀ post : St2 → Prop, post u' → wpX_allocate post (nc, nt, gp, tc, ep, tr, df, lt, dr, ad, fc, re, cs, cv, cx, le, lc, tp, pn, an, kd, mn, sn, vl, rs, er, ev) x) (hp : post u') : wpX_executePhase post (nc, nt, gp, tc, ep, tr, df, lt, dr, ad, fc, re, cs, cv, cx, le, lc, tp, pn, an, kd, mn, sn, vl, rs, er, ev) x := by
  obtain ⟨a1, a2, a3, a4, a5, a6, a7, a8, a9, a10, a11, a12, a13, a14, a15, a16, a17, a18, a19, a20, a21, a22, a23, a24, a25, a26, a27⟩ := u'
  unfold wpX_executePhase
  exact ⟨hv, nm_r hk (br_f (by decide) (br_f (by decide) (br_f (by decide) (br_t rfl (H _ hp)))))⟩
theorem xq_exec3 {u' : St2} (hv : vp_in x 4) (hk : tp x.toNatClampNeg = 3) (H : ∀ post : St2 → Prop, post u' → wpX_readTop post (nc, nt, gp, tc, ep, tr, df, lt, dr, ad, fc, re, cs, cv, cx, le, lc, tp, pn, an, kd, mn, sn, vl, rs, er, ev) x) (hp : post u') : wpX_executePhase post (nc, nt, gp, tc, ep, tr, df, lt, dr, ad, fc, re, cs, cv, cx, le, lc, tp, pn, an, kd, mn, sn, vl, rs, er, ev) x := by
  obtain ⟨a1, a2, a3, a4, a5, a6, a7, a8, a9, a10, a11, a12, a13, a14, a15, a16, a17, a18, a19, a20, a21, a22, a23, a24, a25, a26, a27⟩ := u'
  unfold wpX_executePhase
  exact ⟨hv, nm_r hk (br_f (by decide) (br_f (by decide) (br_f (by decide) (br_f (by decide) (br_t rfl (H _ hp))))))⟩
theorem xq_exec4 {u' : St2} (hv : vp_in x 4) (hk : tp x.toNatClampNeg = 4) (H : ∀ post : St2 → Prop, post u' → wpX_link post (nc, nt, gp, tc, ep, tr, df, lt, dr, ad, fc, re, cs, cv, cx, le, lc, tp, pn, an, kd, mn, sn, vl, rs, er, ev) x) (hp : post u') : wpX_executePhase post (nc, nt, gp, tc, ep, tr, df, lt, dr, ad, fc, re, cs, cv, cx, le, lc, tp, pn, an, kd, mn, sn, vl, rs, er, ev) x := by
  obtain ⟨a1, a2, a3, a4, a5, a6, a7, a8, a9, a10, a11, a12, a13, a14, a15, a16, a17, a18, a19, a20, a21, a22, a23, a24, a25, a26, a27⟩ := u'
  unfold wpX_executePhase
  exact ⟨hv, nm_r hk (br_f (by decide) (br_f (by decide) (br_f (by decide) (br_f (by decide) (br_f (by decide) (br_t rfl (H _ hp)))))))⟩
theorem xq_exec5 {u' : St2} (hv : vp_in x 4) (hk : tp x.toNatClampNeg = 5) (H : ∀ post : St2 → Prop, post u' → wpX_readCell post (nc, nt, gp, tc, ep, tr, df, lt, dr, ad, fc, re, cs, cv, cx, le, lc, tp, pn, an, kd, mn, sn, vl, rs, er, ev) x) (hp : post u') : wpX_executePhase post (nc, nt, gp, tc, ep, tr, df, lt, dr, ad, fc, re, cs, cv, cx, le, lc, tp, pn, an, kd, mn, sn, vl, rs, er, ev) x := by
  obtain ⟨a1, a2, a3, a4, a5, a6, a7, a8, a9, a10, a11, a12, a13, a14, a15, a16, a17, a18, a19, a20, a21, a22, a23, a24, a25, a26, a27⟩ := u'
  unfold wpX_executePhase
  exact ⟨hv, nm_r hk (br_f (by decide) (br_f (by decide) (br_f (by decide) (br_f (by decide) (br_f (by decide) (br_f (by decide) (br_t rfl (H _ hp))))))))⟩
theorem xq_exec6 {u' : St2} (hv : vp_in x 4) (hk : tp x.toNatClampNeg = 6) (H : ∀ post : St2 → Prop, post u' → wpX_compareAndSwap post (nc, nt, gp, tc, ep, tr, df, lt, dr, ad, fc, re, cs, cv, cx, le, lc, tp, pn, an, kd, mn, sn, vl, rs, er, ev) x) (hp : post u') : wpX_executePhase post (nc, nt, gp, tc, ep, tr, df, lt, dr, ad, fc, re, cs, cv, cx, le, lc, tp, pn, an, kd, mn, sn, vl, rs, er, ev) x := by
  obtain ⟨a1, a2, a3, a4, a5, a6, a7, a8, a9, a10, a11, a12, a13, a14, a15, a16, a17, a18, a19, a20, a21, a22, a23, a24, a25, a26, a27⟩ := u'
  unfold wpX_executePhase
  exact ⟨hv, nm_r hk (br_f (by decide) (br_f (by decide) (br_f (by decide) (br_f (by decide) (br_f (by decide) (br_f (by decide) (br_f (by decide) (br_t rfl (H _ hp)))))))))⟩
theorem xq_exec7 {u' : St2} (hv : vp_in x 4) (hk : tp x.toNatClampNeg = 7) (H : ∀ post : St2 → Prop, post u' → wpX_retire post (nc, nt, gp, tc, ep, tr, df, lt, dr, ad, fc, re, cs, cv, cx, le, lc, tp, pn, an, kd, mn, sn, vl, rs, er, ev) x) (hp : post u') : wpX_executePhase post (nc, nt, gp, tc, ep, tr, df, lt, dr, ad, fc, re, cs, cv, cx, le, lc, tp, pn, an, kd, mn, sn, vl, rs, er, ev) x := by
  obtain ⟨a1, a2, a3, a4, a5, a6, a7, a8, a9, a10, a11, a12, a13, a14, a15, a16, a17, a18, a19, a20, a21, a22, a23, a24, a25, a26, a27⟩ := u'
  unfold wpX_executePhase
  exact ⟨hv, nm_r hk (br_f (by decide) (br_f (by decide) (br_f (by decide) (br_f (by decide) (br_f (by decide) (br_f (by decide) (br_f (by decide) (br_f (by decide) (br_t rfl (H _ hp))))))))))⟩
theorem xq_exec8 {u' : St2} (hv : vp_in x 4) (hk : tp x.toNatClampNeg = 8) (H : ∀ post : St2 → Prop, post u' → wpX_unpin post (nc, nt, gp, tc, ep, tr, df, lt, dr, ad, fc, re, cs, cv, cx, le, lc, tp, pn, an, kd, mn, sn, vl, rs, er, ev) x) (hp : post u') : wpX_executePhase post (nc, nt, gp, tc, ep, tr, df, lt, dr, ad, fc, re, cs, cv, cx, le, lc, tp, pn, an, kd, mn, sn, vl, rs, er, ev) x := by
  obtain ⟨a1, a2, a3, a4, a5, a6, a7, a8, a9, a10, a11, a12, a13, a14, a15, a16, a17, a18, a19, a20, a21, a22, a23, a24, a25, a26, a27⟩ := u'
  unfold wpX_executePhase
  exact ⟨hv, nm_r hk (br_f (by decide) (br_f (by decide) (br_f (by decide) (br_f (by decide) (br_f (by decide) (br_f (by decide) (br_f (by decide) (br_f (by decide) (br_f (by decide) (br_t rfl (H _ hp)))))))))))⟩
end
