/-! the relation: every field and every array is one on both sides; freeCells is the number of FREE cells -/
def er_OK (C T : Nat) (lc tp : Nat → Int32) : Prop := 8 ≤ C ∧ C ≤ 32 ∧ 2 ≤ T ∧ T ≤ 4 ∧ (∀ t, t < T → ∃ p, p ≤ 8 ∧ tp t = nI p) ∧ (∀ k, k < 3 → ∃ n, n ≤ 32 ∧ lc k = nI n)
def er_R (C T : Nat) (u : SX) (v : SY) : Prop := ∃ (gp tc ep tr df lt dr ad re : Int32) (cs cv cx le lc tp pn an kd mn sn vl rs er ev : Nat → Int32), u = (nI C, nI T, gp, tc, ep, tr, df, lt, dr, ad, nI (er_cn cs C), re, cs, cv, cx, le, lc, tp, pn, an, kd, mn, sn, vl, rs, er, ev) ∧ v = (nI C, nI T, gp, tc, ep, tr, df, lt, dr, ad, re, cs, cv, cx, le, lc, tp, pn, an, kd, mn, sn, vl, rs, er, ev) ∧ er_OK C T lc tp
def i_Rel (_ : Nat) (u : SX) (v : SY) : Prop := ∃ C T, er_R C T u v
theorem i_up {k : Nat} {u : SX} {v : SY} (h : i_Rel k u v) : i_Rel (k + 3) u v := h
theorem er_okP {C T i q : Nat} {lc tp : Nat → Int32} {y : Int32} (h : er_OK C T lc tp) (hy : y = nI q) (hq : q ≤ 8) : er_OK C T lc (upd tp i y) := by
  obtain ⟨h1, h2, h3, h4, h5, h6⟩ := h
  refine ⟨h1, h2, h3, h4, fun t ht => ?_, h6⟩
  by_cases e : t = i
  · exact ⟨q, hq, by rw [e, pk_us]; exact hy⟩
  · rw [pk_un e]
    exact h5 t ht
theorem er_okL {C T i q : Nat} {lc tp : Nat → Int32} {y : Int32} (h : er_OK C T lc tp) (hy : y = nI q) (hq : q ≤ 32) : er_OK C T (upd lc i y) tp := by
  obtain ⟨h1, h2, h3, h4, h5, h6⟩ := h
  refine ⟨h1, h2, h3, h4, h5, fun t ht => ?_⟩
  by_cases e : t = i
  · exact ⟨q, hq, by rw [e, pk_us]; exact hy⟩
  · rw [pk_un e]
    exact h6 t ht
theorem er_rt_ex {C : Nat} (cs : Nat → Int32) (hC : C ≤ 32) (y : Int32) : ∃ s', er_rt (nI C) cs y s' ∧ er_cn s' C = er_cn cs C := by
  by_cases h : er_ir y (nI C)
  · obtain ⟨w, hc⟩ := er_ir_in hC (by omega) h
    by_cases g : cs y.toNatClampNeg = 1
    · exact ⟨upd cs y.toNatClampNeg 2, Or.inr ⟨h, w, Or.inl ⟨g, rfl⟩⟩, er_cn_same hc (by rw [g]; decide) (by decide)⟩
    · exact ⟨cs, Or.inr ⟨h, w, Or.inr ⟨g, rfl⟩⟩, rfl⟩
  · exact ⟨cs, Or.inl ⟨h, rfl⟩, rfl⟩
theorem er_vi {k i : Nat} (hk : k < 3) (hi : i < 32) : vp_in (nI k * 32 + nI i) 96 := by
  show vp_in (nI k * nI 32 + nI i) 96
  rw [pk_mul, nI_add]
  exact vp_in_nI (by omega) (by omega)
/-! one step of a busy thread, in lockstep -/
def er_LS (C T : Nat) (u : SX) (v : SY) (x p : Int32) : Prop := ∃ u' v', er_R C T u' v' ∧ (∀ post : SX → Prop, post u' → wpX_executePhase post u x) ∧ (∀ post : Int32 → SY → Prop, post p v' → wpY_step post v x)
section
variable {nc nt gp tc ep tr df lt dr ad fc re : Int32} {cs cv cx le lc tp pn an kd mn sn vl rs er ev : Nat → Int32}
variable {C T : Nat} {x : Int32}
theorem er_p1 (I : er_OK C T lc tp) (h : er_ir x (nI T)) (hv : vp_in x 4) (hp : tp x.toNatClampNeg = 1) : er_LS C T (nI C, nI T, gp, tc, ep, tr, df, lt, dr, ad, nI (er_cn cs C), re, cs, cv, cx, le, lc, tp, pn, an, kd, mn, sn, vl, rs, er, ev) (nI C, nI T, gp, tc, ep, tr, df, lt, dr, ad, re, cs, cv, cx, le, lc, tp, pn, an, kd, mn, sn, vl, rs, er, ev) x (tp x.toNatClampNeg) := by
  have h0 : ¬ tp x.toNatClampNeg = 0 := by rw [hp]; decide
  by_cases k : kd x.toNatClampNeg = 1
  · exact ⟨(nI C, nI T, gp, tc, ep, tr, df, lt, dr, ad, nI (er_cn cs C), re, cs, cv, cx, le, lc, upd tp x.toNatClampNeg 2, upd pn x.toNatClampNeg (vp_nar .boolean 1), upd an x.toNatClampNeg ep, kd, mn, sn, vl, rs, er, ev), (nI C, nI T, gp, tc, ep, tr, df, lt, dr, ad, re, cs, cv, cx, le, lc, upd tp x.toNatClampNeg 2, upd pn x.toNatClampNeg (vp_nar .boolean 1), upd an x.toNatClampNeg ep, kd, mn, sn, vl, rs, er, ev), ⟨_, _, _, _, _, _, _, _, _, _, _, _, _, _, _, _, _, _, _, _, _, _, _, _, rfl, rfl, er_okP (q := 2) I rfl (by decide)⟩, fun post hq => xq_exec1 hv hp (fun _ => xq_pin1 hv k) hq, fun post hq => yq_stepP h hv h0 k (yq_1a hv hp er_10 hq)⟩
  · exact ⟨(nI C, nI T, gp, tc, ep, tr, df, lt, dr, ad, nI (er_cn cs C), re, cs, cv, cx, le, lc, upd tp x.toNatClampNeg 3, upd pn x.toNatClampNeg (vp_nar .boolean 1), upd an x.toNatClampNeg ep, kd, mn, sn, vl, rs, er, ev), (nI C, nI T, gp, tc, ep, tr, df, lt, dr, ad, re, cs, cv, cx, le, lc, upd tp x.toNatClampNeg 3, upd pn x.toNatClampNeg (vp_nar .boolean 1), upd an x.toNatClampNeg ep, kd, mn, sn, vl, rs, er, ev), ⟨_, _, _, _, _, _, _, _, _, _, _, _, _, _, _, _, _, _, _, _, _, _, _, _, rfl, rfl, er_okP (q := 3) I rfl (by decide)⟩, fun post hq => xq_exec1 hv hp (fun _ => xq_pin2 hv k) hq, fun post hq => yq_stepQ h hv h0 k (yq_1b hv hp rfl hq)⟩
theorem er_p2 (I : er_OK C T lc tp) (h : er_ir x (nI T)) (hv : vp_in x 4) (hp : tp x.toNatClampNeg = 2) : er_LS C T (nI C, nI T, gp, tc, ep, tr, df, lt, dr, ad, nI (er_cn cs C), re, cs, cv, cx, le, lc, tp, pn, an, kd, mn, sn, vl, rs, er, ev) (nI C, nI T, gp, tc, ep, tr, df, lt, dr, ad, re, cs, cv, cx, le, lc, tp, pn, an, kd, mn, sn, vl, rs, er, ev) x (tp x.toNatClampNeg) := by
  have h0 : ¬ tp x.toNatClampNeg = 0 := by rw [hp]; decide
  have n1 : ¬ tp x.toNatClampNeg = 1 := by rw [hp]; decide
  have hC := I.2.1
  rcases er_least cs C with hn | ⟨c, hc, hz, hn⟩
  · exact ⟨(nI C, nI T, gp, tc, ep, tr, df, lt, dr, ad, nI (er_cn cs C), re, cs, cv, cx, le, lc, upd tp x.toNatClampNeg 8, pn, an, kd, mn, sn, vl, upd rs x.toNatClampNeg 3, er, ev), (nI C, nI T, gp, tc, ep, tr, df, lt, dr, ad, re, cs, cv, cx, le, lc, upd tp x.toNatClampNeg 8, pn, an, kd, mn, sn, vl, upd rs x.toNatClampNeg 3, er, ev), ⟨_, _, _, _, _, _, _, _, _, _, _, _, _, _, _, _, _, _, _, _, _, _, _, _, rfl, rfl, er_okP (q := 8) I rfl (by decide)⟩, fun post hq => xq_exec2 hv hp (fun _ => xq_alloc0 hv hC hn) hq, fun post hq => yq_stepZ h hv h0 (fun z => yq_2a hv n1 hp hC hn hq)⟩
  · have hf : nI (er_cn cs C) - 1 = nI (er_cn (upd cs (nI c).toNatClampNeg 1) C) := by
      rw [nI_clamp (by omega)]
      exact er_cn_dec' hc hz (by decide)
    exact ⟨(nI C, nI T, gp, tc, ep, tr, df, lt, dr, ad, nI (er_cn (upd cs (nI c).toNatClampNeg 1) C), re, upd cs (nI c).toNatClampNeg 1, upd cv (nI c).toNatClampNeg (vl x.toNatClampNeg), upd cx (nI c).toNatClampNeg (-1), le, lc, upd tp x.toNatClampNeg 3, pn, an, kd, upd mn x.toNatClampNeg (nI c), sn, vl, rs, er, ev), (nI C, nI T, gp, tc, ep, tr, df, lt, dr, ad, re, upd cs (nI c).toNatClampNeg 1, upd cv (nI c).toNatClampNeg (vl x.toNatClampNeg), upd cx (nI c).toNatClampNeg (-1), le, lc, upd tp x.toNatClampNeg 3, pn, an, kd, upd mn x.toNatClampNeg (nI c), sn, vl, rs, er, ev), ⟨_, _, _, _, _, _, _, _, _, _, _, _, _, _, _, _, _, _, _, _, _, _, _, _, rfl, rfl, er_okP (q := 3) I rfl (by decide)⟩, fun post hq => xq_exec2 hv hp (fun _ => xq_alloc1 hv hC hc hn hz hf) hq, fun post hq => yq_stepZ h hv h0 (fun z => yq_2b hv n1 hp hC hc hz hn hq)⟩
theorem er_p3 (I : er_OK C T lc tp) (h : er_ir x (nI T)) (hv : vp_in x 4) (hp : tp x.toNatClampNeg = 3) : er_LS C T (nI C, nI T, gp, tc, ep, tr, df, lt, dr, ad, nI (er_cn cs C), re, cs, cv, cx, le, lc, tp, pn, an, kd, mn, sn, vl, rs, er, ev) (nI C, nI T, gp, tc, ep, tr, df, lt, dr, ad, re, cs, cv, cx, le, lc, tp, pn, an, kd, mn, sn, vl, rs, er, ev) x (tp x.toNatClampNeg) := by
  have h0 : ¬ tp x.toNatClampNeg = 0 := by rw [hp]; decide
  have n1 : ¬ tp x.toNatClampNeg = 1 := by rw [hp]; decide
  have n2 : ¬ tp x.toNatClampNeg = 2 := by rw [hp]; decide
  by_cases k : kd x.toNatClampNeg = 1
  · exact ⟨(nI C, nI T, gp, tc, ep, tr, df, lt, dr, ad, nI (er_cn cs C), re, cs, cv, cx, le, lc, upd tp x.toNatClampNeg 4, pn, an, kd, mn, upd sn x.toNatClampNeg tc, vl, rs, er, ev), (nI C, nI T, gp, tc, ep, tr, df, lt, dr, ad, re, cs, cv, cx, le, lc, upd tp x.toNatClampNeg 4, pn, an, kd, mn, upd sn x.toNatClampNeg tc, vl, rs, er, ev), ⟨_, _, _, _, _, _, _, _, _, _, _, _, _, _, _, _, _, _, _, _, _, _, _, _, rfl, rfl, er_okP (q := 4) I rfl (by decide)⟩, fun post hq => xq_exec3 hv hp (fun _ => xq_top1 hv k) hq, fun post hq => yq_stepP h hv h0 k (yq_3a hv n1 n2 hp er_10 hq)⟩
  · by_cases g : tc = -1
    · exact ⟨(nI C, nI T, gp, tc, ep, tr, df, lt, dr, ad, nI (er_cn cs C), re, cs, cv, cx, le, lc, upd tp x.toNatClampNeg 8, pn, an, kd, upd mn x.toNatClampNeg tc, sn, upd vl x.toNatClampNeg 0, upd rs x.toNatClampNeg 2, er, ev), (nI C, nI T, gp, tc, ep, tr, df, lt, dr, ad, re, cs, cv, cx, le, lc, upd tp x.toNatClampNeg 8, pn, an, kd, upd mn x.toNatClampNeg tc, sn, upd vl x.toNatClampNeg 0, upd rs x.toNatClampNeg 2, er, ev), ⟨_, _, _, _, _, _, _, _, _, _, _, _, _, _, _, _, _, _, _, _, _, _, _, _, rfl, rfl, er_okP (q := 8) I rfl (by decide)⟩, fun post hq => xq_exec3 hv hp (fun _ => xq_top2 hv k g) hq, fun post hq => yq_stepQ h hv h0 k (yq_3b hv n1 n2 hp rfl g hq)⟩
    · exact ⟨(nI C, nI T, gp, tc, ep, tr, df, lt, dr, ad, nI (er_cn cs C), re, cs, cv, cx, le, lc, upd tp x.toNatClampNeg 5, pn, an, kd, upd mn x.toNatClampNeg tc, sn, vl, rs, er, ev), (nI C, nI T, gp, tc, ep, tr, df, lt, dr, ad, re, cs, cv, cx, le, lc, upd tp x.toNatClampNeg 5, pn, an, kd, upd mn x.toNatClampNeg tc, sn, vl, rs, er, ev), ⟨_, _, _, _, _, _, _, _, _, _, _, _, _, _, _, _, _, _, _, _, _, _, _, _, rfl, rfl, er_okP (q := 5) I rfl (by decide)⟩, fun post hq => xq_exec3 hv hp (fun _ => xq_top3 hv k g) hq, fun post hq => yq_stepQ h hv h0 k (yq_3c hv n1 n2 hp rfl g hq)⟩
theorem er_p4 (I : er_OK C T lc tp) (h : er_ir x (nI T)) (hv : vp_in x 4) (hp : tp x.toNatClampNeg = 4) : er_LS C T (nI C, nI T, gp, tc, ep, tr, df, lt, dr, ad, nI (er_cn cs C), re, cs, cv, cx, le, lc, tp, pn, an, kd, mn, sn, vl, rs, er, ev) (nI C, nI T, gp, tc, ep, tr, df, lt, dr, ad, re, cs, cv, cx, le, lc, tp, pn, an, kd, mn, sn, vl, rs, er, ev) x (tp x.toNatClampNeg) := by
  have h0 : ¬ tp x.toNatClampNeg = 0 := by rw [hp]; decide
  have n1 : ¬ tp x.toNatClampNeg = 1 := by rw [hp]; decide
  have n2 : ¬ tp x.toNatClampNeg = 2 := by rw [hp]; decide
  have n3 : ¬ tp x.toNatClampNeg = 3 := by rw [hp]; decide
  obtain ⟨y, hy⟩ : ∃ y, mn x.toNatClampNeg = y := ⟨_, rfl⟩
  by_cases c : er_ir y (nI C)
  · have w := (er_ir_in I.2.1 (by omega) c).1
    by_cases g : cs y.toNatClampNeg = 0
    · exact ⟨(nI C, nI T, gp, tc, ep, tr + 1, df, y, dr, ad, nI (er_cn cs C), re, cs, cv, upd cx y.toNatClampNeg (sn x.toNatClampNeg), le, lc, upd tp x.toNatClampNeg 6, pn, an, kd, mn, sn, vl, rs, er, ev), (nI C, nI T, gp, tc, ep, tr + 1, df, y, dr, ad, re, cs, cv, upd cx y.toNatClampNeg (sn x.toNatClampNeg), le, lc, upd tp x.toNatClampNeg 6, pn, an, kd, mn, sn, vl, rs, er, ev), ⟨_, _, _, _, _, _, _, _, _, _, _, _, _, _, _, _, _, _, _, _, _, _, _, _, rfl, rfl, er_okP (q := 6) I rfl (by decide)⟩, fun post hq => xq_exec4 hv hp (fun _ => xq_link1 hv hy c w g) hq, fun post hq => yq_stepZ h hv h0 (fun z => yq_4b hv n1 n2 n3 hp hy c w g hq)⟩
    · exact ⟨(nI C, nI T, gp, tc, ep, tr, df, lt, dr, ad, nI (er_cn cs C), re, cs, cv, upd cx y.toNatClampNeg (sn x.toNatClampNeg), le, lc, upd tp x.toNatClampNeg 6, pn, an, kd, mn, sn, vl, rs, er, ev), (nI C, nI T, gp, tc, ep, tr, df, lt, dr, ad, re, cs, cv, upd cx y.toNatClampNeg (sn x.toNatClampNeg), le, lc, upd tp x.toNatClampNeg 6, pn, an, kd, mn, sn, vl, rs, er, ev), ⟨_, _, _, _, _, _, _, _, _, _, _, _, _, _, _, _, _, _, _, _, _, _, _, _, rfl, rfl, er_okP (q := 6) I rfl (by decide)⟩, fun post hq => xq_exec4 hv hp (fun _ => xq_link2 hv hy c w g) hq, fun post hq => yq_stepZ h hv h0 (fun z => yq_4c hv n1 n2 n3 hp hy c w g hq)⟩
  · exact ⟨(nI C, nI T, gp, tc, ep, tr, df, lt, dr, ad, nI (er_cn cs C), re, cs, cv, cx, le, lc, upd tp x.toNatClampNeg 6, pn, an, kd, mn, sn, vl, rs, er, ev), (nI C, nI T, gp, tc, ep, tr, df, lt, dr, ad, re, cs, cv, cx, le, lc, upd tp x.toNatClampNeg 6, pn, an, kd, mn, sn, vl, rs, er, ev), ⟨_, _, _, _, _, _, _, _, _, _, _, _, _, _, _, _, _, _, _, _, _, _, _, _, rfl, rfl, er_okP (q := 6) I rfl (by decide)⟩, fun post hq => xq_exec4 hv hp (fun _ => xq_link0 hv hy c) hq, fun post hq => yq_stepZ h hv h0 (fun z => yq_4a hv n1 n2 n3 hp hy c hq)⟩
theorem er_p5 (I : er_OK C T lc tp) (h : er_ir x (nI T)) (hv : vp_in x 4) (hp : tp x.toNatClampNeg = 5) : er_LS C T (nI C, nI T, gp, tc, ep, tr, df, lt, dr, ad, nI (er_cn cs C), re, cs, cv, cx, le, lc, tp, pn, an, kd, mn, sn, vl, rs, er, ev) (nI C, nI T, gp, tc, ep, tr, df, lt, dr, ad, re, cs, cv, cx, le, lc, tp, pn, an, kd, mn, sn, vl, rs, er, ev) x (tp x.toNatClampNeg) := by
  have h0 : ¬ tp x.toNatClampNeg = 0 := by rw [hp]; decide
  have n1 : ¬ tp x.toNatClampNeg = 1 := by rw [hp]; decide
  have n2 : ¬ tp x.toNatClampNeg = 2 := by rw [hp]; decide
  have n3 : ¬ tp x.toNatClampNeg = 3 := by rw [hp]; decide
  have n4 : ¬ tp x.toNatClampNeg = 4 := by rw [hp]; decide
  obtain ⟨y, hy⟩ : ∃ y, mn x.toNatClampNeg = y := ⟨_, rfl⟩
  by_cases c : er_ir y (nI C)
  · have w := (er_ir_in I.2.1 (by omega) c).1
    by_cases g : cs y.toNatClampNeg = 0
    · exact ⟨(nI C, nI T, gp, tc, ep, tr + 1, df, y, dr, ad, nI (er_cn cs C), re, cs, cv, cx, le, lc, upd tp x.toNatClampNeg 6, pn, an, kd, mn, upd sn x.toNatClampNeg (cx y.toNatClampNeg), upd vl x.toNatClampNeg (cv y.toNatClampNeg), rs, er, ev), (nI C, nI T, gp, tc, ep, tr + 1, df, y, dr, ad, re, cs, cv, cx, le, lc, upd tp x.toNatClampNeg 6, pn, an, kd, mn, upd sn x.toNatClampNeg (cx y.toNatClampNeg), upd vl x.toNatClampNeg (cv y.toNatClampNeg), rs, er, ev), ⟨_, _, _, _, _, _, _, _, _, _, _, _, _, _, _, _, _, _, _, _, _, _, _, _, rfl, rfl, er_okP (q := 6) I rfl (by decide)⟩, fun post hq => xq_exec5 hv hp (fun _ => xq_read1 hv hy c w g) hq, fun post hq => yq_stepZ h hv h0 (fun z => yq_5b hv n1 n2 n3 n4 hp hy c w g hq)⟩
    · exact ⟨(nI C, nI T, gp, tc, ep, tr, df, lt, dr, ad, nI (er_cn cs C), re, cs, cv, cx, le, lc, upd tp x.toNatClampNeg 6, pn, an, kd, mn, upd sn x.toNatClampNeg (cx y.toNatClampNeg), upd vl x.toNatClampNeg (cv y.toNatClampNeg), rs, er, ev), (nI C, nI T, gp, tc, ep, tr, df, lt, dr, ad, re, cs, cv, cx, le, lc, upd tp x.toNatClampNeg 6, pn, an, kd, mn, upd sn x.toNatClampNeg (cx y.toNatClampNeg), upd vl x.toNatClampNeg (cv y.toNatClampNeg), rs, er, ev), ⟨_, _, _, _, _, _, _, _, _, _, _, _, _, _, _, _, _, _, _, _, _, _, _, _, rfl, rfl, er_okP (q := 6) I rfl (by decide)⟩, fun post hq => xq_exec5 hv hp (fun _ => xq_read2 hv hy c w g) hq, fun post hq => yq_stepZ h hv h0 (fun z => yq_5c hv n1 n2 n3 n4 hp hy c w g hq)⟩
  · exact ⟨(nI C, nI T, gp, tc, ep, tr, df, lt, dr, ad, nI (er_cn cs C), re, cs, cv, cx, le, lc, upd tp x.toNatClampNeg 6, pn, an, kd, mn, sn, vl, rs, er, ev), (nI C, nI T, gp, tc, ep, tr, df, lt, dr, ad, re, cs, cv, cx, le, lc, upd tp x.toNatClampNeg 6, pn, an, kd, mn, sn, vl, rs, er, ev), ⟨_, _, _, _, _, _, _, _, _, _, _, _, _, _, _, _, _, _, _, _, _, _, _, _, rfl, rfl, er_okP (q := 6) I rfl (by decide)⟩, fun post hq => xq_exec5 hv hp (fun _ => xq_read0 hv hy c) hq, fun post hq => yq_stepZ h hv h0 (fun z => yq_5a hv n1 n2 n3 n4 hp hy c hq)⟩
theorem er_p6 (I : er_OK C T lc tp) (h : er_ir x (nI T)) (hv : vp_in x 4) (hp : tp x.toNatClampNeg = 6) : er_LS C T (nI C, nI T, gp, tc, ep, tr, df, lt, dr, ad, nI (er_cn cs C), re, cs, cv, cx, le, lc, tp, pn, an, kd, mn, sn, vl, rs, er, ev) (nI C, nI T, gp, tc, ep, tr, df, lt, dr, ad, re, cs, cv, cx, le, lc, tp, pn, an, kd, mn, sn, vl, rs, er, ev) x (tp x.toNatClampNeg) := by
  have h0 : ¬ tp x.toNatClampNeg = 0 := by rw [hp]; decide
  have n1 : ¬ tp x.toNatClampNeg = 1 := by rw [hp]; decide
  have n2 : ¬ tp x.toNatClampNeg = 2 := by rw [hp]; decide
  have n3 : ¬ tp x.toNatClampNeg = 3 := by rw [hp]; decide
  have n4 : ¬ tp x.toNatClampNeg = 4 := by rw [hp]; decide
  have n5 : ¬ tp x.toNatClampNeg = 5 := by rw [hp]; decide
  by_cases k : kd x.toNatClampNeg = 1
  · by_cases g : tc = sn x.toNatClampNeg
    · exact ⟨(nI C, nI T, gp, mn x.toNatClampNeg, ep, tr, df, lt, dr, ad, nI (er_cn cs C), re, cs, cv, cx, le, lc, upd tp x.toNatClampNeg 8, pn, an, kd, mn, sn, vl, upd rs x.toNatClampNeg 1, er, ev), (nI C, nI T, gp, mn x.toNatClampNeg, ep, tr, df, lt, dr, ad, re, cs, cv, cx, le, lc, upd tp x.toNatClampNeg 8, pn, an, kd, mn, sn, vl, upd rs x.toNatClampNeg 1, er, ev), ⟨_, _, _, _, _, _, _, _, _, _, _, _, _, _, _, _, _, _, _, _, _, _, _, _, rfl, rfl, er_okP (q := 8) I rfl (by decide)⟩, fun post hq => xq_exec6 hv hp (fun _ => xq_cas1 hv k g) hq, fun post hq => yq_stepP h hv h0 k (yq_6a hv n1 n2 n3 n4 n5 hp er_10 g hq)⟩
    · exact ⟨(nI C, nI T, gp, tc, ep, tr, df, lt, dr, ad, nI (er_cn cs C), re, cs, cv, cx, le, lc, upd tp x.toNatClampNeg 3, pn, an, kd, mn, sn, vl, rs, er, ev), (nI C, nI T, gp, tc, ep, tr, df, lt, dr, ad, re, cs, cv, cx, le, lc, upd tp x.toNatClampNeg 3, pn, an, kd, mn, sn, vl, rs, er, ev), ⟨_, _, _, _, _, _, _, _, _, _, _, _, _, _, _, _, _, _, _, _, _, _, _, _, rfl, rfl, er_okP (q := 3) I rfl (by decide)⟩, fun post hq => xq_exec6 hv hp (fun _ => xq_cas2 hv k g) hq, fun post hq => yq_stepP h hv h0 k (yq_6b hv n1 n2 n3 n4 n5 hp er_10 g hq)⟩
  · by_cases g : tc = mn x.toNatClampNeg
    · exact ⟨(nI C, nI T, gp, sn x.toNatClampNeg, ep, tr, df, lt, dr, ad, nI (er_cn cs C), re, cs, cv, cx, le, lc, upd tp x.toNatClampNeg 7, pn, an, kd, mn, sn, vl, upd rs x.toNatClampNeg 1, er, ev), (nI C, nI T, gp, sn x.toNatClampNeg, ep, tr, df, lt, dr, ad, re, cs, cv, cx, le, lc, upd tp x.toNatClampNeg 7, pn, an, kd, mn, sn, vl, upd rs x.toNatClampNeg 1, er, ev), ⟨_, _, _, _, _, _, _, _, _, _, _, _, _, _, _, _, _, _, _, _, _, _, _, _, rfl, rfl, er_okP (q := 7) I rfl (by decide)⟩, fun post hq => xq_exec6 hv hp (fun _ => xq_cas3 hv k g) hq, fun post hq => yq_stepQ h hv h0 k (yq_6c hv n1 n2 n3 n4 n5 hp rfl g hq)⟩
    · exact ⟨(nI C, nI T, gp, tc, ep, tr, df, lt, dr, ad, nI (er_cn cs C), re, cs, cv, cx, le, lc, upd tp x.toNatClampNeg 3, pn, an, kd, mn, sn, vl, rs, er, ev), (nI C, nI T, gp, tc, ep, tr, df, lt, dr, ad, re, cs, cv, cx, le, lc, upd tp x.toNatClampNeg 3, pn, an, kd, mn, sn, vl, rs, er, ev), ⟨_, _, _, _, _, _, _, _, _, _, _, _, _, _, _, _, _, _, _, _, _, _, _, _, rfl, rfl, er_okP (q := 3) I rfl (by decide)⟩, fun post hq => xq_exec6 hv hp (fun _ => xq_cas4 hv k g) hq, fun post hq => yq_stepQ h hv h0 k (yq_6d hv n1 n2 n3 n4 n5 hp rfl g hq)⟩
theorem er_p7 (I : er_OK C T lc tp) (h : er_ir x (nI T)) (hv : vp_in x 4) (hp : tp x.toNatClampNeg = 7) : er_LS C T (nI C, nI T, gp, tc, ep, tr, df, lt, dr, ad, nI (er_cn cs C), re, cs, cv, cx, le, lc, tp, pn, an, kd, mn, sn, vl, rs, er, ev) (nI C, nI T, gp, tc, ep, tr, df, lt, dr, ad, re, cs, cv, cx, le, lc, tp, pn, an, kd, mn, sn, vl, rs, er, ev) x (tp x.toNatClampNeg) := by
  have h0 : ¬ tp x.toNatClampNeg = 0 := by rw [hp]; decide
  have n1 : ¬ tp x.toNatClampNeg = 1 := by rw [hp]; decide
  have n2 : ¬ tp x.toNatClampNeg = 2 := by rw [hp]; decide
  have n3 : ¬ tp x.toNatClampNeg = 3 := by rw [hp]; decide
  have n4 : ¬ tp x.toNatClampNeg = 4 := by rw [hp]; decide
  have n5 : ¬ tp x.toNatClampNeg = 5 := by rw [hp]; decide
  have n6 : ¬ tp x.toNatClampNeg = 6 := by rw [hp]; decide
  obtain ⟨y, hy⟩ : ∃ y, mn x.toNatClampNeg = y := ⟨_, rfl⟩
  obtain ⟨s', hs, he⟩ := er_rt_ex cs I.2.1 y
  obtain ⟨l, h3, hl⟩ := er_l3_ex (an x.toNatClampNeg)
  have hlv : vp_in (nI l) 3 := vp_in_nI hl (by omega)
  have hl2 : (nI l).toNatClampNeg = l := nI_clamp (by omega)
  obtain ⟨n, hn, hN⟩ := I.2.2.2.2.2 l hl
  have hN2 : lc (nI l).toNatClampNeg = nI n := by rw [hl2]; exact hN
  by_cases g : n < 32
  · have g1 : ¬ 32 ≤ lc (nI l).toNatClampNeg := by rw [hN2]; exact nI_ge (b := 32) g (by decide)
    have g2 : vp_in (nI l * 32 + lc (nI l).toNatClampNeg) 96 := by rw [hN2]; exact er_vi hl g
    refine ⟨(nI C, nI T, gp, tc, ep, tr, df, lt, dr, ad, nI (er_cn s' C), re + 1, s', cv, cx, upd le (nI l * 32 + lc (nI l).toNatClampNeg).toNatClampNeg y, upd lc (nI l).toNatClampNeg (lc (nI l).toNatClampNeg + 1), upd tp x.toNatClampNeg 8, pn, an, kd, mn, sn, vl, rs, er, ev), (nI C, nI T, gp, tc, ep, tr, df, lt, dr, ad, re + 1, s', cv, cx, upd le (nI l * 32 + lc (nI l).toNatClampNeg).toNatClampNeg y, upd lc (nI l).toNatClampNeg (lc (nI l).toNatClampNeg + 1), upd tp x.toNatClampNeg 8, pn, an, kd, mn, sn, vl, rs, er, ev), ⟨_, _, _, _, _, _, _, _, _, _, _, _, _, _, _, _, _, _, _, _, _, _, _, _, rfl, rfl, er_okL (q := n + 1) (er_okP (q := 8) I rfl (by decide)) (by rw [hN2, nI_1]) (by omega)⟩, fun post hq => ?_, fun post hq => yq_stepZ h hv h0 (fun z => yq_7a hv n1 n2 n3 n4 n5 n6 hp hy h3 hlv g1 g2 hs hq)⟩
    rw [he] at hq
    exact xq_exec7 hv hp (fun _ => xq_ret1 hv hy h3 hlv g1 g2 hs) hq
  · have g1 : 32 ≤ lc (nI l).toNatClampNeg := by rw [hN2]; exact nI_le (a := 32) (by omega) (by omega)
    refine ⟨(nI C, nI T, gp, tc, ep, tr, df, lt, dr + 1, ad, nI (er_cn s' C), re + 1, s', cv, cx, le, lc, upd tp x.toNatClampNeg 8, pn, an, kd, mn, sn, vl, rs, er, ev), (nI C, nI T, gp, tc, ep, tr, df, lt, dr + 1, ad, re + 1, s', cv, cx, le, lc, upd tp x.toNatClampNeg 8, pn, an, kd, mn, sn, vl, rs, er, ev), ⟨_, _, _, _, _, _, _, _, _, _, _, _, _, _, _, _, _, _, _, _, _, _, _, _, rfl, rfl, er_okP (q := 8) I rfl (by decide)⟩, fun post hq => ?_, fun post hq => yq_stepZ h hv h0 (fun z => yq_7b hv n1 n2 n3 n4 n5 n6 hp hy h3 hlv g1 hs hq)⟩
    rw [he] at hq
    exact xq_exec7 hv hp (fun _ => xq_ret2 hv hy h3 hlv g1 hs) hq
theorem er_p8 (I : er_OK C T lc tp) (h : er_ir x (nI T)) (hv : vp_in x 4) (hp : tp x.toNatClampNeg = 8) : er_LS C T (nI C, nI T, gp, tc, ep, tr, df, lt, dr, ad, nI (er_cn cs C), re, cs, cv, cx, le, lc, tp, pn, an, kd, mn, sn, vl, rs, er, ev) (nI C, nI T, gp, tc, ep, tr, df, lt, dr, ad, re, cs, cv, cx, le, lc, tp, pn, an, kd, mn, sn, vl, rs, er, ev) x (tp x.toNatClampNeg) := by
  have h0 : ¬ tp x.toNatClampNeg = 0 := by rw [hp]; decide
  have n1 : ¬ tp x.toNatClampNeg = 1 := by rw [hp]; decide
  have n2 : ¬ tp x.toNatClampNeg = 2 := by rw [hp]; decide
  have n3 : ¬ tp x.toNatClampNeg = 3 := by rw [hp]; decide
  have n4 : ¬ tp x.toNatClampNeg = 4 := by rw [hp]; decide
  have n5 : ¬ tp x.toNatClampNeg = 5 := by rw [hp]; decide
  have n6 : ¬ tp x.toNatClampNeg = 6 := by rw [hp]; decide
  have n7 : ¬ tp x.toNatClampNeg = 7 := by rw [hp]; decide
  exact ⟨(nI C, nI T, gp, tc, ep, tr, df, lt, dr, ad, nI (er_cn cs C), re, cs, cv, cx, le, lc, upd tp x.toNatClampNeg 0, upd pn x.toNatClampNeg (vp_nar .boolean 0), an, kd, mn, sn, vl, rs, upd er x.toNatClampNeg (rs x.toNatClampNeg), upd ev x.toNatClampNeg (vl x.toNatClampNeg)), (nI C, nI T, gp, tc, ep, tr, df, lt, dr, ad, re, cs, cv, cx, le, lc, upd tp x.toNatClampNeg 0, upd pn x.toNatClampNeg (vp_nar .boolean 0), an, kd, mn, sn, vl, rs, upd er x.toNatClampNeg (rs x.toNatClampNeg), upd ev x.toNatClampNeg (vl x.toNatClampNeg)), ⟨_, _, _, _, _, _, _, _, _, _, _, _, _, _, _, _, _, _, _, _, _, _, _, _, rfl, rfl, er_okP (q := 0) I rfl (by decide)⟩, fun post hq => xq_exec8 hv hp (fun _ => xq_unpin hv) hq, fun post hq => yq_stepZ h hv h0 (fun z => yq_8a hv n1 n2 n3 n4 n5 n6 n7 hq)⟩
theorem er_ls (I : er_OK C T lc tp) (h : er_ir x (nI T)) (h0 : ¬ tp x.toNatClampNeg = 0) : er_LS C T (nI C, nI T, gp, tc, ep, tr, df, lt, dr, ad, nI (er_cn cs C), re, cs, cv, cx, le, lc, tp, pn, an, kd, mn, sn, vl, rs, er, ev) (nI C, nI T, gp, tc, ep, tr, df, lt, dr, ad, re, cs, cv, cx, le, lc, tp, pn, an, kd, mn, sn, vl, rs, er, ev) x (tp x.toNatClampNeg) := by
  obtain ⟨hv, hx⟩ := er_ir_in I.2.2.2.1 (by omega) h
  obtain ⟨p, hp8, hp⟩ := I.2.2.2.2.1 _ hx
  rcases (by omega : p = 0 ∨ p = 1 ∨ p = 2 ∨ p = 3 ∨ p = 4 ∨ p = 5 ∨ p = 6 ∨ p = 7 ∨ p = 8) with rfl | rfl | rfl | rfl | rfl | rfl | rfl | rfl | rfl
  · exact absurd hp h0
  · exact er_p1 I h hv hp
  · exact er_p2 I h hv hp
  · exact er_p3 I h hv hp
  · exact er_p4 I h hv hp
  · exact er_p5 I h hv hp
  · exact er_p6 I h hv hp
  · exact er_p7 I h hv hp
  · exact er_p8 I h hv hp
end
