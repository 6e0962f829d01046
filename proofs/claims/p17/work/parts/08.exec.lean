/-! a step of the class, over the picture -/
def ew_G (C T e : Nat) (u : St2) : Prop := ∃ (tc lt ad re : Int32) (cs cv cx le lc tp pn an kd mn sn vl rs er ev : Nat → Int32) (own : Nat → Nat) (ch : List Nat) (lim : Nat → List Nat), u = (nI C, nI T, nI 3, tc, nI e, 0, 0, lt, 0, ad, nI (er_cn cs C), re, cs, cv, cx, le, lc, tp, pn, an, kd, mn, sn, vl, rs, er, ev) ∧ ew_I C T e tc cs cx le lc tp pn an kd mn sn own ch lim
def ew_X (C T e t : Nat) (u : St2) : Prop := ∃ u', ew_G C T e u' ∧ ∀ post : St2 → Prop, post u' → wpX_executePhase post u (nI t)
theorem er_l3n {n : Nat} (h : n < 2 ^ 31) : er_l3 (nI n) (nI (n % 3)) := by
  have e : nI n - nI n / 3 * 3 = nI (n % 3) := pk_rem (d := 3) h (by omega) (by omega)
  exact Or.inl ⟨by rw [e]; exact nI_pos' (by omega), e.symm⟩
theorem er_ci {k i : Nat} (hk : k < 3) (hi : i < 32) : (nI k * 32 + nI i).toNatClampNeg = k * 32 + i := by
  show (nI k * nI 32 + nI i).toNatClampNeg = k * 32 + i
  rw [pk_mul, nI_add, nI_clamp (by omega)]
section
variable {C T e t : Nat} {tc lt ad re : Int32} {cs cv cx le lc tp pn an kd mn sn vl rs er ev : Nat → Int32} {own : Nat → Nat} {ch : List Nat} {lim : Nat → List Nat}
theorem ew_p1 (hT : T ≤ 4) (h : ew_I C T e tc cs cx le lc tp pn an kd mn sn own ch lim) (ht : t < T) (hp : tp t = nI 1) : ew_X C T e t (nI C, nI T, nI 3, tc, nI e, 0, 0, lt, 0, ad, nI (er_cn cs C), re, cs, cv, cx, le, lc, tp, pn, an, kd, mn, sn, vl, rs, er, ev) := by
  have cl : (nI t).toNatClampNeg = t := nI_clamp (by omega)
  have hv : vp_in (nI t) 4 := vp_in_nI (by omega) (by omega)
  have hp' : tp (nI t).toNatClampNeg = 1 := by rw [cl]; exact hp
  obtain ⟨k, hk, k2, hh⟩ := ew_at h ht hp (by omega)
  by_cases k1 : k = 1
  · have hk' : kd (nI t).toNatClampNeg = 1 := by rw [cl, hk, k1]; rfl
    refine ⟨(nI C, nI T, nI 3, tc, nI e, 0, 0, lt, 0, ad, nI (er_cn cs C), re, cs, cv, cx, le, lc, upd tp (nI t).toNatClampNeg 2, upd pn (nI t).toNatClampNeg (vp_nar .boolean 1), upd an (nI t).toNatClampNeg (nI e), kd, mn, sn, vl, rs, er, ev), ⟨_, _, _, _, _, _, _, _, _, _, _, _, _, _, _, _, _, _, _, own, ch, lim, rfl, ?_⟩, fun post hq => xq_exec1 hv hp' (fun _ => xq_pin1 hv hk') hq⟩
    rw [cl]
    exact ew_s_pin h hT ht hp hk k2 (q := 2) (by rw [if_pos k1])
  · have hk' : ¬ kd (nI t).toNatClampNeg = 1 := by rw [cl, hk]; exact er_ne (b := 1) k1 (by omega) (by omega)
    refine ⟨(nI C, nI T, nI 3, tc, nI e, 0, 0, lt, 0, ad, nI (er_cn cs C), re, cs, cv, cx, le, lc, upd tp (nI t).toNatClampNeg 3, upd pn (nI t).toNatClampNeg (vp_nar .boolean 1), upd an (nI t).toNatClampNeg (nI e), kd, mn, sn, vl, rs, er, ev), ⟨_, _, _, _, _, _, _, _, _, _, _, _, _, _, _, _, _, _, _, own, ch, lim, rfl, ?_⟩, fun post hq => xq_exec1 hv hp' (fun _ => xq_pin2 hv hk') hq⟩
    rw [cl]
    exact ew_s_pin h hT ht hp hk k2 (q := 3) (by rw [if_neg k1])
theorem ew_p2 (hC : C ≤ 32) (hT : T ≤ 4) (h : ew_I C T e tc cs cx le lc tp pn an kd mn sn own ch lim) (ht : t < T) (hp : tp t = nI 2) : ew_X C T e t (nI C, nI T, nI 3, tc, nI e, 0, 0, lt, 0, ad, nI (er_cn cs C), re, cs, cv, cx, le, lc, tp, pn, an, kd, mn, sn, vl, rs, er, ev) := by
  have cl : (nI t).toNatClampNeg = t := nI_clamp (by omega)
  have hv : vp_in (nI t) 4 := vp_in_nI (by omega) (by omega)
  have hp' : tp (nI t).toNatClampNeg = 2 := by rw [cl]; exact hp
  rcases er_least cs C with hn | ⟨c, hc, hz, hn⟩
  · refine ⟨(nI C, nI T, nI 3, tc, nI e, 0, 0, lt, 0, ad, nI (er_cn cs C), re, cs, cv, cx, le, lc, upd tp (nI t).toNatClampNeg 8, pn, an, kd, mn, sn, vl, upd rs (nI t).toNatClampNeg 3, er, ev), ⟨_, _, _, _, _, _, _, _, _, _, _, _, _, _, _, _, _, _, _, own, ch, lim, rfl, ?_⟩, fun post hq => xq_exec2 hv hp' (fun _ => xq_alloc0 hv hC hn) hq⟩
    rw [cl]
    exact ew_s_full h hT ht hp
  · have clc : (nI c).toNatClampNeg = c := nI_clamp (by omega)
    have hf : nI (er_cn cs C) - 1 = nI (er_cn (upd cs (nI c).toNatClampNeg 1) C) := by
      rw [clc]
      exact er_cn_dec' hc hz (by decide)
    refine ⟨(nI C, nI T, nI 3, tc, nI e, 0, 0, lt, 0, ad, nI (er_cn (upd cs (nI c).toNatClampNeg 1) C), re, upd cs (nI c).toNatClampNeg 1, upd cv (nI c).toNatClampNeg (vl (nI t).toNatClampNeg), upd cx (nI c).toNatClampNeg (-1), le, lc, upd tp (nI t).toNatClampNeg 3, pn, an, kd, upd mn (nI t).toNatClampNeg (nI c), sn, vl, rs, er, ev), ⟨_, _, _, _, _, _, _, _, _, _, _, _, _, _, _, _, _, _, _, ew_up own c (5 + t), ch, lim, rfl, ?_⟩, fun post hq => xq_exec2 hv hp' (fun _ => xq_alloc1 hv hC hc hn hz hf) hq⟩
    rw [cl, clc]
    exact ew_s_alloc h hT ht hp hc hz
theorem ew_p3 (hT : T ≤ 4) (h : ew_I C T e tc cs cx le lc tp pn an kd mn sn own ch lim) (ht : t < T) (hp : tp t = nI 3) : ew_X C T e t (nI C, nI T, nI 3, tc, nI e, 0, 0, lt, 0, ad, nI (er_cn cs C), re, cs, cv, cx, le, lc, tp, pn, an, kd, mn, sn, vl, rs, er, ev) := by
  have cl : (nI t).toNatClampNeg = t := nI_clamp (by omega)
  have hv : vp_in (nI t) 4 := vp_in_nI (by omega) (by omega)
  have hp' : tp (nI t).toNatClampNeg = 3 := by rw [cl]; exact hp
  obtain ⟨k, hk, k2, hh⟩ := ew_at h ht hp (by omega)
  by_cases k1 : k = 1
  · have hk' : kd (nI t).toNatClampNeg = 1 := by rw [cl, hk, k1]; rfl
    refine ⟨(nI C, nI T, nI 3, tc, nI e, 0, 0, lt, 0, ad, nI (er_cn cs C), re, cs, cv, cx, le, lc, upd tp (nI t).toNatClampNeg 4, pn, an, kd, mn, upd sn (nI t).toNatClampNeg tc, vl, rs, er, ev), ⟨_, _, _, _, _, _, _, _, _, _, _, _, _, _, _, _, _, _, _, own, ch, lim, rfl, ?_⟩, fun post hq => xq_exec3 hv hp' (fun _ => xq_top1 hv hk') hq⟩
    rw [cl]
    exact ew_s_rtPush h hT ht hp (by rw [hk, k1])
  · have hk' : ¬ kd (nI t).toNatClampNeg = 1 := by rw [cl, hk]; exact er_ne (b := 1) k1 (by omega) (by omega)
    by_cases g : tc = -1
    · refine ⟨(nI C, nI T, nI 3, tc, nI e, 0, 0, lt, 0, ad, nI (er_cn cs C), re, cs, cv, cx, le, lc, upd tp (nI t).toNatClampNeg 8, pn, an, kd, upd mn (nI t).toNatClampNeg tc, sn, upd vl (nI t).toNatClampNeg 0, upd rs (nI t).toNatClampNeg 2, er, ev), ⟨_, _, _, _, _, _, _, _, _, _, _, _, _, _, _, _, _, _, _, own, ch, lim, rfl, ?_⟩, fun post hq => xq_exec3 hv hp' (fun _ => xq_top2 hv hk' g) hq⟩
      rw [cl]
      exact ew_s_rtNil h hT ht hp hk k1 k2
    · refine ⟨(nI C, nI T, nI 3, tc, nI e, 0, 0, lt, 0, ad, nI (er_cn cs C), re, cs, cv, cx, le, lc, upd tp (nI t).toNatClampNeg 5, pn, an, kd, upd mn (nI t).toNatClampNeg tc, sn, vl, rs, er, ev), ⟨_, _, _, _, _, _, _, _, _, _, _, _, _, _, _, _, _, _, _, own, ch, lim, rfl, ?_⟩, fun post hq => xq_exec3 hv hp' (fun _ => xq_top3 hv hk' g) hq⟩
      rw [cl]
      exact ew_s_rtPop h hT ht hp hk k1 k2 g
theorem ew_p4 (hC : C ≤ 32) (hT : T ≤ 4) (h : ew_I C T e tc cs cx le lc tp pn an kd mn sn own ch lim) (ht : t < T) (hp : tp t = nI 4) : ew_X C T e t (nI C, nI T, nI 3, tc, nI e, 0, 0, lt, 0, ad, nI (er_cn cs C), re, cs, cv, cx, le, lc, tp, pn, an, kd, mn, sn, vl, rs, er, ev) := by
  have cl : (nI t).toNatClampNeg = t := nI_clamp (by omega)
  have hv : vp_in (nI t) 4 := vp_in_nI (by omega) (by omega)
  have hp' : tp (nI t).toNatClampNeg = 4 := by rw [cl]; exact hp
  obtain ⟨k, hk, k2, hh⟩ := ew_at h ht hp (by omega)
  obtain ⟨c, ⟨hc, hm, ho⟩, _⟩ := hh.2.2.2.1 (hh.1.2.2.2.2.1 rfl) (Or.inr (Or.inl rfl))
  have clc : (nI c).toNatClampNeg = c := nI_clamp (by omega)
  have hw : vp_in (nI c) 32 := vp_in_nI (by omega) (by omega)
  have hz : ¬ cs (nI c).toNatClampNeg = 0 := by rw [clc, h.1.1 c hc, ho]; exact ew_stn (by omega)
  have hm' : mn (nI t).toNatClampNeg = nI c := by rw [cl]; exact hm
  refine ⟨(nI C, nI T, nI 3, tc, nI e, 0, 0, lt, 0, ad, nI (er_cn cs C), re, cs, cv, upd cx (nI c).toNatClampNeg (sn (nI t).toNatClampNeg), le, lc, upd tp (nI t).toNatClampNeg 6, pn, an, kd, mn, sn, vl, rs, er, ev), ⟨_, _, _, _, _, _, _, _, _, _, _, _, _, _, _, _, _, _, _, own, ch, lim, rfl, ?_⟩, fun post hq => xq_exec4 hv hp' (fun _ => xq_link2 hv hm' (er_ir_nI hc (by omega)) hw hz) hq⟩
  rw [cl, clc]
  exact ew_s_link h hT ht hp hc hm ho
theorem ew_p5 (hC : C ≤ 32) (hT : T ≤ 4) (h : ew_I C T e tc cs cx le lc tp pn an kd mn sn own ch lim) (ht : t < T) (hp : tp t = nI 5) : ew_X C T e t (nI C, nI T, nI 3, tc, nI e, 0, 0, lt, 0, ad, nI (er_cn cs C), re, cs, cv, cx, le, lc, tp, pn, an, kd, mn, sn, vl, rs, er, ev) := by
  have cl : (nI t).toNatClampNeg = t := nI_clamp (by omega)
  have hv : vp_in (nI t) 4 := vp_in_nI (by omega) (by omega)
  have hp' : tp (nI t).toNatClampNeg = 5 := by rw [cl]; exact hp
  obtain ⟨k, hk, k2, hh⟩ := ew_at h ht hp (by omega)
  obtain ⟨c, ⟨hc, hm, ho, _, _⟩, _⟩ := hh.2.2.2.2.1 (hh.1.2.2.2.2.2.1 rfl) (Or.inl rfl)
  have clc : (nI c).toNatClampNeg = c := nI_clamp (by omega)
  have hw : vp_in (nI c) 32 := vp_in_nI (by omega) (by omega)
  have hz : ¬ cs (nI c).toNatClampNeg = 0 := by rw [clc, h.1.1 c hc]; exact ew_stn ho
  have hm' : mn (nI t).toNatClampNeg = nI c := by rw [cl]; exact hm
  refine ⟨(nI C, nI T, nI 3, tc, nI e, 0, 0, lt, 0, ad, nI (er_cn cs C), re, cs, cv, cx, le, lc, upd tp (nI t).toNatClampNeg 6, pn, an, kd, mn, upd sn (nI t).toNatClampNeg (cx (nI c).toNatClampNeg), upd vl (nI t).toNatClampNeg (cv (nI c).toNatClampNeg), rs, er, ev), ⟨_, _, _, _, _, _, _, _, _, _, _, _, _, _, _, _, _, _, _, own, ch, lim, rfl, ?_⟩, fun post hq => xq_exec5 hv hp' (fun _ => xq_read2 hv hm' (er_ir_nI hc (by omega)) hw hz) hq⟩
  rw [cl, clc]
  exact ew_s_read h hT ht hp hm hC hc
theorem ew_p6 (hC : C ≤ 32) (hT : T ≤ 4) (h : ew_I C T e tc cs cx le lc tp pn an kd mn sn own ch lim) (ht : t < T) (hp : tp t = nI 6) : ew_X C T e t (nI C, nI T, nI 3, tc, nI e, 0, 0, lt, 0, ad, nI (er_cn cs C), re, cs, cv, cx, le, lc, tp, pn, an, kd, mn, sn, vl, rs, er, ev) := by
  have cl : (nI t).toNatClampNeg = t := nI_clamp (by omega)
  have hv : vp_in (nI t) 4 := vp_in_nI (by omega) (by omega)
  have hp' : tp (nI t).toNatClampNeg = 6 := by rw [cl]; exact hp
  obtain ⟨k, hk, k2, hh⟩ := ew_at h ht hp (by omega)
  by_cases k1 : k = 1
  · have hk' : kd (nI t).toNatClampNeg = 1 := by rw [cl, hk, k1]; rfl
    by_cases g : tc = sn (nI t).toNatClampNeg
    · obtain ⟨own', ch', J⟩ := ew_s_casPush hC h hT ht hp (by rw [hk, k1]) (by rw [cl] at g; exact g)
      refine ⟨(nI C, nI T, nI 3, mn (nI t).toNatClampNeg, nI e, 0, 0, lt, 0, ad, nI (er_cn cs C), re, cs, cv, cx, le, lc, upd tp (nI t).toNatClampNeg 8, pn, an, kd, mn, sn, vl, upd rs (nI t).toNatClampNeg 1, er, ev), ⟨_, _, _, _, _, _, _, _, _, _, _, _, _, _, _, _, _, _, _, own', ch', lim, rfl, ?_⟩, fun post hq => xq_exec6 hv hp' (fun _ => xq_cas1 hv hk' g) hq⟩
      rw [cl]
      exact J
    · refine ⟨(nI C, nI T, nI 3, tc, nI e, 0, 0, lt, 0, ad, nI (er_cn cs C), re, cs, cv, cx, le, lc, upd tp (nI t).toNatClampNeg 3, pn, an, kd, mn, sn, vl, rs, er, ev), ⟨_, _, _, _, _, _, _, _, _, _, _, _, _, _, _, _, _, _, _, own, ch, lim, rfl, ?_⟩, fun post hq => xq_exec6 hv hp' (fun _ => xq_cas2 hv hk' g) hq⟩
      rw [cl]
      exact ew_s_casF h hT ht hp
  · have hk' : ¬ kd (nI t).toNatClampNeg = 1 := by rw [cl, hk]; exact er_ne (b := 1) k1 (by omega) (by omega)
    by_cases g : tc = mn (nI t).toNatClampNeg
    · obtain ⟨own', ch', J⟩ := ew_s_casPop hC h hT ht hp hk k1 k2 (by rw [cl] at g; exact g)
      refine ⟨(nI C, nI T, nI 3, sn (nI t).toNatClampNeg, nI e, 0, 0, lt, 0, ad, nI (er_cn cs C), re, cs, cv, cx, le, lc, upd tp (nI t).toNatClampNeg 7, pn, an, kd, mn, sn, vl, upd rs (nI t).toNatClampNeg 1, er, ev), ⟨_, _, _, _, _, _, _, _, _, _, _, _, _, _, _, _, _, _, _, own', ch', lim, rfl, ?_⟩, fun post hq => xq_exec6 hv hp' (fun _ => xq_cas3 hv hk' g) hq⟩
      rw [cl]
      exact J
    · refine ⟨(nI C, nI T, nI 3, tc, nI e, 0, 0, lt, 0, ad, nI (er_cn cs C), re, cs, cv, cx, le, lc, upd tp (nI t).toNatClampNeg 3, pn, an, kd, mn, sn, vl, rs, er, ev), ⟨_, _, _, _, _, _, _, _, _, _, _, _, _, _, _, _, _, _, _, own, ch, lim, rfl, ?_⟩, fun post hq => xq_exec6 hv hp' (fun _ => xq_cas4 hv hk' g) hq⟩
      rw [cl]
      exact ew_s_casF h hT ht hp
theorem ew_p7 (hC : C ≤ 32) (hT : T ≤ 4) (he : e < 2 ^ 30) (h : ew_I C T e tc cs cx le lc tp pn an kd mn sn own ch lim) (ht : t < T) (hp : tp t = nI 7) : ew_X C T e t (nI C, nI T, nI 3, tc, nI e, 0, 0, lt, 0, ad, nI (er_cn cs C), re, cs, cv, cx, le, lc, tp, pn, an, kd, mn, sn, vl, rs, er, ev) := by
  have cl : (nI t).toNatClampNeg = t := nI_clamp (by omega)
  have hv : vp_in (nI t) 4 := vp_in_nI (by omega) (by omega)
  have hp' : tp (nI t).toNatClampNeg = 7 := by rw [cl]; exact hp
  obtain ⟨k, hk, k2, hh⟩ := ew_at h ht hp (by omega)
  obtain ⟨_, n, hA, hn⟩ := hh.2.2.1 (by omega)
  obtain ⟨q, hq⟩ : ∃ q, q = n % 3 := ⟨_, rfl⟩
  have q3 : q < 3 := by omega
  obtain ⟨c, _, hc, hm, ho, _, _, hl, hlen, h1⟩ := ew_s_room (q := q) h ht hp q3
  have clc : (nI c).toNatClampNeg = c := nI_clamp (by omega)
  have clq : (nI q).toNatClampNeg = q := nI_clamp (by omega)
  have hw : vp_in (nI c) 32 := vp_in_nI (by omega) (by omega)
  have hwq : vp_in (nI q) 3 := vp_in_nI q3 (by omega)
  have hm' : mn (nI t).toNatClampNeg = nI c := by rw [cl]; exact hm
  have hl' : lc (nI q).toNatClampNeg = nI (lim q).length := by rw [clq]; exact hl
  have h3 : er_l3 (an (nI t).toNatClampNeg) (nI q) := by rw [cl, hA, hq]; exact er_l3n (by omega)
  have g1 : ¬ 32 ≤ lc (nI q).toNatClampNeg := by rw [hl']; exact nI_ge (b := 32) (by omega) (by decide)
  have g2 : vp_in (nI q * 32 + lc (nI q).toNatClampNeg) 96 := by rw [hl']; exact er_vi q3 (by omega)
  have h1' : cs (nI c).toNatClampNeg = 1 := by rw [clc]; exact h1
  have hs : er_rt (nI C) cs (nI c) (upd cs (nI c).toNatClampNeg 2) := Or.inr ⟨er_ir_nI hc (by omega), hw, Or.inl ⟨h1', rfl⟩⟩
  have hcn : er_cn (upd cs (nI c).toNatClampNeg 2) C = er_cn cs C := by rw [clc]; exact er_cn_same hc (by rw [h1]; decide) (by decide)
  refine ⟨(nI C, nI T, nI 3, tc, nI e, 0, 0, lt, 0, ad, nI (er_cn (upd cs (nI c).toNatClampNeg 2) C), re + 1, upd cs (nI c).toNatClampNeg 2, cv, cx, upd le (nI q * 32 + lc (nI q).toNatClampNeg).toNatClampNeg (nI c), upd lc (nI q).toNatClampNeg (lc (nI q).toNatClampNeg + 1), upd tp (nI t).toNatClampNeg 8, pn, an, kd, mn, sn, vl, rs, er, ev), ⟨_, _, _, _, _, _, _, _, _, _, _, _, _, _, _, _, _, _, _, ew_up own c (2 + q), ch, ew_lu lim q (lim q ++ [c]), rfl, ?_⟩, fun post hp9 => ?_⟩
  · have ei : (nI q * 32 + lc (nI q).toNatClampNeg).toNatClampNeg = q * 32 + (lim q).length := by rw [hl']; exact er_ci q3 (by omega)
    have el : lc (nI q).toNatClampNeg + 1 = nI ((lim q).length + 1) := by rw [hl', nI_1]
    rw [ei, el, clq, clc, cl]
    exact ew_s_retire hC h hT ht hp hc hm ho hA hn hq
  · rw [hcn] at hp9
    exact xq_exec7 hv hp' (fun _ => xq_ret1 hv hm' h3 hwq g1 g2 hs) hp9
theorem ew_p8 (hT : T ≤ 4) (h : ew_I C T e tc cs cx le lc tp pn an kd mn sn own ch lim) (ht : t < T) (hp : tp t = nI 8) : ew_X C T e t (nI C, nI T, nI 3, tc, nI e, 0, 0, lt, 0, ad, nI (er_cn cs C), re, cs, cv, cx, le, lc, tp, pn, an, kd, mn, sn, vl, rs, er, ev) := by
  have cl : (nI t).toNatClampNeg = t := nI_clamp (by omega)
  have hv : vp_in (nI t) 4 := vp_in_nI (by omega) (by omega)
  have hp' : tp (nI t).toNatClampNeg = 8 := by rw [cl]; exact hp
  refine ⟨(nI C, nI T, nI 3, tc, nI e, 0, 0, lt, 0, ad, nI (er_cn cs C), re, cs, cv, cx, le, lc, upd tp (nI t).toNatClampNeg 0, upd pn (nI t).toNatClampNeg (vp_nar .boolean 0), an, kd, mn, sn, vl, rs, upd er (nI t).toNatClampNeg (rs (nI t).toNatClampNeg), upd ev (nI t).toNatClampNeg (vl (nI t).toNatClampNeg)), ⟨_, _, _, _, _, _, _, _, _, _, _, _, _, _, _, _, _, _, _, own, ch, lim, rfl, ?_⟩, fun post hq => xq_exec8 hv hp' (fun _ => xq_unpin hv) hq⟩
  rw [cl]
  exact ew_s_unpin h hT ht hp
theorem ew_exec (hC : C ≤ 32) (hT : T ≤ 4) (he : e < 2 ^ 30) (h : ew_I C T e tc cs cx le lc tp pn an kd mn sn own ch lim) (ht : t < T) (h0 : ¬ tp t = 0) : ew_X C T e t (nI C, nI T, nI 3, tc, nI e, 0, 0, lt, 0, ad, nI (er_cn cs C), re, cs, cv, cx, le, lc, tp, pn, an, kd, mn, sn, vl, rs, er, ev) := by
  obtain ⟨p, k, hp, _, hh⟩ := h.2.2.1 t ht
  have p8 := hh.1.1
  rcases (by omega : p = 0 ∨ p = 1 ∨ p = 2 ∨ p = 3 ∨ p = 4 ∨ p = 5 ∨ p = 6 ∨ p = 7 ∨ p = 8) with rfl | rfl | rfl | rfl | rfl | rfl | rfl | rfl | rfl
  · exact absurd hp h0
  · exact ew_p1 hT h ht hp
  · exact ew_p2 hC hT h ht hp
  · exact ew_p3 hT h ht hp
  · exact ew_p4 hC hT h ht hp
  · exact ew_p5 hC hT h ht hp
  · exact ew_p6 hC hT h ht hp
  · exact ew_p7 hC hT he h ht hp
  · exact ew_p8 hT h ht hp
end
