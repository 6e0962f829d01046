theorem i_vc0 (k0 : Int32) (k1 : Int32) (k2 : Int32) : wpX_init (fun u => wpY_init (fun v => i_Rel 3 u v) k0 k1 k2) k0 k1 k2 := by
  obtain ⟨C, c1, c2, c3, c4⟩ := er_clamp2 k0 8 32 (by omega) (by omega)
  obtain ⟨T, t1, t2, t3, t4⟩ := er_clamp2 k1 2 4 (by omega) (by omega)
  obtain ⟨G, g1, g2, g3, g4⟩ := er_clamp2 k2 1 3 (by omega) (by omega)
  refine xq_init c3 t3 g3 (yq_init c4 t4 g4 ⟨C, T, _, _, _, _, _, _, _, _, _, _, _, _, _, _, _, _, _, _, _, _, _, _, _, _, ?_, rfl, c1, c2, t1, t2, fun t _ => ⟨0, by omega, rfl⟩, fun k _ => ⟨0, by omega, rfl⟩⟩)
  rw [er_cn_0]
  rfl
theorem i_vc_push {k : Nat} {u : SX} {v : SY} (I : i_Rel k u v) (hk : k + 3 ≤ 1539) (v1 : Int32) (v2 : Int32) : wpX_push (fun r u' => wpY_push (fun r' v' => r' = r ∧ i_Rel (k + 3) u' v') v v1 v2) u v1 v2 := by
  have J := I
  obtain ⟨C, T, gp, tc, ep, tr, df, lt, dr, ad, re, cs, cv, cx, le, lc, tp, pn, an, kd, mn, sn, vl, rs, er, ev, rfl, rfl, I⟩ := I
  by_cases h : er_ir v1 (nI T)
  · have hv := (er_ir_in I.2.2.2.1 (by omega) h).1
    by_cases h0 : tp v1.toNatClampNeg = 0
    · exact xq_push2 h hv h0 (yq_push2 h hv h0 ⟨rfl, C, T, _, _, _, _, _, _, _, _, _, _, _, _, _, _, _, _, _, _, _, _, _, _, _, _, rfl, rfl, er_okP (q := 1) I rfl (by decide)⟩)
    · exact xq_push1 h hv h0 (yq_push1 h hv h0 ⟨rfl, J⟩)
  · exact xq_push0 h (yq_push0 h ⟨rfl, J⟩)
theorem i_vc_pop {k : Nat} {u : SX} {v : SY} (I : i_Rel k u v) (hk : k + 3 ≤ 1539) (v1 : Int32) : wpX_pop (fun r u' => wpY_pop (fun r' v' => r' = r ∧ i_Rel (k + 3) u' v') v v1) u v1 := by
  have J := I
  obtain ⟨C, T, gp, tc, ep, tr, df, lt, dr, ad, re, cs, cv, cx, le, lc, tp, pn, an, kd, mn, sn, vl, rs, er, ev, rfl, rfl, I⟩ := I
  by_cases h : er_ir v1 (nI T)
  · have hv := (er_ir_in I.2.2.2.1 (by omega) h).1
    by_cases h0 : tp v1.toNatClampNeg = 0
    · exact xq_pop2 h hv h0 (yq_pop2 h hv h0 ⟨rfl, C, T, _, _, _, _, _, _, _, _, _, _, _, _, _, _, _, _, _, _, _, _, _, _, _, _, rfl, rfl, er_okP (q := 1) I rfl (by decide)⟩)
    · exact xq_pop1 h hv h0 (yq_pop1 h hv h0 ⟨rfl, J⟩)
  · exact xq_pop0 h (yq_pop0 h ⟨rfl, J⟩)
theorem i_vc_step {k : Nat} {u : SX} {v : SY} (I : i_Rel k u v) (hk : k + 3 ≤ 1539) (v1 : Int32) : wpX_step (fun r u' => wpY_step (fun r' v' => r' = r ∧ i_Rel (k + 3) u' v') v v1) u v1 := by
  have J := I
  obtain ⟨C, T, gp, tc, ep, tr, df, lt, dr, ad, re, cs, cv, cx, le, lc, tp, pn, an, kd, mn, sn, vl, rs, er, ev, rfl, rfl, I⟩ := I
  unfold wpX_step
  by_cases h : er_ir v1 (nI T)
  · have hv := (er_ir_in I.2.2.2.1 (by omega) h).1
    by_cases h0 : tp v1.toNatClampNeg = 0
    · exact xq_busy0 h hv h0 (br_t rfl (yq_step0 h hv h0 ⟨rfl, J⟩))
    · obtain ⟨u', v', R, HX, HY⟩ := er_ls (gp := gp) (tc := tc) (ep := ep) (tr := tr) (df := df) (lt := lt) (dr := dr) (ad := ad) (re := re) (cs := cs) (cv := cv) (cx := cx) (le := le) (pn := pn) (an := an) (kd := kd) (mn := mn) (sn := sn) (vl := vl) (rs := rs) (er := er) (ev := ev) I h h0
      have J2 : i_Rel (k + 3) u' v' := ⟨C, T, R⟩
      obtain ⟨gp', tc', ep', tr', df', lt', dr', ad', re', cs', cv', cx', le', lc', tp', pn', an', kd', mn', sn', vl', rs', er', ev', rfl, rfl, I'⟩ := R
      exact xq_busy1 h hv h0 (br_f er_10 ⟨hv, nm_e (HX _ (HY _ ⟨rfl, J2⟩))⟩)
  · exact xq_busyN h (br_t rfl (yq_stepN h ⟨rfl, J⟩))
theorem i_vc_run {k : Nat} {u : SX} {v : SY} (I : i_Rel k u v) (hk : k + 3 ≤ 1539) (v1 : Int32) (v2 : Int32) : wpX_run (fun r u' => wpY_run (fun r' v' => r' = r ∧ i_Rel (k + 3) u' v') v v1 v2) u v1 v2 := by
  have J := I
  obtain ⟨C, T, gp, tc, ep, tr, df, lt, dr, ad, re, cs, cv, cx, le, lc, tp, pn, an, kd, mn, sn, vl, rs, er, ev, rfl, rfl, I⟩ := I
  unfold wpX_run
  by_cases h : er_ir v1 (nI T)
  · have hv := (er_ir_in I.2.2.2.1 (by omega) h).1
    by_cases h0 : tp v1.toNatClampNeg = 0
    · refine xq_busy0 h hv h0 (br_t rfl ?_)
      unfold wpY_run
      exact yq_T1 h (br_f er_10 ⟨hv, br_t h0 ⟨rfl, J⟩⟩)
    · obtain ⟨m, m1, m2, m3, m4⟩ := er_clamp2 v2 1 64 (by omega) (by omega)
      obtain ⟨r, u', v', R, KX, KY⟩ := er_loop m2 h hv m 0 (by omega) (nI C, nI T, gp, tc, ep, tr, df, lt, dr, ad, nI (er_cn cs C), re, cs, cv, cx, le, lc, tp, pn, an, kd, mn, sn, vl, rs, er, ev) (nI C, nI T, gp, tc, ep, tr, df, lt, dr, ad, re, cs, cv, cx, le, lc, tp, pn, an, kd, mn, sn, vl, rs, er, ev) ⟨_, _, _, _, _, _, _, _, _, _, _, _, _, _, _, _, _, _, _, _, _, _, _, _, rfl, rfl, I⟩
      have J2 : i_Rel (k + 3) u' v' := ⟨C, T, R⟩
      have KX' : ∀ post : Int32 → SX → Prop, post r u' → wX_run_21 post v1 (nI m) (m + 1) 0 (nI C) (nI T) gp tc ep tr df lt dr ad (nI (er_cn cs C)) re cs cv cx le lc tp pn an kd mn sn vl rs er ev := KX
      have KY' : ∀ post : Int32 → SY → Prop, post r v' → wY_run_47 post v1 (nI m) (m + 1) 0 0 (nI C) (nI T) gp tc ep tr df lt dr ad re cs cv cx le lc tp pn an kd mn sn vl rs er ev := KY
      refine xq_busy1 h hv h0 (br_f er_10 (m3 _ ⟨m + 1, KX' _ ?_⟩))
      unfold wpY_run
      exact yq_T1 h (br_f er_10 ⟨hv, br_f h0 (m4 (fun z => ∃ n47 : Nat, wY_run_47 (fun r' v' => r' = r ∧ i_Rel (k + 3) u' v') v1 z n47 0 0 (nI C) (nI T) gp tc ep tr df lt dr ad re cs cv cx le lc tp pn an kd mn sn vl rs er ev) ⟨m + 1, KY' _ ⟨rfl, J2⟩⟩)⟩)
  · refine xq_busyN h (br_t rfl ?_)
    unfold wpY_run
    exact yq_T0 h (br_t rfl ⟨rfl, J⟩)
theorem i_vc_tryAdvance {k : Nat} {u : SX} {v : SY} (I : i_Rel k u v) (hk : k + 3 ≤ 1539) : wpX_tryAdvance (fun r u' => wpY_tryAdvance (fun r' v' => r' = r ∧ i_Rel (k + 3) u' v') v) u := by
  have J := I
  obtain ⟨C, T, gp, tc, ep, tr, df, lt, dr, ad, re, cs, cv, cx, le, lc, tp, pn, an, kd, mn, sn, vl, rs, er, ev, rfl, rfl, I⟩ := I
  have hT := I.2.2.2.1
  obtain ⟨c, hc, hn, hq⟩ := er_lags pn an ep T
  unfold wpX_tryAdvance
  unfold wpX_someThreadLagsBehind
  rcases hq with e | ⟨h1, h2, h3⟩
  · obtain ⟨l, l3, hl⟩ := er_l3_ex (ep + 1 + 3 - gp)
    obtain ⟨n, n32, hN⟩ := I.2.2.2.2.2 l hl
    have hN2 : lc (nI l).toNatClampNeg = nI n := by rw [nI_clamp (by omega)]; exact hN
    obtain ⟨df', lt', cs', KX, KY⟩ := er_list (C := C) (T := T) (gp := gp) (tc := tc) (ep := ep + 1) (tr := tr) (dr := dr) (ad := ad + 1) (re := re) (cv := cv) (cx := cx) (le := le) (tp := tp) (pn := pn) (an := an) (kd := kd) (mn := mn) (sn := sn) (vl := vl) (rs := rs) (er := er) (ev := ev) I.2.1 hl n32 hN2 n 0 (by omega) df lt cs
    refine ⟨c + 1, xq_lag hT hc hn (Or.inl ⟨e, br_t rfl ?_⟩) c 0 (by omega)⟩
    intro f1 e1 f2 e2
    subst e1 e2
    refine xq_listOf l3 ?_
    unfold wpX_freeLimboList
    refine ⟨n + 1, KX _ ?_⟩
    unfold wpY_tryAdvance
    refine ⟨c + 1, yq_lag hT hc hn (Or.inl ⟨e, br_t (nI_le (Nat.le_refl T) (by omega)) ?_⟩) c 0 (by omega)⟩
    intro f1 e1 f2 e2
    subst e1 e2
    exact yq_mod3 l3 ⟨n + 1, KY _ ⟨rfl, C, T, _, _, _, _, _, _, _, _, _, _, _, _, _, _, _, _, _, _, _, _, _, _, _, _, rfl, rfl, er_okL (q := 0) I rfl (by omega)⟩⟩
  · refine ⟨c + 1, xq_lag hT hc hn (Or.inr ⟨h1, h2, h3, br_f er_10 ?_⟩) c 0 (by omega)⟩
    unfold wpY_tryAdvance
    exact ⟨c + 1, yq_lag hT hc hn (Or.inr ⟨h1, h2, h3, ⟨rfl, J⟩⟩) c 0 (by omega)⟩
