/-! tryAdvance: the scan, then the list -/
theorem er_lags (pn an : Nat → Int32) (ep : Int32) (T : Nat) : ∃ c, c ≤ T ∧ (∀ j, j < c → pn j = 0 ∨ an j = ep) ∧ (c = T ∨ (c < T ∧ ¬ pn c = 0 ∧ ¬ an c = ep)) := by
  induction T with
  | zero => exact ⟨0, Nat.le_refl 0, fun j h => absurd h (Nat.not_lt_zero j), Or.inl rfl⟩
  | succ T ih =>
    obtain ⟨c, h1, h2, h3⟩ := ih
    rcases h3 with h3 | ⟨h3, h4, h5⟩
    · subst h3
      by_cases p : pn c = 0
      · exact ⟨c + 1, Nat.le_refl _, lt_s h2 (Or.inl p), Or.inl rfl⟩
      · by_cases q : an c = ep
        · exact ⟨c + 1, Nat.le_refl _, lt_s h2 (Or.inr q), Or.inl rfl⟩
        · exact ⟨c, by omega, h2, Or.inr ⟨by omega, p, q⟩⟩
    · exact ⟨c, by omega, h2, Or.inr ⟨by omega, h4, h5⟩⟩
section
variable {nc nt gp tc ep tr df lt dr ad fc re : Int32} {cs cv cx le lc tp pn an kd mn sn vl rs er ev : Nat → Int32}
variable {x y : Int32}
theorem xq_lag {T c : Nat} {q : Int32 → Prop} (hT : T ≤ 4) (hc : c ≤ T) (hn : ∀ j, j < c → pn j = 0 ∨ an j = ep) (hq : (c = T ∧ q 0) ∨ (c < T ∧ ¬ pn c = 0 ∧ ¬ an c = ep ∧ q 1)) :
    ∀ d i, i + d = c → wX_someThreadLagsBehind_2 q nc (nI T) gp tc ep tr df lt dr ad fc re cs cv cx le lc tp pn an kd mn sn vl rs er ev (d + 1) (nI i) := by
  intro d
  induction d with
  | zero =>
    intro i hi
    have e : i = c := by omega
    subst e
    rcases hq with ⟨e, hq⟩ | ⟨h1, h2, h3, hq⟩
    · subst e
      exact br_t (nI_le (Nat.le_refl _) (by omega)) hq
    · have w : vp_in (nI i) 4 := vp_in_nI (by omega) (by omega)
      exact br_f (nI_ge h1 (by omega)) ⟨w, br_f (by rw [nI_clamp (by omega)]; exact h2) ⟨w, br_f (by rw [nI_clamp (by omega)]; exact h3) hq⟩⟩
  | succ d ih =>
    intro i hi
    have w : vp_in (nI i) 4 := vp_in_nI (by omega) (by omega)
    have K := ih (i + 1) (by omega)
    have cl : (nI i).toNatClampNeg = i := nI_clamp (by omega)
    refine br_f (nI_ge (by omega) (by omega)) ⟨w, ?_⟩
    by_cases p : pn i = 0
    · exact br_t (by rw [cl]; exact p) (nm_r (nI_1 i) K)
    · have a : an i = ep := (hn i (by omega)).resolve_left p
      exact br_f (by rw [cl]; exact p) ⟨w, br_t (by rw [cl]; exact a) (nm_r (nI_1 i) K)⟩
theorem yq_lag {T c : Nat} {post : Int32 → SY → Prop} (hT : T ≤ 4) (hc : c ≤ T) (hn : ∀ j, j < c → pn j = 0 ∨ an j = ep) (hq : (c = T ∧ wY_tryAdvance_2 post nc (nI T) gp tc ep tr df lt dr ad re cs cv cx le lc tp pn an kd mn sn vl rs er ev 1 (nI T)) ∨ (c < T ∧ ¬ pn c = 0 ∧ ¬ an c = ep ∧ post 0 (nc, nI T, gp, tc, ep, tr, df, lt, dr, ad, re, cs, cv, cx, le, lc, tp, pn, an, kd, mn, sn, vl, rs, er, ev))) :
    ∀ d i, i + d = c → wY_tryAdvance_2 post nc (nI T) gp tc ep tr df lt dr ad re cs cv cx le lc tp pn an kd mn sn vl rs er ev (d + 1) (nI i) := by
  intro d
  induction d with
  | zero =>
    intro i hi
    have e : i = c := by omega
    subst e
    rcases hq with ⟨e, hq⟩ | ⟨h1, h2, h3, hq⟩
    · subst e
      exact hq
    · have w : vp_in (nI i) 4 := vp_in_nI (by omega) (by omega)
      exact br_f (nI_ge h1 (by omega)) ⟨w, br_f (by rw [nI_clamp (by omega)]; exact h2) ⟨w, br_f (by rw [nI_clamp (by omega)]; exact h3) hq⟩⟩
  | succ d ih =>
    intro i hi
    have w : vp_in (nI i) 4 := vp_in_nI (by omega) (by omega)
    have K := ih (i + 1) (by omega)
    have cl : (nI i).toNatClampNeg = i := nI_clamp (by omega)
    refine br_f (nI_ge (by omega) (by omega)) ⟨w, ?_⟩
    by_cases p : pn i = 0
    · exact br_t (by rw [cl]; exact p) (nm_r (nI_1 i) K)
    · have a : an i = ep := (hn i (by omega)).resolve_left p
      exact br_f (by rw [cl]; exact p) ⟨w, br_t (by rw [cl]; exact a) (nm_r (nI_1 i) K)⟩
theorem xq_free0 {q : SX → Prop} (h : ¬ er_ir y nc) (hp : q (nc, nt, gp, tc, ep, tr, df, lt, dr, ad, fc, re, cs, cv, cx, le, lc, tp, pn, an, kd, mn, sn, vl, rs, er, ev)) : wpX_freeCell q (nc, nt, gp, tc, ep, tr, df, lt, dr, ad, fc, re, cs, cv, cx, le, lc, tp, pn, an, kd, mn, sn, vl, rs, er, ev) y := by
  unfold wpX_freeCell
  exact xq_C0 h (br_t rfl hp)
theorem xq_free1 {q : SX → Prop} (h : er_ir y nc) (hw : vp_in y 32) (h0 : cs y.toNatClampNeg = 0) (hp : q (nc, nt, gp, tc, ep, tr, df + 1, y, dr, ad, fc, re, cs, cv, cx, le, lc, tp, pn, an, kd, mn, sn, vl, rs, er, ev)) : wpX_freeCell q (nc, nt, gp, tc, ep, tr, df, lt, dr, ad, fc, re, cs, cv, cx, le, lc, tp, pn, an, kd, mn, sn, vl, rs, er, ev) y := by
  unfold wpX_freeCell
  exact xq_C1 h (br_f er_10 ⟨hw, br_t h0 (nm_e hp)⟩)
theorem xq_free2 {q : SX → Prop} {f : Int32} (h : er_ir y nc) (hw : vp_in y 32) (h0 : ¬ cs y.toNatClampNeg = 0) (hf : fc + 1 = f) (hp : q (nc, nt, gp, tc, ep, tr, df, lt, dr, ad, f, re, upd cs y.toNatClampNeg 0, cv, cx, le, lc, tp, pn, an, kd, mn, sn, vl, rs, er, ev)) : wpX_freeCell q (nc, nt, gp, tc, ep, tr, df, lt, dr, ad, fc, re, cs, cv, cx, le, lc, tp, pn, an, kd, mn, sn, vl, rs, er, ev) y := by
  unfold wpX_freeCell
  exact xq_C1 h (br_f er_10 ⟨hw, br_f h0 ⟨hw, nm_e (nm_r hf hp)⟩⟩)
theorem er_list {C T k m : Nat} (hC : C ≤ 32) (hk : k < 3) (hm : m ≤ 32) (hl : lc (nI k).toNatClampNeg = nI m) : ∀ d i, i + d = m → ∀ (df lt : Int32) (cs : Nat → Int32), ∃ (df' lt' : Int32) (cs' : Nat → Int32),
    (∀ post : SX → Prop, post (nI C, nI T, gp, tc, ep, tr, df', lt', dr, ad, nI (er_cn cs' C), re, cs', cv, cx, le, upd lc (nI k).toNatClampNeg 0, tp, pn, an, kd, mn, sn, vl, rs, er, ev) → wX_freeLimboList_2 post (nI k) (d + 1) (nI i) (nI C) (nI T) gp tc ep tr df lt dr ad (nI (er_cn cs C)) re cs cv cx le lc tp pn an kd mn sn vl rs er ev) ∧
    (∀ post : Int32 → SY → Prop, post 1 (nI C, nI T, gp, tc, ep, tr, df', lt', dr, ad, re, cs', cv, cx, le, upd lc (nI k).toNatClampNeg 0, tp, pn, an, kd, mn, sn, vl, rs, er, ev) → wY_tryAdvance_78 post (nI k) (nI C) (nI T) gp tc ep tr dr ad re (d + 1) (nI i) df lt cs cv cx le lc tp pn an kd mn sn vl rs er ev) := by
  intro d
  have w : vp_in (nI k) 3 := vp_in_nI hk (by omega)
  induction d with
  | zero =>
    intro i hi df lt cs
    have g : lc (nI k).toNatClampNeg ≤ nI i := by rw [hl]; exact nI_le (by omega) (by omega)
    exact ⟨df, lt, cs, fun post hp => ⟨w, br_t g ⟨w, nm_e hp⟩⟩, fun post hp => ⟨w, br_t g ⟨w, nm_e hp⟩⟩⟩
  | succ d ih =>
    intro i hi df lt cs
    have g : ¬ lc (nI k).toNatClampNeg ≤ nI i := by rw [hl]; exact nI_ge (by omega) (by omega)
    have wi : vp_in (nI k * 32 + nI i) 96 := er_vi hk (by omega)
    obtain ⟨y, hy⟩ : ∃ y, le (nI k * 32 + nI i).toNatClampNeg = y := ⟨_, rfl⟩
    by_cases c : er_ir y (nI C)
    · obtain ⟨wc, hc⟩ := er_ir_in hC (by omega) c
      by_cases z : cs y.toNatClampNeg = 0
      · obtain ⟨df', lt', cs', KX, KY⟩ := ih (i + 1) (by omega) (df + 1) y cs
        refine ⟨df', lt', cs', fun post hp => ⟨w, br_f g ⟨wi, ?_⟩⟩, fun post hp => ⟨w, br_f g ⟨wi, nm_r hy (yq_C1 c (br_f er_10 ⟨wc, br_t z (nm_e (nm_r (nI_1 i) (KY post hp)))⟩))⟩⟩⟩
        rw [hy]
        exact xq_free1 c wc z (nm_r (nI_1 i) (KX post hp))
      · obtain ⟨df', lt', cs', KX, KY⟩ := ih (i + 1) (by omega) df lt (upd cs y.toNatClampNeg 0)
        refine ⟨df', lt', cs', fun post hp => ⟨w, br_f g ⟨wi, ?_⟩⟩, fun post hp => ⟨w, br_f g ⟨wi, nm_r hy (yq_C1 c (br_f er_10 ⟨wc, br_f z ⟨wc, nm_e (nm_r (nI_1 i) (KY post hp))⟩⟩))⟩⟩⟩
        rw [hy]
        exact xq_free2 c wc z (er_cn_inc hc z) (nm_r (nI_1 i) (KX post hp))
    · obtain ⟨df', lt', cs', KX, KY⟩ := ih (i + 1) (by omega) df lt cs
      refine ⟨df', lt', cs', fun post hp => ⟨w, br_f g ⟨wi, ?_⟩⟩, fun post hp => ⟨w, br_f g ⟨wi, nm_r hy (yq_C0 c (br_t rfl (nm_r (nI_1 i) (KY post hp))))⟩⟩⟩
      rw [hy]
      exact xq_free0 c (nm_r (nI_1 i) (KX post hp))
end
