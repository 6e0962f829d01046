/-! clamping -/
theorem er_clampX (y : Int32) (a b : Nat) (hab : a ≤ b) (hb : b < 2 ^ 31) : ∃ m, a ≤ m ∧ m ≤ b ∧ (∀ q : Int32 → Prop, q (nI m) → wpX_clamp q () y (nI a) (nI b)) := by
  rcases er_cl y a b hab hb with h | ⟨h1, h2, h3⟩ | ⟨h1, h2, h3, j, h4, h5, h6⟩
  · have g : ¬ nI a ≤ y := Int32.not_le.mpr h
    exact ⟨a, Nat.le_refl a, hab, fun q hq => br_f g hq⟩
  · have g : nI a ≤ y := Int32.not_lt.mp h1
    exact ⟨b, hab, Nat.le_refl b, fun q hq => br_t g (br_f h3 hq)⟩
  · have g : nI a ≤ y := Int32.not_lt.mp h1
    subst h6
    exact ⟨j, h4, h5, fun q hq => br_t g (br_t h3 hq)⟩
theorem er_vi {k i : Nat} (hk : k < 3) (hi : i < 32) : vp_in (nI k * 32 + nI i) 96 := by
  show vp_in (nI k * nI 32 + nI i) 96
  rw [pk_mul, nI_add]
  exact vp_in_nI (by omega) (by omega)
section
variable {nc nt gp tc ep tr df lt dr ad fc re : Int32} {cs cv cx le lc tp pn an kd mn sn vl rs er ev : Nat → Int32}
variable {x y : Int32}
theorem xq_busy1 {q : Int32 → Prop} (h : er_ir x nt) (hv : vp_in x 4) (h0 : ¬ tp x.toNatClampNeg = 0) (hp : q 1) : wpX_isBusy q (nc, nt, gp, tc, ep, tr, df, lt, dr, ad, fc, re, cs, cv, cx, le, lc, tp, pn, an, kd, mn, sn, vl, rs, er, ev) x := by
  unfold wpX_isBusy
  exact xq_T1 h (br_f er_10 ⟨hv, br_f h0 hp⟩)
theorem xq_busy0 {q : Int32 → Prop} (h : er_ir x nt) (hv : vp_in x 4) (h0 : tp x.toNatClampNeg = 0) (hp : q 0) : wpX_isBusy q (nc, nt, gp, tc, ep, tr, df, lt, dr, ad, fc, re, cs, cv, cx, le, lc, tp, pn, an, kd, mn, sn, vl, rs, er, ev) x := by
  unfold wpX_isBusy
  exact xq_T1 h (br_f er_10 ⟨hv, br_t h0 hp⟩)
theorem xq_busyN {q : Int32 → Prop} (h : ¬ er_ir x nt) (hp : q 0) : wpX_isBusy q (nc, nt, gp, tc, ep, tr, df, lt, dr, ad, fc, re, cs, cv, cx, le, lc, tp, pn, an, kd, mn, sn, vl, rs, er, ev) x := by
  unfold wpX_isBusy
  exact xq_T0 h (br_t rfl hp)
/-! the loops of run, over a state in one piece -/
def er_wx (post : Int32 → St2 → Prop) (x m : Int32) (n : Nat) (j : Int32) (u : St2) : Prop := match u with
  | (nc, nt, gp, tc, ep, tr, df, lt, dr, ad, fc, re, cs, cv, cx, le, lc, tp, pn, an, kd, mn, sn, vl, rs, er, ev) => wX_run_21 post x m n j nc nt gp tc ep tr df lt dr ad fc re cs cv cx le lc tp pn an kd mn sn vl rs er ev
end

/-! tryAdvance: the scan, then the list -/
theorem er_lags (pn an : Nat → Int32) (ep : Int32) (T : Nat) : ∃ c, c ≤ T ∧ (∀ j, j < c → pn j = 0 ∨ an j = ep) ∧ (c = T ∨ (c < T ∧ ¬ pn c = 0 ∧ ¬ an c = ep)) := by
  induction T with
  | zero => exact ⟨0, Nat.le_refl 0, fun j h => absurd h (Nat.not_lt_zero j), Or.inl rfl⟩
  | succ T ih =>
    obtain ⟨c, h1, h2, h3⟩ := ih
    rcases h3 with h3 | ⟨h3, h4, h5⟩
    · subst h3
      by_cases p : pn c = 0
      · exact ⟨c + 1, Nat.le_refl _, lt_s h2 (Or.inl p), Or.inl rfl⟩
      · by_cases q : an c = ep
        · exact ⟨c + 1, Nat.le_refl _, lt_s h2 (Or.inr q), Or.inl rfl⟩
        · exact ⟨c, by omega, h2, Or.inr ⟨by omega, p, q⟩⟩
    · exact ⟨c, by omega, h2, Or.inr ⟨by omega, h4, h5⟩⟩
section
variable {nc nt gp tc ep tr df lt dr ad fc re : Int32} {cs cv cx le lc tp pn an kd mn sn vl rs er ev : Nat → Int32}
variable {x y : Int32}
theorem xq_lag {T c : Nat} {q : Int32 → Prop} (hT : T ≤ 4) (hc : c ≤ T) (hn : ∀ j, j < c → pn j = 0 ∨ an j = ep) (hq : (c = T ∧ q 0) ∨ (c < T ∧ ¬ pn c = 0 ∧ ¬ an c = ep ∧ q 1)) :
    ∀ d i, i + d = c → wX_someThreadLagsBehind_2 q nc (nI T) gp tc ep tr df lt dr ad fc re cs cv cx le lc tp pn an kd mn sn vl rs er ev (d + 1) (nI i) := by
  intro d
  induction d with
  | zero =>
    intro i hi
    have e : i = c := by omega
    subst e
    rcases hq with ⟨e, hq⟩ | ⟨h1, h2, h3, hq⟩
    · subst e
      exact br_t (nI_le (Nat.le_refl _) (by omega)) hq
    · have w : vp_in (nI i) 4 := vp_in_nI (by omega) (by omega)
      exact br_f (nI_ge h1 (by omega)) ⟨w, br_f (by rw [nI_clamp (by omega)]; exact h2) ⟨w, br_f (by rw [nI_clamp (by omega)]; exact h3) hq⟩⟩
  | succ d ih =>
    intro i hi
    have w : vp_in (nI i) 4 := vp_in_nI (by omega) (by omega)
    have K := ih (i + 1) (by omega)
    have cl : (nI i).toNatClampNeg = i := nI_clamp (by omega)
    refine br_f (nI_ge (by omega) (by omega)) ⟨w, ?_⟩
    by_cases p : pn i = 0
    · exact br_t (by rw [cl]; exact p) (nm_r (nI_1 i) K)
    · have a : an i = ep := (hn i (by omega)).resolve_left p
      exact br_f (by rw [cl]; exact p) ⟨w, br_t (by rw [cl]; exact a) (nm_r (nI_1 i) K)⟩
theorem xq_free0 {q : St2 → Prop} (h : ¬ er_ir y nc) (hp : q (nc, nt, gp, tc, ep, tr, df, lt, dr, ad, fc, re, cs, cv, cx, le, lc, tp, pn, an, kd, mn, sn, vl, rs, er, ev)) : wpX_freeCell q (nc, nt, gp, tc, ep, tr, df, lt, dr, ad, fc, re, cs, cv, cx, le, lc, tp, pn, an, kd, mn, sn, vl, rs, er, ev) y := by
  unfold wpX_freeCell
  exact xq_C0 h (br_t rfl hp)
theorem xq_free1 {q : St2 → Prop} (h : er_ir y nc) (hw : vp_in y 32) (h0 : cs y.toNatClampNeg = 0) (hp : q (nc, nt, gp, tc, ep, tr, df + 1, y, dr, ad, fc, re, cs, cv, cx, le, lc, tp, pn, an, kd, mn, sn, vl, rs, er, ev)) : wpX_freeCell q (nc, nt, gp, tc, ep, tr, df, lt, dr, ad, fc, re, cs, cv, cx, le, lc, tp, pn, an, kd, mn, sn, vl, rs, er, ev) y := by
  unfold wpX_freeCell
  exact xq_C1 h (br_f er_10 ⟨hw, br_t h0 (nm_e hp)⟩)
theorem xq_free2 {q : St2 → Prop} {f : Int32} (h : er_ir y nc) (hw : vp_in y 32) (h0 : ¬ cs y.toNatClampNeg = 0) (hf : fc + 1 = f) (hp : q (nc, nt, gp, tc, ep, tr, df, lt, dr, ad, f, re, upd cs y.toNatClampNeg 0, cv, cx, le, lc, tp, pn, an, kd, mn, sn, vl, rs, er, ev)) : wpX_freeCell q (nc, nt, gp, tc, ep, tr, df, lt, dr, ad, fc, re, cs, cv, cx, le, lc, tp, pn, an, kd, mn, sn, vl, rs, er, ev) y := by
  unfold wpX_freeCell
  exact xq_C1 h (br_f er_10 ⟨hw, br_f h0 ⟨hw, nm_e (nm_r hf hp)⟩⟩)
end
