/-! clamping, on both sides -/
theorem er_clamp2 (y : Int32) (a b : Nat) (hab : a ≤ b) (hb : b < 2 ^ 31) : ∃ m, a ≤ m ∧ m ≤ b ∧ (∀ q : Int32 → Prop, q (nI m) → wpX_clamp q y (nI a) (nI b)) ∧ (∀ Z : Int32 → Prop, Z (nI m) → ((nI a ≤ y → ((y ≤ nI b → Z y) ∧ (¬ y ≤ nI b → Z (nI b)))) ∧ (¬ nI a ≤ y → Z (nI a)))) := by
  rcases er_cl y a b hab hb with h | ⟨h1, h2, h3⟩ | ⟨h1, h2, h3, j, h4, h5, h6⟩
  · have g : ¬ nI a ≤ y := Int32.not_le.mpr h
    exact ⟨a, Nat.le_refl a, hab, fun q hq => br_f g hq, fun Z hZ => br_f g hZ⟩
  · have g : nI a ≤ y := Int32.not_lt.mp h1
    exact ⟨b, hab, Nat.le_refl b, fun q hq => br_t g (br_f h3 hq), fun Z hZ => br_t g (br_f h3 hZ)⟩
  · have g : nI a ≤ y := Int32.not_lt.mp h1
    subst h6
    exact ⟨j, h4, h5, fun q hq => br_t g (br_t h3 hq), fun Z hZ => br_t g (br_t h3 hZ)⟩
section
variable {nc nt gp tc ep tr df lt dr ad fc re : Int32} {cs cv cx le lc tp pn an kd mn sn vl rs er ev : Nat → Int32}
variable {x y : Int32}
theorem xq_busy1 {q : Int32 → Prop} (h : er_ir x nt) (hv : vp_in x 4) (h0 : ¬ tp x.toNatClampNeg = 0) (hp : q 1) : wpX_isBusy q (nc, nt, gp, tc, ep, tr, df, lt, dr, ad, fc, re, cs, cv, cx, le, lc, tp, pn, an, kd, mn, sn, vl, rs, er, ev) x := by
  unfold wpX_isBusy
  exact xq_T1 h (br_f er_10 ⟨hv, br_f h0 hp⟩)
theorem xq_busy0 {q : Int32 → Prop} (h : er_ir x nt) (hv : vp_in x 4) (h0 : tp x.toNatClampNeg = 0) (hp : q 0) : wpX_isBusy q (nc, nt, gp, tc, ep, tr, df, lt, dr, ad, fc, re, cs, cv, cx, le, lc, tp, pn, an, kd, mn, sn, vl, rs, er, ev) x := by
  unfold wpX_isBusy
  exact xq_T1 h (br_f er_10 ⟨hv, br_t h0 hp⟩)
theorem xq_busyN {q : Int32 → Prop} (h : ¬ er_ir x nt) (hp : q 0) : wpX_isBusy q (nc, nt, gp, tc, ep, tr, df, lt, dr, ad, fc, re, cs, cv, cx, le, lc, tp, pn, an, kd, mn, sn, vl, rs, er, ev) x := by
  unfold wpX_isBusy
  exact xq_T0 h (br_t rfl hp)
/-! the loops of run, over a state in one piece -/
def er_wx (post : Int32 → SX → Prop) (x m : Int32) (n : Nat) (j : Int32) (u : SX) : Prop := match u with
  | (nc, nt, gp, tc, ep, tr, df, lt, dr, ad, fc, re, cs, cv, cx, le, lc, tp, pn, an, kd, mn, sn, vl, rs, er, ev) => wX_run_21 post x m n j nc nt gp tc ep tr df lt dr ad fc re cs cv cx le lc tp pn an kd mn sn vl rs er ev
def er_wy (post : Int32 → SY → Prop) (x m : Int32) (n : Nat) (j i : Int32) (v : SY) : Prop := match v with
  | (nc, nt, gp, tc, ep, tr, df, lt, dr, ad, re, cs, cv, cx, le, lc, tp, pn, an, kd, mn, sn, vl, rs, er, ev) => wY_run_47 post x m n j i nc nt gp tc ep tr df lt dr ad re cs cv cx le lc tp pn an kd mn sn vl rs er ev
theorem er_loop {C T m : Nat} (hm : m ≤ 64) (h : er_ir x (nI T)) (hv : vp_in x 4) : ∀ d j, j + d = m → ∀ u v, er_R C T u v → ∃ r u' v', er_R C T u' v' ∧ (∀ post : Int32 → SX → Prop, post r u' → er_wx post x (nI m) (d + 1) (nI j) u) ∧ (∀ post : Int32 → SY → Prop, post r v' → er_wy post x (nI m) (d + 1) (nI j) (nI j) v) := by
  intro d
  induction d with
  | zero =>
    intro j hj u v R
    have g : nI m ≤ nI j := nI_le (by omega) (by omega)
    have R' := R
    obtain ⟨gp, tc, ep, tr, df, lt, dr, ad, re, cs, cv, cx, le, lc, tp, pn, an, kd, mn, sn, vl, rs, er, ev, rfl, rfl, I⟩ := R
    exact ⟨nI j, _, _, R', fun post hq => br_t g hq, fun post hq => br_t g hq⟩
  | succ d ih =>
    intro j hj u v R
    have g : ¬ nI m ≤ nI j := nI_ge (by omega) (by omega)
    have R' := R
    obtain ⟨gp, tc, ep, tr, df, lt, dr, ad, re, cs, cv, cx, le, lc, tp, pn, an, kd, mn, sn, vl, rs, er, ev, rfl, rfl, I⟩ := R
    by_cases h0 : tp x.toNatClampNeg = 0
    · exact ⟨nI j, _, _, R', fun post hq => br_f g ⟨hv, br_t h0 hq⟩, fun post hq => br_f g ⟨hv, br_t h0 hq⟩⟩
    · obtain ⟨u', v', R2, HX, HY⟩ := er_ls (gp := gp) (tc := tc) (ep := ep) (tr := tr) (df := df) (lt := lt) (dr := dr) (ad := ad) (re := re) (cs := cs) (cv := cv) (cx := cx) (le := le) (pn := pn) (an := an) (kd := kd) (mn := mn) (sn := sn) (vl := vl) (rs := rs) (er := er) (ev := ev) I h h0
      obtain ⟨r, u3, v3, R3, KX, KY⟩ := ih (j + 1) (by omega) u' v' R2
      obtain ⟨gp', tc', ep', tr', df', lt', dr', ad', re', cs', cv', cx', le', lc', tp', pn', an', kd', mn', sn', vl', rs', er', ev', rfl, rfl, I'⟩ := R2
      exact ⟨r, u3, v3, R3, fun post hq => br_f g ⟨hv, br_f h0 (HX _ (nm_r (nI_1 j) (KX post hq)))⟩, fun post hq => br_f g ⟨hv, br_f h0 (HY _ (nm_r (nI_1 j) (nm_r (nI_1 j) (KY post hq))))⟩⟩
end
