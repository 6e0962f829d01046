/-! the reference's step, a case at a time, each with a general post; it answers the phase -/
section
variable {nc nt gp tc ep tr df lt dr ad fc re : Int32} {cs cv cx le lc tp pn an kd mn sn vl rs er ev : Nat → Int32}
variable {x y : Int32} {post : Int32 → SY → Prop}
theorem yq_acc1 {q : SY → Prop} (hc : er_ir y nc) (hw : vp_in y 32) (h0 : cs y.toNatClampNeg = 0) (hp : q (nc, nt, gp, tc, ep, tr + 1, df, y, dr, ad, re, cs, cv, cx, le, lc, tp, pn, an, kd, mn, sn, vl, rs, er, ev)) : wpY_access q (nc, nt, gp, tc, ep, tr, df, lt, dr, ad, re, cs, cv, cx, le, lc, tp, pn, an, kd, mn, sn, vl, rs, er, ev) y := by
  unfold wpY_access
  exact yq_C1 hc (br_f er_10 ⟨hw, br_t h0 (nm_e hp)⟩)
theorem yq_acc2 {q : SY → Prop} (hc : er_ir y nc) (hw : vp_in y 32) (h0 : ¬ cs y.toNatClampNeg = 0) (hp : q (nc, nt, gp, tc, ep, tr, df, lt, dr, ad, re, cs, cv, cx, le, lc, tp, pn, an, kd, mn, sn, vl, rs, er, ev)) : wpY_access q (nc, nt, gp, tc, ep, tr, df, lt, dr, ad, re, cs, cv, cx, le, lc, tp, pn, an, kd, mn, sn, vl, rs, er, ev) y := by
  unfold wpY_access
  exact yq_C1 hc (br_f er_10 ⟨hw, br_f h0 hp⟩)
theorem yq_acc0 {q : SY → Prop} (hc : ¬ er_ir y nc) (hp : q (nc, nt, gp, tc, ep, tr, df, lt, dr, ad, re, cs, cv, cx, le, lc, tp, pn, an, kd, mn, sn, vl, rs, er, ev)) : wpY_access q (nc, nt, gp, tc, ep, tr, df, lt, dr, ad, re, cs, cv, cx, le, lc, tp, pn, an, kd, mn, sn, vl, rs, er, ev) y := by
  unfold wpY_access
  exact yq_C0 hc (br_t rfl hp)
theorem yq_stepP (h : er_ir x nt) (hv : vp_in x 4) (h0 : ¬ tp x.toNatClampNeg = 0) (hk : kd x.toNatClampNeg = 1) (H : wY_step_41 post x (tp x.toNatClampNeg) 1 nc nt gp tc ep tr df lt dr ad re cs cv cx le lc tp pn an kd mn sn vl rs er ev) : wpY_step post (nc, nt, gp, tc, ep, tr, df, lt, dr, ad, re, cs, cv, cx, le, lc, tp, pn, an, kd, mn, sn, vl, rs, er, ev) x := by
  unfold wpY_step
  exact yq_T1 h (br_f er_10 ⟨hv, br_f h0 ⟨hv, nm_e ⟨hv, br_t hk H⟩⟩⟩)
theorem yq_stepQ (h : er_ir x nt) (hv : vp_in x 4) (h0 : ¬ tp x.toNatClampNeg = 0) (hk : ¬ kd x.toNatClampNeg = 1) (H : wY_step_41 post x (tp x.toNatClampNeg) 0 nc nt gp tc ep tr df lt dr ad re cs cv cx le lc tp pn an kd mn sn vl rs er ev) : wpY_step post (nc, nt, gp, tc, ep, tr, df, lt, dr, ad, re, cs, cv, cx, le, lc, tp, pn, an, kd, mn, sn, vl, rs, er, ev) x := by
  unfold wpY_step
  exact yq_T1 h (br_f er_10 ⟨hv, br_f h0 ⟨hv, nm_e ⟨hv, br_f hk H⟩⟩⟩)
theorem yq_stepN (h : ¬ er_ir x nt) (hp : post 0 (nc, nt, gp, tc, ep, tr, df, lt, dr, ad, re, cs, cv, cx, le, lc, tp, pn, an, kd, mn, sn, vl, rs, er, ev)) : wpY_step post (nc, nt, gp, tc, ep, tr, df, lt, dr, ad, re, cs, cv, cx, le, lc, tp, pn, an, kd, mn, sn, vl, rs, er, ev) x := by
  unfold wpY_step
  exact yq_T0 h (br_t rfl hp)
theorem yq_step0 (h : er_ir x nt) (hv : vp_in x 4) (h0 : tp x.toNatClampNeg = 0) (hp : post 0 (nc, nt, gp, tc, ep, tr, df, lt, dr, ad, re, cs, cv, cx, le, lc, tp, pn, an, kd, mn, sn, vl, rs, er, ev)) : wpY_step post (nc, nt, gp, tc, ep, tr, df, lt, dr, ad, re, cs, cv, cx, le, lc, tp, pn, an, kd, mn, sn, vl, rs, er, ev) x := by
  unfold wpY_step
  exact yq_T1 h (br_f er_10 ⟨hv, br_t h0 hp⟩)
/-! over the kind: the answer does not look at it -/
theorem yq_stepZ (h : er_ir x nt) (hv : vp_in x 4) (h0 : ¬ tp x.toNatClampNeg = 0) (H : ∀ z, wY_step_41 post x (tp x.toNatClampNeg) z nc nt gp tc ep tr df lt dr ad re cs cv cx le lc tp pn an kd mn sn vl rs er ev) : wpY_step post (nc, nt, gp, tc, ep, tr, df, lt, dr, ad, re, cs, cv, cx, le, lc, tp, pn, an, kd, mn, sn, vl, rs, er, ev) x := by
  by_cases hk : kd x.toNatClampNeg = 1
  · exact yq_stepP h hv h0 hk (H 1)
  · exact yq_stepQ h hv h0 hk (H 0)
theorem yq_1a {z p : Int32} (hv : vp_in x 4) (e : p = 1) (hz : ¬ z = 0) (hp : post p (nc, nt, gp, tc, ep, tr, df, lt, dr, ad, re, cs, cv, cx, le, lc, upd tp x.toNatClampNeg 2, upd pn x.toNatClampNeg (vp_nar .boolean 1), upd an x.toNatClampNeg ep, kd, mn, sn, vl, rs, er, ev)) : wY_step_41 post x p z nc nt gp tc ep tr df lt dr ad re cs cv cx le lc tp pn an kd mn sn vl rs er ev :=
  br_t e ⟨hv, nm_e ⟨hv, nm_e (br_f hz ⟨hv, nm_e hp⟩)⟩⟩
theorem yq_1b {z p : Int32} (hv : vp_in x 4) (e : p = 1) (hz : z = 0) (hp : post p (nc, nt, gp, tc, ep, tr, df, lt, dr, ad, re, cs, cv, cx, le, lc, upd tp x.toNatClampNeg 3, upd pn x.toNatClampNeg (vp_nar .boolean 1), upd an x.toNatClampNeg ep, kd, mn, sn, vl, rs, er, ev)) : wY_step_41 post x p z nc nt gp tc ep tr df lt dr ad re cs cv cx le lc tp pn an kd mn sn vl rs er ev :=
  br_t e ⟨hv, nm_e ⟨hv, nm_e (br_t hz ⟨hv, nm_e hp⟩)⟩⟩
/-! the reference's scan for the lowest FREE cell, downwards -/
theorem yq_down {C c : Nat} {p : Int32} (hC : C ≤ 32) (hc : c ≤ C) (hn : ∀ j, j < c → ¬ cs j = 0)
    (H : ∀ n, wY_step_98 post x p (nI C) nt gp tc ep tr df lt dr ad re cs cv cx le lc tp pn an kd mn sn vl rs er ev (n + 1) (if c = C then -1 else nI c) (-1)) :
    ∀ i, i ≤ c → ∀ m, wY_step_98 post x p (nI C) nt gp tc ep tr df lt dr ad re cs cv cx le lc tp pn an kd mn sn vl rs er ev (i + 1 + m) (if c = C then -1 else nI c) (nI i + (-1)) := by
  intro i
  induction i with
  | zero =>
    intro _ m
    rw [show 0 + 1 + m = m + 1 from by omega, nI_0, show (0 : Int32) + (-1) = -1 from by decide]
    exact H m
  | succ i ih =>
    intro hi m
    rw [pk_m1, show i + 1 + 1 + m = (i + 1 + m) + 1 from by omega]
    exact br_f (nI_pos (by omega)) ⟨vp_in_nI (by omega) (by omega), br_f (by rw [nI_clamp (by omega)]; exact hn i (by omega)) (nm_e (ih (by omega) m))⟩
/-- from the last cell down to the lowest FREE one -/
theorem yq_down2 {C c : Nat} {p : Int32} (hC : C ≤ 32) (hc : c < C) (h0 : cs c = 0) (hn : ∀ j, j < c → ¬ cs j = 0)
    (H : ∀ n, wY_step_98 post x p (nI C) nt gp tc ep tr df lt dr ad re cs cv cx le lc tp pn an kd mn sn vl rs er ev (n + 1) (nI c) (-1)) :
    ∀ d i, i = c + 1 + d → i ≤ C → ∀ z m, wY_step_98 post x p (nI C) nt gp tc ep tr df lt dr ad re cs cv cx le lc tp pn an kd mn sn vl rs er ev (i + 1 + m) z (nI i + (-1)) := by
  intro d
  induction d with
  | zero =>
    intro i hi hiC z m
    subst hi
    rw [show c + 1 + 0 = c + 1 from rfl, pk_m1, show c + 1 + 1 + m = (c + 1 + m) + 1 from by omega]
    have K := yq_down (C := C) (c := c) (p := p) (post := post) (x := x) hC (by omega) hn (by rw [if_neg (by omega)]; exact H) c (Nat.le_refl c) m
    rw [if_neg (by omega)] at K
    exact br_f (nI_pos (by omega)) ⟨vp_in_nI (by omega) (by omega), br_t (by rw [nI_clamp (by omega)]; exact h0) (nm_e K)⟩
  | succ d ih =>
    intro i hi hiC z m
    obtain ⟨j, rfl⟩ : ∃ j, i = j + 1 := ⟨i - 1, by omega⟩
    rw [pk_m1, show j + 1 + 1 + m = (j + 1 + m) + 1 from by omega]
    refine br_f (nI_pos (by omega)) ⟨vp_in_nI (by omega) (by omega), br_c (fun _ => nm_e ?_) (fun _ => nm_e ?_)⟩
    · exact ih j (by omega) (by omega) (nI j) m
    · exact ih j (by omega) (by omega) z m
theorem yq_2a {C : Nat} {z p : Int32} (hv : vp_in x 4) (n1 : ¬ p = 1) (e : p = 2) (hC : C ≤ 32) (hn : ∀ j, j < C → ¬ cs j = 0)
    (hp : post p (nI C, nt, gp, tc, ep, tr, df, lt, dr, ad, re, cs, cv, cx, le, lc, upd tp x.toNatClampNeg 8, pn, an, kd, mn, sn, vl, upd rs x.toNatClampNeg 3, er, ev)) : wY_step_41 post x p z (nI C) nt gp tc ep tr df lt dr ad re cs cv cx le lc tp pn an kd mn sn vl rs er ev := by
  refine br_f n1 (br_t e (nm_e ⟨C + 1 + 0, ?_⟩))
  rw [show nI C - 1 = nI C + (-1) from Int32.sub_eq_add_neg _ _]
  have K := yq_down (C := C) (c := C) (p := p) (post := post) (x := x) hC (Nat.le_refl C) hn
    (by rw [if_pos rfl]; exact fun n => br_t (by decide) (br_t rfl ⟨hv, nm_e ⟨hv, nm_e hp⟩⟩)) C (Nat.le_refl C) 0
  rw [if_pos rfl] at K
  exact K
theorem yq_2b {C c : Nat} {z p : Int32} (hv : vp_in x 4) (n1 : ¬ p = 1) (e : p = 2) (hC : C ≤ 32) (hc : c < C) (h0 : cs c = 0) (hn : ∀ j, j < c → ¬ cs j = 0)
    (hp : post p (nI C, nt, gp, tc, ep, tr, df, lt, dr, ad, re, upd cs (nI c).toNatClampNeg 1, upd cv (nI c).toNatClampNeg (vl x.toNatClampNeg), upd cx (nI c).toNatClampNeg (-1), le, lc, upd tp x.toNatClampNeg 3, pn, an, kd, upd mn x.toNatClampNeg (nI c), sn, vl, rs, er, ev)) : wY_step_41 post x p z (nI C) nt gp tc ep tr df lt dr ad re cs cv cx le lc tp pn an kd mn sn vl rs er ev := by
  have w : vp_in (nI c) 32 := vp_in_nI (by omega) (by omega)
  refine br_f n1 (br_t e (nm_e ⟨C + 1 + 0, ?_⟩))
  rw [show nI C - 1 = nI C + (-1) from Int32.sub_eq_add_neg _ _]
  exact yq_down2 hC hc h0 hn (fun n => br_t (by decide) (br_f (er_nm1 (by omega)) ⟨w, nm_e ⟨hv, w, nm_e ⟨w, nm_e ⟨hv, nm_e ⟨hv, nm_e hp⟩⟩⟩⟩⟩)) (C - c - 1) C (by omega) (Nat.le_refl C) (-1) 0
theorem yq_3a {z p : Int32} (hv : vp_in x 4) (n1 : ¬ p = 1) (n2 : ¬ p = 2) (e : p = 3) (hz : ¬ z = 0) (hp : post p (nc, nt, gp, tc, ep, tr, df, lt, dr, ad, re, cs, cv, cx, le, lc, upd tp x.toNatClampNeg 4, pn, an, kd, mn, upd sn x.toNatClampNeg tc, vl, rs, er, ev)) : wY_step_41 post x p z nc nt gp tc ep tr df lt dr ad re cs cv cx le lc tp pn an kd mn sn vl rs er ev :=
  br_f n1 (br_f n2 (br_t e (br_f hz ⟨hv, nm_e ⟨hv, nm_e hp⟩⟩)))
theorem yq_3b {z p : Int32} (hv : vp_in x 4) (n1 : ¬ p = 1) (n2 : ¬ p = 2) (e : p = 3) (hz : z = 0) (ht : tc = -1) (hp : post p (nc, nt, gp, tc, ep, tr, df, lt, dr, ad, re, cs, cv, cx, le, lc, upd tp x.toNatClampNeg 8, pn, an, kd, upd mn x.toNatClampNeg tc, sn, upd vl x.toNatClampNeg 0, upd rs x.toNatClampNeg 2, er, ev)) : wY_step_41 post x p z nc nt gp tc ep tr df lt dr ad re cs cv cx le lc tp pn an kd mn sn vl rs er ev :=
  br_f n1 (br_f n2 (br_t e (br_t hz ⟨hv, nm_e (br_t ht ⟨hv, nm_e ⟨hv, nm_e ⟨hv, nm_e hp⟩⟩⟩)⟩)))
theorem yq_3c {z p : Int32} (hv : vp_in x 4) (n1 : ¬ p = 1) (n2 : ¬ p = 2) (e : p = 3) (hz : z = 0) (ht : ¬ tc = -1) (hp : post p (nc, nt, gp, tc, ep, tr, df, lt, dr, ad, re, cs, cv, cx, le, lc, upd tp x.toNatClampNeg 5, pn, an, kd, upd mn x.toNatClampNeg tc, sn, vl, rs, er, ev)) : wY_step_41 post x p z nc nt gp tc ep tr df lt dr ad re cs cv cx le lc tp pn an kd mn sn vl rs er ev :=
  br_f n1 (br_f n2 (br_t e (br_t hz ⟨hv, nm_e (br_f ht ⟨hv, nm_e hp⟩)⟩)))
theorem yq_4a {z p : Int32} (hv : vp_in x 4) (n1 : ¬ p = 1) (n2 : ¬ p = 2) (n3 : ¬ p = 3) (e : p = 4) (hy : mn x.toNatClampNeg = y) (hc : ¬ er_ir y nc) (hp : post p (nc, nt, gp, tc, ep, tr, df, lt, dr, ad, re, cs, cv, cx, le, lc, upd tp x.toNatClampNeg 6, pn, an, kd, mn, sn, vl, rs, er, ev)) : wY_step_41 post x p z nc nt gp tc ep tr df lt dr ad re cs cv cx le lc tp pn an kd mn sn vl rs er ev :=
  br_f n1 (br_f n2 (br_f n3 (br_t e ⟨hv, nm_r hy (yq_acc0 hc (yq_C0 hc (br_t rfl ⟨hv, nm_e hp⟩)))⟩)))
theorem yq_4b {z p : Int32} (hv : vp_in x 4) (n1 : ¬ p = 1) (n2 : ¬ p = 2) (n3 : ¬ p = 3) (e : p = 4) (hy : mn x.toNatClampNeg = y) (hc : er_ir y nc) (hw : vp_in y 32) (h0 : cs y.toNatClampNeg = 0) (hp : post p (nc, nt, gp, tc, ep, tr + 1, df, y, dr, ad, re, cs, cv, upd cx y.toNatClampNeg (sn x.toNatClampNeg), le, lc, upd tp x.toNatClampNeg 6, pn, an, kd, mn, sn, vl, rs, er, ev)) : wY_step_41 post x p z nc nt gp tc ep tr df lt dr ad re cs cv cx le lc tp pn an kd mn sn vl rs er ev :=
  br_f n1 (br_f n2 (br_f n3 (br_t e ⟨hv, nm_r hy (yq_acc1 hc hw h0 (yq_C1 hc (br_f er_10 ⟨hv, hw, nm_e ⟨hv, nm_e hp⟩⟩)))⟩)))
theorem yq_4c {z p : Int32} (hv : vp_in x 4) (n1 : ¬ p = 1) (n2 : ¬ p = 2) (n3 : ¬ p = 3) (e : p = 4) (hy : mn x.toNatClampNeg = y) (hc : er_ir y nc) (hw : vp_in y 32) (h0 : ¬ cs y.toNatClampNeg = 0) (hp : post p (nc, nt, gp, tc, ep, tr, df, lt, dr, ad, re, cs, cv, upd cx y.toNatClampNeg (sn x.toNatClampNeg), le, lc, upd tp x.toNatClampNeg 6, pn, an, kd, mn, sn, vl, rs, er, ev)) : wY_step_41 post x p z nc nt gp tc ep tr df lt dr ad re cs cv cx le lc tp pn an kd mn sn vl rs er ev :=
  br_f n1 (br_f n2 (br_f n3 (br_t e ⟨hv, nm_r hy (yq_acc2 hc hw h0 (yq_C1 hc (br_f er_10 ⟨hv, hw, nm_e ⟨hv, nm_e hp⟩⟩)))⟩)))
theorem yq_5a {z p : Int32} (hv : vp_in x 4) (n1 : ¬ p = 1) (n2 : ¬ p = 2) (n3 : ¬ p = 3) (n4 : ¬ p = 4) (e : p = 5) (hy : mn x.toNatClampNeg = y) (hc : ¬ er_ir y nc) (hp : post p (nc, nt, gp, tc, ep, tr, df, lt, dr, ad, re, cs, cv, cx, le, lc, upd tp x.toNatClampNeg 6, pn, an, kd, mn, sn, vl, rs, er, ev)) : wY_step_41 post x p z nc nt gp tc ep tr df lt dr ad re cs cv cx le lc tp pn an kd mn sn vl rs er ev :=
  br_f n1 (br_f n2 (br_f n3 (br_f n4 (br_t e ⟨hv, nm_r hy (yq_acc0 hc (yq_C0 hc (br_t rfl ⟨hv, nm_e hp⟩)))⟩))))
theorem yq_5b {z p : Int32} (hv : vp_in x 4) (n1 : ¬ p = 1) (n2 : ¬ p = 2) (n3 : ¬ p = 3) (n4 : ¬ p = 4) (e : p = 5) (hy : mn x.toNatClampNeg = y) (hc : er_ir y nc) (hw : vp_in y 32) (h0 : cs y.toNatClampNeg = 0) (hp : post p (nc, nt, gp, tc, ep, tr + 1, df, y, dr, ad, re, cs, cv, cx, le, lc, upd tp x.toNatClampNeg 6, pn, an, kd, mn, upd sn x.toNatClampNeg (cx y.toNatClampNeg), upd vl x.toNatClampNeg (cv y.toNatClampNeg), rs, er, ev)) : wY_step_41 post x p z nc nt gp tc ep tr df lt dr ad re cs cv cx le lc tp pn an kd mn sn vl rs er ev :=
  br_f n1 (br_f n2 (br_f n3 (br_f n4 (br_t e ⟨hv, nm_r hy (yq_acc1 hc hw h0 (yq_C1 hc (br_f er_10 ⟨hw, hv, nm_e ⟨hw, hv, nm_e ⟨hv, nm_e hp⟩⟩⟩)))⟩))))
theorem yq_5c {z p : Int32} (hv : vp_in x 4) (n1 : ¬ p = 1) (n2 : ¬ p = 2) (n3 : ¬ p = 3) (n4 : ¬ p = 4) (e : p = 5) (hy : mn x.toNatClampNeg = y) (hc : er_ir y nc) (hw : vp_in y 32) (h0 : ¬ cs y.toNatClampNeg = 0) (hp : post p (nc, nt, gp, tc, ep, tr, df, lt, dr, ad, re, cs, cv, cx, le, lc, upd tp x.toNatClampNeg 6, pn, an, kd, mn, upd sn x.toNatClampNeg (cx y.toNatClampNeg), upd vl x.toNatClampNeg (cv y.toNatClampNeg), rs, er, ev)) : wY_step_41 post x p z nc nt gp tc ep tr df lt dr ad re cs cv cx le lc tp pn an kd mn sn vl rs er ev :=
  br_f n1 (br_f n2 (br_f n3 (br_f n4 (br_t e ⟨hv, nm_r hy (yq_acc2 hc hw h0 (yq_C1 hc (br_f er_10 ⟨hw, hv, nm_e ⟨hw, hv, nm_e ⟨hv, nm_e hp⟩⟩⟩)))⟩))))
theorem yq_6a {z p : Int32} (hv : vp_in x 4) (n1 : ¬ p = 1) (n2 : ¬ p = 2) (n3 : ¬ p = 3) (n4 : ¬ p = 4) (n5 : ¬ p = 5) (e : p = 6) (hz : ¬ z = 0) (ht : tc = sn x.toNatClampNeg) (hp : post p (nc, nt, gp, mn x.toNatClampNeg, ep, tr, df, lt, dr, ad, re, cs, cv, cx, le, lc, upd tp x.toNatClampNeg 8, pn, an, kd, mn, sn, vl, upd rs x.toNatClampNeg 1, er, ev)) : wY_step_41 post x p z nc nt gp tc ep tr df lt dr ad re cs cv cx le lc tp pn an kd mn sn vl rs er ev :=
  br_f n1 (br_f n2 (br_f n3 (br_f n4 (br_f n5 (br_t e (br_f hz ⟨hv, br_t ht ⟨hv, nm_e ⟨hv, nm_e ⟨hv, nm_e hp⟩⟩⟩⟩))))))
theorem yq_6b {z p : Int32} (hv : vp_in x 4) (n1 : ¬ p = 1) (n2 : ¬ p = 2) (n3 : ¬ p = 3) (n4 : ¬ p = 4) (n5 : ¬ p = 5) (e : p = 6) (hz : ¬ z = 0) (ht : ¬ tc = sn x.toNatClampNeg) (hp : post p (nc, nt, gp, tc, ep, tr, df, lt, dr, ad, re, cs, cv, cx, le, lc, upd tp x.toNatClampNeg 3, pn, an, kd, mn, sn, vl, rs, er, ev)) : wY_step_41 post x p z nc nt gp tc ep tr df lt dr ad re cs cv cx le lc tp pn an kd mn sn vl rs er ev :=
  br_f n1 (br_f n2 (br_f n3 (br_f n4 (br_f n5 (br_t e (br_f hz ⟨hv, br_f ht ⟨hv, nm_e hp⟩⟩))))))
theorem yq_6c {z p : Int32} (hv : vp_in x 4) (n1 : ¬ p = 1) (n2 : ¬ p = 2) (n3 : ¬ p = 3) (n4 : ¬ p = 4) (n5 : ¬ p = 5) (e : p = 6) (hz : z = 0) (ht : tc = mn x.toNatClampNeg) (hp : post p (nc, nt, gp, sn x.toNatClampNeg, ep, tr, df, lt, dr, ad, re, cs, cv, cx, le, lc, upd tp x.toNatClampNeg 7, pn, an, kd, mn, sn, vl, upd rs x.toNatClampNeg 1, er, ev)) : wY_step_41 post x p z nc nt gp tc ep tr df lt dr ad re cs cv cx le lc tp pn an kd mn sn vl rs er ev :=
  br_f n1 (br_f n2 (br_f n3 (br_f n4 (br_f n5 (br_t e (br_t hz ⟨hv, br_t ht ⟨hv, nm_e ⟨hv, nm_e ⟨hv, nm_e hp⟩⟩⟩⟩))))))
theorem yq_6d {z p : Int32} (hv : vp_in x 4) (n1 : ¬ p = 1) (n2 : ¬ p = 2) (n3 : ¬ p = 3) (n4 : ¬ p = 4) (n5 : ¬ p = 5) (e : p = 6) (hz : z = 0) (ht : ¬ tc = mn x.toNatClampNeg) (hp : post p (nc, nt, gp, tc, ep, tr, df, lt, dr, ad, re, cs, cv, cx, le, lc, upd tp x.toNatClampNeg 3, pn, an, kd, mn, sn, vl, rs, er, ev)) : wY_step_41 post x p z nc nt gp tc ep tr df lt dr ad re cs cv cx le lc tp pn an kd mn sn vl rs er ev :=
  br_f n1 (br_f n2 (br_f n3 (br_f n4 (br_f n5 (br_t e (br_t hz ⟨hv, br_f ht ⟨hv, nm_e hp⟩⟩))))))
theorem yq_ret {s' : Nat → Int32} {p : Int32} (hv : vp_in x 4) (hy : mn x.toNatClampNeg = y) (hs : er_rt nc cs y s') (hp : post p (nc, nt, gp, tc, ep, tr, df, lt, dr, ad, re + 1, s', cv, cx, le, lc, upd tp x.toNatClampNeg 8, pn, an, kd, mn, sn, vl, rs, er, ev)) : wY_step_583 post x p nc nt gp tc ep tr df lt dr ad re cs cv cx le lc tp pn an kd mn sn vl rs er ev := by
  unfold wY_step_583
  refine ⟨hv, nm_r hy ?_⟩
  rcases hs with ⟨g, e⟩ | ⟨g, w, ⟨g2, e⟩ | ⟨g2, e⟩⟩
  · subst e
    exact yq_C0 g (br_t rfl (nm_e ⟨hv, nm_e hp⟩))
  · subst e
    exact yq_C1 g (br_f er_10 ⟨w, br_t g2 ⟨w, nm_e (nm_e ⟨hv, nm_e hp⟩)⟩⟩)
  · subst e
    exact yq_C1 g (br_f er_10 ⟨w, br_f g2 (nm_e ⟨hv, nm_e hp⟩)⟩)
theorem yq_7a {z p l : Int32} {s' : Nat → Int32} (hv : vp_in x 4) (n1 : ¬ p = 1) (n2 : ¬ p = 2) (n3 : ¬ p = 3) (n4 : ¬ p = 4) (n5 : ¬ p = 5) (n6 : ¬ p = 6) (e : p = 7) (hy : mn x.toNatClampNeg = y) (h3 : er_l3 (an x.toNatClampNeg) l) (hl : vp_in l 3) (hn : ¬ 32 ≤ lc l.toNatClampNeg) (hi : vp_in (l * 32 + lc l.toNatClampNeg) 96) (hs : er_rt nc cs y s')
    (hp : post p (nc, nt, gp, tc, ep, tr, df, lt, dr, ad, re + 1, s', cv, cx, upd le (l * 32 + lc l.toNatClampNeg).toNatClampNeg y, upd lc l.toNatClampNeg (lc l.toNatClampNeg + 1), upd tp x.toNatClampNeg 8, pn, an, kd, mn, sn, vl, rs, er, ev)) : wY_step_41 post x p z nc nt gp tc ep tr df lt dr ad re cs cv cx le lc tp pn an kd mn sn vl rs er ev := by
  refine br_f n1 (br_f n2 (br_f n3 (br_f n4 (br_f n5 (br_f n6 (br_t e ⟨hv, yq_mod3 h3 ⟨hl, br_f hn ⟨hl, hv, hi, nm_r (by rw [hy]) ⟨hl, hl, nm_e ?_⟩⟩⟩⟩))))))
  exact yq_ret hv hy hs hp
theorem yq_7b {z p l : Int32} {s' : Nat → Int32} (hv : vp_in x 4) (n1 : ¬ p = 1) (n2 : ¬ p = 2) (n3 : ¬ p = 3) (n4 : ¬ p = 4) (n5 : ¬ p = 5) (n6 : ¬ p = 6) (e : p = 7) (hy : mn x.toNatClampNeg = y) (h3 : er_l3 (an x.toNatClampNeg) l) (hl : vp_in l 3) (hn : 32 ≤ lc l.toNatClampNeg) (hs : er_rt nc cs y s')
    (hp : post p (nc, nt, gp, tc, ep, tr, df, lt, dr + 1, ad, re + 1, s', cv, cx, le, lc, upd tp x.toNatClampNeg 8, pn, an, kd, mn, sn, vl, rs, er, ev)) : wY_step_41 post x p z nc nt gp tc ep tr df lt dr ad re cs cv cx le lc tp pn an kd mn sn vl rs er ev := by
  refine br_f n1 (br_f n2 (br_f n3 (br_f n4 (br_f n5 (br_f n6 (br_t e ⟨hv, yq_mod3 h3 ⟨hl, br_t hn (nm_e ?_)⟩⟩))))))
  exact yq_ret hv hy hs hp
theorem yq_8a {z p : Int32} (hv : vp_in x 4) (n1 : ¬ p = 1) (n2 : ¬ p = 2) (n3 : ¬ p = 3) (n4 : ¬ p = 4) (n5 : ¬ p = 5) (n6 : ¬ p = 6) (n7 : ¬ p = 7) (hp : post p (nc, nt, gp, tc, ep, tr, df, lt, dr, ad, re, cs, cv, cx, le, lc, upd tp x.toNatClampNeg 0, upd pn x.toNatClampNeg (vp_nar .boolean 0), an, kd, mn, sn, vl, rs, upd er x.toNatClampNeg (rs x.toNatClampNeg), upd ev x.toNatClampNeg (vl x.toNatClampNeg))) : wY_step_41 post x p z nc nt gp tc ep tr df lt dr ad re cs cv cx le lc tp pn an kd mn sn vl rs er ev :=
  br_f n1 (br_f n2 (br_f n3 (br_f n4 (br_f n5 (br_f n6 (br_f n7 ⟨hv, nm_e ⟨hv, hv, nm_e ⟨hv, hv, nm_e ⟨hv, nm_e hp⟩⟩⟩⟩))))))
end
