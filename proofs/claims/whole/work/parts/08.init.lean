/-! the constructors -/
def er_fl (i : Nat) : Nat → Int32 := fun j => if j < i then -1 else 0
theorem er_fl_s (i : Nat) : upd (er_fl i) i (-1) = er_fl (i + 1) := by
  funext j
  by_cases e : j = i
  · rw [e, pk_us]
    exact (if_pos (by omega)).symm
  · rw [pk_un e]
    unfold er_fl
    by_cases g : j < i
    · rw [if_pos g, if_pos (by omega)]
    · rw [if_neg g, if_neg (by omega)]
theorem er_fl_0 : er_fl 0 = fun _ => 0 := by
  funext j
  exact if_neg (Nat.not_lt_zero j)
theorem er_uz (k : Nat) : upd (fun _ => 0) k 0 = fun _ => 0 := by
  funext j
  by_cases e : j = k
  · rw [e, pk_us]
  · rw [pk_un e]
theorem er_uzb (k : Nat) : upd (fun _ => 0) k (vp_nar .boolean 0) = fun _ => 0 := er_uz k
section
variable {nc nt gp tc ep tr df lt dr ad fc re : Int32} {cs cv cx le lc tp pn an kd mn sn vl rs er ev : Nat → Int32}
theorem xq_i2 {post : SX → Prop} (hp : post (nc, nt, gp, tc, ep, tr, df, lt, dr, ad, fc, re, cs, cv, cx, le, lc, tp, pn, an, kd, er_fl 4, er_fl 4, vl, rs, er, ev)) : ∀ d i, i + d = 4 → wX_init_220 post nc nt gp tc ep tr df lt dr ad fc re (d + 1) (nI i) cs cv cx le lc tp pn an kd (er_fl i) (er_fl i) vl rs er ev := by
  intro d
  induction d with
  | zero =>
    intro i hi
    have e : i = 4 := by omega
    subst e
    exact br_t (by decide) hp
  | succ d ih =>
    intro i hi
    have w : vp_in (nI i) 4 := vp_in_nI (by omega) (by omega)
    have cl : upd (er_fl i) (nI i).toNatClampNeg (-1) = er_fl (i + 1) := by rw [nI_clamp (by omega)]; exact er_fl_s i
    exact br_f (nI_ge (b := 4) (by omega) (by decide)) ⟨w, nm_r cl ⟨w, nm_r cl (nm_r (nI_1 i) (ih (i + 1) (by omega)))⟩⟩
theorem xq_i1 {post : SX → Prop} (hp : post (nc, nt, gp, tc, ep, tr, df, lt, dr, ad, fc, re, cs, cv, er_fl 32, le, lc, tp, pn, an, kd, er_fl 4, er_fl 4, vl, rs, er, ev)) : ∀ d i, i + d = 32 → wX_init_196 post nc nt gp tc ep tr df lt dr ad fc re (d + 1) (nI i) cs cv (er_fl i) le lc tp pn an kd (er_fl 0) (er_fl 0) vl rs er ev := by
  intro d
  induction d with
  | zero =>
    intro i hi
    have e : i = 32 := by omega
    subst e
    exact br_t (by decide) ⟨5, xq_i2 hp 4 0 rfl⟩
  | succ d ih =>
    intro i hi
    have w : vp_in (nI i) 32 := vp_in_nI (by omega) (by omega)
    have cl : upd (er_fl i) (nI i).toNatClampNeg (-1) = er_fl (i + 1) := by rw [nI_clamp (by omega)]; exact er_fl_s i
    exact br_f (nI_ge (b := 32) (by omega) (by decide)) ⟨w, nm_r cl (nm_r (nI_1 i) (ih (i + 1) (by omega)))⟩
theorem yq_i2 {post : SY → Prop} (hp : post (nc, nt, gp, tc, ep, tr, df, lt, dr, ad, re, cs, cv, cx, le, lc, fun _ => 0, fun _ => 0, fun _ => 0, fun _ => 0, er_fl 4, er_fl 4, fun _ => 0, fun _ => 0, fun _ => 0, fun _ => 0)) : ∀ d i, i + d = 4 → wY_init_269 post nc nt gp tc ep tr df lt dr ad re (d + 1) (nI i) cs cv cx le lc (fun _ => 0) (fun _ => 0) (fun _ => 0) (fun _ => 0) (er_fl i) (er_fl i) (fun _ => 0) (fun _ => 0) (fun _ => 0) (fun _ => 0) := by
  intro d
  induction d with
  | zero =>
    intro i hi
    have e : i = 4 := by omega
    subst e
    exact br_t (by decide) hp
  | succ d ih =>
    intro i hi
    have w : vp_in (nI i) 4 := vp_in_nI (by omega) (by omega)
    have cl : upd (er_fl i) (nI i).toNatClampNeg (-1) = er_fl (i + 1) := by rw [nI_clamp (by omega)]; exact er_fl_s i
    exact br_f (nI_ge (b := 4) (by omega) (by decide)) ⟨w, nm_r (er_uz _) ⟨w, nm_r (er_uzb _) ⟨w, nm_r (er_uz _) ⟨w, nm_r (er_uz _) ⟨w, nm_r cl ⟨w, nm_r cl ⟨w, nm_r (er_uz _) ⟨w, nm_r (er_uz _) ⟨w, nm_r (er_uz _) ⟨w, nm_r (er_uz _) (nm_r (nI_1 i) (ih (i + 1) (by omega)))⟩⟩⟩⟩⟩⟩⟩⟩⟩⟩
theorem yq_i1 {post : SY → Prop} (hp : post (nc, nt, gp, tc, ep, tr, df, lt, dr, ad, re, fun _ => 0, fun _ => 0, er_fl 32, le, lc, fun _ => 0, fun _ => 0, fun _ => 0, fun _ => 0, er_fl 4, er_fl 4, fun _ => 0, fun _ => 0, fun _ => 0, fun _ => 0)) : ∀ d i, i + d = 32 → wY_init_229 post nc nt gp tc ep tr df lt dr ad re (d + 1) (nI i) (fun _ => 0) (fun _ => 0) (er_fl i) le lc (fun _ => 0) (fun _ => 0) (fun _ => 0) (fun _ => 0) (er_fl 0) (er_fl 0) (fun _ => 0) (fun _ => 0) (fun _ => 0) (fun _ => 0) := by
  intro d
  induction d with
  | zero =>
    intro i hi
    have e : i = 32 := by omega
    subst e
    exact br_t (by decide) ⟨5, yq_i2 hp 4 0 rfl⟩
  | succ d ih =>
    intro i hi
    have w : vp_in (nI i) 32 := vp_in_nI (by omega) (by omega)
    have cl : upd (er_fl i) (nI i).toNatClampNeg (-1) = er_fl (i + 1) := by rw [nI_clamp (by omega)]; exact er_fl_s i
    exact br_f (nI_ge (b := 32) (by omega) (by decide)) ⟨w, nm_r (er_uz _) ⟨w, nm_r (er_uz _) ⟨w, nm_r cl (nm_r (nI_1 i) (ih (i + 1) (by omega)))⟩⟩⟩
end
def er_x0 (C T G : Nat) : SX := (nI C, nI T, nI G, -1, 0, 0, 0, -1, 0, 0, nI C, 0, fun _ => 0, fun _ => 0, er_fl 32, fun _ => 0, fun _ => 0, fun _ => 0, fun _ => 0, fun _ => 0, fun _ => 0, er_fl 4, er_fl 4, fun _ => 0, fun _ => 0, fun _ => 0, fun _ => 0)
def er_y0 (C T G : Nat) : SY := (nI C, nI T, nI G, -1, 0, 0, 0, -1, 0, 0, 0, fun _ => 0, fun _ => 0, er_fl 32, fun _ => 0, fun _ => 0, fun _ => 0, fun _ => 0, fun _ => 0, fun _ => 0, er_fl 4, er_fl 4, fun _ => 0, fun _ => 0, fun _ => 0, fun _ => 0)
theorem xq_init {post : SX → Prop} {k0 k1 k2 : Int32} {C T G : Nat} (h0 : ∀ q : Int32 → Prop, q (nI C) → wpX_clamp q k0 (nI 8) (nI 32)) (h1 : ∀ q : Int32 → Prop, q (nI T) → wpX_clamp q k1 (nI 2) (nI 4)) (h2 : ∀ q : Int32 → Prop, q (nI G) → wpX_clamp q k2 (nI 1) (nI 3)) (hp : post (er_x0 C T G)) : wpX_init post k0 k1 k2 := by
  unfold wpX_init
  refine h0 _ (h1 _ (h2 _ ⟨33, ?_⟩))
  have K := xq_i1 (post := post) (nc := nI C) (nt := nI T) (gp := nI G) (tc := -1) (ep := 0) (tr := 0) (df := 0) (lt := -1) (dr := 0) (ad := 0) (fc := nI C) (re := 0) (cs := fun _ => 0) (cv := fun _ => 0) (le := fun _ => 0) (lc := fun _ => 0) (tp := fun _ => 0) (pn := fun _ => 0) (an := fun _ => 0) (kd := fun _ => 0) (vl := fun _ => 0) (rs := fun _ => 0) (er := fun _ => 0) (ev := fun _ => 0) hp 32 0 rfl
  rw [er_fl_0] at K
  exact K
theorem yq_init {post : SY → Prop} {k0 k1 k2 : Int32} {C T G : Nat}
    (h0 : ∀ Z : Int32 → Prop, Z (nI C) → ((nI 8 ≤ k0 → ((k0 ≤ nI 32 → Z k0) ∧ (¬ k0 ≤ nI 32 → Z (nI 32)))) ∧ (¬ nI 8 ≤ k0 → Z (nI 8))))
    (h1 : ∀ Z : Int32 → Prop, Z (nI T) → ((nI 2 ≤ k1 → ((k1 ≤ nI 4 → Z k1) ∧ (¬ k1 ≤ nI 4 → Z (nI 4)))) ∧ (¬ nI 2 ≤ k1 → Z (nI 2))))
    (h2 : ∀ Z : Int32 → Prop, Z (nI G) → ((nI 1 ≤ k2 → ((k2 ≤ nI 3 → Z k2) ∧ (¬ k2 ≤ nI 3 → Z (nI 3)))) ∧ (¬ nI 1 ≤ k2 → Z (nI 1)))) (hp : post (er_y0 C T G)) : wpY_init post k0 k1 k2 := by
  have K := yq_i1 (post := post) (nc := nI C) (nt := nI T) (gp := nI G) (tc := -1) (ep := 0) (tr := 0) (df := 0) (lt := -1) (dr := 0) (ad := 0) (re := 0) (le := fun _ => 0) (lc := fun _ => 0) hp 32 0 rfl
  rw [er_fl_0] at K
  have A2 : wY_init_200 post k2 (nI T) (nI C) 0 0 (-1) 0 0 0 (-1) 0 0 0 (fun _ => 0) (fun _ => 0) (fun _ => 0) (fun _ => 0) (fun _ => 0) (fun _ => 0) (fun _ => 0) (fun _ => 0) (fun _ => 0) (fun _ => 0) (fun _ => 0) (fun _ => 0) (fun _ => 0) (fun _ => 0) (fun _ => 0) := by
    unfold wY_init_200
    exact h2 (fun z => ∃ n229 : Nat, wY_init_229 post (nI C) (nI T) z (-1) 0 0 0 (-1) 0 0 0 n229 0 (fun _ => 0) (fun _ => 0) (fun _ => 0) (fun _ => 0) (fun _ => 0) (fun _ => 0) (fun _ => 0) (fun _ => 0) (fun _ => 0) (fun _ => 0) (fun _ => 0) (fun _ => 0) (fun _ => 0) (fun _ => 0) (fun _ => 0)) ⟨33, K⟩
  have A1 : wY_init_177 post k1 k2 (nI C) 0 0 0 (-1) 0 0 0 (-1) 0 0 0 (fun _ => 0) (fun _ => 0) (fun _ => 0) (fun _ => 0) (fun _ => 0) (fun _ => 0) (fun _ => 0) (fun _ => 0) (fun _ => 0) (fun _ => 0) (fun _ => 0) (fun _ => 0) (fun _ => 0) (fun _ => 0) (fun _ => 0) := by
    unfold wY_init_177
    exact h1 (fun z => wY_init_200 post k2 z (nI C) 0 0 (-1) 0 0 0 (-1) 0 0 0 (fun _ => 0) (fun _ => 0) (fun _ => 0) (fun _ => 0) (fun _ => 0) (fun _ => 0) (fun _ => 0) (fun _ => 0) (fun _ => 0) (fun _ => 0) (fun _ => 0) (fun _ => 0) (fun _ => 0) (fun _ => 0) (fun _ => 0)) A2
  unfold wpY_init
  exact h0 (fun z => wY_init_177 post k1 k2 z 0 0 0 (-1) 0 0 0 (-1) 0 0 0 (fun _ => 0) (fun _ => 0) (fun _ => 0) (fun _ => 0) (fun _ => 0) (fun _ => 0) (fun _ => 0) (fun _ => 0) (fun _ => 0) (fun _ => 0) (fun _ => 0) (fun _ => 0) (fun _ => 0) (fun _ => 0) (fun _ => 0)) A1
