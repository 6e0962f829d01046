section
variable {nc nt gp tc ep tr df lt dr ad fc re : Int32} {cs cv cx le lc tp pn an kd mn sn vl rs er ev : Nat → Int32}
variable {x y : Int32}
/-! a number within 0 .. n - 1 -/
def er_ir (x n : Int32) : Prop := ¬ x < 0 ∧ ¬ n ≤ x
theorem er_10 : ¬ (1 : Int32) = 0 := by decide
theorem er_ir_in {T N : Nat} (hT : T ≤ N) (hN : N < 2 ^ 31) (h : er_ir x (nI T)) : vp_in x N ∧ x.toNatClampNeg < T := by
  obtain ⟨j, hj, rfl⟩ := nI_of h.1
  have g : j < T := by
    have h2 := h.2
    rw [nI_leI (by omega) hj] at h2
    omega
  exact ⟨vp_in_nI (by omega) hN, by rw [nI_clamp hj]; exact g⟩
theorem er_ir_nI {j T : Nat} (h : j < T) (hT : T < 2 ^ 31) : er_ir (nI j) (nI T) := ⟨nI_pos (by omega), nI_ge h hT⟩
/-! what isn't one of 0 .. n falls out of the switch -/
theorem er_sw (x : Int32) (n : Nat) (hn : n < 2 ^ 31) (h : ∀ j, j ≤ n → ¬ x = nI j) : x < 0 ∨ (¬ x < 0 ∧ nI n < x) := by
  by_cases h0 : x < 0
  · exact Or.inl h0
  · obtain ⟨j, hj, rfl⟩ := nI_of h0
    have g : ¬ j ≤ n := fun z => h j z rfl
    exact Or.inr ⟨h0, nI_lt (by omega) hj⟩
theorem xq_T1 {post : Int32 → Prop} (h : er_ir x nt) (hp : post 1) : wpX_isThread post (nc, nt, gp, tc, ep, tr, df, lt, dr, ad, fc, re, cs, cv, cx, le, lc, tp, pn, an, kd, mn, sn, vl, rs, er, ev) x := br_f h.1 (br_f h.2 hp)
theorem xq_T0 {post : Int32 → Prop} (h : ¬ er_ir x nt) (hp : post 0) : wpX_isThread post (nc, nt, gp, tc, ep, tr, df, lt, dr, ad, fc, re, cs, cv, cx, le, lc, tp, pn, an, kd, mn, sn, vl, rs, er, ev) x := br_c (fun _ => hp) (fun h0 => br_c (fun _ => hp) (fun h1 => absurd ⟨h0, h1⟩ h))
theorem xq_C1 {post : Int32 → Prop} (h : er_ir x nc) (hp : post 1) : wpX_isCell post (nc, nt, gp, tc, ep, tr, df, lt, dr, ad, fc, re, cs, cv, cx, le, lc, tp, pn, an, kd, mn, sn, vl, rs, er, ev) x := br_f h.1 (br_f h.2 hp)
theorem xq_C0 {post : Int32 → Prop} (h : ¬ er_ir x nc) (hp : post 0) : wpX_isCell post (nc, nt, gp, tc, ep, tr, df, lt, dr, ad, fc, re, cs, cv, cx, le, lc, tp, pn, an, kd, mn, sn, vl, rs, er, ev) x := br_c (fun _ => hp) (fun h0 => br_c (fun _ => hp) (fun h1 => absurd ⟨h0, h1⟩ h))
theorem xq_phase1 {post : Int32 → Prop} (h : er_ir x nt) (hv : vp_in x 4) (hp : post (tp x.toNatClampNeg)) : wpX_phase post (nc, nt, gp, tc, ep, tr, df, lt, dr, ad, fc, re, cs, cv, cx, le, lc, tp, pn, an, kd, mn, sn, vl, rs, er, ev) x := by
  unfold wpX_phase
  exact xq_T1 h (br_f er_10 ⟨hv, hp⟩)
theorem xq_phase0 {post : Int32 → Prop} (h : ¬ er_ir x nt) (hp : post (-1)) : wpX_phase post (nc, nt, gp, tc, ep, tr, df, lt, dr, ad, fc, re, cs, cv, cx, le, lc, tp, pn, an, kd, mn, sn, vl, rs, er, ev) x := by
  unfold wpX_phase
  exact xq_T0 h (br_t rfl hp)
theorem xq_cell_0 {post : Int32 → Prop} (h : er_ir x nc) (hv : vp_in x 32) (hp : post (cs x.toNatClampNeg)) : wpX_cell post (nc, nt, gp, tc, ep, tr, df, lt, dr, ad, fc, re, cs, cv, cx, le, lc, tp, pn, an, kd, mn, sn, vl, rs, er, ev) x 0 := by
  unfold wpX_cell
  exact xq_C1 h (br_f er_10 (br_f (by decide) (br_f (by decide) (br_t rfl ⟨hv, hp⟩))))
theorem xq_cell_1 {post : Int32 → Prop} (h : er_ir x nc) (hv : vp_in x 32) (hp : post (cv x.toNatClampNeg)) : wpX_cell post (nc, nt, gp, tc, ep, tr, df, lt, dr, ad, fc, re, cs, cv, cx, le, lc, tp, pn, an, kd, mn, sn, vl, rs, er, ev) x 1 := by
  unfold wpX_cell
  exact xq_C1 h (br_f er_10 (br_f (by decide) (br_f (by decide) (br_f (by decide) (br_t rfl ⟨hv, hp⟩)))))
theorem xq_cell_2 {post : Int32 → Prop} (h : er_ir x nc) (hv : vp_in x 32) (hp : post (cx x.toNatClampNeg)) : wpX_cell post (nc, nt, gp, tc, ep, tr, df, lt, dr, ad, fc, re, cs, cv, cx, le, lc, tp, pn, an, kd, mn, sn, vl, rs, er, ev) x 2 := by
  unfold wpX_cell
  exact xq_C1 h (br_f er_10 (br_f (by decide) (br_f (by decide) (br_f (by decide) (br_f (by decide) (br_t rfl ⟨hv, hp⟩))))))
theorem xq_cell_o {post : Int32 → Prop} (h : er_ir x nc) (h0 : ¬ y = 0) (h1 : ¬ y = 1) (h2 : ¬ y = 2) (hp : post (-1)) : wpX_cell post (nc, nt, gp, tc, ep, tr, df, lt, dr, ad, fc, re, cs, cv, cx, le, lc, tp, pn, an, kd, mn, sn, vl, rs, er, ev) x y := by
  unfold wpX_cell
  have G : y < 0 ∨ (¬ y < 0 ∧ nI 2 < y) := er_sw y 2 (by decide) (fun j hj => by
    rcases (by omega : j = 0 ∨ j = 1 ∨ j = 2) with rfl | rfl | rfl
    · exact h0
    · exact h1
    · exact h2)
  refine xq_C1 h (br_f er_10 ?_)
  rcases G with g | ⟨g1, g2⟩
  · exact br_t g hp
  · exact br_f g1 (br_t g2 hp)
theorem xq_cell_n {post : Int32 → Prop} (h : ¬ er_ir x nc) (hp : post (-1)) : wpX_cell post (nc, nt, gp, tc, ep, tr, df, lt, dr, ad, fc, re, cs, cv, cx, le, lc, tp, pn, an, kd, mn, sn, vl, rs, er, ev) x y := by
  unfold wpX_cell
  exact xq_C0 h (br_t rfl hp)
theorem xq_start2 {post : Int32 → St2 → Prop} {k v : Int32} (h : er_ir x nt) (hv : vp_in x 4) (h0 : tp x.toNatClampNeg = 0) (hp : post 1 (nc, nt, gp, tc, ep, tr, df, lt, dr, ad, fc, re, cs, cv, cx, le, lc, upd tp x.toNatClampNeg 1, pn, an, upd kd x.toNatClampNeg k, upd mn x.toNatClampNeg (-1), upd sn x.toNatClampNeg (-1), upd vl x.toNatClampNeg v, upd rs x.toNatClampNeg 0, er, ev)) : wpX_start post (nc, nt, gp, tc, ep, tr, df, lt, dr, ad, fc, re, cs, cv, cx, le, lc, tp, pn, an, kd, mn, sn, vl, rs, er, ev) x k v := by
  unfold wpX_start
  exact xq_T1 h (br_f er_10 ⟨hv, br_t h0 ⟨hv, nm_e ⟨hv, nm_e ⟨hv, nm_e ⟨hv, nm_e ⟨hv, nm_e ⟨hv, nm_e hp⟩⟩⟩⟩⟩⟩⟩)
theorem xq_start1 {post : Int32 → St2 → Prop} {k v : Int32} (h : er_ir x nt) (hv : vp_in x 4) (h0 : ¬ tp x.toNatClampNeg = 0) (hp : post 0 (nc, nt, gp, tc, ep, tr, df, lt, dr, ad, fc, re, cs, cv, cx, le, lc, tp, pn, an, kd, mn, sn, vl, rs, er, ev)) : wpX_start post (nc, nt, gp, tc, ep, tr, df, lt, dr, ad, fc, re, cs, cv, cx, le, lc, tp, pn, an, kd, mn, sn, vl, rs, er, ev) x k v := by
  unfold wpX_start
  exact xq_T1 h (br_f er_10 ⟨hv, br_f h0 hp⟩)
theorem xq_start0 {post : Int32 → St2 → Prop} {k v : Int32} (h : ¬ er_ir x nt) (hp : post 0 (nc, nt, gp, tc, ep, tr, df, lt, dr, ad, fc, re, cs, cv, cx, le, lc, tp, pn, an, kd, mn, sn, vl, rs, er, ev)) : wpX_start post (nc, nt, gp, tc, ep, tr, df, lt, dr, ad, fc, re, cs, cv, cx, le, lc, tp, pn, an, kd, mn, sn, vl, rs, er, ev) x k v := by
  unfold wpX_start
  exact xq_T0 h (br_t rfl hp)
theorem xq_push2 {post : Int32 → St2 → Prop} (h : er_ir x nt) (hv : vp_in x 4) (h0 : tp x.toNatClampNeg = 0) (hp : post 1 (nc, nt, gp, tc, ep, tr, df, lt, dr, ad, fc, re, cs, cv, cx, le, lc, upd tp x.toNatClampNeg 1, pn, an, upd kd x.toNatClampNeg 1, upd mn x.toNatClampNeg (-1), upd sn x.toNatClampNeg (-1), upd vl x.toNatClampNeg y, upd rs x.toNatClampNeg 0, er, ev)) : wpX_push post (nc, nt, gp, tc, ep, tr, df, lt, dr, ad, fc, re, cs, cv, cx, le, lc, tp, pn, an, kd, mn, sn, vl, rs, er, ev) x y := by
  unfold wpX_push
  exact xq_start2 h hv h0 ⟨rfl, hp⟩
theorem xq_push1 {post : Int32 → St2 → Prop} (h : er_ir x nt) (hv : vp_in x 4) (h0 : ¬ tp x.toNatClampNeg = 0) (hp : post 0 (nc, nt, gp, tc, ep, tr, df, lt, dr, ad, fc, re, cs, cv, cx, le, lc, tp, pn, an, kd, mn, sn, vl, rs, er, ev)) : wpX_push post (nc, nt, gp, tc, ep, tr, df, lt, dr, ad, fc, re, cs, cv, cx, le, lc, tp, pn, an, kd, mn, sn, vl, rs, er, ev) x y := by
  unfold wpX_push
  exact xq_start1 h hv h0 ⟨rfl, hp⟩
theorem xq_push0 {post : Int32 → St2 → Prop} (h : ¬ er_ir x nt) (hp : post 0 (nc, nt, gp, tc, ep, tr, df, lt, dr, ad, fc, re, cs, cv, cx, le, lc, tp, pn, an, kd, mn, sn, vl, rs, er, ev)) : wpX_push post (nc, nt, gp, tc, ep, tr, df, lt, dr, ad, fc, re, cs, cv, cx, le, lc, tp, pn, an, kd, mn, sn, vl, rs, er, ev) x y := by
  unfold wpX_push
  exact xq_start0 h ⟨rfl, hp⟩
theorem xq_pop2 {post : Int32 → St2 → Prop} (h : er_ir x nt) (hv : vp_in x 4) (h0 : tp x.toNatClampNeg = 0) (hp : post 1 (nc, nt, gp, tc, ep, tr, df, lt, dr, ad, fc, re, cs, cv, cx, le, lc, upd tp x.toNatClampNeg 1, pn, an, upd kd x.toNatClampNeg 2, upd mn x.toNatClampNeg (-1), upd sn x.toNatClampNeg (-1), upd vl x.toNatClampNeg 0, upd rs x.toNatClampNeg 0, er, ev)) : wpX_pop post (nc, nt, gp, tc, ep, tr, df, lt, dr, ad, fc, re, cs, cv, cx, le, lc, tp, pn, an, kd, mn, sn, vl, rs, er, ev) x := by
  unfold wpX_pop
  exact xq_start2 h hv h0 ⟨rfl, hp⟩
theorem xq_pop1 {post : Int32 → St2 → Prop} (h : er_ir x nt) (hv : vp_in x 4) (h0 : ¬ tp x.toNatClampNeg = 0) (hp : post 0 (nc, nt, gp, tc, ep, tr, df, lt, dr, ad, fc, re, cs, cv, cx, le, lc, tp, pn, an, kd, mn, sn, vl, rs, er, ev)) : wpX_pop post (nc, nt, gp, tc, ep, tr, df, lt, dr, ad, fc, re, cs, cv, cx, le, lc, tp, pn, an, kd, mn, sn, vl, rs, er, ev) x := by
  unfold wpX_pop
  exact xq_start1 h hv h0 ⟨rfl, hp⟩
theorem xq_pop0 {post : Int32 → St2 → Prop} (h : ¬ er_ir x nt) (hp : post 0 (nc, nt, gp, tc, ep, tr, df, lt, dr, ad, fc, re, cs, cv, cx, le, lc, tp, pn, an, kd, mn, sn, vl, rs, er, ev)) : wpX_pop post (nc, nt, gp, tc, ep, tr, df, lt, dr, ad, fc, re, cs, cv, cx, le, lc, tp, pn, an, kd, mn, sn, vl, rs, er, ev) x := by
  unfold wpX_pop
  exact xq_start0 h ⟨rfl, hp⟩
end
