theorem i_vc_phase {k : Nat} {u : SX} {v : SY} (I : i_Rel k u v) (hk : k + 3 ≤ 1539) (v1 : Int32) : wpX_phase (fun r => wpY_phase (fun r' => r' = r ∧ i_Rel (k + 3) u v) v v1) u v1 := by
  have J : i_Rel (k + 3) u v := I
  obtain ⟨C, T, gp, tc, ep, tr, df, lt, dr, ad, re, cs, cv, cx, le, lc, tp, pn, an, kd, mn, sn, vl, rs, er, ev, rfl, rfl, I⟩ := I
  by_cases h : er_ir v1 (nI T)
  · have hv := (er_ir_in I.2.2.2.1 (by omega) h).1
    exact xq_phase1 h hv (yq_phase1 h hv ⟨rfl, J⟩)
  · exact xq_phase0 h (yq_phase0 h ⟨rfl, J⟩)
theorem i_vc_lastResult {k : Nat} {u : SX} {v : SY} (I : i_Rel k u v) (hk : k + 3 ≤ 1539) (v1 : Int32) : wpX_lastResult (fun r => wpY_lastResult (fun r' => r' = r ∧ i_Rel (k + 3) u v) v v1) u v1 := by
  have J : i_Rel (k + 3) u v := I
  obtain ⟨C, T, gp, tc, ep, tr, df, lt, dr, ad, re, cs, cv, cx, le, lc, tp, pn, an, kd, mn, sn, vl, rs, er, ev, rfl, rfl, I⟩ := I
  by_cases h : er_ir v1 (nI T)
  · have hv := (er_ir_in I.2.2.2.1 (by omega) h).1
    exact xq_lastResult1 h hv (yq_lastResult1 h hv ⟨rfl, J⟩)
  · exact xq_lastResult0 h (yq_lastResult0 h ⟨rfl, J⟩)
theorem i_vc_lastValue {k : Nat} {u : SX} {v : SY} (I : i_Rel k u v) (hk : k + 3 ≤ 1539) (v1 : Int32) : wpX_lastValue (fun r => wpY_lastValue (fun r' => r' = r ∧ i_Rel (k + 3) u v) v v1) u v1 := by
  have J : i_Rel (k + 3) u v := I
  obtain ⟨C, T, gp, tc, ep, tr, df, lt, dr, ad, re, cs, cv, cx, le, lc, tp, pn, an, kd, mn, sn, vl, rs, er, ev, rfl, rfl, I⟩ := I
  by_cases h : er_ir v1 (nI T)
  · have hv := (er_ir_in I.2.2.2.1 (by omega) h).1
    exact xq_lastValue1 h hv (yq_lastValue1 h hv ⟨rfl, J⟩)
  · exact xq_lastValue0 h (yq_lastValue0 h ⟨rfl, J⟩)
theorem i_vc_announced {k : Nat} {u : SX} {v : SY} (I : i_Rel k u v) (hk : k + 3 ≤ 1539) (v1 : Int32) : wpX_announced (fun r => wpY_announced (fun r' => r' = r ∧ i_Rel (k + 3) u v) v v1) u v1 := by
  have J : i_Rel (k + 3) u v := I
  obtain ⟨C, T, gp, tc, ep, tr, df, lt, dr, ad, re, cs, cv, cx, le, lc, tp, pn, an, kd, mn, sn, vl, rs, er, ev, rfl, rfl, I⟩ := I
  by_cases h : er_ir v1 (nI T)
  · have hv := (er_ir_in I.2.2.2.1 (by omega) h).1
    by_cases b : pn v1.toNatClampNeg = 0
    · exact xq_announced1 h hv b (yq_announced1 h hv b ⟨rfl, J⟩)
    · exact xq_announced2 h hv b (yq_announced2 h hv b ⟨rfl, J⟩)
  · exact xq_announced0 h (yq_announced0 h ⟨rfl, J⟩)
theorem i_vc_local {k : Nat} {u : SX} {v : SY} (I : i_Rel k u v) (hk : k + 3 ≤ 1539) (v1 : Int32) (v2 : Int32) : wpX_local (fun r => wpY_local (fun r' => r' = r ∧ i_Rel (k + 3) u v) v v1 v2) u v1 v2 := by
  have J : i_Rel (k + 3) u v := I
  obtain ⟨C, T, gp, tc, ep, tr, df, lt, dr, ad, re, cs, cv, cx, le, lc, tp, pn, an, kd, mn, sn, vl, rs, er, ev, rfl, rfl, I⟩ := I
  by_cases h : er_ir v1 (nI T)
  · have hv := (er_ir_in I.2.2.2.1 (by omega) h).1
    by_cases w0 : v2 = 0
    · subst w0
      exact xq_local_0 h hv (yq_local_0 h hv ⟨rfl, J⟩)
    by_cases w1 : v2 = 1
    · subst w1
      exact xq_local_1 h hv (yq_local_1 h hv ⟨rfl, J⟩)
    by_cases w2 : v2 = 2
    · subst w2
      exact xq_local_2 h hv (yq_local_2 h hv ⟨rfl, J⟩)
    by_cases w3 : v2 = 3
    · subst w3
      exact xq_local_3 h hv (yq_local_3 h hv ⟨rfl, J⟩)
    by_cases w4 : v2 = 4
    · subst w4
      exact xq_local_4 h hv (yq_local_4 h hv ⟨rfl, J⟩)
    exact xq_local_o h w0 w1 w2 w3 w4 (yq_local_o h w0 w1 w2 w3 w4 ⟨rfl, J⟩)
  · exact xq_local_n h (yq_local_n h ⟨rfl, J⟩)
theorem i_vc_cell {k : Nat} {u : SX} {v : SY} (I : i_Rel k u v) (hk : k + 3 ≤ 1539) (v1 : Int32) (v2 : Int32) : wpX_cell (fun r => wpY_cell (fun r' => r' = r ∧ i_Rel (k + 3) u v) v v1 v2) u v1 v2 := by
  have J : i_Rel (k + 3) u v := I
  obtain ⟨C, T, gp, tc, ep, tr, df, lt, dr, ad, re, cs, cv, cx, le, lc, tp, pn, an, kd, mn, sn, vl, rs, er, ev, rfl, rfl, I⟩ := I
  by_cases h : er_ir v1 (nI C)
  · have hv := (er_ir_in I.2.1 (by omega) h).1
    by_cases w0 : v2 = 0
    · subst w0
      exact xq_cell_0 h hv (yq_cell_0 h hv ⟨rfl, J⟩)
    by_cases w1 : v2 = 1
    · subst w1
      exact xq_cell_1 h hv (yq_cell_1 h hv ⟨rfl, J⟩)
    by_cases w2 : v2 = 2
    · subst w2
      exact xq_cell_2 h hv (yq_cell_2 h hv ⟨rfl, J⟩)
    exact xq_cell_o h w0 w1 w2 (yq_cell_o h w0 w1 w2 ⟨rfl, J⟩)
  · exact xq_cell_n h (yq_cell_n h ⟨rfl, J⟩)
theorem i_vc_top {k : Nat} {u : SX} {v : SY} (I : i_Rel k u v) (hk : k + 3 ≤ 1539) : wpX_top (fun r => wpY_top (fun r' => r' = r ∧ i_Rel (k + 3) u v) v) u := by
  have J : i_Rel (k + 3) u v := I
  obtain ⟨C, T, gp, tc, ep, tr, df, lt, dr, ad, re, cs, cv, cx, le, lc, tp, pn, an, kd, mn, sn, vl, rs, er, ev, rfl, rfl, I⟩ := I
  exact ⟨rfl, J⟩
theorem i_vc_limboSize {k : Nat} {u : SX} {v : SY} (I : i_Rel k u v) (hk : k + 3 ≤ 1539) (v1 : Int32) : wpX_limboSize (fun r => wpY_limboSize (fun r' => r' = r ∧ i_Rel (k + 3) u v) v v1) u v1 := by
  have J : i_Rel (k + 3) u v := I
  obtain ⟨C, T, gp, tc, ep, tr, df, lt, dr, ad, re, cs, cv, cx, le, lc, tp, pn, an, kd, mn, sn, vl, rs, er, ev, rfl, rfl, I⟩ := I
  unfold wpX_limboSize
  by_cases a : v1 < 0
  · exact br_t a (br_t rfl (br_t a ⟨rfl, J⟩))
  · by_cases b : 3 ≤ v1
    · exact br_f a (br_t b (br_t rfl (br_f a (br_t b ⟨rfl, J⟩))))
    · have w := (er_ir_in (T := 3) (N := 3) (x := v1) (by omega) (by omega) ⟨a, b⟩).1
      exact br_f a (br_f b (br_f er_10 ⟨w, br_f a (br_f b ⟨w, rfl, J⟩)⟩))
theorem er_23 {x : Int32} (h : ¬ 3 ≤ x) : ¬ 2 < x := by
  have e2 : (2 : Int32).toInt = 2 := by decide
  have e3 : (3 : Int32).toInt = 3 := by decide
  rw [Int32.le_iff_toInt_le, e3] at h
  rw [Int32.lt_iff_toInt_lt, e2]
  omega
theorem er_32 {x : Int32} (h : 3 ≤ x) : 2 < x := by
  have e2 : (2 : Int32).toInt = 2 := by decide
  have e3 : (3 : Int32).toInt = 3 := by decide
  rw [Int32.le_iff_toInt_le, e3] at h
  rw [Int32.lt_iff_toInt_lt, e2]
  omega
theorem i_vc_limboCell {k : Nat} {u : SX} {v : SY} (I : i_Rel k u v) (hk : k + 3 ≤ 1539) (v1 : Int32) (v2 : Int32) : wpX_limboCell (fun r => wpY_limboCell (fun r' => r' = r ∧ i_Rel (k + 3) u v) v v1 v2) u v1 v2 := by
  have J : i_Rel (k + 3) u v := I
  obtain ⟨C, T, gp, tc, ep, tr, df, lt, dr, ad, re, cs, cv, cx, le, lc, tp, pn, an, kd, mn, sn, vl, rs, er, ev, rfl, rfl, I⟩ := I
  unfold wpX_limboCell
  by_cases a : v1 < 0
  · exact br_t a (br_t rfl (br_t a ⟨rfl, J⟩))
  · by_cases b : 3 ≤ v1
    · exact br_f a (br_t b (br_t rfl (br_f a (br_t (er_32 b) ⟨rfl, J⟩))))
    · obtain ⟨w, wl⟩ := er_ir_in (T := 3) (N := 3) (x := v1) (by omega) (by omega) ⟨a, b⟩
      have b2 := er_23 b
      by_cases c : v2 < 0
      · exact br_f a (br_f b (br_f er_10 (br_t c (br_f a (br_f b2 (br_t c ⟨rfl, J⟩))))))
      · by_cases d : v2 < lc v1.toNatClampNeg
        · obtain ⟨n, hn, hN⟩ := I.2.2.2.2.2 _ wl
          obtain ⟨i, hi, rfl⟩ := nI_of c
          obtain ⟨l, hl, rfl⟩ := nI_of a
          rw [nI_clamp hl] at wl
          have d2 := d
          rw [hN, nI_ltI hi (by omega)] at d2
          have wi : vp_in (nI l * 32 + nI i) 96 := er_vi wl (by omega)
          exact br_f a (br_f b (br_f er_10 (br_f c ⟨w, br_t d ⟨wi, br_f a (br_f b2 (br_f c ⟨w, br_t d ⟨wi, rfl, J⟩⟩))⟩⟩)))
        · exact br_f a (br_f b (br_f er_10 (br_f c ⟨w, br_f d (br_f a (br_f b2 (br_f c ⟨w, br_f d ⟨rfl, J⟩⟩)))⟩)))
/-! the number of FREE cells: the reference counts, the class keeps it -/
section
variable {nc nt gp tc ep tr df lt dr ad fc re : Int32} {cs cv cx le lc tp pn an kd mn sn vl rs er ev : Nat → Int32}
theorem yq_count {C : Nat} {q : Int32 → Prop} (hC : C ≤ 32) (hq : q (nI (er_cn cs C))) : ∀ d i, i + d = C → wY_counter_58 q (nI C) nt gp tc ep tr df lt dr ad re cs cv cx le lc tp pn an kd mn sn vl rs er ev (d + 1) (nI (er_cn cs i)) (nI i) := by
  intro d
  induction d with
  | zero =>
    intro i hi
    have e : i = C := by omega
    subst e
    exact br_t (nI_le (Nat.le_refl _) (by omega)) hq
  | succ d ih =>
    intro i hi
    have K := ih (i + 1) (by omega)
    have cl : (nI i).toNatClampNeg = i := nI_clamp (by omega)
    have s : er_cn cs (i + 1) = er_cn cs i + (if cs i = 0 then 1 else 0) := rfl
    rw [s] at K
    refine br_f (nI_ge (by omega) (by omega)) ⟨vp_in_nI (by omega) (by omega), ?_⟩
    by_cases z : cs i = 0
    · rw [if_pos z] at K
      exact br_t (by rw [cl]; exact z) (nm_r (nI_1 _) (nm_r (nI_1 i) K))
    · rw [if_neg z] at K
      exact br_f (by rw [cl]; exact z) (nm_r (nI_1 i) K)
end
theorem i_vc_counter {k : Nat} {u : SX} {v : SY} (I : i_Rel k u v) (hk : k + 3 ≤ 1539) (v1 : Int32) : wpX_counter (fun r => wpY_counter (fun r' => r' = r ∧ i_Rel (k + 3) u v) v v1) u v1 := by
  have J : i_Rel (k + 3) u v := I
  obtain ⟨C, T, gp, tc, ep, tr, df, lt, dr, ad, re, cs, cv, cx, le, lc, tp, pn, an, kd, mn, sn, vl, rs, er, ev, rfl, rfl, I⟩ := I
  by_cases w0 : v1 = 0
  · subst w0
    exact br_f (by decide) (br_f (by decide) (br_t rfl (br_t rfl ⟨rfl, J⟩)))
  by_cases w1 : v1 = 1
  · subst w1
    exact br_f (by decide) (br_f (by decide) (br_f (by decide) (br_t rfl (br_f (by decide) (br_t rfl ⟨rfl, J⟩)))))
  by_cases w2 : v1 = 2
  · subst w2
    exact br_f (by decide) (br_f (by decide) (br_f (by decide) (br_f (by decide) (br_t rfl (br_f (by decide) (br_f (by decide) (br_t rfl ⟨rfl, J⟩)))))))
  by_cases w3 : v1 = 3
  · subst w3
    exact br_f (by decide) (br_f (by decide) (br_f (by decide) (br_f (by decide) (br_f (by decide) (br_t rfl (br_f (by decide) (br_f (by decide) (br_f (by decide) (br_t rfl ⟨rfl, J⟩)))))))))
  by_cases w4 : v1 = 4
  · subst w4
    exact br_f (by decide) (br_f (by decide) (br_f (by decide) (br_f (by decide) (br_f (by decide) (br_f (by decide) (br_t rfl (br_f (by decide) (br_f (by decide) (br_f (by decide) (br_f (by decide) (br_t rfl ⟨rfl, J⟩)))))))))))
  by_cases w5 : v1 = 5
  · subst w5
    exact br_f (by decide) (br_f (by decide) (br_f (by decide) (br_f (by decide) (br_f (by decide) (br_f (by decide) (br_f (by decide) (br_t rfl (br_f (by decide) (br_f (by decide) (br_f (by decide) (br_f (by decide) (br_f (by decide) (br_t rfl ⟨C + 1, yq_count I.2.1 ⟨rfl, J⟩ C 0 (by omega)⟩)))))))))))))
  by_cases w6 : v1 = 6
  · subst w6
    exact br_f (by decide) (br_f (by decide) (br_f (by decide) (br_f (by decide) (br_f (by decide) (br_f (by decide) (br_f (by decide) (br_f (by decide) (br_t rfl (br_f (by decide) (br_f (by decide) (br_f (by decide) (br_f (by decide) (br_f (by decide) (br_f (by decide) (br_t rfl ⟨rfl, J⟩)))))))))))))))
  by_cases w7 : v1 = 7
  · subst w7
    exact br_f (by decide) (br_f (by decide) (br_f (by decide) (br_f (by decide) (br_f (by decide) (br_f (by decide) (br_f (by decide) (br_f (by decide) (br_f (by decide) (br_t rfl (br_f (by decide) (br_f (by decide) (br_f (by decide) (br_f (by decide) (br_f (by decide) (br_f (by decide) (br_f (by decide) (br_t rfl ⟨rfl, J⟩)))))))))))))))))
  have G : v1 < 0 ∨ (¬ v1 < 0 ∧ nI 7 < v1) := er_sw v1 7 (by decide) (fun j hj => by
    rcases (by omega : j = 0 ∨ j = 1 ∨ j = 2 ∨ j = 3 ∨ j = 4 ∨ j = 5 ∨ j = 6 ∨ j = 7) with rfl | rfl | rfl | rfl | rfl | rfl | rfl | rfl
    · exact w0
    · exact w1
    · exact w2
    · exact w3
    · exact w4
    · exact w5
    · exact w6
    · exact w7)
  rcases G with g | ⟨g1, g2⟩
  · exact br_t g (br_f w0 (br_f w1 (br_f w2 (br_f w3 (br_f w4 (br_f w5 (br_f w6 (br_f w7 (⟨rfl, J⟩)))))))))
  · exact br_f g1 (br_t g2 (br_f w0 (br_f w1 (br_f w2 (br_f w3 (br_f w4 (br_f w5 (br_f w6 (br_f w7 (⟨rfl, J⟩))))))))))
