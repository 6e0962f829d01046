theorem ew_lloop {C T L B kc ks : Nat} {xs : Nat → Int32} (hC : C ≤ 32) (hT2 : 2 ≤ T) (hT : T ≤ 4) (hL : L ≤ 260) (hB : B ≤ 300) (hLB : L ≤ B) : ∀ d k, k + d = B → ∀ e u, e ≤ 3 * k → ew_G C T e u → er_J (wL_law_62 (fun r => r = 1) L xs (nI C) (nI T) kc ks (d + 1)) (nI k) u := by
  intro d
  induction d with
  | zero =>
    intro k hk e u he R
    obtain ⟨tc, lt, ad, re, cs, cv, cx, le, lc, tp, pn, an, kd, mn, sn, vl, rs, er, ev, own, ch, lim, rfl, h⟩ := R
    exact ew_lend hC hT (by omega) h (by omega) (by omega)
  | succ d ih =>
    intro k hk e u he R
    obtain ⟨tc, lt, ad, re, cs, cv, cx, le, lc, tp, pn, an, kd, mn, sn, vl, rs, er, ev, own, ch, lim, rfl, h⟩ := R
    by_cases g : L ≤ k
    · exact ew_lend hC hT (by omega) h g (by omega)
    · exact ew_lturn hC hT2 hT (by omega) h (by omega) hL (fun e' u' g1 g2 R => ih (k + 1) (by omega) e' u' (by omega) R)
theorem i_vc (xs : Nat → Int32) (L : Nat) (hL : L ≤ 260) : wpL_law (fun r => r = 1) L xs := by
  unfold wpL_law
  refine xq_cellL 0 (by omega) hL (fun r1 => ?_)
  refine xq_modN 25 (by omega) (by omega) (fun j hj => ?_)
  intro x1 e1
  have e1' : x1 = nI (8 + j) := by rw [e1]; exact nI_add 8 j
  subst e1'
  refine xq_cellL 1 (by omega) hL (fun r4 => ?_)
  refine xq_modN 3 (by omega) (by omega) (fun i hi => ?_)
  intro x2 e2
  have e2' : x2 = nI (2 + i) := by rw [e2]; exact nI_add 2 i
  subst e2'
  refine xq_cellL 2 (by omega) hL (fun r7 => ?_)
  intro x3 e3
  obtain ⟨g, hg, eg⟩ := pk_andE r7 (m := 7) 3 (by decide)
  have e3' : x3 = nI (3 + g) := by rw [e3, eg]; exact nI_add 3 g
  subst e3'
  refine ⟨15, 235, by omega, by omega, ?_⟩
  refine xq_init (by omega) (by omega) (by omega) (by omega) hg ?_
  have K := ew_lloop (C := 8 + j) (T := 2 + i) (L := L) (B := L + 3) (kc := 1 + 15) (ks := 27 + 235) (xs := xs) (by omega) (by omega) (by omega) hL (by omega) (by omega) L 3 (by omega) 0 (er_x0 (8 + j) (2 + i) 3) (by omega) (ew_g0 _ _)
  exact xq_cok (br_f er_10 ⟨L + 1, K⟩)
