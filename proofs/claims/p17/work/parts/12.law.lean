/-! the constructors -/
def er_fl (i : Nat) : Nat → Int32 := fun j => if j < i then -1 else 0
theorem er_fl_s (i : Nat) : upd (er_fl i) i (-1) = er_fl (i + 1) := by
  funext j
  by_cases e : j = i
  · rw [e, pk_us]
    exact (if_pos (by omega)).symm
  · rw [pk_un e]
    unfold er_fl
    by_cases g : j < i
    · rw [if_pos g, if_pos (by omega)]
    · rw [if_neg g, if_neg (by omega)]
theorem er_fl_0 : er_fl 0 = fun _ => 0 := by
  funext j
  exact if_neg (Nat.not_lt_zero j)
theorem er_uz (k : Nat) : upd (fun _ => 0) k 0 = fun _ => 0 := by
  funext j
  by_cases e : j = k
  · rw [e, pk_us]
  · rw [pk_un e]
theorem er_uzb (k : Nat) : upd (fun _ => 0) k (vp_nar .boolean 0) = fun _ => 0 := er_uz k
section
variable {nc nt gp tc ep tr df lt dr ad fc re : Int32} {cs cv cx le lc tp pn an kd mn sn vl rs er ev : Nat → Int32}
variable {mc ms kc ks : Nat}
theorem xq_i2 {post : St2 → Prop} (hp : post (nc, nt, gp, tc, ep, tr, df, lt, dr, ad, fc, re, cs, cv, cx, le, lc, tp, pn, an, kd, er_fl 4, er_fl 4, vl, rs, er, ev)) : ∀ d i, i + d = 4 → wX_init_220 post mc ms kc ks nc nt gp tc ep tr df lt dr ad fc re (d + 1) (nI i) cs cv cx le lc tp pn an kd (er_fl i) (er_fl i) vl rs er ev := by
  intro d
  induction d with
  | zero =>
    intro i hi
    have e : i = 4 := by omega
    subst e
    exact br_t (by decide) hp
  | succ d ih =>
    intro i hi
    have w : vp_in (nI i) 4 := vp_in_nI (by omega) (by omega)
    have cl : upd (er_fl i) (nI i).toNatClampNeg (-1) = er_fl (i + 1) := by rw [nI_clamp (by omega)]; exact er_fl_s i
    exact br_f (nI_ge (b := 4) (by omega) (by decide)) ⟨w, nm_r cl ⟨w, nm_r cl (nm_r (nI_1 i) (ih (i + 1) (by omega)))⟩⟩
theorem xq_i1 {post : St2 → Prop} (hp : post (nc, nt, gp, tc, ep, tr, df, lt, dr, ad, fc, re, cs, cv, er_fl 32, le, lc, tp, pn, an, kd, er_fl 4, er_fl 4, vl, rs, er, ev)) : ∀ d i, i + d = 32 → wX_init_196 post mc ms kc ks nc nt gp tc ep tr df lt dr ad fc re (d + 1) (nI i) cs cv (er_fl i) le lc tp pn an kd (er_fl 0) (er_fl 0) vl rs er ev := by
  intro d
  induction d with
  | zero =>
    intro i hi
    have e : i = 32 := by omega
    subst e
    exact br_t (by decide) ⟨5, xq_i2 hp 4 0 rfl⟩
  | succ d ih =>
    intro i hi
    have w : vp_in (nI i) 32 := vp_in_nI (by omega) (by omega)
    have cl : upd (er_fl i) (nI i).toNatClampNeg (-1) = er_fl (i + 1) := by rw [nI_clamp (by omega)]; exact er_fl_s i
    exact br_f (nI_ge (b := 32) (by omega) (by decide)) ⟨w, nm_r cl (nm_r (nI_1 i) (ih (i + 1) (by omega)))⟩
end
def er_x0 (C T G : Nat) : St2 := (nI C, nI T, nI G, -1, 0, 0, 0, -1, 0, 0, nI C, 0, fun _ => 0, fun _ => 0, er_fl 32, fun _ => 0, fun _ => 0, fun _ => 0, fun _ => 0, fun _ => 0, fun _ => 0, er_fl 4, er_fl 4, fun _ => 0, fun _ => 0, fun _ => 0, fun _ => 0)
theorem xq_clampI {q : Int32 → Prop} {m a b : Nat} (h1 : a ≤ m) (h2 : m ≤ b) (hb : b < 2 ^ 31) (hq : q (nI m)) : wpX_clamp q () (nI m) (nI a) (nI b) := br_t (nI_le h1 (by omega)) (br_t (nI_le h2 hb) hq)
theorem xq_clampG {q : Int32 → Prop} {g : Nat} (hg : g < 8) (hq : q (nI 3)) : wpX_clamp q () (nI (3 + g)) (nI 1) (nI 3) := by
  refine br_t (nI_le (by omega) (by omega)) ?_
  by_cases z : g = 0
  · subst z
    exact br_t (nI_le (by omega) (by omega)) hq
  · exact br_f (nI_ge (by omega) (by omega)) hq
theorem xq_init {post : St2 → Prop} {C T g : Nat} (c1 : 8 ≤ C) (c2 : C ≤ 32) (t1 : 2 ≤ T) (t2 : T ≤ 4) (hg : g < 8) (hp : post (er_x0 C T 3)) : wpX_init post 15 235 (0, 0, 0, 0, 0, 0, 0, 0, 0, 0, 0, 0) (nI C) (nI T) (nI (3 + g)) := by
  unfold wpX_init
  refine ⟨by omega, by omega, by omega, by omega, by omega, by omega, by omega, by omega, by omega, by omega, by omega, by omega, by omega, by omega, by omega, by omega, by omega, by omega, by omega, by omega, by omega, by omega, by omega, by omega, by omega, by omega, by omega, by omega, by omega, by omega, ?_⟩
  refine xq_clampI (a := 8) (b := 32) c1 c2 (by decide) (xq_clampI (a := 2) (b := 4) t1 t2 (by decide) (xq_clampG hg ⟨33, ?_⟩))
  have K := xq_i1 (post := post) (mc := 15) (ms := 235) (kc := 15) (ks := 235) (nc := nI C) (nt := nI T) (gp := nI 3) (tc := -1) (ep := 0) (tr := 0) (df := 0) (lt := -1) (dr := 0) (ad := 0) (fc := nI C) (re := 0) (cs := fun _ => 0) (cv := fun _ => 0) (le := fun _ => 0) (lc := fun _ => 0) (tp := fun _ => 0) (pn := fun _ => 0) (an := fun _ => 0) (kd := fun _ => 0) (vl := fun _ => 0) (rs := fun _ => 0) (er := fun _ => 0) (ev := fun _ => 0) hp 32 0 rfl
  rw [er_fl_0] at K
  exact K
theorem ew_g0 (C T : Nat) : ew_G C T 0 (er_x0 C T 3) := by
  refine ⟨-1, -1, 0, 0, fun _ => 0, fun _ => 0, er_fl 32, fun _ => 0, fun _ => 0, fun _ => 0, fun _ => 0, fun _ => 0, fun _ => 0, er_fl 4, er_fl 4, fun _ => 0, fun _ => 0, fun _ => 0, fun _ => 0, fun _ => 0, [], fun _ => [], ?_, ew_init⟩
  rw [er_cn_0]
  rfl
/-! the law's own small methods -/
theorem er_modm (x : Int32) (m : Nat) (h0 : 0 < m) (hm : m < 2 ^ 30) : (0 ≤ x - x / nI m * nI m → ∃ j, j < m ∧ x - x / nI m * nI m = nI j) ∧ (¬ 0 ≤ x - x / nI m * nI m → ∃ j, j < m ∧ x - x / nI m * nI m + nI m = nI j) := by
  have e := rem_toInt x (nI m)
  have em : (nI m).toInt = (m : Int) := nI_toInt (by omega)
  have b := tmod_bounds (a := x.toInt) (M := (m : Int)) (by omega)
  have e0 : (0 : Int32).toInt = 0 := by decide
  rw [em] at e
  rw [← e] at b
  generalize x - x / nI m * nI m = r at b ⊢
  constructor
  · intro h
    rw [Int32.le_iff_toInt_le, e0] at h
    refine ⟨r.toInt.toNat, by omega, Int32.toInt_inj.mp ?_⟩
    rw [nI_toInt (by omega)]
    omega
  · intro h
    rw [Int32.le_iff_toInt_le, e0] at h
    have hb : (r.toInt + m).bmod (2 ^ 32) = r.toInt + m := Int.bmod_eq_of_le (by omega) (by omega)
    refine ⟨(r.toInt + m).toNat, by omega, Int32.toInt_inj.mp ?_⟩
    rw [Int32.toInt_add, em, hb, nI_toInt (by omega)]
    omega
theorem xq_modN {q : Int32 → Prop} {p0 : Int32} (m : Nat) (h0 : 0 < m) (hm : m < 2 ^ 30) (H : ∀ j, j < m → q (nI j)) : wpL_mod q () p0 (nI m) := by
  have g := er_modm p0 m h0 hm
  refine ⟨nI_ne0 h0 (by omega), ?_⟩
  intro x e
  subst e
  refine br_c (fun z => ?_) (fun z => ?_)
  · obtain ⟨j, hj, e⟩ := g.1 z
    rw [e]
    exact H j hj
  · obtain ⟨j, hj, e⟩ := g.2 z
    rw [e]
    exact H j hj
theorem xq_cellL {q : Int32 → Prop} {L : Nat} {xs : Nat → Int32} (k : Nat) (hk : k < 2 ^ 31) (hL : L ≤ 260) (H : ∀ r, q r) : wpL_cell q L xs () (nI k) := by
  refine br_c (fun _ => H 0) (fun h => ⟨?_, H _⟩)
  have g : ¬ nI L ≤ nI k := h
  rw [nI_leI (by omega) hk] at g
  exact vp_in_nI (by omega) (by omega)
theorem er_ush (x : Int32) : ∃ a, a < 2 ^ 28 ∧ (x.toUInt32 >>> ((4 : Int32).toUInt32 &&& Int32.toUInt32 31)).toInt32 = nI a := by
  obtain ⟨n, hn, rfl⟩ := wb_of32 x
  exact ⟨n / 2 ^ 4, by omega, pk_ushrN hn 4 4 (by decide)⟩
/-! the law's loop -/
def er_J (J : Int32 → Int32 → Int32 → Int32 → Int32 → Int32 → Int32 → Int32 → Int32 → Int32 → Int32 → Int32 → Int32 → (Nat → Int32) → (Nat → Int32) → (Nat → Int32) → (Nat → Int32) → (Nat → Int32) → (Nat → Int32) → (Nat → Int32) → (Nat → Int32) → (Nat → Int32) → (Nat → Int32) → (Nat → Int32) → (Nat → Int32) → (Nat → Int32) → (Nat → Int32) → (Nat → Int32) → Prop) (x : Int32) (u : St2) : Prop := match u with
  | (nc, nt, gp, tc, ep, tr, df, lt, dr, ad, fc, re, cs, cv, cx, le, lc, tp, pn, an, kd, mn, sn, vl, rs, er, ev) => J x nc nt gp tc ep tr df lt dr ad fc re cs cv cx le lc tp pn an kd mn sn vl rs er ev
section
variable {C T e t : Nat} {tc lt ad re : Int32} {cs cv cx le lc tp pn an kd mn sn vl rs er ev : Nat → Int32} {own : Nat → Nat} {ch : List Nat} {lim : Nat → List Nat}
variable {P : Int32 → Prop} {L k kc ks : Nat} {xs : Nat → Int32} {x1 x2 x9 : Int32} {J : Int32 → Int32 → Int32 → Int32 → Int32 → Int32 → Int32 → Int32 → Int32 → Int32 → Int32 → Int32 → Int32 → (Nat → Int32) → (Nat → Int32) → (Nat → Int32) → (Nat → Int32) → (Nat → Int32) → (Nat → Int32) → (Nat → Int32) → (Nat → Int32) → (Nat → Int32) → (Nat → Int32) → (Nat → Int32) → (Nat → Int32) → (Nat → Int32) → (Nat → Int32) → (Nat → Int32) → Prop}
theorem ew_l232 (HJ : J (nI (k + 1)) (nI C) (nI T) (nI 3) tc (nI e) 0 0 lt 0 ad (nI (er_cn cs C)) re cs cv cx le lc tp pn an kd mn sn vl rs er ev) : wL_law_232 P L xs J x1 x2 (nI k) kc ks (nI C) (nI T) (nI 3) tc (nI e) 0 0 lt 0 ad (nI (er_cn cs C)) re cs cv cx le lc tp pn an kd mn sn vl rs er ev := by
  unfold wL_law_232
  exact xq_cok (br_f er_10 (nm_r (nI_1 k) HJ))
theorem ew_l110 (hT : T ≤ 4) (h : ew_I C T e tc cs cx le lc tp pn an kd mn sn own ch lim) (ht : t < T) (HJ : ∀ u', ew_G C T e u' → er_J J (nI (k + 1)) u') : wL_law_110 P L xs J x1 x2 (nI k) (nI t) x9 kc ks (nI C) (nI T) (nI 3) tc (nI e) 0 0 lt 0 ad (nI (er_cn cs C)) re cs cv cx le lc tp pn an kd mn sn vl rs er ev := by
  unfold wL_law_110
  obtain ⟨r, u', R, K⟩ := ew_push (y := x9) (lt := lt) (ad := ad) (re := re) (cv := cv) (vl := vl) (rs := rs) (er := er) (ev := ev) hT h ht
  have Q := HJ u' R
  obtain ⟨tc', lt', ad', re', cs', cv', cx', le', lc', tp', pn', an', kd', mn', sn', vl', rs', er', ev', own', ch', lim', rfl, h'⟩ := R
  exact K _ (ew_l232 Q)
theorem ew_l135 (hT : T ≤ 4) (h : ew_I C T e tc cs cx le lc tp pn an kd mn sn own ch lim) (ht : t < T) (HJ : ∀ u', ew_G C T e u' → er_J J (nI (k + 1)) u') : wL_law_135 P L xs J x1 x2 (nI k) (nI t) kc ks (nI C) (nI T) (nI 3) tc (nI e) 0 0 lt 0 ad (nI (er_cn cs C)) re cs cv cx le lc tp pn an kd mn sn vl rs er ev := by
  unfold wL_law_135
  obtain ⟨r, u', R, K⟩ := ew_pop (lt := lt) (ad := ad) (re := re) (cv := cv) (vl := vl) (rs := rs) (er := er) (ev := ev) hT h ht
  have Q := HJ u' R
  obtain ⟨tc', lt', ad', re', cs', cv', cx', le', lc', tp', pn', an', kd', mn', sn', vl', rs', er', ev', own', ch', lim', rfl, h'⟩ := R
  exact K _ (ew_l232 Q)
theorem ew_l165 (hC : C ≤ 32) (hT : T ≤ 4) (he : e < 2 ^ 30) (h : ew_I C T e tc cs cx le lc tp pn an kd mn sn own ch lim) (ht : t < T) (HJ : ∀ u', ew_G C T e u' → er_J J (nI (k + 1)) u') : wL_law_165 P L xs J x1 x2 (nI k) (nI t) kc ks (nI C) (nI T) (nI 3) tc (nI e) 0 0 lt 0 ad (nI (er_cn cs C)) re cs cv cx le lc tp pn an kd mn sn vl rs er ev := by
  unfold wL_law_165
  obtain ⟨r, u', R, K⟩ := ew_step (lt := lt) (ad := ad) (re := re) (cv := cv) (vl := vl) (rs := rs) (er := er) (ev := ev) hC hT he h ht
  have Q := HJ u' R
  obtain ⟨tc', lt', ad', re', cs', cv', cx', le', lc', tp', pn', an', kd', mn', sn', vl', rs', er', ev', own', ch', lim', rfl, h'⟩ := R
  exact K _ (ew_l232 Q)
theorem ew_lend {n : Nat} (hC : C ≤ 32) (hT : T ≤ 4) (he : e + 3 < 2 ^ 30) (h : ew_I C T e tc cs cx le lc tp pn an kd mn sn own ch lim) (hk : L ≤ k) (hk2 : k < 2 ^ 31) : wL_law_62 (fun r => r = 1) L xs (nI C) (nI T) kc ks (n + 1) (nI k) (nI C) (nI T) (nI 3) tc (nI e) 0 0 lt 0 ad (nI (er_cn cs C)) re cs cv cx le lc tp pn an kd mn sn vl rs er ev := by
  refine br_t (nI_le hk hk2) (ew_quiesce hC hT he h (fun e' u' _ _ R => ?_))
  obtain ⟨tc', lt', ad', re', cs', cv', cx', le', lc', tp', pn', an', kd', mn', sn', vl', rs', er', ev', own', ch', lim', rfl, h'⟩ := R
  exact rfl
theorem ew_lturn {n : Nat} (hC : C ≤ 32) (hT2 : 2 ≤ T) (hT : T ≤ 4) (he : e + 3 < 2 ^ 30) (h : ew_I C T e tc cs cx le lc tp pn an kd mn sn own ch lim) (hk : k < L) (hL : L ≤ 260) (HJ : ∀ e' u', e ≤ e' → e' ≤ e + 3 → ew_G C T e' u' → er_J (wL_law_62 (fun r => r = 1) L xs (nI C) (nI T) kc ks n) (nI (k + 1)) u') : wL_law_62 (fun r => r = 1) L xs (nI C) (nI T) kc ks (n + 1) (nI k) (nI C) (nI T) (nI 3) tc (nI e) 0 0 lt 0 ad (nI (er_cn cs C)) re cs cv cx le lc tp pn an kd mn sn vl rs er ev := by
  have HJ0 : ∀ u', ew_G C T e u' → er_J (wL_law_62 (fun r => r = 1) L xs (nI C) (nI T) kc ks n) (nI (k + 1)) u' := fun u' R => HJ e u' (Nat.le_refl e) (by omega) R
  have gL : ¬ nI L ≤ nI k := nI_ge hk (by omega)
  refine br_f gL ⟨vp_in_nI hk (by omega), ?_⟩
  intro x6 e6
  refine xq_modN 10 (by omega) (by omega) (fun r _ => ?_)
  refine ⟨nI_ne0 (by omega) (by omega), ?_⟩
  intro x8 e8 x9 e9
  obtain ⟨a, ha, ea⟩ := er_ush x6
  rw [ea, pk_rem (by omega) (by omega) (by omega)] at e8
  subst e8
  have ht : a % T < T := Nat.mod_lt a (by omega)
  have he' : e < 2 ^ 30 := by omega
  refine br_c (fun _ => ew_l110 hT h ht HJ0) (fun _ => br_c (fun _ => ew_l110 hT h ht HJ0) (fun _ => br_c (fun _ => ew_l135 hT h ht HJ0) (fun _ => br_c (fun _ => ew_l135 hT h ht HJ0) (fun _ => br_c (fun _ => ew_l165 hC hT he' h ht HJ0) (fun _ => br_c (fun _ => ew_l165 hC hT he' h ht HJ0) (fun _ => br_c (fun _ => ew_l165 hC hT he' h ht HJ0) (fun _ => br_c (fun _ => ?_) (fun _ => br_c (fun _ => ?_) (fun _ => ?_)))))))))
  · obtain ⟨r, u', R, K⟩ := ew_run (y := 1 + (((x6.toUInt32 >>> ((8 : Int32).toUInt32 &&& Int32.toUInt32 31)).toInt32) &&& 7)) (lt := lt) (ad := ad) (re := re) (cv := cv) (vl := vl) (rs := rs) (er := er) (ev := ev) hC hT he' h ht
    have Q := HJ0 u' R
    obtain ⟨tc', lt', ad', re', cs', cv', cx', le', lc', tp', pn', an', kd', mn', sn', vl', rs', er', ev', own', ch', lim', rfl, h'⟩ := R
    exact K _ (ew_l232 Q)
  · obtain ⟨r, u', e', ee, R, K⟩ := ew_try (lt := lt) (ad := ad) (re := re) (cv := cv) (vl := vl) (rs := rs) (er := er) (ev := ev) hC hT he' h
    have Q := HJ e' u' (by omega) (by omega) R
    obtain ⟨tc', lt', ad', re', cs', cv', cx', le', lc', tp', pn', an', kd', mn', sn', vl', rs', er', ev', own', ch', lim', rfl, h'⟩ := R
    exact K _ (ew_l232 Q)
  · refine ew_quiesce hC hT he h (fun e' u' g1 g2 R => ?_)
    have Q := HJ e' u' g1 g2 R
    obtain ⟨tc', lt', ad', re', cs', cv', cx', le', lc', tp', pn', an', kd', mn', sn', vl', rs', er', ev', own', ch', lim', rfl, h'⟩ := R
    exact br_f er_10 (ew_l232 Q)
end
