/-! the quiesce check -/
section
variable {C T e t : Nat} {tc lt ad re : Int32} {cs cv cx le lc tp pn an kd mn sn vl rs er ev : Nat → Int32} {own : Nat → Nat} {ch : List Nat} {lim : Nat → List Nat}
variable {post : Int32 → St2 → Prop}
theorem ew_q207 {x3 : Int64} {n : Nat} (hC : C ≤ 32) (hb : ∀ c, c < C → ((x3.toUInt64 >>> ((nI c).toInt64.toUInt64 &&& Int64.toUInt64 63)).toInt64 &&& 1) = 0 → cs c = 0) (hs : er_cn cs C + n = C) (hp : post 1 (nI C, nI T, nI 3, tc, nI e, 0, 0, lt, 0, ad, nI (er_cn cs C), re, cs, cv, cx, le, lc, tp, pn, an, kd, mn, sn, vl, rs, er, ev)) :
    ∀ d i, i + d = C → wL_quiesceOk_207 post (nI C) x3 (nI n) (nI C) (nI T) (nI 3) tc (nI e) 0 0 lt 0 ad (nI (er_cn cs C)) re cs cv cx le lc tp pn an kd mn sn vl rs er ev (d + 1) (nI i) := by
  intro d
  induction d with
  | zero =>
    intro i hi
    have e9 : nI (er_cn cs C) + nI n = nI C := by rw [nI_add, hs]
    exact br_t (nI_le (by omega) (by omega)) (xq_cnt5 (br_t e9 hp))
  | succ d ih =>
    intro i hi
    have K := ih (i + 1) (by omega)
    have cl : (nI i).toNatClampNeg = i := nI_clamp (by omega)
    refine br_f (nI_ge (by omega) (by omega)) ?_
    by_cases b : ((x3.toUInt64 >>> ((nI i).toInt64.toUInt64 &&& Int64.toUInt64 63)).toInt64 &&& 1) = 0
    · exact br_t b (xq_cell_0 (er_ir_nI (by omega) (by omega)) (vp_in_nI (by omega) (by omega)) (br_t (by rw [cl]; exact hb i (by omega) b) (nm_r (nI_1 i) K)))
    · exact br_f b (nm_r (nI_1 i) K)
theorem ew_q121 (hC : C ≤ 32) (f1 : ∀ c, c < C → c ∉ ch → cs c = 0) (f2 : ∀ c, c ∈ ch → c < C ∧ cs c = 1) (hn : ch.Nodup) (hs : er_cn cs C + ch.length = C) (hp : post 1 (nI C, nI T, nI 3, tc, nI e, 0, 0, lt, 0, ad, nI (er_cn cs C), re, cs, cv, cx, le, lc, tp, pn, an, kd, mn, sn, vl, rs, er, ev)) :
    ∀ (l pre : List Nat) (x3 : Int64) (cur : Int32), ch = pre ++ l → ew_ch cx l cur → ew_BS x3 pre → wL_quiesceOk_121 post (nI C) (nI C) (nI T) (nI 3) tc (nI e) 0 0 lt 0 ad (nI (er_cn cs C)) re cs cv cx le lc tp pn an kd mn sn vl rs er ev (l.length + 1) x3 (nI pre.length) cur := by
  intro l
  induction l with
  | nil =>
    intro pre x3 cur hl hc hb
    rw [List.append_nil] at hl
    have hc' : cur = -1 := hc
    subst hc'
    refine br_t rfl (br_t rfl ⟨C + 1, ?_⟩)
    exact ew_q207 hC (fun c hc b => f1 c hc (by rw [hl]; exact ew_bsb hb (by omega) b)) (by rw [← hl]; exact hs) hp C 0 (by omega)
  | cons c l ih =>
    intro pre x3 cur hl hc hb
    have hc1 : cur = nI c := hc.1
    have hc2 : ew_ch cx l (cx c) := hc.2
    subst hc1
    have cm : c ∈ ch := by rw [hl]; exact List.mem_append.mpr (Or.inr List.mem_cons_self)
    obtain ⟨cC, c1⟩ := f2 c cm
    have cl : (nI c).toNatClampNeg = c := nI_clamp (by omega)
    have len : pre.length + (l.length + 1) ≤ C := by
      have g : ch.length = pre.length + (l.length + 1) := by rw [hl, List.length_append, List.length_cons]
      omega
    have np : c ∉ pre := by
      rw [hl] at hn
      intro m
      exact (List.nodup_append.mp hn).2.2 c m c List.mem_cons_self rfl
    have ir : er_ir (nI c) (nI C) := er_ir_nI cC (by omega)
    have w : vp_in (nI c) 32 := vp_in_nI (by omega) (by omega)
    have K := ih (pre ++ [c]) (x3 ||| ((1 : Int64) <<< ((nI c).toInt64 &&& 63))) (cx c) (by rw [hl, List.append_assoc]; rfl) hc2 (ew_bss hb (by omega))
    rw [List.length_append] at K
    have c1' : cs (nI c).toNatClampNeg = 1 := by rw [cl]; exact c1
    have m1 : ¬ nI c = -1 := er_nm1 (by omega)
    have m2 : ¬ nI C ≤ nI pre.length := nI_ge (by omega) (by omega)
    have m3 : ¬ nI c < 0 := nI_pos (by omega)
    refine br_f m1 (br_f m2 (br_f m3 (br_t (nI_lt cC (by omega)) ?_)))
    intro x7 e7
    subst e7
    refine br_t (ew_bsn hb (by omega) np) (xq_cell_0 ir w (br_t c1' ?_))
    intro x9 e9
    subst e9
    refine nm_r (nI_1 _) (xq_cell_2 ir w ?_)
    rw [cl]
    exact K
end
theorem ew_k3 {e k : Nat} (hk : k < 3) : ∃ i, i < 3 ∧ (e + 3 - i) % 3 = k := ⟨(e + 3 - k) % 3, by omega, by omega⟩
theorem ew_q55 {C T : Nat} {post : Int32 → St2 → Prop} (hC : C ≤ 32) (hT : T ≤ 4) : ∀ d i, i + d = 3 → ∀ (e : Nat) (tc lt ad re : Int32) (cs cv cx le lc tp pn an kd mn sn vl rs er ev : Nat → Int32) (own : Nat → Nat) (ch : List Nat) (lim : Nat → List Nat), e + d < 2 ^ 30 → ew_I C T e tc cs cx le lc tp pn an kd mn sn own ch lim → (∀ s, s < T → tp s = nI 0) → (∀ q, q < i → lim ((e + 3 - q) % 3) = []) →
    (∀ u', ew_G C T (e + d) u' → post 1 u') → wL_quiesceOk_55 post (nI C) (d + 1) (nI i) (nI C) (nI T) (nI 3) tc (nI e) 0 0 lt 0 ad (nI (er_cn cs C)) re cs cv cx le lc tp pn an kd mn sn vl rs er ev := by
  intro d
  induction d with
  | zero =>
    intro i hi e tc lt ad re cs cv cx le lc tp pn an kd mn sn vl rs er ev own ch lim he h hz hl hp
    have i3 : i = 3 := by omega
    subst i3
    have hl3 : ∀ k, k < 3 → lim k = [] := fun k hk => by
      obtain ⟨q, hq, e9⟩ := ew_k3 (e := e) hk
      rw [← e9]
      exact hl q hq
    have hlc : ∀ k, k < 3 → lc (nI k).toNatClampNeg = 0 := fun k hk => by
      rw [nI_clamp (by omega), (h.2.1 k hk).1, hl3 k hk]
      rfl
    obtain ⟨r1, r2, r3⟩ := ew_rest h hz hl3
    have hq := hp (nI C, nI T, nI 3, tc, nI e, 0, 0, lt, 0, ad, nI (er_cn cs C), re, cs, cv, cx, le, lc, tp, pn, an, kd, mn, sn, vl, rs, er, ev) ⟨_, _, _, _, _, _, _, _, _, _, _, _, _, _, _, _, _, _, _, own, ch, lim, rfl, h⟩
    exact br_t (by decide) (xq_lsz (k := 0) (by omega) (br_t (hlc 0 (by omega)) (xq_lsz (k := 1) (by omega) (br_t (hlc 1 (by omega)) (xq_lsz (k := 2) (by omega) (br_t (hlc 2 (by omega)) ⟨ch.length + 1, ew_q121 hC r1 r2 h.1.2.2.1 r3 hq ch [] 0 tc rfl h.1.2.1 ew_bs0⟩))))))
  | succ d ih =>
    intro i hi e tc lt ad re cs cv cx le lc tp pn an kd mn sn vl rs er ev own ch lim he h hz hl hp
    obtain ⟨b0, _⟩ := ew_idle h hz
    obtain ⟨own', f', J, K⟩ := ew_tryA (lt := lt) (ad := ad) (re := re) (cv := cv) (vl := vl) (rs := rs) (er := er) (ev := ev) hC hT (by omega) h (fun s hs => Or.inl (b0 s hs))
    refine br_f (nI_ge (b := 3) (by omega) (by decide)) (K _ (br_f er_10 (xq_cok (br_f er_10 (nm_r (nI_1 i) ?_)))))
    refine ih (i + 1) (by omega) (e + 1) tc lt (ad + 1) re f' cv cx le _ tp pn an kd mn sn vl rs er ev own' ch _ (by omega) J hz (fun q hq => ?_) (fun u' hu => hp u' (by rw [show e + (d + 1) = e + 1 + d from by omega]; exact hu))
    by_cases x : (e + 1 + 3 - q) % 3 = (e + 1) % 3
    · rw [x]
      exact ew_lus
    · rw [ew_lun x]
      obtain ⟨q', rfl⟩ : ∃ q', q = q' + 1 := ⟨q - 1, by omega⟩
      have e9 : e + 1 + 3 - (q' + 1) = e + 3 - q' := by omega
      rw [e9]
      exact hl q' (by omega)
section
variable {C T e t : Nat} {tc lt ad re : Int32} {cs cv cx le lc tp pn an kd mn sn vl rs er ev : Nat → Int32} {own : Nat → Nat} {ch : List Nat} {lim : Nat → List Nat}
variable {post : Int32 → St2 → Prop}
theorem ew_q32 (hC : C ≤ 32) (hT : T ≤ 4) (he : e + 3 < 2 ^ 30) (h : ew_I C T e tc cs cx le lc tp pn an kd mn sn own ch lim) (hp : ∀ e' u', e ≤ e' → e' ≤ e + 3 → ew_G C T e' u' → post 1 u') : ∀ d i, i + d = T → (∀ s, s < i → tp s = nI 0) → wL_quiesceOk_32 post (nI C) (nI T) (nI C) (nI T) (nI 3) tc (nI e) 0 0 lt 0 ad (nI (er_cn cs C)) re cs cv cx le lc tp pn an kd mn sn vl rs er ev (d + 1) (nI i) := by
  intro d
  induction d with
  | zero =>
    intro i hi hz
    have e9 : i = T := by omega
    subst e9
    exact br_t (nI_le (Nat.le_refl _) (by omega)) ⟨4, ew_q55 hC hT 3 0 (by omega) e tc lt ad re cs cv cx le lc tp pn an kd mn sn vl rs er ev own ch lim (by omega) h hz (fun q hq => absurd hq (Nat.not_lt_zero q)) (fun u' hu => hp (e + 3) u' (by omega) (by omega) hu)⟩
  | succ d ih =>
    intro i hi hz
    have cl : (nI i).toNatClampNeg = i := nI_clamp (by omega)
    refine br_f (nI_ge (by omega) (by omega)) (xq_phase1 (er_ir_nI (by omega) (by omega)) (vp_in_nI (by omega) (by omega)) ?_)
    rw [cl]
    by_cases z : tp i = 0
    · exact br_t z (nm_r (nI_1 i) (ih (i + 1) (by omega) (lt_s hz z)))
    · exact br_f z (hp e (nI C, nI T, nI 3, tc, nI e, 0, 0, lt, 0, ad, nI (er_cn cs C), re, cs, cv, cx, le, lc, tp, pn, an, kd, mn, sn, vl, rs, er, ev) (Nat.le_refl e) (by omega) ⟨_, _, _, _, _, _, _, _, _, _, _, _, _, _, _, _, _, _, _, own, ch, lim, rfl, h⟩)
def er_wq (post : Int32 → St2 → Prop) (x1 x2 : Int32) (n : Nat) (i : Int32) (u : St2) : Prop := match u with
  | (nc, nt, gp, tc, ep, tr, df, lt, dr, ad, fc, re, cs, cv, cx, le, lc, tp, pn, an, kd, mn, sn, vl, rs, er, ev) => wL_quiesceOk_2 post x1 x2 n i nc nt gp tc ep tr df lt dr ad fc re cs cv cx le lc tp pn an kd mn sn vl rs er ev
theorem ew_q2 (hC : C ≤ 32) (hT : T ≤ 4) (he : e + 3 < 2 ^ 30) (hp : ∀ e' u', e ≤ e' → e' ≤ e + 3 → ew_G C T e' u' → post 1 u') : ∀ d i, i + d = T → ∀ u, ew_G C T e u → er_wq post (nI C) (nI T) (d + 1) (nI i) u := by
  intro d
  induction d with
  | zero =>
    intro i hi u R
    obtain ⟨tc, lt, ad, re, cs, cv, cx, le, lc, tp, pn, an, kd, mn, sn, vl, rs, er, ev, own, ch, lim, rfl, h⟩ := R
    exact br_t (nI_le (by omega) (by omega)) ⟨T + 1, ew_q32 hC hT he h hp T 0 (by omega) (fun s hs => absurd hs (Nat.not_lt_zero s))⟩
  | succ d ih =>
    intro i hi u R
    obtain ⟨tc, lt, ad, re, cs, cv, cx, le, lc, tp, pn, an, kd, mn, sn, vl, rs, er, ev, own, ch, lim, rfl, h⟩ := R
    obtain ⟨r, u', R2, K⟩ := ew_run (y := 64) (lt := lt) (ad := ad) (re := re) (cv := cv) (vl := vl) (rs := rs) (er := er) (ev := ev) hC hT (by omega) h (t := i) (by omega)
    have Q := ih (i + 1) (by omega) u' R2
    obtain ⟨tc', lt', ad', re', cs', cv', cx', le', lc', tp', pn', an', kd', mn', sn', vl', rs', er', ev', own', ch', lim', rfl, h'⟩ := R2
    exact br_f (nI_ge (by omega) (by omega)) (K _ (xq_cok (br_f er_10 (nm_r (nI_1 i) Q))))
theorem ew_quiesce (hC : C ≤ 32) (hT : T ≤ 4) (he : e + 3 < 2 ^ 30) (h : ew_I C T e tc cs cx le lc tp pn an kd mn sn own ch lim) (hp : ∀ e' u', e ≤ e' → e' ≤ e + 3 → ew_G C T e' u' → post 1 u') : wpL_quiesceOk post (nI C, nI T, nI 3, tc, nI e, 0, 0, lt, 0, ad, nI (er_cn cs C), re, cs, cv, cx, le, lc, tp, pn, an, kd, mn, sn, vl, rs, er, ev) (nI C) (nI T) := by
  unfold wpL_quiesceOk
  have K : wL_quiesceOk_2 post (nI C) (nI T) (T + 1) 0 (nI C) (nI T) (nI 3) tc (nI e) 0 0 lt 0 ad (nI (er_cn cs C)) re cs cv cx le lc tp pn an kd mn sn vl rs er ev := ew_q2 hC hT he hp T 0 (by omega) (nI C, nI T, nI 3, tc, nI e, 0, 0, lt, 0, ad, nI (er_cn cs C), re, cs, cv, cx, le, lc, tp, pn, an, kd, mn, sn, vl, rs, er, ev) ⟨_, _, _, _, _, _, _, _, _, _, _, _, _, _, _, _, _, _, _, own, ch, lim, rfl, h⟩
  exact ⟨T + 1, K⟩
end
