section
/-! rows pasted from the pure rows -/
theorem pk_us {f : Nat → Int32} {k : Nat} {x : Int32} : upd f k x k = x := if_pos rfl
theorem pk_un {f : Nat → Int32} {k j : Nat} {x : Int32} (h : j ≠ k) : upd f k x j = f j := if_neg h
theorem pk_sub {a b : Nat} (h : b ≤ a) : nI a - nI b = nI (a - b) := by
  obtain ⟨c, rfl⟩ : ∃ c, a = c + b := ⟨a - b, by omega⟩
  rw [← nI_add, Int32.add_sub_cancel, Nat.add_sub_cancel]
theorem pk_m1 (n : Nat) : nI (n + 1) + (-1) = nI n := by
  rw [← nI_1, Int32.add_assoc, show (1 : Int32) + (-1) = 0 from rfl, Int32.add_zero]
theorem pk_mul (a b : Nat) : nI a * nI b = nI (a * b) := (Int32.ofNat_mul a b).symm
theorem pk_ix (x : Int32) {n : Nat} (hn : n < 2 ^ 31) : x < 0 ∨ nI n ≤ x ∨ ∃ j : Nat, j < n ∧ x = nI j := by
  by_cases h : x < 0
  · exact Or.inl h
  · obtain ⟨j, hj, rfl⟩ := nI_of h
    by_cases h2 : j < n
    · exact Or.inr (Or.inr ⟨j, h2, rfl⟩)
    · exact Or.inr (Or.inl (nI_le (by omega) hj))
theorem pk_le {x y : Int32} {A B : Prop} (a b : Nat) (f : a ≤ b → A) (g : b < a → B) (hx : x = nI a := by rfl) (hy : y = nI b := by rfl) (ha : a < 2 ^ 31 := by omega) (hb : b < 2 ^ 31 := by omega) : (x ≤ y → A) ∧ (¬ x ≤ y → B) := by
  subst hx hy
  rw [nI_leI ha hb]
  exact ⟨f, fun z => g (by omega)⟩
theorem pk_lt {x y : Int32} {A B : Prop} (a b : Nat) (f : a < b → A) (g : b ≤ a → B) (hx : x = nI a := by rfl) (hy : y = nI b := by rfl) (ha : a < 2 ^ 31 := by omega) (hb : b < 2 ^ 31 := by omega) : (x < y → A) ∧ (¬ x < y → B) := by
  subst hx hy
  rw [nI_ltI ha hb]
  exact ⟨f, fun z => g (by omega)⟩
theorem pk_eq {x y : Int32} {A B : Prop} (a b : Nat) (f : a = b → A) (g : a ≠ b → B) (hx : x = nI a := by rfl) (hy : y = nI b := by rfl) (ha : a < 2 ^ 31 := by omega) (hb : b < 2 ^ 31 := by omega) : (x = y → A) ∧ (¬ x = y → B) := by
  subst hx hy
  rw [nI_eq ha hb]
  exact ⟨f, g⟩
theorem pk_in {x : Int32} (n N : Nat) (h : n < N) (hx : x = nI n := by rfl) (hN : N < 2 ^ 31 := by omega) : vp_in x N := by
  subst hx
  exact vp_in_nI h hN
theorem pk_cl {x : Int32} (n : Nat) (hx : x = nI n := by rfl) (h : n < 2 ^ 31 := by omega) : x.toNatClampNeg = n := by
  subst hx
  exact nI_clamp h
/-! the number of FREE cells below n -/
def er_cn (f : Nat → Int32) : Nat → Nat
  | 0 => 0
  | n + 1 => er_cn f n + (if f n = 0 then 1 else 0)
theorem er_cn_le (f : Nat → Int32) : ∀ n, er_cn f n ≤ n := by
  intro n
  induction n with
  | zero => exact Nat.le_refl _
  | succ n ih =>
    show er_cn f n + (if f n = 0 then 1 else 0) ≤ n + 1
    split <;> omega
theorem er_cn_out {f : Nat → Int32} {k : Nat} {x : Int32} : ∀ n, n ≤ k → er_cn (upd f k x) n = er_cn f n := by
  intro n
  induction n with
  | zero => exact fun _ => rfl
  | succ n ih =>
    intro h
    show er_cn (upd f k x) n + (if upd f k x n = 0 then 1 else 0) = er_cn f n + (if f n = 0 then 1 else 0)
    rw [ih (by omega), pk_un (by omega)]
theorem er_cn_upd {f : Nat → Int32} {k : Nat} {x : Int32} : ∀ n, k < n → er_cn (upd f k x) n + (if f k = 0 then 1 else 0) = er_cn f n + (if x = 0 then 1 else 0) := by
  intro n
  induction n with
  | zero => intro h; omega
  | succ n ih =>
    intro h
    show er_cn (upd f k x) n + (if upd f k x n = 0 then 1 else 0) + (if f k = 0 then 1 else 0) = er_cn f n + (if f n = 0 then 1 else 0) + (if x = 0 then 1 else 0)
    by_cases e : n = k
    · subst e
      rw [er_cn_out n (Nat.le_refl _), pk_us]
      generalize (if f n = 0 then 1 else 0) = a
      generalize (if x = 0 then 1 else 0) = b
      omega
    · rw [pk_un e]
      have j := ih (by omega)
      generalize (if f n = 0 then 1 else 0) = a at j ⊢
      generalize (if f k = 0 then 1 else 0) = c at j ⊢
      generalize (if x = 0 then 1 else 0) = b at j ⊢
      omega
theorem er_cn_take {f : Nat → Int32} {k n : Nat} {x : Int32} (h : k < n) (h0 : f k = 0) (hx : ¬ x = 0) : er_cn f n = er_cn (upd f k x) n + 1 := by
  have j := er_cn_upd (f := f) (x := x) n h
  rw [if_pos h0, if_neg hx] at j
  omega
theorem er_cn_free {f : Nat → Int32} {k n : Nat} (h : k < n) (h0 : ¬ f k = 0) : er_cn (upd f k 0) n = er_cn f n + 1 := by
  have j := er_cn_upd (f := f) (x := 0) n h
  rw [if_neg h0, if_pos rfl] at j
  omega
theorem er_cn_same {f : Nat → Int32} {k n : Nat} {x : Int32} (h : k < n) (h0 : ¬ f k = 0) (hx : ¬ x = 0) : er_cn (upd f k x) n = er_cn f n := by
  have j := er_cn_upd (f := f) (x := x) n h
  rw [if_neg h0, if_neg hx] at j
  omega
theorem er_cn_dec {f : Nat → Int32} {k n : Nat} {x : Int32} (h : k < n) (h0 : f k = 0) (hx : ¬ x = 0) : nI (er_cn f n) + (-1) = nI (er_cn (upd f k x) n) := by
  rw [er_cn_take h h0 hx, pk_m1]
theorem er_cn_dec' {f : Nat → Int32} {k n : Nat} {x : Int32} (h : k < n) (h0 : f k = 0) (hx : ¬ x = 0) : nI (er_cn f n) - 1 = nI (er_cn (upd f k x) n) := by
  rw [er_cn_take h h0 hx, nI_pred]
theorem er_cn_inc {f : Nat → Int32} {k n : Nat} (h : k < n) (h0 : ¬ f k = 0) : nI (er_cn f n) + 1 = nI (er_cn (upd f k 0) n) := by
  rw [er_cn_free h h0, nI_1]
theorem er_cn_0 : ∀ n, er_cn (fun _ => 0) n = n := by
  intro n
  induction n with
  | zero => rfl
  | succ n ih =>
    show er_cn (fun _ => 0) n + (if (0 : Int32) = 0 then 1 else 0) = n + 1
    rw [ih, if_pos rfl]
/-! the list of an epoch -/
theorem er_m3 (x : Int32) : (x - x / 3 * 3 < 0 → ∃ k, k < 3 ∧ x - x / 3 * 3 + 3 = nI k) ∧ (¬ x - x / 3 * 3 < 0 → ∃ k, k < 3 ∧ x - x / 3 * 3 = nI k) := by
  have e := rem_toInt x 3
  have b := tmod_bounds (a := x.toInt) (M := 3) (by decide)
  have e3 : (3 : Int32).toInt = 3 := by decide
  have e0 : (0 : Int32).toInt = 0 := by decide
  rw [e3] at e
  rw [← e] at b
  generalize x - x / 3 * 3 = r at b ⊢
  constructor
  · intro h
    rw [Int32.lt_iff_toInt_lt, e0] at h
    have hb : (r.toInt + 3).bmod (2 ^ 32) = r.toInt + 3 := Int.bmod_eq_of_le (by omega) (by omega)
    refine ⟨(r.toInt + 3).toNat, by omega, Int32.toInt_inj.mp ?_⟩
    rw [Int32.toInt_add, nI_toInt (by omega), e3, hb]
    omega
  · intro h
    rw [Int32.lt_iff_toInt_lt, e0] at h
    refine ⟨r.toInt.toNat, by omega, Int32.toInt_inj.mp ?_⟩
    rw [nI_toInt (by omega)]
    omega
/-! clamping -/
theorem er_cl (x : Int32) (a b : Nat) (hab : a ≤ b) (hb : b < 2 ^ 31) : x < nI a ∨ (¬ x < nI a ∧ nI b < x ∧ ¬ x ≤ nI b) ∨ (¬ x < nI a ∧ ¬ nI b < x ∧ x ≤ nI b ∧ ∃ j, a ≤ j ∧ j ≤ b ∧ x = nI j) := by
  by_cases h : x < nI a
  · exact Or.inl h
  · right
    have h0 : ¬ x < 0 := by
      have g := nI_pos' (n := a) (by omega)
      rw [Int32.lt_iff_toInt_lt] at h ⊢
      rw [Int32.le_iff_toInt_le] at g
      omega
    obtain ⟨j, hj, rfl⟩ := nI_of h0
    have ha : a ≤ j := by
      rw [nI_ltI hj (by omega)] at h
      omega
    by_cases g : nI b < nI j
    · have g2 : b < j := (nI_ltI hb hj).mp g
      exact Or.inl ⟨h, g, nI_ge g2 hj⟩
    · have g2 : ¬ b < j := fun z => g ((nI_ltI hb hj).mpr z)
      exact Or.inr ⟨h, g, nI_le (by omega) hb, j, ha, by omega, rfl⟩
/-! the least FREE cell -/
theorem er_least (f : Nat → Int32) (n : Nat) : (∀ j, j < n → ¬ f j = 0) ∨ ∃ c, c < n ∧ f c = 0 ∧ ∀ j, j < c → ¬ f j = 0 := by
  induction n with
  | zero => exact Or.inl fun j h => absurd h (Nat.not_lt_zero j)
  | succ n ih =>
    rcases ih with h | ⟨c, h1, h2, h3⟩
    · by_cases e : f n = 0
      · exact Or.inr ⟨n, Nat.lt_succ_self n, e, h⟩
      · refine Or.inl fun j hj => ?_
        by_cases q : j = n
        · rw [q]; exact e
        · exact h j (by omega)
    · exact Or.inr ⟨c, by omega, h2, h3⟩
/-! indices -/
theorem er_ix (x : Int32) {n : Nat} (hn : n < 2 ^ 31) : x < 0 ∨ (¬ x < 0 ∧ ¬ x < nI n ∧ nI n ≤ x) ∨ ∃ j : Nat, j < n ∧ x = nI j := by
  rcases pk_ix x hn with h | h | h
  · exact Or.inl h
  · have g := nI_pos' (n := n) hn
    rw [Int32.le_iff_toInt_le] at g h
    refine Or.inr (Or.inl ⟨?_, ?_, ?_⟩)
    · rw [Int32.lt_iff_toInt_lt]
      have e0 : (0 : Int32).toInt = 0 := by decide
      omega
    · rw [Int32.lt_iff_toInt_lt]
      omega
    · rw [Int32.le_iff_toInt_le]
      exact h
  · exact Or.inr (Or.inr h)
theorem er_ne0 {p : Nat} (h0 : p ≠ 0) (h : p < 2 ^ 31) : ¬ nI p = 0 := nI_ne0 (by omega) h
theorem er_ne {a b : Nat} (h : a ≠ b) (ha : a < 2 ^ 31) (hb : b < 2 ^ 31) : ¬ nI a = nI b := fun e => h ((nI_eq ha hb).mp e)
end
section
section
variable {nc nt gp tc ep tr df lt dr ad fc re : Int32} {cs cv cx le lc tp pn an kd mn sn vl rs er ev : Nat → Int32}
variable {x y : Int32}
/-! a number within 0 .. n - 1 -/
def er_ir (x n : Int32) : Prop := ¬ x < 0 ∧ ¬ n ≤ x
theorem er_10 : ¬ (1 : Int32) = 0 := by decide
theorem er_ir_in {T N : Nat} (hT : T ≤ N) (hN : N < 2 ^ 31) (h : er_ir x (nI T)) : vp_in x N ∧ x.toNatClampNeg < T := by
  obtain ⟨j, hj, rfl⟩ := nI_of h.1
  have g : j < T := by
    have h2 := h.2
    rw [nI_leI (by omega) hj] at h2
    omega
  exact ⟨vp_in_nI (by omega) hN, by rw [nI_clamp hj]; exact g⟩
theorem er_ir_nI {j T : Nat} (h : j < T) (hT : T < 2 ^ 31) : er_ir (nI j) (nI T) := ⟨nI_pos (by omega), nI_ge h hT⟩
/-! what isn't one of 0 .. n falls out of the switch -/
theorem er_sw (x : Int32) (n : Nat) (hn : n < 2 ^ 31) (h : ∀ j, j ≤ n → ¬ x = nI j) : x < 0 ∨ (¬ x < 0 ∧ nI n < x) := by
  by_cases h0 : x < 0
  · exact Or.inl h0
  · obtain ⟨j, hj, rfl⟩ := nI_of h0
    have g : ¬ j ≤ n := fun z => h j z rfl
    exact Or.inr ⟨h0, nI_lt (by omega) hj⟩
theorem xq_T1 {post : Int32 → Prop} (h : er_ir x nt) (hp : post 1) : wpX_isThread post (nc, nt, gp, tc, ep, tr, df, lt, dr, ad, fc, re, cs, cv, cx, le, lc, tp, pn, an, kd, mn, sn, vl, rs, er, ev) x := br_f h.1 (br_f h.2 hp)
theorem xq_T0 {post : Int32 → Prop} (h : ¬ er_ir x nt) (hp : post 0) : wpX_isThread post (nc, nt, gp, tc, ep, tr, df, lt, dr, ad, fc, re, cs, cv, cx, le, lc, tp, pn, an, kd, mn, sn, vl, rs, er, ev) x := br_c (fun _ => hp) (fun h0 => br_c (fun _ => hp) (fun h1 => absurd ⟨h0, h1⟩ h))
theorem xq_C1 {post : Int32 → Prop} (h : er_ir x nc) (hp : post 1) : wpX_isCell post (nc, nt, gp, tc, ep, tr, df, lt, dr, ad, fc, re, cs, cv, cx, le, lc, tp, pn, an, kd, mn, sn, vl, rs, er, ev) x := br_f h.1 (br_f h.2 hp)
theorem xq_C0 {post : Int32 → Prop} (h : ¬ er_ir x nc) (hp : post 0) : wpX_isCell post (nc, nt, gp, tc, ep, tr, df, lt, dr, ad, fc, re, cs, cv, cx, le, lc, tp, pn, an, kd, mn, sn, vl, rs, er, ev) x := br_c (fun _ => hp) (fun h0 => br_c (fun _ => hp) (fun h1 => absurd ⟨h0, h1⟩ h))
theorem xq_phase1 {post : Int32 → Prop} (h : er_ir x nt) (hv : vp_in x 4) (hp : post (tp x.toNatClampNeg)) : wpX_phase post (nc, nt, gp, tc, ep, tr, df, lt, dr, ad, fc, re, cs, cv, cx, le, lc, tp, pn, an, kd, mn, sn, vl, rs, er, ev) x := by
  unfold wpX_phase
  exact xq_T1 h (br_f er_10 ⟨hv, hp⟩)
theorem xq_phase0 {post : Int32 → Prop} (h : ¬ er_ir x nt) (hp : post (-1)) : wpX_phase post (nc, nt, gp, tc, ep, tr, df, lt, dr, ad, fc, re, cs, cv, cx, le, lc, tp, pn, an, kd, mn, sn, vl, rs, er, ev) x := by
  unfold wpX_phase
  exact xq_T0 h (br_t rfl hp)
theorem xq_lastResult1 {post : Int32 → Prop} (h : er_ir x nt) (hv : vp_in x 4) (hp : post (er x.toNatClampNeg)) : wpX_lastResult post (nc, nt, gp, tc, ep, tr, df, lt, dr, ad, fc, re, cs, cv, cx, le, lc, tp, pn, an, kd, mn, sn, vl, rs, er, ev) x := by
  unfold wpX_lastResult
  exact xq_T1 h (br_f er_10 ⟨hv, hp⟩)
theorem xq_lastResult0 {post : Int32 → Prop} (h : ¬ er_ir x nt) (hp : post (-1)) : wpX_lastResult post (nc, nt, gp, tc, ep, tr, df, lt, dr, ad, fc, re, cs, cv, cx, le, lc, tp, pn, an, kd, mn, sn, vl, rs, er, ev) x := by
  unfold wpX_lastResult
  exact xq_T0 h (br_t rfl hp)
theorem xq_lastValue1 {post : Int32 → Prop} (h : er_ir x nt) (hv : vp_in x 4) (hp : post (ev x.toNatClampNeg)) : wpX_lastValue post (nc, nt, gp, tc, ep, tr, df, lt, dr, ad, fc, re, cs, cv, cx, le, lc, tp, pn, an, kd, mn, sn, vl, rs, er, ev) x := by
  unfold wpX_lastValue
  exact xq_T1 h (br_f er_10 ⟨hv, hp⟩)
theorem xq_lastValue0 {post : Int32 → Prop} (h : ¬ er_ir x nt) (hp : post (-1)) : wpX_lastValue post (nc, nt, gp, tc, ep, tr, df, lt, dr, ad, fc, re, cs, cv, cx, le, lc, tp, pn, an, kd, mn, sn, vl, rs, er, ev) x := by
  unfold wpX_lastValue
  exact xq_T0 h (br_t rfl hp)
theorem xq_announced2 {post : Int32 → Prop} (h : er_ir x nt) (hv : vp_in x 4) (hb : ¬ pn x.toNatClampNeg = 0) (hp : post (an x.toNatClampNeg)) : wpX_announced post (nc, nt, gp, tc, ep, tr, df, lt, dr, ad, fc, re, cs, cv, cx, le, lc, tp, pn, an, kd, mn, sn, vl, rs, er, ev) x := by
  unfold wpX_announced
  exact xq_T1 h (br_f er_10 ⟨hv, br_f hb ⟨hv, hp⟩⟩)
theorem xq_announced1 {post : Int32 → Prop} (h : er_ir x nt) (hv : vp_in x 4) (hb : pn x.toNatClampNeg = 0) (hp : post (-1)) : wpX_announced post (nc, nt, gp, tc, ep, tr, df, lt, dr, ad, fc, re, cs, cv, cx, le, lc, tp, pn, an, kd, mn, sn, vl, rs, er, ev) x := by
  unfold wpX_announced
  exact xq_T1 h (br_f er_10 ⟨hv, br_t hb hp⟩)
theorem xq_announced0 {post : Int32 → Prop} (h : ¬ er_ir x nt) (hp : post (-1)) : wpX_announced post (nc, nt, gp, tc, ep, tr, df, lt, dr, ad, fc, re, cs, cv, cx, le, lc, tp, pn, an, kd, mn, sn, vl, rs, er, ev) x := by
  unfold wpX_announced
  exact xq_T0 h (br_t rfl hp)
theorem xq_local_0 {post : Int32 → Prop} (h : er_ir x nt) (hv : vp_in x 4) (hp : post (kd x.toNatClampNeg)) : wpX_local post (nc, nt, gp, tc, ep, tr, df, lt, dr, ad, fc, re, cs, cv, cx, le, lc, tp, pn, an, kd, mn, sn, vl, rs, er, ev) x 0 := by
  unfold wpX_local
  exact xq_T1 h (br_f er_10 (br_f (by decide) (br_f (by decide) (br_t rfl ⟨hv, hp⟩))))
theorem xq_local_1 {post : Int32 → Prop} (h : er_ir x nt) (hv : vp_in x 4) (hp : post (mn x.toNatClampNeg)) : wpX_local post (nc, nt, gp, tc, ep, tr, df, lt, dr, ad, fc, re, cs, cv, cx, le, lc, tp, pn, an, kd, mn, sn, vl, rs, er, ev) x 1 := by
  unfold wpX_local
  exact xq_T1 h (br_f er_10 (br_f (by decide) (br_f (by decide) (br_f (by decide) (br_t rfl ⟨hv, hp⟩)))))
theorem xq_local_2 {post : Int32 → Prop} (h : er_ir x nt) (hv : vp_in x 4) (hp : post (sn x.toNatClampNeg)) : wpX_local post (nc, nt, gp, tc, ep, tr, df, lt, dr, ad, fc, re, cs, cv, cx, le, lc, tp, pn, an, kd, mn, sn, vl, rs, er, ev) x 2 := by
  unfold wpX_local
  exact xq_T1 h (br_f er_10 (br_f (by decide) (br_f (by decide) (br_f (by decide) (br_f (by decide) (br_t rfl ⟨hv, hp⟩))))))
theorem xq_local_3 {post : Int32 → Prop} (h : er_ir x nt) (hv : vp_in x 4) (hp : post (vl x.toNatClampNeg)) : wpX_local post (nc, nt, gp, tc, ep, tr, df, lt, dr, ad, fc, re, cs, cv, cx, le, lc, tp, pn, an, kd, mn, sn, vl, rs, er, ev) x 3 := by
  unfold wpX_local
  exact xq_T1 h (br_f er_10 (br_f (by decide) (br_f (by decide) (br_f (by decide) (br_f (by decide) (br_f (by decide) (br_t rfl ⟨hv, hp⟩)))))))
theorem xq_local_4 {post : Int32 → Prop} (h : er_ir x nt) (hv : vp_in x 4) (hp : post (rs x.toNatClampNeg)) : wpX_local post (nc, nt, gp, tc, ep, tr, df, lt, dr, ad, fc, re, cs, cv, cx, le, lc, tp, pn, an, kd, mn, sn, vl, rs, er, ev) x 4 := by
  unfold wpX_local
  exact xq_T1 h (br_f er_10 (br_f (by decide) (br_f (by decide) (br_f (by decide) (br_f (by decide) (br_f (by decide) (br_f (by decide) (br_t rfl ⟨hv, hp⟩))))))))
theorem xq_local_o {post : Int32 → Prop} (h : er_ir x nt) (h0 : ¬ y = 0) (h1 : ¬ y = 1) (h2 : ¬ y = 2) (h3 : ¬ y = 3) (h4 : ¬ y = 4) (hp : post (-1)) : wpX_local post (nc, nt, gp, tc, ep, tr, df, lt, dr, ad, fc, re, cs, cv, cx, le, lc, tp, pn, an, kd, mn, sn, vl, rs, er, ev) x y := by
  unfold wpX_local
  have G : y < 0 ∨ (¬ y < 0 ∧ nI 4 < y) := er_sw y 4 (by decide) (fun j hj => by
    rcases (by omega : j = 0 ∨ j = 1 ∨ j = 2 ∨ j = 3 ∨ j = 4) with rfl | rfl | rfl | rfl | rfl
    · exact h0
    · exact h1
    · exact h2
    · exact h3
    · exact h4)
  refine xq_T1 h (br_f er_10 ?_)
  rcases G with g | ⟨g1, g2⟩
  · exact br_t g hp
  · exact br_f g1 (br_t g2 hp)
theorem xq_local_n {post : Int32 → Prop} (h : ¬ er_ir x nt) (hp : post (-1)) : wpX_local post (nc, nt, gp, tc, ep, tr, df, lt, dr, ad, fc, re, cs, cv, cx, le, lc, tp, pn, an, kd, mn, sn, vl, rs, er, ev) x y := by
  unfold wpX_local
  exact xq_T0 h (br_t rfl hp)
theorem xq_cell_0 {post : Int32 → Prop} (h : er_ir x nc) (hv : vp_in x 32) (hp : post (cs x.toNatClampNeg)) : wpX_cell post (nc, nt, gp, tc, ep, tr, df, lt, dr, ad, fc, re, cs, cv, cx, le, lc, tp, pn, an, kd, mn, sn, vl, rs, er, ev) x 0 := by
  unfold wpX_cell
  exact xq_C1 h (br_f er_10 (br_f (by decide) (br_f (by decide) (br_t rfl ⟨hv, hp⟩))))
theorem xq_cell_1 {post : Int32 → Prop} (h : er_ir x nc) (hv : vp_in x 32) (hp : post (cv x.toNatClampNeg)) : wpX_cell post (nc, nt, gp, tc, ep, tr, df, lt, dr, ad, fc, re, cs, cv, cx, le, lc, tp, pn, an, kd, mn, sn, vl, rs, er, ev) x 1 := by
  unfold wpX_cell
  exact xq_C1 h (br_f er_10 (br_f (by decide) (br_f (by decide) (br_f (by decide) (br_t rfl ⟨hv, hp⟩)))))
theorem xq_cell_2 {post : Int32 → Prop} (h : er_ir x nc) (hv : vp_in x 32) (hp : post (cx x.toNatClampNeg)) : wpX_cell post (nc, nt, gp, tc, ep, tr, df, lt, dr, ad, fc, re, cs, cv, cx, le, lc, tp, pn, an, kd, mn, sn, vl, rs, er, ev) x 2 := by
  unfold wpX_cell
  exact xq_C1 h (br_f er_10 (br_f (by decide) (br_f (by decide) (br_f (by decide) (br_f (by decide) (br_t rfl ⟨hv, hp⟩))))))
theorem xq_cell_o {post : Int32 → Prop} (h : er_ir x nc) (h0 : ¬ y = 0) (h1 : ¬ y = 1) (h2 : ¬ y = 2) (hp : post (-1)) : wpX_cell post (nc, nt, gp, tc, ep, tr, df, lt, dr, ad, fc, re, cs, cv, cx, le, lc, tp, pn, an, kd, mn, sn, vl, rs, er, ev) x y := by
  unfold wpX_cell
  have G : y < 0 ∨ (¬ y < 0 ∧ nI 2 < y) := er_sw y 2 (by decide) (fun j hj => by
    rcases (by omega : j = 0 ∨ j = 1 ∨ j = 2) with rfl | rfl | rfl
    · exact h0
    · exact h1
    · exact h2)
  refine xq_C1 h (br_f er_10 ?_)
  rcases G with g | ⟨g1, g2⟩
  · exact br_t g hp
  · exact br_f g1 (br_t g2 hp)
theorem xq_cell_n {post : Int32 → Prop} (h : ¬ er_ir x nc) (hp : post (-1)) : wpX_cell post (nc, nt, gp, tc, ep, tr, df, lt, dr, ad, fc, re, cs, cv, cx, le, lc, tp, pn, an, kd, mn, sn, vl, rs, er, ev) x y := by
  unfold wpX_cell
  exact xq_C0 h (br_t rfl hp)
theorem xq_start2 {post : Int32 → SX → Prop} {k v : Int32} (h : er_ir x nt) (hv : vp_in x 4) (h0 : tp x.toNatClampNeg = 0) (hp : post 1 (nc, nt, gp, tc, ep, tr, df, lt, dr, ad, fc, re, cs, cv, cx, le, lc, upd tp x.toNatClampNeg 1, pn, an, upd kd x.toNatClampNeg k, upd mn x.toNatClampNeg (-1), upd sn x.toNatClampNeg (-1), upd vl x.toNatClampNeg v, upd rs x.toNatClampNeg 0, er, ev)) : wpX_start post (nc, nt, gp, tc, ep, tr, df, lt, dr, ad, fc, re, cs, cv, cx, le, lc, tp, pn, an, kd, mn, sn, vl, rs, er, ev) x k v := by
  unfold wpX_start
  exact xq_T1 h (br_f er_10 ⟨hv, br_t h0 ⟨hv, nm_e ⟨hv, nm_e ⟨hv, nm_e ⟨hv, nm_e ⟨hv, nm_e ⟨hv, nm_e hp⟩⟩⟩⟩⟩⟩⟩)
theorem xq_start1 {post : Int32 → SX → Prop} {k v : Int32} (h : er_ir x nt) (hv : vp_in x 4) (h0 : ¬ tp x.toNatClampNeg = 0) (hp : post 0 (nc, nt, gp, tc, ep, tr, df, lt, dr, ad, fc, re, cs, cv, cx, le, lc, tp, pn, an, kd, mn, sn, vl, rs, er, ev)) : wpX_start post (nc, nt, gp, tc, ep, tr, df, lt, dr, ad, fc, re, cs, cv, cx, le, lc, tp, pn, an, kd, mn, sn, vl, rs, er, ev) x k v := by
  unfold wpX_start
  exact xq_T1 h (br_f er_10 ⟨hv, br_f h0 hp⟩)
theorem xq_start0 {post : Int32 → SX → Prop} {k v : Int32} (h : ¬ er_ir x nt) (hp : post 0 (nc, nt, gp, tc, ep, tr, df, lt, dr, ad, fc, re, cs, cv, cx, le, lc, tp, pn, an, kd, mn, sn, vl, rs, er, ev)) : wpX_start post (nc, nt, gp, tc, ep, tr, df, lt, dr, ad, fc, re, cs, cv, cx, le, lc, tp, pn, an, kd, mn, sn, vl, rs, er, ev) x k v := by
  unfold wpX_start
  exact xq_T0 h (br_t rfl hp)
theorem xq_push2 {post : Int32 → SX → Prop} (h : er_ir x nt) (hv : vp_in x 4) (h0 : tp x.toNatClampNeg = 0) (hp : post 1 (nc, nt, gp, tc, ep, tr, df, lt, dr, ad, fc, re, cs, cv, cx, le, lc, upd tp x.toNatClampNeg 1, pn, an, upd kd x.toNatClampNeg 1, upd mn x.toNatClampNeg (-1), upd sn x.toNatClampNeg (-1), upd vl x.toNatClampNeg y, upd rs x.toNatClampNeg 0, er, ev)) : wpX_push post (nc, nt, gp, tc, ep, tr, df, lt, dr, ad, fc, re, cs, cv, cx, le, lc, tp, pn, an, kd, mn, sn, vl, rs, er, ev) x y := by
  unfold wpX_push
  exact xq_start2 h hv h0 ⟨rfl, hp⟩
theorem xq_push1 {post : Int32 → SX → Prop} (h : er_ir x nt) (hv : vp_in x 4) (h0 : ¬ tp x.toNatClampNeg = 0) (hp : post 0 (nc, nt, gp, tc, ep, tr, df, lt, dr, ad, fc, re, cs, cv, cx, le, lc, tp, pn, an, kd, mn, sn, vl, rs, er, ev)) : wpX_push post (nc, nt, gp, tc, ep, tr, df, lt, dr, ad, fc, re, cs, cv, cx, le, lc, tp, pn, an, kd, mn, sn, vl, rs, er, ev) x y := by
  unfold wpX_push
  exact xq_start1 h hv h0 ⟨rfl, hp⟩
theorem xq_push0 {post : Int32 → SX → Prop} (h : ¬ er_ir x nt) (hp : post 0 (nc, nt, gp, tc, ep, tr, df, lt, dr, ad, fc, re, cs, cv, cx, le, lc, tp, pn, an, kd, mn, sn, vl, rs, er, ev)) : wpX_push post (nc, nt, gp, tc, ep, tr, df, lt, dr, ad, fc, re, cs, cv, cx, le, lc, tp, pn, an, kd, mn, sn, vl, rs, er, ev) x y := by
  unfold wpX_push
  exact xq_start0 h ⟨rfl, hp⟩
theorem xq_pop2 {post : Int32 → SX → Prop} (h : er_ir x nt) (hv : vp_in x 4) (h0 : tp x.toNatClampNeg = 0) (hp : post 1 (nc, nt, gp, tc, ep, tr, df, lt, dr, ad, fc, re, cs, cv, cx, le, lc, upd tp x.toNatClampNeg 1, pn, an, upd kd x.toNatClampNeg 2, upd mn x.toNatClampNeg (-1), upd sn x.toNatClampNeg (-1), upd vl x.toNatClampNeg 0, upd rs x.toNatClampNeg 0, er, ev)) : wpX_pop post (nc, nt, gp, tc, ep, tr, df, lt, dr, ad, fc, re, cs, cv, cx, le, lc, tp, pn, an, kd, mn, sn, vl, rs, er, ev) x := by
  unfold wpX_pop
  exact xq_start2 h hv h0 ⟨rfl, hp⟩
theorem xq_pop1 {post : Int32 → SX → Prop} (h : er_ir x nt) (hv : vp_in x 4) (h0 : ¬ tp x.toNatClampNeg = 0) (hp : post 0 (nc, nt, gp, tc, ep, tr, df, lt, dr, ad, fc, re, cs, cv, cx, le, lc, tp, pn, an, kd, mn, sn, vl, rs, er, ev)) : wpX_pop post (nc, nt, gp, tc, ep, tr, df, lt, dr, ad, fc, re, cs, cv, cx, le, lc, tp, pn, an, kd, mn, sn, vl, rs, er, ev) x := by
  unfold wpX_pop
  exact xq_start1 h hv h0 ⟨rfl, hp⟩
theorem xq_pop0 {post : Int32 → SX → Prop} (h : ¬ er_ir x nt) (hp : post 0 (nc, nt, gp, tc, ep, tr, df, lt, dr, ad, fc, re, cs, cv, cx, le, lc, tp, pn, an, kd, mn, sn, vl, rs, er, ev)) : wpX_pop post (nc, nt, gp, tc, ep, tr, df, lt, dr, ad, fc, re, cs, cv, cx, le, lc, tp, pn, an, kd, mn, sn, vl, rs, er, ev) x := by
  unfold wpX_pop
  exact xq_start0 h ⟨rfl, hp⟩
theorem yq_T1 {post : Int32 → Prop} (h : er_ir x nt) (hp : post 1) : wpY_okT post (nc, nt, gp, tc, ep, tr, df, lt, dr, ad, re, cs, cv, cx, le, lc, tp, pn, an, kd, mn, sn, vl, rs, er, ev) x := br_f h.1 (br_f h.2 hp)
theorem yq_T0 {post : Int32 → Prop} (h : ¬ er_ir x nt) (hp : post 0) : wpY_okT post (nc, nt, gp, tc, ep, tr, df, lt, dr, ad, re, cs, cv, cx, le, lc, tp, pn, an, kd, mn, sn, vl, rs, er, ev) x := br_c (fun _ => hp) (fun h0 => br_c (fun _ => hp) (fun h1 => absurd ⟨h0, h1⟩ h))
theorem yq_C1 {post : Int32 → Prop} (h : er_ir x nc) (hp : post 1) : wpY_okC post (nc, nt, gp, tc, ep, tr, df, lt, dr, ad, re, cs, cv, cx, le, lc, tp, pn, an, kd, mn, sn, vl, rs, er, ev) x := br_f h.1 (br_f h.2 hp)
theorem yq_C0 {post : Int32 → Prop} (h : ¬ er_ir x nc) (hp : post 0) : wpY_okC post (nc, nt, gp, tc, ep, tr, df, lt, dr, ad, re, cs, cv, cx, le, lc, tp, pn, an, kd, mn, sn, vl, rs, er, ev) x := br_c (fun _ => hp) (fun h0 => br_c (fun _ => hp) (fun h1 => absurd ⟨h0, h1⟩ h))
theorem yq_phase1 {post : Int32 → Prop} (h : er_ir x nt) (hv : vp_in x 4) (hp : post (tp x.toNatClampNeg)) : wpY_phase post (nc, nt, gp, tc, ep, tr, df, lt, dr, ad, re, cs, cv, cx, le, lc, tp, pn, an, kd, mn, sn, vl, rs, er, ev) x := by
  unfold wpY_phase
  exact yq_T1 h (br_f er_10 ⟨hv, hp⟩)
theorem yq_phase0 {post : Int32 → Prop} (h : ¬ er_ir x nt) (hp : post (-1)) : wpY_phase post (nc, nt, gp, tc, ep, tr, df, lt, dr, ad, re, cs, cv, cx, le, lc, tp, pn, an, kd, mn, sn, vl, rs, er, ev) x := by
  unfold wpY_phase
  exact yq_T0 h (br_t rfl hp)
theorem yq_lastResult1 {post : Int32 → Prop} (h : er_ir x nt) (hv : vp_in x 4) (hp : post (er x.toNatClampNeg)) : wpY_lastResult post (nc, nt, gp, tc, ep, tr, df, lt, dr, ad, re, cs, cv, cx, le, lc, tp, pn, an, kd, mn, sn, vl, rs, er, ev) x := by
  unfold wpY_lastResult
  exact yq_T1 h (br_f er_10 ⟨hv, hp⟩)
theorem yq_lastResult0 {post : Int32 → Prop} (h : ¬ er_ir x nt) (hp : post (-1)) : wpY_lastResult post (nc, nt, gp, tc, ep, tr, df, lt, dr, ad, re, cs, cv, cx, le, lc, tp, pn, an, kd, mn, sn, vl, rs, er, ev) x := by
  unfold wpY_lastResult
  exact yq_T0 h (br_t rfl hp)
theorem yq_lastValue1 {post : Int32 → Prop} (h : er_ir x nt) (hv : vp_in x 4) (hp : post (ev x.toNatClampNeg)) : wpY_lastValue post (nc, nt, gp, tc, ep, tr, df, lt, dr, ad, re, cs, cv, cx, le, lc, tp, pn, an, kd, mn, sn, vl, rs, er, ev) x := by
  unfold wpY_lastValue
  exact yq_T1 h (br_f er_10 ⟨hv, hp⟩)
theorem yq_lastValue0 {post : Int32 → Prop} (h : ¬ er_ir x nt) (hp : post (-1)) : wpY_lastValue post (nc, nt, gp, tc, ep, tr, df, lt, dr, ad, re, cs, cv, cx, le, lc, tp, pn, an, kd, mn, sn, vl, rs, er, ev) x := by
  unfold wpY_lastValue
  exact yq_T0 h (br_t rfl hp)
theorem yq_announced2 {post : Int32 → Prop} (h : er_ir x nt) (hv : vp_in x 4) (hb : ¬ pn x.toNatClampNeg = 0) (hp : post (an x.toNatClampNeg)) : wpY_announced post (nc, nt, gp, tc, ep, tr, df, lt, dr, ad, re, cs, cv, cx, le, lc, tp, pn, an, kd, mn, sn, vl, rs, er, ev) x := by
  unfold wpY_announced
  exact yq_T1 h (br_f er_10 ⟨hv, br_f hb ⟨hv, hp⟩⟩)
theorem yq_announced1 {post : Int32 → Prop} (h : er_ir x nt) (hv : vp_in x 4) (hb : pn x.toNatClampNeg = 0) (hp : post (-1)) : wpY_announced post (nc, nt, gp, tc, ep, tr, df, lt, dr, ad, re, cs, cv, cx, le, lc, tp, pn, an, kd, mn, sn, vl, rs, er, ev) x := by
  unfold wpY_announced
  exact yq_T1 h (br_f er_10 ⟨hv, br_t hb hp⟩)
theorem yq_announced0 {post : Int32 → Prop} (h : ¬ er_ir x nt) (hp : post (-1)) : wpY_announced post (nc, nt, gp, tc, ep, tr, df, lt, dr, ad, re, cs, cv, cx, le, lc, tp, pn, an, kd, mn, sn, vl, rs, er, ev) x := by
  unfold wpY_announced
  exact yq_T0 h (br_t rfl hp)
theorem yq_local_0 {post : Int32 → Prop} (h : er_ir x nt) (hv : vp_in x 4) (hp : post (kd x.toNatClampNeg)) : wpY_local post (nc, nt, gp, tc, ep, tr, df, lt, dr, ad, re, cs, cv, cx, le, lc, tp, pn, an, kd, mn, sn, vl, rs, er, ev) x 0 := by
  unfold wpY_local
  exact yq_T1 h (br_f er_10 (br_t rfl ⟨hv, hp⟩))
theorem yq_local_1 {post : Int32 → Prop} (h : er_ir x nt) (hv : vp_in x 4) (hp : post (mn x.toNatClampNeg)) : wpY_local post (nc, nt, gp, tc, ep, tr, df, lt, dr, ad, re, cs, cv, cx, le, lc, tp, pn, an, kd, mn, sn, vl, rs, er, ev) x 1 := by
  unfold wpY_local
  exact yq_T1 h (br_f er_10 (br_f (by decide) (br_t rfl ⟨hv, hp⟩)))
theorem yq_local_2 {post : Int32 → Prop} (h : er_ir x nt) (hv : vp_in x 4) (hp : post (sn x.toNatClampNeg)) : wpY_local post (nc, nt, gp, tc, ep, tr, df, lt, dr, ad, re, cs, cv, cx, le, lc, tp, pn, an, kd, mn, sn, vl, rs, er, ev) x 2 := by
  unfold wpY_local
  exact yq_T1 h (br_f er_10 (br_f (by decide) (br_f (by decide) (br_t rfl ⟨hv, hp⟩))))
theorem yq_local_3 {post : Int32 → Prop} (h : er_ir x nt) (hv : vp_in x 4) (hp : post (vl x.toNatClampNeg)) : wpY_local post (nc, nt, gp, tc, ep, tr, df, lt, dr, ad, re, cs, cv, cx, le, lc, tp, pn, an, kd, mn, sn, vl, rs, er, ev) x 3 := by
  unfold wpY_local
  exact yq_T1 h (br_f er_10 (br_f (by decide) (br_f (by decide) (br_f (by decide) (br_t rfl ⟨hv, hp⟩)))))
theorem yq_local_4 {post : Int32 → Prop} (h : er_ir x nt) (hv : vp_in x 4) (hp : post (rs x.toNatClampNeg)) : wpY_local post (nc, nt, gp, tc, ep, tr, df, lt, dr, ad, re, cs, cv, cx, le, lc, tp, pn, an, kd, mn, sn, vl, rs, er, ev) x 4 := by
  unfold wpY_local
  exact yq_T1 h (br_f er_10 (br_f (by decide) (br_f (by decide) (br_f (by decide) (br_f (by decide) (br_t rfl ⟨hv, hp⟩))))))
theorem yq_local_o {post : Int32 → Prop} (h : er_ir x nt) (h0 : ¬ y = 0) (h1 : ¬ y = 1) (h2 : ¬ y = 2) (h3 : ¬ y = 3) (h4 : ¬ y = 4) (hp : post (-1)) : wpY_local post (nc, nt, gp, tc, ep, tr, df, lt, dr, ad, re, cs, cv, cx, le, lc, tp, pn, an, kd, mn, sn, vl, rs, er, ev) x y := by
  unfold wpY_local
  exact yq_T1 h (br_f er_10 (br_f h0 (br_f h1 (br_f h2 (br_f h3 (br_f h4 (hp)))))))
theorem yq_local_n {post : Int32 → Prop} (h : ¬ er_ir x nt) (hp : post (-1)) : wpY_local post (nc, nt, gp, tc, ep, tr, df, lt, dr, ad, re, cs, cv, cx, le, lc, tp, pn, an, kd, mn, sn, vl, rs, er, ev) x y := by
  unfold wpY_local
  exact yq_T0 h (br_t rfl hp)
theorem yq_cell_0 {post : Int32 → Prop} (h : er_ir x nc) (hv : vp_in x 32) (hp : post (cs x.toNatClampNeg)) : wpY_cell post (nc, nt, gp, tc, ep, tr, df, lt, dr, ad, re, cs, cv, cx, le, lc, tp, pn, an, kd, mn, sn, vl, rs, er, ev) x 0 := by
  unfold wpY_cell
  exact yq_C1 h (br_f er_10 (br_t rfl ⟨hv, hp⟩))
theorem yq_cell_1 {post : Int32 → Prop} (h : er_ir x nc) (hv : vp_in x 32) (hp : post (cv x.toNatClampNeg)) : wpY_cell post (nc, nt, gp, tc, ep, tr, df, lt, dr, ad, re, cs, cv, cx, le, lc, tp, pn, an, kd, mn, sn, vl, rs, er, ev) x 1 := by
  unfold wpY_cell
  exact yq_C1 h (br_f er_10 (br_f (by decide) (br_t rfl ⟨hv, hp⟩)))
theorem yq_cell_2 {post : Int32 → Prop} (h : er_ir x nc) (hv : vp_in x 32) (hp : post (cx x.toNatClampNeg)) : wpY_cell post (nc, nt, gp, tc, ep, tr, df, lt, dr, ad, re, cs, cv, cx, le, lc, tp, pn, an, kd, mn, sn, vl, rs, er, ev) x 2 := by
  unfold wpY_cell
  exact yq_C1 h (br_f er_10 (br_f (by decide) (br_f (by decide) (br_t rfl ⟨hv, hp⟩))))
theorem yq_cell_o {post : Int32 → Prop} (h : er_ir x nc) (h0 : ¬ y = 0) (h1 : ¬ y = 1) (h2 : ¬ y = 2) (hp : post (-1)) : wpY_cell post (nc, nt, gp, tc, ep, tr, df, lt, dr, ad, re, cs, cv, cx, le, lc, tp, pn, an, kd, mn, sn, vl, rs, er, ev) x y := by
  unfold wpY_cell
  exact yq_C1 h (br_f er_10 (br_f h0 (br_f h1 (br_f h2 (hp)))))
theorem yq_cell_n {post : Int32 → Prop} (h : ¬ er_ir x nc) (hp : post (-1)) : wpY_cell post (nc, nt, gp, tc, ep, tr, df, lt, dr, ad, re, cs, cv, cx, le, lc, tp, pn, an, kd, mn, sn, vl, rs, er, ev) x y := by
  unfold wpY_cell
  exact yq_C0 h (br_t rfl hp)
theorem yq_start2 {post : Int32 → SY → Prop} {k v : Int32} (h : er_ir x nt) (hv : vp_in x 4) (h0 : tp x.toNatClampNeg = 0) (hp : post 1 (nc, nt, gp, tc, ep, tr, df, lt, dr, ad, re, cs, cv, cx, le, lc, upd tp x.toNatClampNeg 1, pn, an, upd kd x.toNatClampNeg k, upd mn x.toNatClampNeg (-1), upd sn x.toNatClampNeg (-1), upd vl x.toNatClampNeg v, upd rs x.toNatClampNeg 0, er, ev)) : wpY_start post (nc, nt, gp, tc, ep, tr, df, lt, dr, ad, re, cs, cv, cx, le, lc, tp, pn, an, kd, mn, sn, vl, rs, er, ev) x k v := by
  unfold wpY_start
  exact yq_T1 h (br_f er_10 ⟨hv, br_t h0 ⟨hv, nm_e ⟨hv, nm_e ⟨hv, nm_e ⟨hv, nm_e ⟨hv, nm_e ⟨hv, nm_e hp⟩⟩⟩⟩⟩⟩⟩)
theorem yq_start1 {post : Int32 → SY → Prop} {k v : Int32} (h : er_ir x nt) (hv : vp_in x 4) (h0 : ¬ tp x.toNatClampNeg = 0) (hp : post 0 (nc, nt, gp, tc, ep, tr, df, lt, dr, ad, re, cs, cv, cx, le, lc, tp, pn, an, kd, mn, sn, vl, rs, er, ev)) : wpY_start post (nc, nt, gp, tc, ep, tr, df, lt, dr, ad, re, cs, cv, cx, le, lc, tp, pn, an, kd, mn, sn, vl, rs, er, ev) x k v := by
  unfold wpY_start
  exact yq_T1 h (br_f er_10 ⟨hv, br_f h0 hp⟩)
theorem yq_start0 {post : Int32 → SY → Prop} {k v : Int32} (h : ¬ er_ir x nt) (hp : post 0 (nc, nt, gp, tc, ep, tr, df, lt, dr, ad, re, cs, cv, cx, le, lc, tp, pn, an, kd, mn, sn, vl, rs, er, ev)) : wpY_start post (nc, nt, gp, tc, ep, tr, df, lt, dr, ad, re, cs, cv, cx, le, lc, tp, pn, an, kd, mn, sn, vl, rs, er, ev) x k v := by
  unfold wpY_start
  exact yq_T0 h (br_t rfl hp)
theorem yq_push2 {post : Int32 → SY → Prop} (h : er_ir x nt) (hv : vp_in x 4) (h0 : tp x.toNatClampNeg = 0) (hp : post 1 (nc, nt, gp, tc, ep, tr, df, lt, dr, ad, re, cs, cv, cx, le, lc, upd tp x.toNatClampNeg 1, pn, an, upd kd x.toNatClampNeg 1, upd mn x.toNatClampNeg (-1), upd sn x.toNatClampNeg (-1), upd vl x.toNatClampNeg y, upd rs x.toNatClampNeg 0, er, ev)) : wpY_push post (nc, nt, gp, tc, ep, tr, df, lt, dr, ad, re, cs, cv, cx, le, lc, tp, pn, an, kd, mn, sn, vl, rs, er, ev) x y := by
  unfold wpY_push
  exact yq_start2 h hv h0 ⟨rfl, hp⟩
theorem yq_push1 {post : Int32 → SY → Prop} (h : er_ir x nt) (hv : vp_in x 4) (h0 : ¬ tp x.toNatClampNeg = 0) (hp : post 0 (nc, nt, gp, tc, ep, tr, df, lt, dr, ad, re, cs, cv, cx, le, lc, tp, pn, an, kd, mn, sn, vl, rs, er, ev)) : wpY_push post (nc, nt, gp, tc, ep, tr, df, lt, dr, ad, re, cs, cv, cx, le, lc, tp, pn, an, kd, mn, sn, vl, rs, er, ev) x y := by
  unfold wpY_push
  exact yq_start1 h hv h0 ⟨rfl, hp⟩
theorem yq_push0 {post : Int32 → SY → Prop} (h : ¬ er_ir x nt) (hp : post 0 (nc, nt, gp, tc, ep, tr, df, lt, dr, ad, re, cs, cv, cx, le, lc, tp, pn, an, kd, mn, sn, vl, rs, er, ev)) : wpY_push post (nc, nt, gp, tc, ep, tr, df, lt, dr, ad, re, cs, cv, cx, le, lc, tp, pn, an, kd, mn, sn, vl, rs, er, ev) x y := by
  unfold wpY_push
  exact yq_start0 h ⟨rfl, hp⟩
theorem yq_pop2 {post : Int32 → SY → Prop} (h : er_ir x nt) (hv : vp_in x 4) (h0 : tp x.toNatClampNeg = 0) (hp : post 1 (nc, nt, gp, tc, ep, tr, df, lt, dr, ad, re, cs, cv, cx, le, lc, upd tp x.toNatClampNeg 1, pn, an, upd kd x.toNatClampNeg 2, upd mn x.toNatClampNeg (-1), upd sn x.toNatClampNeg (-1), upd vl x.toNatClampNeg 0, upd rs x.toNatClampNeg 0, er, ev)) : wpY_pop post (nc, nt, gp, tc, ep, tr, df, lt, dr, ad, re, cs, cv, cx, le, lc, tp, pn, an, kd, mn, sn, vl, rs, er, ev) x := by
  unfold wpY_pop
  exact yq_start2 h hv h0 ⟨rfl, hp⟩
theorem yq_pop1 {post : Int32 → SY → Prop} (h : er_ir x nt) (hv : vp_in x 4) (h0 : ¬ tp x.toNatClampNeg = 0) (hp : post 0 (nc, nt, gp, tc, ep, tr, df, lt, dr, ad, re, cs, cv, cx, le, lc, tp, pn, an, kd, mn, sn, vl, rs, er, ev)) : wpY_pop post (nc, nt, gp, tc, ep, tr, df, lt, dr, ad, re, cs, cv, cx, le, lc, tp, pn, an, kd, mn, sn, vl, rs, er, ev) x := by
  unfold wpY_pop
  exact yq_start1 h hv h0 ⟨rfl, hp⟩
theorem yq_pop0 {post : Int32 → SY → Prop} (h : ¬ er_ir x nt) (hp : post 0 (nc, nt, gp, tc, ep, tr, df, lt, dr, ad, re, cs, cv, cx, le, lc, tp, pn, an, kd, mn, sn, vl, rs, er, ev)) : wpY_pop post (nc, nt, gp, tc, ep, tr, df, lt, dr, ad, re, cs, cv, cx, le, lc, tp, pn, an, kd, mn, sn, vl, rs, er, ev) x := by
  unfold wpY_pop
  exact yq_start0 h ⟨rfl, hp⟩
end
end
section
/-! the private methods of X, each with a general post -/
section
variable {nc nt gp tc ep tr df lt dr ad fc re : Int32} {cs cv cx le lc tp pn an kd mn sn vl rs er ev : Nat → Int32}
variable {x y : Int32} {post : SX → Prop}
theorem xq_pin1 (hv : vp_in x 4) (hk : kd x.toNatClampNeg = 1) (hp : post (nc, nt, gp, tc, ep, tr, df, lt, dr, ad, fc, re, cs, cv, cx, le, lc, upd tp x.toNatClampNeg 2, upd pn x.toNatClampNeg (vp_nar .boolean 1), upd an x.toNatClampNeg ep, kd, mn, sn, vl, rs, er, ev)) : wpX_pin post (nc, nt, gp, tc, ep, tr, df, lt, dr, ad, fc, re, cs, cv, cx, le, lc, tp, pn, an, kd, mn, sn, vl, rs, er, ev) x :=
  ⟨hv, nm_e ⟨hv, nm_e ⟨hv, br_t hk ⟨hv, nm_e hp⟩⟩⟩⟩
theorem xq_pin2 (hv : vp_in x 4) (hk : ¬ kd x.toNatClampNeg = 1) (hp : post (nc, nt, gp, tc, ep, tr, df, lt, dr, ad, fc, re, cs, cv, cx, le, lc, upd tp x.toNatClampNeg 3, upd pn x.toNatClampNeg (vp_nar .boolean 1), upd an x.toNatClampNeg ep, kd, mn, sn, vl, rs, er, ev)) : wpX_pin post (nc, nt, gp, tc, ep, tr, df, lt, dr, ad, fc, re, cs, cv, cx, le, lc, tp, pn, an, kd, mn, sn, vl, rs, er, ev) x :=
  ⟨hv, nm_e ⟨hv, nm_e ⟨hv, br_f hk ⟨hv, nm_e hp⟩⟩⟩⟩
/-! the lowest FREE cell, upwards -/
theorem xq_low {C c : Nat} {q : Int32 → Prop} (hC : C ≤ 32) (hc : c ≤ C) (hn : ∀ j, j < c → ¬ cs j = 0) (hq : (c = C ∧ q (-1)) ∨ (c < C ∧ cs c = 0 ∧ q (nI c))) :
    ∀ d i, i + d = c → wX_lowestFreeCell_2 q (nI C) nt gp tc ep tr df lt dr ad fc re cs cv cx le lc tp pn an kd mn sn vl rs er ev (d + 1) (nI i) := by
  intro d
  induction d with
  | zero =>
    intro i hi
    have e : i = c := by omega
    subst e
    rcases hq with ⟨e, hq⟩ | ⟨h1, h2, hq⟩
    · subst e
      exact br_t (nI_le (Nat.le_refl _) (by omega)) hq
    · exact br_f (nI_ge h1 (by omega)) ⟨vp_in_nI (by omega) (by omega), br_t (by rw [nI_clamp (by omega)]; exact h2) hq⟩
  | succ d ih =>
    intro i hi
    refine br_f (nI_ge (by omega) (by omega)) ⟨vp_in_nI (by omega) (by omega), br_f (by rw [nI_clamp (by omega)]; exact hn i (by omega)) (nm_r (nI_1 i) ?_)⟩
    exact ih (i + 1) (by omega)
theorem xq_lowest {C c : Nat} {q : Int32 → Prop} (hC : C ≤ 32) (hc : c ≤ C) (hn : ∀ j, j < c → ¬ cs j = 0) (hq : (c = C ∧ q (-1)) ∨ (c < C ∧ cs c = 0 ∧ q (nI c))) :
    wpX_lowestFreeCell q (nI C, nt, gp, tc, ep, tr, df, lt, dr, ad, fc, re, cs, cv, cx, le, lc, tp, pn, an, kd, mn, sn, vl, rs, er, ev) := by
  unfold wpX_lowestFreeCell
  exact ⟨c + 1, xq_low hC hc hn hq c 0 (by omega)⟩
theorem xq_alloc0 {C : Nat} (hv : vp_in x 4) (hC : C ≤ 32) (hn : ∀ j, j < C → ¬ cs j = 0) (hp : post (nI C, nt, gp, tc, ep, tr, df, lt, dr, ad, fc, re, cs, cv, cx, le, lc, upd tp x.toNatClampNeg 8, pn, an, kd, mn, sn, vl, upd rs x.toNatClampNeg 3, er, ev)) : wpX_allocate post (nI C, nt, gp, tc, ep, tr, df, lt, dr, ad, fc, re, cs, cv, cx, le, lc, tp, pn, an, kd, mn, sn, vl, rs, er, ev) x := by
  unfold wpX_allocate
  exact xq_lowest hC (Nat.le_refl C) hn (Or.inl ⟨rfl, br_t rfl ⟨hv, nm_e ⟨hv, nm_e hp⟩⟩⟩)
theorem er_nm1 {n : Nat} (h : n < 2 ^ 31) : ¬ nI n = -1 := by
  intro e
  have g := nI_toInt h
  rw [e] at g
  have e1 : (-1 : Int32).toInt = -1 := by decide
  omega
theorem xq_alloc1 {C c : Nat} {f : Int32} (hv : vp_in x 4) (hC : C ≤ 32) (hc : c < C) (hn : ∀ j, j < c → ¬ cs j = 0) (h0 : cs c = 0) (hf : fc - 1 = f)
    (hp : post (nI C, nt, gp, tc, ep, tr, df, lt, dr, ad, f, re, upd cs (nI c).toNatClampNeg 1, upd cv (nI c).toNatClampNeg (vl x.toNatClampNeg), upd cx (nI c).toNatClampNeg (-1), le, lc, upd tp x.toNatClampNeg 3, pn, an, kd, upd mn x.toNatClampNeg (nI c), sn, vl, rs, er, ev)) : wpX_allocate post (nI C, nt, gp, tc, ep, tr, df, lt, dr, ad, fc, re, cs, cv, cx, le, lc, tp, pn, an, kd, mn, sn, vl, rs, er, ev) x := by
  unfold wpX_allocate
  have w : vp_in (nI c) 32 := vp_in_nI (by omega) (by omega)
  exact xq_lowest hC (Nat.le_of_lt hc) hn (Or.inr ⟨hc, h0, br_f (er_nm1 (by omega)) ⟨w, nm_e ⟨hv, w, nm_e ⟨w, nm_e (nm_r hf ⟨hv, nm_e ⟨hv, nm_e hp⟩⟩)⟩⟩⟩⟩)
theorem xq_top1 (hv : vp_in x 4) (hk : kd x.toNatClampNeg = 1) (hp : post (nc, nt, gp, tc, ep, tr, df, lt, dr, ad, fc, re, cs, cv, cx, le, lc, upd tp x.toNatClampNeg 4, pn, an, kd, mn, upd sn x.toNatClampNeg tc, vl, rs, er, ev)) : wpX_readTop post (nc, nt, gp, tc, ep, tr, df, lt, dr, ad, fc, re, cs, cv, cx, le, lc, tp, pn, an, kd, mn, sn, vl, rs, er, ev) x :=
  ⟨hv, br_t hk ⟨hv, nm_e ⟨hv, nm_e hp⟩⟩⟩
theorem xq_top2 (hv : vp_in x 4) (hk : ¬ kd x.toNatClampNeg = 1) (ht : tc = -1) (hp : post (nc, nt, gp, tc, ep, tr, df, lt, dr, ad, fc, re, cs, cv, cx, le, lc, upd tp x.toNatClampNeg 8, pn, an, kd, upd mn x.toNatClampNeg tc, sn, upd vl x.toNatClampNeg 0, upd rs x.toNatClampNeg 2, er, ev)) : wpX_readTop post (nc, nt, gp, tc, ep, tr, df, lt, dr, ad, fc, re, cs, cv, cx, le, lc, tp, pn, an, kd, mn, sn, vl, rs, er, ev) x :=
  ⟨hv, br_f hk ⟨hv, nm_e (br_t ht ⟨hv, nm_e ⟨hv, nm_e ⟨hv, nm_e hp⟩⟩⟩)⟩⟩
theorem xq_top3 (hv : vp_in x 4) (hk : ¬ kd x.toNatClampNeg = 1) (ht : ¬ tc = -1) (hp : post (nc, nt, gp, tc, ep, tr, df, lt, dr, ad, fc, re, cs, cv, cx, le, lc, upd tp x.toNatClampNeg 5, pn, an, kd, upd mn x.toNatClampNeg tc, sn, vl, rs, er, ev)) : wpX_readTop post (nc, nt, gp, tc, ep, tr, df, lt, dr, ad, fc, re, cs, cv, cx, le, lc, tp, pn, an, kd, mn, sn, vl, rs, er, ev) x :=
  ⟨hv, br_f hk ⟨hv, nm_e (br_f ht ⟨hv, nm_e hp⟩)⟩⟩
theorem xq_trap1 (hv : vp_in y 32) (h0 : cs y.toNatClampNeg = 0) (hp : post (nc, nt, gp, tc, ep, tr + 1, df, y, dr, ad, fc, re, cs, cv, cx, le, lc, tp, pn, an, kd, mn, sn, vl, rs, er, ev)) : wpX_trapIfFree post (nc, nt, gp, tc, ep, tr, df, lt, dr, ad, fc, re, cs, cv, cx, le, lc, tp, pn, an, kd, mn, sn, vl, rs, er, ev) y := ⟨hv, br_t h0 (nm_e hp)⟩
theorem xq_trap0 (hv : vp_in y 32) (h0 : ¬ cs y.toNatClampNeg = 0) (hp : post (nc, nt, gp, tc, ep, tr, df, lt, dr, ad, fc, re, cs, cv, cx, le, lc, tp, pn, an, kd, mn, sn, vl, rs, er, ev)) : wpX_trapIfFree post (nc, nt, gp, tc, ep, tr, df, lt, dr, ad, fc, re, cs, cv, cx, le, lc, tp, pn, an, kd, mn, sn, vl, rs, er, ev) y := ⟨hv, br_f h0 hp⟩
theorem xq_link0 (hv : vp_in x 4) (hy : mn x.toNatClampNeg = y) (hc : ¬ er_ir y nc) (hp : post (nc, nt, gp, tc, ep, tr, df, lt, dr, ad, fc, re, cs, cv, cx, le, lc, upd tp x.toNatClampNeg 6, pn, an, kd, mn, sn, vl, rs, er, ev)) : wpX_link post (nc, nt, gp, tc, ep, tr, df, lt, dr, ad, fc, re, cs, cv, cx, le, lc, tp, pn, an, kd, mn, sn, vl, rs, er, ev) x := by
  unfold wpX_link
  exact ⟨hv, nm_r hy (xq_C0 hc (br_t rfl ⟨hv, nm_e hp⟩))⟩
theorem xq_link1 (hv : vp_in x 4) (hy : mn x.toNatClampNeg = y) (hc : er_ir y nc) (hw : vp_in y 32) (h0 : cs y.toNatClampNeg = 0) (hp : post (nc, nt, gp, tc, ep, tr + 1, df, y, dr, ad, fc, re, cs, cv, upd cx y.toNatClampNeg (sn x.toNatClampNeg), le, lc, upd tp x.toNatClampNeg 6, pn, an, kd, mn, sn, vl, rs, er, ev)) : wpX_link post (nc, nt, gp, tc, ep, tr, df, lt, dr, ad, fc, re, cs, cv, cx, le, lc, tp, pn, an, kd, mn, sn, vl, rs, er, ev) x := by
  unfold wpX_link
  exact ⟨hv, nm_r hy (xq_C1 hc (br_f er_10 (xq_trap1 hw h0 ⟨hv, hw, nm_e ⟨hv, nm_e hp⟩⟩)))⟩
theorem xq_link2 (hv : vp_in x 4) (hy : mn x.toNatClampNeg = y) (hc : er_ir y nc) (hw : vp_in y 32) (h0 : ¬ cs y.toNatClampNeg = 0) (hp : post (nc, nt, gp, tc, ep, tr, df, lt, dr, ad, fc, re, cs, cv, upd cx y.toNatClampNeg (sn x.toNatClampNeg), le, lc, upd tp x.toNatClampNeg 6, pn, an, kd, mn, sn, vl, rs, er, ev)) : wpX_link post (nc, nt, gp, tc, ep, tr, df, lt, dr, ad, fc, re, cs, cv, cx, le, lc, tp, pn, an, kd, mn, sn, vl, rs, er, ev) x := by
  unfold wpX_link
  exact ⟨hv, nm_r hy (xq_C1 hc (br_f er_10 (xq_trap0 hw h0 ⟨hv, hw, nm_e ⟨hv, nm_e hp⟩⟩)))⟩
theorem xq_read0 (hv : vp_in x 4) (hy : mn x.toNatClampNeg = y) (hc : ¬ er_ir y nc) (hp : post (nc, nt, gp, tc, ep, tr, df, lt, dr, ad, fc, re, cs, cv, cx, le, lc, upd tp x.toNatClampNeg 6, pn, an, kd, mn, sn, vl, rs, er, ev)) : wpX_readCell post (nc, nt, gp, tc, ep, tr, df, lt, dr, ad, fc, re, cs, cv, cx, le, lc, tp, pn, an, kd, mn, sn, vl, rs, er, ev) x := by
  unfold wpX_readCell
  exact ⟨hv, nm_r hy (xq_C0 hc (br_t rfl ⟨hv, nm_e hp⟩))⟩
theorem xq_read1 (hv : vp_in x 4) (hy : mn x.toNatClampNeg = y) (hc : er_ir y nc) (hw : vp_in y 32) (h0 : cs y.toNatClampNeg = 0) (hp : post (nc, nt, gp, tc, ep, tr + 1, df, y, dr, ad, fc, re, cs, cv, cx, le, lc, upd tp x.toNatClampNeg 6, pn, an, kd, mn, upd sn x.toNatClampNeg (cx y.toNatClampNeg), upd vl x.toNatClampNeg (cv y.toNatClampNeg), rs, er, ev)) : wpX_readCell post (nc, nt, gp, tc, ep, tr, df, lt, dr, ad, fc, re, cs, cv, cx, le, lc, tp, pn, an, kd, mn, sn, vl, rs, er, ev) x := by
  unfold wpX_readCell
  exact ⟨hv, nm_r hy (xq_C1 hc (br_f er_10 (xq_trap1 hw h0 ⟨hw, hv, nm_e ⟨hw, hv, nm_e ⟨hv, nm_e hp⟩⟩⟩)))⟩
theorem xq_read2 (hv : vp_in x 4) (hy : mn x.toNatClampNeg = y) (hc : er_ir y nc) (hw : vp_in y 32) (h0 : ¬ cs y.toNatClampNeg = 0) (hp : post (nc, nt, gp, tc, ep, tr, df, lt, dr, ad, fc, re, cs, cv, cx, le, lc, upd tp x.toNatClampNeg 6, pn, an, kd, mn, upd sn x.toNatClampNeg (cx y.toNatClampNeg), upd vl x.toNatClampNeg (cv y.toNatClampNeg), rs, er, ev)) : wpX_readCell post (nc, nt, gp, tc, ep, tr, df, lt, dr, ad, fc, re, cs, cv, cx, le, lc, tp, pn, an, kd, mn, sn, vl, rs, er, ev) x := by
  unfold wpX_readCell
  exact ⟨hv, nm_r hy (xq_C1 hc (br_f er_10 (xq_trap0 hw h0 ⟨hw, hv, nm_e ⟨hw, hv, nm_e ⟨hv, nm_e hp⟩⟩⟩)))⟩
theorem xq_cas1 (hv : vp_in x 4) (hk : kd x.toNatClampNeg = 1) (ht : tc = sn x.toNatClampNeg) (hp : post (nc, nt, gp, mn x.toNatClampNeg, ep, tr, df, lt, dr, ad, fc, re, cs, cv, cx, le, lc, upd tp x.toNatClampNeg 8, pn, an, kd, mn, sn, vl, upd rs x.toNatClampNeg 1, er, ev)) : wpX_compareAndSwap post (nc, nt, gp, tc, ep, tr, df, lt, dr, ad, fc, re, cs, cv, cx, le, lc, tp, pn, an, kd, mn, sn, vl, rs, er, ev) x :=
  ⟨hv, br_t hk (br_f er_10 ⟨hv, br_t ht (br_f er_10 ⟨hv, hv, nm_e (br_f er_10 ⟨hv, nm_e hp⟩)⟩)⟩)⟩
theorem xq_cas2 (hv : vp_in x 4) (hk : kd x.toNatClampNeg = 1) (ht : ¬ tc = sn x.toNatClampNeg) (hp : post (nc, nt, gp, tc, ep, tr, df, lt, dr, ad, fc, re, cs, cv, cx, le, lc, upd tp x.toNatClampNeg 3, pn, an, kd, mn, sn, vl, rs, er, ev)) : wpX_compareAndSwap post (nc, nt, gp, tc, ep, tr, df, lt, dr, ad, fc, re, cs, cv, cx, le, lc, tp, pn, an, kd, mn, sn, vl, rs, er, ev) x :=
  ⟨hv, br_t hk (br_f er_10 ⟨hv, br_f ht ⟨hv, nm_e hp⟩⟩)⟩
theorem xq_cas3 (hv : vp_in x 4) (hk : ¬ kd x.toNatClampNeg = 1) (ht : tc = mn x.toNatClampNeg) (hp : post (nc, nt, gp, sn x.toNatClampNeg, ep, tr, df, lt, dr, ad, fc, re, cs, cv, cx, le, lc, upd tp x.toNatClampNeg 7, pn, an, kd, mn, sn, vl, upd rs x.toNatClampNeg 1, er, ev)) : wpX_compareAndSwap post (nc, nt, gp, tc, ep, tr, df, lt, dr, ad, fc, re, cs, cv, cx, le, lc, tp, pn, an, kd, mn, sn, vl, rs, er, ev) x :=
  ⟨hv, br_f hk (br_t rfl ⟨hv, br_t ht (br_t rfl ⟨hv, hv, nm_e (br_t rfl ⟨hv, nm_e hp⟩)⟩)⟩)⟩
theorem xq_cas4 (hv : vp_in x 4) (hk : ¬ kd x.toNatClampNeg = 1) (ht : ¬ tc = mn x.toNatClampNeg) (hp : post (nc, nt, gp, tc, ep, tr, df, lt, dr, ad, fc, re, cs, cv, cx, le, lc, upd tp x.toNatClampNeg 3, pn, an, kd, mn, sn, vl, rs, er, ev)) : wpX_compareAndSwap post (nc, nt, gp, tc, ep, tr, df, lt, dr, ad, fc, re, cs, cv, cx, le, lc, tp, pn, an, kd, mn, sn, vl, rs, er, ev) x :=
  ⟨hv, br_f hk (br_t rfl ⟨hv, br_f ht ⟨hv, nm_e hp⟩⟩)⟩
/-! the list of an epoch: one number l below 3 -/
def er_l3 (x l : Int32) : Prop := (0 ≤ x - x / 3 * 3 ∧ l = x - x / 3 * 3) ∨ (¬ 0 ≤ x - x / 3 * 3 ∧ l = x - x / 3 * 3 + 3)
theorem er_l3_ex (x : Int32) : ∃ l, er_l3 x (nI l) ∧ l < 3 := by
  have h := er_m3 x
  by_cases g : 0 ≤ x - x / 3 * 3
  · obtain ⟨k, hk, e⟩ := h.2 (Int32.not_lt.mpr g)
    exact ⟨k, Or.inl ⟨g, e.symm⟩, hk⟩
  · obtain ⟨k, hk, e⟩ := h.1 (Int32.not_le.mp g)
    exact ⟨k, Or.inr ⟨g, e.symm⟩, hk⟩
theorem xq_listOf {q : Int32 → Prop} {l : Int32} (h : er_l3 x l) (hq : q l) : wpX_listOf q x := by
  rcases h with ⟨g, e⟩ | ⟨g, e⟩
  · subst e
    exact ⟨by decide, nm_e (br_t g hq)⟩
  · subst e
    exact ⟨by decide, nm_e (br_f g hq)⟩
theorem yq_mod3 {q : Int32 → Prop} {l : Int32} (h : er_l3 x l) (hq : q l) : wpY_mod3 q (nc, nt, gp, tc, ep, tr, df, lt, dr, ad, re, cs, cv, cx, le, lc, tp, pn, an, kd, mn, sn, vl, rs, er, ev) x := by
  rcases h with ⟨g, e⟩ | ⟨g, e⟩
  · subst e
    exact ⟨by decide, nm_e (br_t g hq)⟩
  · subst e
    exact ⟨by decide, nm_e (br_f g (nm_e hq))⟩
theorem xq_app1 {l : Int32} (hl : vp_in l 3) (hn : ¬ 32 ≤ lc l.toNatClampNeg) (hi : vp_in (l * 32 + lc l.toNatClampNeg) 96) (hp : post (nc, nt, gp, tc, ep, tr, df, lt, dr, ad, fc, re, cs, cv, cx, upd le (l * 32 + lc l.toNatClampNeg).toNatClampNeg y, upd lc l.toNatClampNeg (lc l.toNatClampNeg + 1), tp, pn, an, kd, mn, sn, vl, rs, er, ev)) : wpX_appendToLimbo post (nc, nt, gp, tc, ep, tr, df, lt, dr, ad, fc, re, cs, cv, cx, le, lc, tp, pn, an, kd, mn, sn, vl, rs, er, ev) l y :=
  ⟨hl, br_f hn ⟨hl, hi, nm_e ⟨hl, hl, nm_e hp⟩⟩⟩
theorem xq_app2 {l : Int32} (hl : vp_in l 3) (hn : 32 ≤ lc l.toNatClampNeg) (hp : post (nc, nt, gp, tc, ep, tr, df, lt, dr + 1, ad, fc, re, cs, cv, cx, le, lc, tp, pn, an, kd, mn, sn, vl, rs, er, ev)) : wpX_appendToLimbo post (nc, nt, gp, tc, ep, tr, df, lt, dr, ad, fc, re, cs, cv, cx, le, lc, tp, pn, an, kd, mn, sn, vl, rs, er, ev) l y :=
  ⟨hl, br_t hn (nm_e hp)⟩
/-! what becomes of the cell at RETIRE: s' is the states afterwards -/
def er_rt (nc : Int32) (cs : Nat → Int32) (y : Int32) (s' : Nat → Int32) : Prop := (¬ er_ir y nc ∧ s' = cs) ∨ (er_ir y nc ∧ vp_in y 32 ∧ ((cs y.toNatClampNeg = 1 ∧ s' = upd cs y.toNatClampNeg 2) ∨ (¬ cs y.toNatClampNeg = 1 ∧ s' = cs)))
theorem xq_ret1 {l : Int32} {s' : Nat → Int32} (hv : vp_in x 4) (hy : mn x.toNatClampNeg = y) (h3 : er_l3 (an x.toNatClampNeg) l) (hl : vp_in l 3) (hn : ¬ 32 ≤ lc l.toNatClampNeg) (hi : vp_in (l * 32 + lc l.toNatClampNeg) 96) (hs : er_rt nc cs y s')
    (hp : post (nc, nt, gp, tc, ep, tr, df, lt, dr, ad, fc, re + 1, s', cv, cx, upd le (l * 32 + lc l.toNatClampNeg).toNatClampNeg y, upd lc l.toNatClampNeg (lc l.toNatClampNeg + 1), upd tp x.toNatClampNeg 8, pn, an, kd, mn, sn, vl, rs, er, ev)) : wpX_retire post (nc, nt, gp, tc, ep, tr, df, lt, dr, ad, fc, re, cs, cv, cx, le, lc, tp, pn, an, kd, mn, sn, vl, rs, er, ev) x := by
  unfold wpX_retire
  refine ⟨hv, nm_r hy ⟨hv, xq_listOf h3 (xq_app1 hl hn hi ?_)⟩⟩
  rcases hs with ⟨g, e⟩ | ⟨g, w, ⟨g2, e⟩ | ⟨g2, e⟩⟩
  · subst e
    exact xq_C0 g (br_t rfl (nm_e ⟨hv, nm_e hp⟩))
  · subst e
    exact xq_C1 g (br_f er_10 ⟨w, br_t g2 ⟨w, nm_e (nm_e ⟨hv, nm_e hp⟩)⟩⟩)
  · subst e
    exact xq_C1 g (br_f er_10 ⟨w, br_f g2 (nm_e ⟨hv, nm_e hp⟩)⟩)
theorem xq_ret2 {l : Int32} {s' : Nat → Int32} (hv : vp_in x 4) (hy : mn x.toNatClampNeg = y) (h3 : er_l3 (an x.toNatClampNeg) l) (hl : vp_in l 3) (hn : 32 ≤ lc l.toNatClampNeg) (hs : er_rt nc cs y s')
    (hp : post (nc, nt, gp, tc, ep, tr, df, lt, dr + 1, ad, fc, re + 1, s', cv, cx, le, lc, upd tp x.toNatClampNeg 8, pn, an, kd, mn, sn, vl, rs, er, ev)) : wpX_retire post (nc, nt, gp, tc, ep, tr, df, lt, dr, ad, fc, re, cs, cv, cx, le, lc, tp, pn, an, kd, mn, sn, vl, rs, er, ev) x := by
  unfold wpX_retire
  refine ⟨hv, nm_r hy ⟨hv, xq_listOf h3 (xq_app2 hl hn ?_)⟩⟩
  rcases hs with ⟨g, e⟩ | ⟨g, w, ⟨g2, e⟩ | ⟨g2, e⟩⟩
  · subst e
    exact xq_C0 g (br_t rfl (nm_e ⟨hv, nm_e hp⟩))
  · subst e
    exact xq_C1 g (br_f er_10 ⟨w, br_t g2 ⟨w, nm_e (nm_e ⟨hv, nm_e hp⟩)⟩⟩)
  · subst e
    exact xq_C1 g (br_f er_10 ⟨w, br_f g2 (nm_e ⟨hv, nm_e hp⟩)⟩)
theorem xq_unpin (hv : vp_in x 4) (hp : post (nc, nt, gp, tc, ep, tr, df, lt, dr, ad, fc, re, cs, cv, cx, le, lc, upd tp x.toNatClampNeg 0, upd pn x.toNatClampNeg (vp_nar .boolean 0), an, kd, mn, sn, vl, rs, upd er x.toNatClampNeg (rs x.toNatClampNeg), upd ev x.toNatClampNeg (vl x.toNatClampNeg))) : wpX_unpin post (nc, nt, gp, tc, ep, tr, df, lt, dr, ad, fc, re, cs, cv, cx, le, lc, tp, pn, an, kd, mn, sn, vl, rs, er, ev) x :=
  ⟨hv, nm_e ⟨hv, hv, nm_e ⟨hv, hv, nm_e ⟨hv, nm_e hp⟩⟩⟩⟩
/-! the switch of executePhase -/
theorem xq_exec1 {u' : SX} (hv : vp_in x 4) (hk : tp x.toNatClampNeg = 1) (H : ∀ post : SX → Prop, post u' → wpX_pin post (nc, nt, gp, tc, ep, tr, df, lt, dr, ad, fc, re, cs, cv, cx, le, lc, tp, pn, an, kd, mn, sn, vl, rs, er, ev) x) (hp : post u') : wpX_executePhase post (nc, nt, gp, tc, ep, tr, df, lt, dr, ad, fc, re, cs, cv, cx, le, lc, tp, pn, an, kd, mn, sn, vl, rs, er, ev) x := by
  obtain ⟨a1, a2, a3, a4, a5, a6, a7, a8, a9, a10, a11, a12, a13, a14, a15, a16, a17, a18, a19, a20, a21, a22, a23, a24, a25, a26, a27⟩ := u'
  unfold wpX_executePhase
  exact ⟨hv, nm_r hk (br_f (by decide) (br_f (by decide) (br_t rfl (H _ hp))))⟩
theorem xq_exec2 {u' : SX} (hv : vp_in x 4) (hk : tp x.toNatClampNeg = 2) (H : ∀ post : SX → Prop, post u' → wpX_allocate post (nc, nt, gp, tc, ep, tr, df, lt, dr, ad, fc, re, cs, cv, cx, le, lc, tp, pn, an, kd, mn, sn, vl, rs, er, ev) x) (hp : post u') : wpX_executePhase post (nc, nt, gp, tc, ep, tr, df, lt, dr, ad, fc, re, cs, cv, cx, le, lc, tp, pn, an, kd, mn, sn, vl, rs, er, ev) x := by
  obtain ⟨a1, a2, a3, a4, a5, a6, a7, a8, a9, a10, a11, a12, a13, a14, a15, a16, a17, a18, a19, a20, a21, a22, a23, a24, a25, a26, a27⟩ := u'
  unfold wpX_executePhase
  exact ⟨hv, nm_r hk (br_f (by decide) (br_f (by decide) (br_f (by decide) (br_t rfl (H _ hp)))))⟩
theorem xq_exec3 {u' : SX} (hv : vp_in x 4) (hk : tp x.toNatClampNeg = 3) (H : ∀ post : SX → Prop, post u' → wpX_readTop post (nc, nt, gp, tc, ep, tr, df, lt, dr, ad, fc, re, cs, cv, cx, le, lc, tp, pn, an, kd, mn, sn, vl, rs, er, ev) x) (hp : post u') : wpX_executePhase post (nc, nt, gp, tc, ep, tr, df, lt, dr, ad, fc, re, cs, cv, cx, le, lc, tp, pn, an, kd, mn, sn, vl, rs, er, ev) x := by
  obtain ⟨a1, a2, a3, a4, a5, a6, a7, a8, a9, a10, a11, a12, a13, a14, a15, a16, a17, a18, a19, a20, a21, a22, a23, a24, a25, a26, a27⟩ := u'
  unfold wpX_executePhase
  exact ⟨hv, nm_r hk (br_f (by decide) (br_f (by decide) (br_f (by decide) (br_f (by decide) (br_t rfl (H _ hp))))))⟩
theorem xq_exec4 {u' : SX} (hv : vp_in x 4) (hk : tp x.toNatClampNeg = 4) (H : ∀ post : SX → Prop, post u' → wpX_link post (nc, nt, gp, tc, ep, tr, df, lt, dr, ad, fc, re, cs, cv, cx, le, lc, tp, pn, an, kd, mn, sn, vl, rs, er, ev) x) (hp : post u') : wpX_executePhase post (nc, nt, gp, tc, ep, tr, df, lt, dr, ad, fc, re, cs, cv, cx, le, lc, tp, pn, an, kd, mn, sn, vl, rs, er, ev) x := by
  obtain ⟨a1, a2, a3, a4, a5, a6, a7, a8, a9, a10, a11, a12, a13, a14, a15, a16, a17, a18, a19, a20, a21, a22, a23, a24, a25, a26, a27⟩ := u'
  unfold wpX_executePhase
  exact ⟨hv, nm_r hk (br_f (by decide) (br_f (by decide) (br_f (by decide) (br_f (by decide) (br_f (by decide) (br_t rfl (H _ hp)))))))⟩
theorem xq_exec5 {u' : SX} (hv : vp_in x 4) (hk : tp x.toNatClampNeg = 5) (H : ∀ post : SX → Prop, post u' → wpX_readCell post (nc, nt, gp, tc, ep, tr, df, lt, dr, ad, fc, re, cs, cv, cx, le, lc, tp, pn, an, kd, mn, sn, vl, rs, er, ev) x) (hp : post u') : wpX_executePhase post (nc, nt, gp, tc, ep, tr, df, lt, dr, ad, fc, re, cs, cv, cx, le, lc, tp, pn, an, kd, mn, sn, vl, rs, er, ev) x := by
  obtain ⟨a1, a2, a3, a4, a5, a6, a7, a8, a9, a10, a11, a12, a13, a14, a15, a16, a17, a18, a19, a20, a21, a22, a23, a24, a25, a26, a27⟩ := u'
  unfold wpX_executePhase
  exact ⟨hv, nm_r hk (br_f (by decide) (br_f (by decide) (br_f (by decide) (br_f (by decide) (br_f (by decide) (br_f (by decide) (br_t rfl (H _ hp))))))))⟩
theorem xq_exec6 {u' : SX} (hv : vp_in x 4) (hk : tp x.toNatClampNeg = 6) (H : ∀ post : SX → Prop, post u' → wpX_compareAndSwap post (nc, nt, gp, tc, ep, tr, df, lt, dr, ad, fc, re, cs, cv, cx, le, lc, tp, pn, an, kd, mn, sn, vl, rs, er, ev) x) (hp : post u') : wpX_executePhase post (nc, nt, gp, tc, ep, tr, df, lt, dr, ad, fc, re, cs, cv, cx, le, lc, tp, pn, an, kd, mn, sn, vl, rs, er, ev) x := by
  obtain ⟨a1, a2, a3, a4, a5, a6, a7, a8, a9, a10, a11, a12, a13, a14, a15, a16, a17, a18, a19, a20, a21, a22, a23, a24, a25, a26, a27⟩ := u'
  unfold wpX_executePhase
  exact ⟨hv, nm_r hk (br_f (by decide) (br_f (by decide) (br_f (by decide) (br_f (by decide) (br_f (by decide) (br_f (by decide) (br_f (by decide) (br_t rfl (H _ hp)))))))))⟩
theorem xq_exec7 {u' : SX} (hv : vp_in x 4) (hk : tp x.toNatClampNeg = 7) (H : ∀ post : SX → Prop, post u' → wpX_retire post (nc, nt, gp, tc, ep, tr, df, lt, dr, ad, fc, re, cs, cv, cx, le, lc, tp, pn, an, kd, mn, sn, vl, rs, er, ev) x) (hp : post u') : wpX_executePhase post (nc, nt, gp, tc, ep, tr, df, lt, dr, ad, fc, re, cs, cv, cx, le, lc, tp, pn, an, kd, mn, sn, vl, rs, er, ev) x := by
  obtain ⟨a1, a2, a3, a4, a5, a6, a7, a8, a9, a10, a11, a12, a13, a14, a15, a16, a17, a18, a19, a20, a21, a22, a23, a24, a25, a26, a27⟩ := u'
  unfold wpX_executePhase
  exact ⟨hv, nm_r hk (br_f (by decide) (br_f (by decide) (br_f (by decide) (br_f (by decide) (br_f (by decide) (br_f (by decide) (br_f (by decide) (br_f (by decide) (br_t rfl (H _ hp))))))))))⟩
theorem xq_exec8 {u' : SX} (hv : vp_in x 4) (hk : tp x.toNatClampNeg = 8) (H : ∀ post : SX → Prop, post u' → wpX_unpin post (nc, nt, gp, tc, ep, tr, df, lt, dr, ad, fc, re, cs, cv, cx, le, lc, tp, pn, an, kd, mn, sn, vl, rs, er, ev) x) (hp : post u') : wpX_executePhase post (nc, nt, gp, tc, ep, tr, df, lt, dr, ad, fc, re, cs, cv, cx, le, lc, tp, pn, an, kd, mn, sn, vl, rs, er, ev) x := by
  obtain ⟨a1, a2, a3, a4, a5, a6, a7, a8, a9, a10, a11, a12, a13, a14, a15, a16, a17, a18, a19, a20, a21, a22, a23, a24, a25, a26, a27⟩ := u'
  unfold wpX_executePhase
  exact ⟨hv, nm_r hk (br_f (by decide) (br_f (by decide) (br_f (by decide) (br_f (by decide) (br_f (by decide) (br_f (by decide) (br_f (by decide) (br_f (by decide) (br_f (by decide) (br_t rfl (H _ hp)))))))))))⟩
end
end
section
/-! the reference's step, a case at a time, each with a general post; it answers the phase -/
section
variable {nc nt gp tc ep tr df lt dr ad fc re : Int32} {cs cv cx le lc tp pn an kd mn sn vl rs er ev : Nat → Int32}
variable {x y : Int32} {post : Int32 → SY → Prop}
theorem yq_acc1 {q : SY → Prop} (hc : er_ir y nc) (hw : vp_in y 32) (h0 : cs y.toNatClampNeg = 0) (hp : q (nc, nt, gp, tc, ep, tr + 1, df, y, dr, ad, re, cs, cv, cx, le, lc, tp, pn, an, kd, mn, sn, vl, rs, er, ev)) : wpY_access q (nc, nt, gp, tc, ep, tr, df, lt, dr, ad, re, cs, cv, cx, le, lc, tp, pn, an, kd, mn, sn, vl, rs, er, ev) y := by
  unfold wpY_access
  exact yq_C1 hc (br_f er_10 ⟨hw, br_t h0 (nm_e hp)⟩)
theorem yq_acc2 {q : SY → Prop} (hc : er_ir y nc) (hw : vp_in y 32) (h0 : ¬ cs y.toNatClampNeg = 0) (hp : q (nc, nt, gp, tc, ep, tr, df, lt, dr, ad, re, cs, cv, cx, le, lc, tp, pn, an, kd, mn, sn, vl, rs, er, ev)) : wpY_access q (nc, nt, gp, tc, ep, tr, df, lt, dr, ad, re, cs, cv, cx, le, lc, tp, pn, an, kd, mn, sn, vl, rs, er, ev) y := by
  unfold wpY_access
  exact yq_C1 hc (br_f er_10 ⟨hw, br_f h0 hp⟩)
theorem yq_acc0 {q : SY → Prop} (hc : ¬ er_ir y nc) (hp : q (nc, nt, gp, tc, ep, tr, df, lt, dr, ad, re, cs, cv, cx, le, lc, tp, pn, an, kd, mn, sn, vl, rs, er, ev)) : wpY_access q (nc, nt, gp, tc, ep, tr, df, lt, dr, ad, re, cs, cv, cx, le, lc, tp, pn, an, kd, mn, sn, vl, rs, er, ev) y := by
  unfold wpY_access
  exact yq_C0 hc (br_t rfl hp)
theorem yq_stepP (h : er_ir x nt) (hv : vp_in x 4) (h0 : ¬ tp x.toNatClampNeg = 0) (hk : kd x.toNatClampNeg = 1) (H : wY_step_41 post x (tp x.toNatClampNeg) 1 nc nt gp tc ep tr df lt dr ad re cs cv cx le lc tp pn an kd mn sn vl rs er ev) : wpY_step post (nc, nt, gp, tc, ep, tr, df, lt, dr, ad, re, cs, cv, cx, le, lc, tp, pn, an, kd, mn, sn, vl, rs, er, ev) x := by
  unfold wpY_step
  exact yq_T1 h (br_f er_10 ⟨hv, br_f h0 ⟨hv, nm_e ⟨hv, br_t hk H⟩⟩⟩)
theorem yq_stepQ (h : er_ir x nt) (hv : vp_in x 4) (h0 : ¬ tp x.toNatClampNeg = 0) (hk : ¬ kd x.toNatClampNeg = 1) (H : wY_step_41 post x (tp x.toNatClampNeg) 0 nc nt gp tc ep tr df lt dr ad re cs cv cx le lc tp pn an kd mn sn vl rs er ev) : wpY_step post (nc, nt, gp, tc, ep, tr, df, lt, dr, ad, re, cs, cv, cx, le, lc, tp, pn, an, kd, mn, sn, vl, rs, er, ev) x := by
  unfold wpY_step
  exact yq_T1 h (br_f er_10 ⟨hv, br_f h0 ⟨hv, nm_e ⟨hv, br_f hk H⟩⟩⟩)
theorem yq_stepN (h : ¬ er_ir x nt) (hp : post 0 (nc, nt, gp, tc, ep, tr, df, lt, dr, ad, re, cs, cv, cx, le, lc, tp, pn, an, kd, mn, sn, vl, rs, er, ev)) : wpY_step post (nc, nt, gp, tc, ep, tr, df, lt, dr, ad, re, cs, cv, cx, le, lc, tp, pn, an, kd, mn, sn, vl, rs, er, ev) x := by
  unfold wpY_step
  exact yq_T0 h (br_t rfl hp)
theorem yq_step0 (h : er_ir x nt) (hv : vp_in x 4) (h0 : tp x.toNatClampNeg = 0) (hp : post 0 (nc, nt, gp, tc, ep, tr, df, lt, dr, ad, re, cs, cv, cx, le, lc, tp, pn, an, kd, mn, sn, vl, rs, er, ev)) : wpY_step post (nc, nt, gp, tc, ep, tr, df, lt, dr, ad, re, cs, cv, cx, le, lc, tp, pn, an, kd, mn, sn, vl, rs, er, ev) x := by
  unfold wpY_step
  exact yq_T1 h (br_f er_10 ⟨hv, br_t h0 hp⟩)
/-! over the kind: the answer does not look at it -/
theorem yq_stepZ (h : er_ir x nt) (hv : vp_in x 4) (h0 : ¬ tp x.toNatClampNeg = 0) (H : ∀ z, wY_step_41 post x (tp x.toNatClampNeg) z nc nt gp tc ep tr df lt dr ad re cs cv cx le lc tp pn an kd mn sn vl rs er ev) : wpY_step post (nc, nt, gp, tc, ep, tr, df, lt, dr, ad, re, cs, cv, cx, le, lc, tp, pn, an, kd, mn, sn, vl, rs, er, ev) x := by
  by_cases hk : kd x.toNatClampNeg = 1
  · exact yq_stepP h hv h0 hk (H 1)
  · exact yq_stepQ h hv h0 hk (H 0)
theorem yq_1a {z p : Int32} (hv : vp_in x 4) (e : p = 1) (hz : ¬ z = 0) (hp : post p (nc, nt, gp, tc, ep, tr, df, lt, dr, ad, re, cs, cv, cx, le, lc, upd tp x.toNatClampNeg 2, upd pn x.toNatClampNeg (vp_nar .boolean 1), upd an x.toNatClampNeg ep, kd, mn, sn, vl, rs, er, ev)) : wY_step_41 post x p z nc nt gp tc ep tr df lt dr ad re cs cv cx le lc tp pn an kd mn sn vl rs er ev :=
  br_t e ⟨hv, nm_e ⟨hv, nm_e (br_f hz ⟨hv, nm_e hp⟩)⟩⟩
theorem yq_1b {z p : Int32} (hv : vp_in x 4) (e : p = 1) (hz : z = 0) (hp : post p (nc, nt, gp, tc, ep, tr, df, lt, dr, ad, re, cs, cv, cx, le, lc, upd tp x.toNatClampNeg 3, upd pn x.toNatClampNeg (vp_nar .boolean 1), upd an x.toNatClampNeg ep, kd, mn, sn, vl, rs, er, ev)) : wY_step_41 post x p z nc nt gp tc ep tr df lt dr ad re cs cv cx le lc tp pn an kd mn sn vl rs er ev :=
  br_t e ⟨hv, nm_e ⟨hv, nm_e (br_t hz ⟨hv, nm_e hp⟩)⟩⟩
/-! the reference's scan for the lowest FREE cell, downwards -/
theorem yq_down {C c : Nat} {p : Int32} (hC : C ≤ 32) (hc : c ≤ C) (hn : ∀ j, j < c → ¬ cs j = 0)
    (H : ∀ n, wY_step_98 post x p (nI C) nt gp tc ep tr df lt dr ad re cs cv cx le lc tp pn an kd mn sn vl rs er ev (n + 1) (if c = C then -1 else nI c) (-1)) :
    ∀ i, i ≤ c → ∀ m, wY_step_98 post x p (nI C) nt gp tc ep tr df lt dr ad re cs cv cx le lc tp pn an kd mn sn vl rs er ev (i + 1 + m) (if c = C then -1 else nI c) (nI i + (-1)) := by
  intro i
  induction i with
  | zero =>
    intro _ m
    rw [show 0 + 1 + m = m + 1 from by omega, nI_0, show (0 : Int32) + (-1) = -1 from by decide]
    exact H m
  | succ i ih =>
    intro hi m
    rw [pk_m1, show i + 1 + 1 + m = (i + 1 + m) + 1 from by omega]
    exact br_f (nI_pos (by omega)) ⟨vp_in_nI (by omega) (by omega), br_f (by rw [nI_clamp (by omega)]; exact hn i (by omega)) (nm_e (ih (by omega) m))⟩
/-- from the last cell down to the lowest FREE one -/
theorem yq_down2 {C c : Nat} {p : Int32} (hC : C ≤ 32) (hc : c < C) (h0 : cs c = 0) (hn : ∀ j, j < c → ¬ cs j = 0)
    (H : ∀ n, wY_step_98 post x p (nI C) nt gp tc ep tr df lt dr ad re cs cv cx le lc tp pn an kd mn sn vl rs er ev (n + 1) (nI c) (-1)) :
    ∀ d i, i = c + 1 + d → i ≤ C → ∀ z m, wY_step_98 post x p (nI C) nt gp tc ep tr df lt dr ad re cs cv cx le lc tp pn an kd mn sn vl rs er ev (i + 1 + m) z (nI i + (-1)) := by
  intro d
  induction d with
  | zero =>
    intro i hi hiC z m
    subst hi
    rw [show c + 1 + 0 = c + 1 from rfl, pk_m1, show c + 1 + 1 + m = (c + 1 + m) + 1 from by omega]
    have K := yq_down (C := C) (c := c) (p := p) (post := post) (x := x) hC (by omega) hn (by rw [if_neg (by omega)]; exact H) c (Nat.le_refl c) m
    rw [if_neg (by omega)] at K
    exact br_f (nI_pos (by omega)) ⟨vp_in_nI (by omega) (by omega), br_t (by rw [nI_clamp (by omega)]; exact h0) (nm_e K)⟩
  | succ d ih =>
    intro i hi hiC z m
    obtain ⟨j, rfl⟩ : ∃ j, i = j + 1 := ⟨i - 1, by omega⟩
    rw [pk_m1, show j + 1 + 1 + m = (j + 1 + m) + 1 from by omega]
    refine br_f (nI_pos (by omega)) ⟨vp_in_nI (by omega) (by omega), br_c (fun _ => nm_e ?_) (fun _ => nm_e ?_)⟩
    · exact ih j (by omega) (by omega) (nI j) m
    · exact ih j (by omega) (by omega) z m
theorem yq_2a {C : Nat} {z p : Int32} (hv : vp_in x 4) (n1 : ¬ p = 1) (e : p = 2) (hC : C ≤ 32) (hn : ∀ j, j < C → ¬ cs j = 0)
    (hp : post p (nI C, nt, gp, tc, ep, tr, df, lt, dr, ad, re, cs, cv, cx, le, lc, upd tp x.toNatClampNeg 8, pn, an, kd, mn, sn, vl, upd rs x.toNatClampNeg 3, er, ev)) : wY_step_41 post x p z (nI C) nt gp tc ep tr df lt dr ad re cs cv cx le lc tp pn an kd mn sn vl rs er ev := by
  refine br_f n1 (br_t e (nm_e ⟨C + 1 + 0, ?_⟩))
  rw [show nI C - 1 = nI C + (-1) from Int32.sub_eq_add_neg _ _]
  have K := yq_down (C := C) (c := C) (p := p) (post := post) (x := x) hC (Nat.le_refl C) hn
    (by rw [if_pos rfl]; exact fun n => br_t (by decide) (br_t rfl ⟨hv, nm_e ⟨hv, nm_e hp⟩⟩)) C (Nat.le_refl C) 0
  rw [if_pos rfl] at K
  exact K
theorem yq_2b {C c : Nat} {z p : Int32} (hv : vp_in x 4) (n1 : ¬ p = 1) (e : p = 2) (hC : C ≤ 32) (hc : c < C) (h0 : cs c = 0) (hn : ∀ j, j < c → ¬ cs j = 0)
    (hp : post p (nI C, nt, gp, tc, ep, tr, df, lt, dr, ad, re, upd cs (nI c).toNatClampNeg 1, upd cv (nI c).toNatClampNeg (vl x.toNatClampNeg), upd cx (nI c).toNatClampNeg (-1), le, lc, upd tp x.toNatClampNeg 3, pn, an, kd, upd mn x.toNatClampNeg (nI c), sn, vl, rs, er, ev)) : wY_step_41 post x p z (nI C) nt gp tc ep tr df lt dr ad re cs cv cx le lc tp pn an kd mn sn vl rs er ev := by
  have w : vp_in (nI c) 32 := vp_in_nI (by omega) (by omega)
  refine br_f n1 (br_t e (nm_e ⟨C + 1 + 0, ?_⟩))
  rw [show nI C - 1 = nI C + (-1) from Int32.sub_eq_add_neg _ _]
  exact yq_down2 hC hc h0 hn (fun n => br_t (by decide) (br_f (er_nm1 (by omega)) ⟨w, nm_e ⟨hv, w, nm_e ⟨w, nm_e ⟨hv, nm_e ⟨hv, nm_e hp⟩⟩⟩⟩⟩)) (C - c - 1) C (by omega) (Nat.le_refl C) (-1) 0
theorem yq_3a {z p : Int32} (hv : vp_in x 4) (n1 : ¬ p = 1) (n2 : ¬ p = 2) (e : p = 3) (hz : ¬ z = 0) (hp : post p (nc, nt, gp, tc, ep, tr, df, lt, dr, ad, re, cs, cv, cx, le, lc, upd tp x.toNatClampNeg 4, pn, an, kd, mn, upd sn x.toNatClampNeg tc, vl, rs, er, ev)) : wY_step_41 post x p z nc nt gp tc ep tr df lt dr ad re cs cv cx le lc tp pn an kd mn sn vl rs er ev :=
  br_f n1 (br_f n2 (br_t e (br_f hz ⟨hv, nm_e ⟨hv, nm_e hp⟩⟩)))
theorem yq_3b {z p : Int32} (hv : vp_in x 4) (n1 : ¬ p = 1) (n2 : ¬ p = 2) (e : p = 3) (hz : z = 0) (ht : tc = -1) (hp : post p (nc, nt, gp, tc, ep, tr, df, lt, dr, ad, re, cs, cv, cx, le, lc, upd tp x.toNatClampNeg 8, pn, an, kd, upd mn x.toNatClampNeg tc, sn, upd vl x.toNatClampNeg 0, upd rs x.toNatClampNeg 2, er, ev)) : wY_step_41 post x p z nc nt gp tc ep tr df lt dr ad re cs cv cx le lc tp pn an kd mn sn vl rs er ev :=
  br_f n1 (br_f n2 (br_t e (br_t hz ⟨hv, nm_e (br_t ht ⟨hv, nm_e ⟨hv, nm_e ⟨hv, nm_e hp⟩⟩⟩)⟩)))
theorem yq_3c {z p : Int32} (hv : vp_in x 4) (n1 : ¬ p = 1) (n2 : ¬ p = 2) (e : p = 3) (hz : z = 0) (ht : ¬ tc = -1) (hp : post p (nc, nt, gp, tc, ep, tr, df, lt, dr, ad, re, cs, cv, cx, le, lc, upd tp x.toNatClampNeg 5, pn, an, kd, upd mn x.toNatClampNeg tc, sn, vl, rs, er, ev)) : wY_step_41 post x p z nc nt gp tc ep tr df lt dr ad re cs cv cx le lc tp pn an kd mn sn vl rs er ev :=
  br_f n1 (br_f n2 (br_t e (br_t hz ⟨hv, nm_e (br_f ht ⟨hv, nm_e hp⟩)⟩)))
theorem yq_4a {z p : Int32} (hv : vp_in x 4) (n1 : ¬ p = 1) (n2 : ¬ p = 2) (n3 : ¬ p = 3) (e : p = 4) (hy : mn x.toNatClampNeg = y) (hc : ¬ er_ir y nc) (hp : post p (nc, nt, gp, tc, ep, tr, df, lt, dr, ad, re, cs, cv, cx, le, lc, upd tp x.toNatClampNeg 6, pn, an, kd, mn, sn, vl, rs, er, ev)) : wY_step_41 post x p z nc nt gp tc ep tr df lt dr ad re cs cv cx le lc tp pn an kd mn sn vl rs er ev :=
  br_f n1 (br_f n2 (br_f n3 (br_t e ⟨hv, nm_r hy (yq_acc0 hc (yq_C0 hc (br_t rfl ⟨hv, nm_e hp⟩)))⟩)))
theorem yq_4b {z p : Int32} (hv : vp_in x 4) (n1 : ¬ p = 1) (n2 : ¬ p = 2) (n3 : ¬ p = 3) (e : p = 4) (hy : mn x.toNatClampNeg = y) (hc : er_ir y nc) (hw : vp_in y 32) (h0 : cs y.toNatClampNeg = 0) (hp : post p (nc, nt, gp, tc, ep, tr + 1, df, y, dr, ad, re, cs, cv, upd cx y.toNatClampNeg (sn x.toNatClampNeg), le, lc, upd tp x.toNatClampNeg 6, pn, an, kd, mn, sn, vl, rs, er, ev)) : wY_step_41 post x p z nc nt gp tc ep tr df lt dr ad re cs cv cx le lc tp pn an kd mn sn vl rs er ev :=
  br_f n1 (br_f n2 (br_f n3 (br_t e ⟨hv, nm_r hy (yq_acc1 hc hw h0 (yq_C1 hc (br_f er_10 ⟨hv, hw, nm_e ⟨hv, nm_e hp⟩⟩)))⟩)))
theorem yq_4c {z p : Int32} (hv : vp_in x 4) (n1 : ¬ p = 1) (n2 : ¬ p = 2) (n3 : ¬ p = 3) (e : p = 4) (hy : mn x.toNatClampNeg = y) (hc : er_ir y nc) (hw : vp_in y 32) (h0 : ¬ cs y.toNatClampNeg = 0) (hp : post p (nc, nt, gp, tc, ep, tr, df, lt, dr, ad, re, cs, cv, upd cx y.toNatClampNeg (sn x.toNatClampNeg), le, lc, upd tp x.toNatClampNeg 6, pn, an, kd, mn, sn, vl, rs, er, ev)) : wY_step_41 post x p z nc nt gp tc ep tr df lt dr ad re cs cv cx le lc tp pn an kd mn sn vl rs er ev :=
  br_f n1 (br_f n2 (br_f n3 (br_t e ⟨hv, nm_r hy (yq_acc2 hc hw h0 (yq_C1 hc (br_f er_10 ⟨hv, hw, nm_e ⟨hv, nm_e hp⟩⟩)))⟩)))
theorem yq_5a {z p : Int32} (hv : vp_in x 4) (n1 : ¬ p = 1) (n2 : ¬ p = 2) (n3 : ¬ p = 3) (n4 : ¬ p = 4) (e : p = 5) (hy : mn x.toNatClampNeg = y) (hc : ¬ er_ir y nc) (hp : post p (nc, nt, gp, tc, ep, tr, df, lt, dr, ad, re, cs, cv, cx, le, lc, upd tp x.toNatClampNeg 6, pn, an, kd, mn, sn, vl, rs, er, ev)) : wY_step_41 post x p z nc nt gp tc ep tr df lt dr ad re cs cv cx le lc tp pn an kd mn sn vl rs er ev :=
  br_f n1 (br_f n2 (br_f n3 (br_f n4 (br_t e ⟨hv, nm_r hy (yq_acc0 hc (yq_C0 hc (br_t rfl ⟨hv, nm_e hp⟩)))⟩))))
theorem yq_5b {z p : Int32} (hv : vp_in x 4) (n1 : ¬ p = 1) (n2 : ¬ p = 2) (n3 : ¬ p = 3) (n4 : ¬ p = 4) (e : p = 5) (hy : mn x.toNatClampNeg = y) (hc : er_ir y nc) (hw : vp_in y 32) (h0 : cs y.toNatClampNeg = 0) (hp : post p (nc, nt, gp, tc, ep, tr + 1, df, y, dr, ad, re, cs, cv, cx, le, lc, upd tp x.toNatClampNeg 6, pn, an, kd, mn, upd sn x.toNatClampNeg (cx y.toNatClampNeg), upd vl x.toNatClampNeg (cv y.toNatClampNeg), rs, er, ev)) : wY_step_41 post x p z nc nt gp tc ep tr df lt dr ad re cs cv cx le lc tp pn an kd mn sn vl rs er ev :=
  br_f n1 (br_f n2 (br_f n3 (br_f n4 (br_t e ⟨hv, nm_r hy (yq_acc1 hc hw h0 (yq_C1 hc (br_f er_10 ⟨hw, hv, nm_e ⟨hw, hv, nm_e ⟨hv, nm_e hp⟩⟩⟩)))⟩))))
theorem yq_5c {z p : Int32} (hv : vp_in x 4) (n1 : ¬ p = 1) (n2 : ¬ p = 2) (n3 : ¬ p = 3) (n4 : ¬ p = 4) (e : p = 5) (hy : mn x.toNatClampNeg = y) (hc : er_ir y nc) (hw : vp_in y 32) (h0 : ¬ cs y.toNatClampNeg = 0) (hp : post p (nc, nt, gp, tc, ep, tr, df, lt, dr, ad, re, cs, cv, cx, le, lc, upd tp x.toNatClampNeg 6, pn, an, kd, mn, upd sn x.toNatClampNeg (cx y.toNatClampNeg), upd vl x.toNatClampNeg (cv y.toNatClampNeg), rs, er, ev)) : wY_step_41 post x p z nc nt gp tc ep tr df lt dr ad re cs cv cx le lc tp pn an kd mn sn vl rs er ev :=
  br_f n1 (br_f n2 (br_f n3 (br_f n4 (br_t e ⟨hv, nm_r hy (yq_acc2 hc hw h0 (yq_C1 hc (br_f er_10 ⟨hw, hv, nm_e ⟨hw, hv, nm_e ⟨hv, nm_e hp⟩⟩⟩)))⟩))))
theorem yq_6a {z p : Int32} (hv : vp_in x 4) (n1 : ¬ p = 1) (n2 : ¬ p = 2) (n3 : ¬ p = 3) (n4 : ¬ p = 4) (n5 : ¬ p = 5) (e : p = 6) (hz : ¬ z = 0) (ht : tc = sn x.toNatClampNeg) (hp : post p (nc, nt, gp, mn x.toNatClampNeg, ep, tr, df, lt, dr, ad, re, cs, cv, cx, le, lc, upd tp x.toNatClampNeg 8, pn, an, kd, mn, sn, vl, upd rs x.toNatClampNeg 1, er, ev)) : wY_step_41 post x p z nc nt gp tc ep tr df lt dr ad re cs cv cx le lc tp pn an kd mn sn vl rs er ev :=
  br_f n1 (br_f n2 (br_f n3 (br_f n4 (br_f n5 (br_t e (br_f hz ⟨hv, br_t ht ⟨hv, nm_e ⟨hv, nm_e ⟨hv, nm_e hp⟩⟩⟩⟩))))))
theorem yq_6b {z p : Int32} (hv : vp_in x 4) (n1 : ¬ p = 1) (n2 : ¬ p = 2) (n3 : ¬ p = 3) (n4 : ¬ p = 4) (n5 : ¬ p = 5) (e : p = 6) (hz : ¬ z = 0) (ht : ¬ tc = sn x.toNatClampNeg) (hp : post p (nc, nt, gp, tc, ep, tr, df, lt, dr, ad, re, cs, cv, cx, le, lc, upd tp x.toNatClampNeg 3, pn, an, kd, mn, sn, vl, rs, er, ev)) : wY_step_41 post x p z nc nt gp tc ep tr df lt dr ad re cs cv cx le lc tp pn an kd mn sn vl rs er ev :=
  br_f n1 (br_f n2 (br_f n3 (br_f n4 (br_f n5 (br_t e (br_f hz ⟨hv, br_f ht ⟨hv, nm_e hp⟩⟩))))))
theorem yq_6c {z p : Int32} (hv : vp_in x 4) (n1 : ¬ p = 1) (n2 : ¬ p = 2) (n3 : ¬ p = 3) (n4 : ¬ p = 4) (n5 : ¬ p = 5) (e : p = 6) (hz : z = 0) (ht : tc = mn x.toNatClampNeg) (hp : post p (nc, nt, gp, sn x.toNatClampNeg, ep, tr, df, lt, dr, ad, re, cs, cv, cx, le, lc, upd tp x.toNatClampNeg 7, pn, an, kd, mn, sn, vl, upd rs x.toNatClampNeg 1, er, ev)) : wY_step_41 post x p z nc nt gp tc ep tr df lt dr ad re cs cv cx le lc tp pn an kd mn sn vl rs er ev :=
  br_f n1 (br_f n2 (br_f n3 (br_f n4 (br_f n5 (br_t e (br_t hz ⟨hv, br_t ht ⟨hv, nm_e ⟨hv, nm_e ⟨hv, nm_e hp⟩⟩⟩⟩))))))
theorem yq_6d {z p : Int32} (hv : vp_in x 4) (n1 : ¬ p = 1) (n2 : ¬ p = 2) (n3 : ¬ p = 3) (n4 : ¬ p = 4) (n5 : ¬ p = 5) (e : p = 6) (hz : z = 0) (ht : ¬ tc = mn x.toNatClampNeg) (hp : post p (nc, nt, gp, tc, ep, tr, df, lt, dr, ad, re, cs, cv, cx, le, lc, upd tp x.toNatClampNeg 3, pn, an, kd, mn, sn, vl, rs, er, ev)) : wY_step_41 post x p z nc nt gp tc ep tr df lt dr ad re cs cv cx le lc tp pn an kd mn sn vl rs er ev :=
  br_f n1 (br_f n2 (br_f n3 (br_f n4 (br_f n5 (br_t e (br_t hz ⟨hv, br_f ht ⟨hv, nm_e hp⟩⟩))))))
theorem yq_ret {s' : Nat → Int32} {p : Int32} (hv : vp_in x 4) (hy : mn x.toNatClampNeg = y) (hs : er_rt nc cs y s') (hp : post p (nc, nt, gp, tc, ep, tr, df, lt, dr, ad, re + 1, s', cv, cx, le, lc, upd tp x.toNatClampNeg 8, pn, an, kd, mn, sn, vl, rs, er, ev)) : wY_step_583 post x p nc nt gp tc ep tr df lt dr ad re cs cv cx le lc tp pn an kd mn sn vl rs er ev := by
  unfold wY_step_583
  refine ⟨hv, nm_r hy ?_⟩
  rcases hs with ⟨g, e⟩ | ⟨g, w, ⟨g2, e⟩ | ⟨g2, e⟩⟩
  · subst e
    exact yq_C0 g (br_t rfl (nm_e ⟨hv, nm_e hp⟩))
  · subst e
    exact yq_C1 g (br_f er_10 ⟨w, br_t g2 ⟨w, nm_e (nm_e ⟨hv, nm_e hp⟩)⟩⟩)
  · subst e
    exact yq_C1 g (br_f er_10 ⟨w, br_f g2 (nm_e ⟨hv, nm_e hp⟩)⟩)
theorem yq_7a {z p l : Int32} {s' : Nat → Int32} (hv : vp_in x 4) (n1 : ¬ p = 1) (n2 : ¬ p = 2) (n3 : ¬ p = 3) (n4 : ¬ p = 4) (n5 : ¬ p = 5) (n6 : ¬ p = 6) (e : p = 7) (hy : mn x.toNatClampNeg = y) (h3 : er_l3 (an x.toNatClampNeg) l) (hl : vp_in l 3) (hn : ¬ 32 ≤ lc l.toNatClampNeg) (hi : vp_in (l * 32 + lc l.toNatClampNeg) 96) (hs : er_rt nc cs y s')
    (hp : post p (nc, nt, gp, tc, ep, tr, df, lt, dr, ad, re + 1, s', cv, cx, upd le (l * 32 + lc l.toNatClampNeg).toNatClampNeg y, upd lc l.toNatClampNeg (lc l.toNatClampNeg + 1), upd tp x.toNatClampNeg 8, pn, an, kd, mn, sn, vl, rs, er, ev)) : wY_step_41 post x p z nc nt gp tc ep tr df lt dr ad re cs cv cx le lc tp pn an kd mn sn vl rs er ev := by
  refine br_f n1 (br_f n2 (br_f n3 (br_f n4 (br_f n5 (br_f n6 (br_t e ⟨hv, yq_mod3 h3 ⟨hl, br_f hn ⟨hl, hv, hi, nm_r (by rw [hy]) ⟨hl, hl, nm_e ?_⟩⟩⟩⟩))))))
  exact yq_ret hv hy hs hp
theorem yq_7b {z p l : Int32} {s' : Nat → Int32} (hv : vp_in x 4) (n1 : ¬ p = 1) (n2 : ¬ p = 2) (n3 : ¬ p = 3) (n4 : ¬ p = 4) (n5 : ¬ p = 5) (n6 : ¬ p = 6) (e : p = 7) (hy : mn x.toNatClampNeg = y) (h3 : er_l3 (an x.toNatClampNeg) l) (hl : vp_in l 3) (hn : 32 ≤ lc l.toNatClampNeg) (hs : er_rt nc cs y s')
    (hp : post p (nc, nt, gp, tc, ep, tr, df, lt, dr + 1, ad, re + 1, s', cv, cx, le, lc, upd tp x.toNatClampNeg 8, pn, an, kd, mn, sn, vl, rs, er, ev)) : wY_step_41 post x p z nc nt gp tc ep tr df lt dr ad re cs cv cx le lc tp pn an kd mn sn vl rs er ev := by
  refine br_f n1 (br_f n2 (br_f n3 (br_f n4 (br_f n5 (br_f n6 (br_t e ⟨hv, yq_mod3 h3 ⟨hl, br_t hn (nm_e ?_)⟩⟩))))))
  exact yq_ret hv hy hs hp
theorem yq_8a {z p : Int32} (hv : vp_in x 4) (n1 : ¬ p = 1) (n2 : ¬ p = 2) (n3 : ¬ p = 3) (n4 : ¬ p = 4) (n5 : ¬ p = 5) (n6 : ¬ p = 6) (n7 : ¬ p = 7) (hp : post p (nc, nt, gp, tc, ep, tr, df, lt, dr, ad, re, cs, cv, cx, le, lc, upd tp x.toNatClampNeg 0, upd pn x.toNatClampNeg (vp_nar .boolean 0), an, kd, mn, sn, vl, rs, upd er x.toNatClampNeg (rs x.toNatClampNeg), upd ev x.toNatClampNeg (vl x.toNatClampNeg))) : wY_step_41 post x p z nc nt gp tc ep tr df lt dr ad re cs cv cx le lc tp pn an kd mn sn vl rs er ev :=
  br_f n1 (br_f n2 (br_f n3 (br_f n4 (br_f n5 (br_f n6 (br_f n7 ⟨hv, nm_e ⟨hv, hv, nm_e ⟨hv, hv, nm_e ⟨hv, nm_e hp⟩⟩⟩⟩))))))
end
end
section
/-! the relation: every field and every array is one on both sides; freeCells is the number of FREE cells -/
def er_OK (C T : Nat) (lc tp : Nat → Int32) : Prop := 8 ≤ C ∧ C ≤ 32 ∧ 2 ≤ T ∧ T ≤ 4 ∧ (∀ t, t < T → ∃ p, p ≤ 8 ∧ tp t = nI p) ∧ (∀ k, k < 3 → ∃ n, n ≤ 32 ∧ lc k = nI n)
def er_R (C T : Nat) (u : SX) (v : SY) : Prop := ∃ (gp tc ep tr df lt dr ad re : Int32) (cs cv cx le lc tp pn an kd mn sn vl rs er ev : Nat → Int32), u = (nI C, nI T, gp, tc, ep, tr, df, lt, dr, ad, nI (er_cn cs C), re, cs, cv, cx, le, lc, tp, pn, an, kd, mn, sn, vl, rs, er, ev) ∧ v = (nI C, nI T, gp, tc, ep, tr, df, lt, dr, ad, re, cs, cv, cx, le, lc, tp, pn, an, kd, mn, sn, vl, rs, er, ev) ∧ er_OK C T lc tp
def i_Rel (_ : Nat) (u : SX) (v : SY) : Prop := ∃ C T, er_R C T u v
theorem i_up {k : Nat} {u : SX} {v : SY} (h : i_Rel k u v) : i_Rel (k + 3) u v := h
theorem er_okP {C T i q : Nat} {lc tp : Nat → Int32} {y : Int32} (h : er_OK C T lc tp) (hy : y = nI q) (hq : q ≤ 8) : er_OK C T lc (upd tp i y) := by
  obtain ⟨h1, h2, h3, h4, h5, h6⟩ := h
  refine ⟨h1, h2, h3, h4, fun t ht => ?_, h6⟩
  by_cases e : t = i
  · exact ⟨q, hq, by rw [e, pk_us]; exact hy⟩
  · rw [pk_un e]
    exact h5 t ht
theorem er_okL {C T i q : Nat} {lc tp : Nat → Int32} {y : Int32} (h : er_OK C T lc tp) (hy : y = nI q) (hq : q ≤ 32) : er_OK C T (upd lc i y) tp := by
  obtain ⟨h1, h2, h3, h4, h5, h6⟩ := h
  refine ⟨h1, h2, h3, h4, h5, fun t ht => ?_⟩
  by_cases e : t = i
  · exact ⟨q, hq, by rw [e, pk_us]; exact hy⟩
  · rw [pk_un e]
    exact h6 t ht
theorem er_rt_ex {C : Nat} (cs : Nat → Int32) (hC : C ≤ 32) (y : Int32) : ∃ s', er_rt (nI C) cs y s' ∧ er_cn s' C = er_cn cs C := by
  by_cases h : er_ir y (nI C)
  · obtain ⟨w, hc⟩ := er_ir_in hC (by omega) h
    by_cases g : cs y.toNatClampNeg = 1
    · exact ⟨upd cs y.toNatClampNeg 2, Or.inr ⟨h, w, Or.inl ⟨g, rfl⟩⟩, er_cn_same hc (by rw [g]; decide) (by decide)⟩
    · exact ⟨cs, Or.inr ⟨h, w, Or.inr ⟨g, rfl⟩⟩, rfl⟩
  · exact ⟨cs, Or.inl ⟨h, rfl⟩, rfl⟩
theorem er_vi {k i : Nat} (hk : k < 3) (hi : i < 32) : vp_in (nI k * 32 + nI i) 96 := by
  show vp_in (nI k * nI 32 + nI i) 96
  rw [pk_mul, nI_add]
  exact vp_in_nI (by omega) (by omega)
/-! one step of a busy thread, in lockstep -/
def er_LS (C T : Nat) (u : SX) (v : SY) (x p : Int32) : Prop := ∃ u' v', er_R C T u' v' ∧ (∀ post : SX → Prop, post u' → wpX_executePhase post u x) ∧ (∀ post : Int32 → SY → Prop, post p v' → wpY_step post v x)
section
variable {nc nt gp tc ep tr df lt dr ad fc re : Int32} {cs cv cx le lc tp pn an kd mn sn vl rs er ev : Nat → Int32}
variable {C T : Nat} {x : Int32}
theorem er_p1 (I : er_OK C T lc tp) (h : er_ir x (nI T)) (hv : vp_in x 4) (hp : tp x.toNatClampNeg = 1) : er_LS C T (nI C, nI T, gp, tc, ep, tr, df, lt, dr, ad, nI (er_cn cs C), re, cs, cv, cx, le, lc, tp, pn, an, kd, mn, sn, vl, rs, er, ev) (nI C, nI T, gp, tc, ep, tr, df, lt, dr, ad, re, cs, cv, cx, le, lc, tp, pn, an, kd, mn, sn, vl, rs, er, ev) x (tp x.toNatClampNeg) := by
  have h0 : ¬ tp x.toNatClampNeg = 0 := by rw [hp]; decide
  by_cases k : kd x.toNatClampNeg = 1
  · exact ⟨(nI C, nI T, gp, tc, ep, tr, df, lt, dr, ad, nI (er_cn cs C), re, cs, cv, cx, le, lc, upd tp x.toNatClampNeg 2, upd pn x.toNatClampNeg (vp_nar .boolean 1), upd an x.toNatClampNeg ep, kd, mn, sn, vl, rs, er, ev), (nI C, nI T, gp, tc, ep, tr, df, lt, dr, ad, re, cs, cv, cx, le, lc, upd tp x.toNatClampNeg 2, upd pn x.toNatClampNeg (vp_nar .boolean 1), upd an x.toNatClampNeg ep, kd, mn, sn, vl, rs, er, ev), ⟨_, _, _, _, _, _, _, _, _, _, _, _, _, _, _, _, _, _, _, _, _, _, _, _, rfl, rfl, er_okP (q := 2) I rfl (by decide)⟩, fun post hq => xq_exec1 hv hp (fun _ => xq_pin1 hv k) hq, fun post hq => yq_stepP h hv h0 k (yq_1a hv hp er_10 hq)⟩
  · exact ⟨(nI C, nI T, gp, tc, ep, tr, df, lt, dr, ad, nI (er_cn cs C), re, cs, cv, cx, le, lc, upd tp x.toNatClampNeg 3, upd pn x.toNatClampNeg (vp_nar .boolean 1), upd an x.toNatClampNeg ep, kd, mn, sn, vl, rs, er, ev), (nI C, nI T, gp, tc, ep, tr, df, lt, dr, ad, re, cs, cv, cx, le, lc, upd tp x.toNatClampNeg 3, upd pn x.toNatClampNeg (vp_nar .boolean 1), upd an x.toNatClampNeg ep, kd, mn, sn, vl, rs, er, ev), ⟨_, _, _, _, _, _, _, _, _, _, _, _, _, _, _, _, _, _, _, _, _, _, _, _, rfl, rfl, er_okP (q := 3) I rfl (by decide)⟩, fun post hq => xq_exec1 hv hp (fun _ => xq_pin2 hv k) hq, fun post hq => yq_stepQ h hv h0 k (yq_1b hv hp rfl hq)⟩
theorem er_p2 (I : er_OK C T lc tp) (h : er_ir x (nI T)) (hv : vp_in x 4) (hp : tp x.toNatClampNeg = 2) : er_LS C T (nI C, nI T, gp, tc, ep, tr, df, lt, dr, ad, nI (er_cn cs C), re, cs, cv, cx, le, lc, tp, pn, an, kd, mn, sn, vl, rs, er, ev) (nI C, nI T, gp, tc, ep, tr, df, lt, dr, ad, re, cs, cv, cx, le, lc, tp, pn, an, kd, mn, sn, vl, rs, er, ev) x (tp x.toNatClampNeg) := by
  have h0 : ¬ tp x.toNatClampNeg = 0 := by rw [hp]; decide
  have n1 : ¬ tp x.toNatClampNeg = 1 := by rw [hp]; decide
  have hC := I.2.1
  rcases er_least cs C with hn | ⟨c, hc, hz, hn⟩
  · exact ⟨(nI C, nI T, gp, tc, ep, tr, df, lt, dr, ad, nI (er_cn cs C), re, cs, cv, cx, le, lc, upd tp x.toNatClampNeg 8, pn, an, kd, mn, sn, vl, upd rs x.toNatClampNeg 3, er, ev), (nI C, nI T, gp, tc, ep, tr, df, lt, dr, ad, re, cs, cv, cx, le, lc, upd tp x.toNatClampNeg 8, pn, an, kd, mn, sn, vl, upd rs x.toNatClampNeg 3, er, ev), ⟨_, _, _, _, _, _, _, _, _, _, _, _, _, _, _, _, _, _, _, _, _, _, _, _, rfl, rfl, er_okP (q := 8) I rfl (by decide)⟩, fun post hq => xq_exec2 hv hp (fun _ => xq_alloc0 hv hC hn) hq, fun post hq => yq_stepZ h hv h0 (fun z => yq_2a hv n1 hp hC hn hq)⟩
  · have hf : nI (er_cn cs C) - 1 = nI (er_cn (upd cs (nI c).toNatClampNeg 1) C) := by
      rw [nI_clamp (by omega)]
      exact er_cn_dec' hc hz (by decide)
    exact ⟨(nI C, nI T, gp, tc, ep, tr, df, lt, dr, ad, nI (er_cn (upd cs (nI c).toNatClampNeg 1) C), re, upd cs (nI c).toNatClampNeg 1, upd cv (nI c).toNatClampNeg (vl x.toNatClampNeg), upd cx (nI c).toNatClampNeg (-1), le, lc, upd tp x.toNatClampNeg 3, pn, an, kd, upd mn x.toNatClampNeg (nI c), sn, vl, rs, er, ev), (nI C, nI T, gp, tc, ep, tr, df, lt, dr, ad, re, upd cs (nI c).toNatClampNeg 1, upd cv (nI c).toNatClampNeg (vl x.toNatClampNeg), upd cx (nI c).toNatClampNeg (-1), le, lc, upd tp x.toNatClampNeg 3, pn, an, kd, upd mn x.toNatClampNeg (nI c), sn, vl, rs, er, ev), ⟨_, _, _, _, _, _, _, _, _, _, _, _, _, _, _, _, _, _, _, _, _, _, _, _, rfl, rfl, er_okP (q := 3) I rfl (by decide)⟩, fun post hq => xq_exec2 hv hp (fun _ => xq_alloc1 hv hC hc hn hz hf) hq, fun post hq => yq_stepZ h hv h0 (fun z => yq_2b hv n1 hp hC hc hz hn hq)⟩
theorem er_p3 (I : er_OK C T lc tp) (h : er_ir x (nI T)) (hv : vp_in x 4) (hp : tp x.toNatClampNeg = 3) : er_LS C T (nI C, nI T, gp, tc, ep, tr, df, lt, dr, ad, nI (er_cn cs C), re, cs, cv, cx, le, lc, tp, pn, an, kd, mn, sn, vl, rs, er, ev) (nI C, nI T, gp, tc, ep, tr, df, lt, dr, ad, re, cs, cv, cx, le, lc, tp, pn, an, kd, mn, sn, vl, rs, er, ev) x (tp x.toNatClampNeg) := by
  have h0 : ¬ tp x.toNatClampNeg = 0 := by rw [hp]; decide
  have n1 : ¬ tp x.toNatClampNeg = 1 := by rw [hp]; decide
  have n2 : ¬ tp x.toNatClampNeg = 2 := by rw [hp]; decide
  by_cases k : kd x.toNatClampNeg = 1
  · exact ⟨(nI C, nI T, gp, tc, ep, tr, df, lt, dr, ad, nI (er_cn cs C), re, cs, cv, cx, le, lc, upd tp x.toNatClampNeg 4, pn, an, kd, mn, upd sn x.toNatClampNeg tc, vl, rs, er, ev), (nI C, nI T, gp, tc, ep, tr, df, lt, dr, ad, re, cs, cv, cx, le, lc, upd tp x.toNatClampNeg 4, pn, an, kd, mn, upd sn x.toNatClampNeg tc, vl, rs, er, ev), ⟨_, _, _, _, _, _, _, _, _, _, _, _, _, _, _, _, _, _, _, _, _, _, _, _, rfl, rfl, er_okP (q := 4) I rfl (by decide)⟩, fun post hq => xq_exec3 hv hp (fun _ => xq_top1 hv k) hq, fun post hq => yq_stepP h hv h0 k (yq_3a hv n1 n2 hp er_10 hq)⟩
  · by_cases g : tc = -1
    · exact ⟨(nI C, nI T, gp, tc, ep, tr, df, lt, dr, ad, nI (er_cn cs C), re, cs, cv, cx, le, lc, upd tp x.toNatClampNeg 8, pn, an, kd, upd mn x.toNatClampNeg tc, sn, upd vl x.toNatClampNeg 0, upd rs x.toNatClampNeg 2, er, ev), (nI C, nI T, gp, tc, ep, tr, df, lt, dr, ad, re, cs, cv, cx, le, lc, upd tp x.toNatClampNeg 8, pn, an, kd, upd mn x.toNatClampNeg tc, sn, upd vl x.toNatClampNeg 0, upd rs x.toNatClampNeg 2, er, ev), ⟨_, _, _, _, _, _, _, _, _, _, _, _, _, _, _, _, _, _, _, _, _, _, _, _, rfl, rfl, er_okP (q := 8) I rfl (by decide)⟩, fun post hq => xq_exec3 hv hp (fun _ => xq_top2 hv k g) hq, fun post hq => yq_stepQ h hv h0 k (yq_3b hv n1 n2 hp rfl g hq)⟩
    · exact ⟨(nI C, nI T, gp, tc, ep, tr, df, lt, dr, ad, nI (er_cn cs C), re, cs, cv, cx, le, lc, upd tp x.toNatClampNeg 5, pn, an, kd, upd mn x.toNatClampNeg tc, sn, vl, rs, er, ev), (nI C, nI T, gp, tc, ep, tr, df, lt, dr, ad, re, cs, cv, cx, le, lc, upd tp x.toNatClampNeg 5, pn, an, kd, upd mn x.toNatClampNeg tc, sn, vl, rs, er, ev), ⟨_, _, _, _, _, _, _, _, _, _, _, _, _, _, _, _, _, _, _, _, _, _, _, _, rfl, rfl, er_okP (q := 5) I rfl (by decide)⟩, fun post hq => xq_exec3 hv hp (fun _ => xq_top3 hv k g) hq, fun post hq => yq_stepQ h hv h0 k (yq_3c hv n1 n2 hp rfl g hq)⟩
theorem er_p4 (I : er_OK C T lc tp) (h : er_ir x (nI T)) (hv : vp_in x 4) (hp : tp x.toNatClampNeg = 4) : er_LS C T (nI C, nI T, gp, tc, ep, tr, df, lt, dr, ad, nI (er_cn cs C), re, cs, cv, cx, le, lc, tp, pn, an, kd, mn, sn, vl, rs, er, ev) (nI C, nI T, gp, tc, ep, tr, df, lt, dr, ad, re, cs, cv, cx, le, lc, tp, pn, an, kd, mn, sn, vl, rs, er, ev) x (tp x.toNatClampNeg) := by
  have h0 : ¬ tp x.toNatClampNeg = 0 := by rw [hp]; decide
  have n1 : ¬ tp x.toNatClampNeg = 1 := by rw [hp]; decide
  have n2 : ¬ tp x.toNatClampNeg = 2 := by rw [hp]; decide
  have n3 : ¬ tp x.toNatClampNeg = 3 := by rw [hp]; decide
  obtain ⟨y, hy⟩ : ∃ y, mn x.toNatClampNeg = y := ⟨_, rfl⟩
  by_cases c : er_ir y (nI C)
  · have w := (er_ir_in I.2.1 (by omega) c).1
    by_cases g : cs y.toNatClampNeg = 0
    · exact ⟨(nI C, nI T, gp, tc, ep, tr + 1, df, y, dr, ad, nI (er_cn cs C), re, cs, cv, upd cx y.toNatClampNeg (sn x.toNatClampNeg), le, lc, upd tp x.toNatClampNeg 6, pn, an, kd, mn, sn, vl, rs, er, ev), (nI C, nI T, gp, tc, ep, tr + 1, df, y, dr, ad, re, cs, cv, upd cx y.toNatClampNeg (sn x.toNatClampNeg), le, lc, upd tp x.toNatClampNeg 6, pn, an, kd, mn, sn, vl, rs, er, ev), ⟨_, _, _, _, _, _, _, _, _, _, _, _, _, _, _, _, _, _, _, _, _, _, _, _, rfl, rfl, er_okP (q := 6) I rfl (by decide)⟩, fun post hq => xq_exec4 hv hp (fun _ => xq_link1 hv hy c w g) hq, fun post hq => yq_stepZ h hv h0 (fun z => yq_4b hv n1 n2 n3 hp hy c w g hq)⟩
    · exact ⟨(nI C, nI T, gp, tc, ep, tr, df, lt, dr, ad, nI (er_cn cs C), re, cs, cv, upd cx y.toNatClampNeg (sn x.toNatClampNeg), le, lc, upd tp x.toNatClampNeg 6, pn, an, kd, mn, sn, vl, rs, er, ev), (nI C, nI T, gp, tc, ep, tr, df, lt, dr, ad, re, cs, cv, upd cx y.toNatClampNeg (sn x.toNatClampNeg), le, lc, upd tp x.toNatClampNeg 6, pn, an, kd, mn, sn, vl, rs, er, ev), ⟨_, _, _, _, _, _, _, _, _, _, _, _, _, _, _, _, _, _, _, _, _, _, _, _, rfl, rfl, er_okP (q := 6) I rfl (by decide)⟩, fun post hq => xq_exec4 hv hp (fun _ => xq_link2 hv hy c w g) hq, fun post hq => yq_stepZ h hv h0 (fun z => yq_4c hv n1 n2 n3 hp hy c w g hq)⟩
  · exact ⟨(nI C, nI T, gp, tc, ep, tr, df, lt, dr, ad, nI (er_cn cs C), re, cs, cv, cx, le, lc, upd tp x.toNatClampNeg 6, pn, an, kd, mn, sn, vl, rs, er, ev), (nI C, nI T, gp, tc, ep, tr, df, lt, dr, ad, re, cs, cv, cx, le, lc, upd tp x.toNatClampNeg 6, pn, an, kd, mn, sn, vl, rs, er, ev), ⟨_, _, _, _, _, _, _, _, _, _, _, _, _, _, _, _, _, _, _, _, _, _, _, _, rfl, rfl, er_okP (q := 6) I rfl (by decide)⟩, fun post hq => xq_exec4 hv hp (fun _ => xq_link0 hv hy c) hq, fun post hq => yq_stepZ h hv h0 (fun z => yq_4a hv n1 n2 n3 hp hy c hq)⟩
theorem er_p5 (I : er_OK C T lc tp) (h : er_ir x (nI T)) (hv : vp_in x 4) (hp : tp x.toNatClampNeg = 5) : er_LS C T (nI C, nI T, gp, tc, ep, tr, df, lt, dr, ad, nI (er_cn cs C), re, cs, cv, cx, le, lc, tp, pn, an, kd, mn, sn, vl, rs, er, ev) (nI C, nI T, gp, tc, ep, tr, df, lt, dr, ad, re, cs, cv, cx, le, lc, tp, pn, an, kd, mn, sn, vl, rs, er, ev) x (tp x.toNatClampNeg) := by
  have h0 : ¬ tp x.toNatClampNeg = 0 := by rw [hp]; decide
  have n1 : ¬ tp x.toNatClampNeg = 1 := by rw [hp]; decide
  have n2 : ¬ tp x.toNatClampNeg = 2 := by rw [hp]; decide
  have n3 : ¬ tp x.toNatClampNeg = 3 := by rw [hp]; decide
  have n4 : ¬ tp x.toNatClampNeg = 4 := by rw [hp]; decide
  obtain ⟨y, hy⟩ : ∃ y, mn x.toNatClampNeg = y := ⟨_, rfl⟩
  by_cases c : er_ir y (nI C)
  · have w := (er_ir_in I.2.1 (by omega) c).1
    by_cases g : cs y.toNatClampNeg = 0
    · exact ⟨(nI C, nI T, gp, tc, ep, tr + 1, df, y, dr, ad, nI (er_cn cs C), re, cs, cv, cx, le, lc, upd tp x.toNatClampNeg 6, pn, an, kd, mn, upd sn x.toNatClampNeg (cx y.toNatClampNeg), upd vl x.toNatClampNeg (cv y.toNatClampNeg), rs, er, ev), (nI C, nI T, gp, tc, ep, tr + 1, df, y, dr, ad, re, cs, cv, cx, le, lc, upd tp x.toNatClampNeg 6, pn, an, kd, mn, upd sn x.toNatClampNeg (cx y.toNatClampNeg), upd vl x.toNatClampNeg (cv y.toNatClampNeg), rs, er, ev), ⟨_, _, _, _, _, _, _, _, _, _, _, _, _, _, _, _, _, _, _, _, _, _, _, _, rfl, rfl, er_okP (q := 6) I rfl (by decide)⟩, fun post hq => xq_exec5 hv hp (fun _ => xq_read1 hv hy c w g) hq, fun post hq => yq_stepZ h hv h0 (fun z => yq_5b hv n1 n2 n3 n4 hp hy c w g hq)⟩
    · exact ⟨(nI C, nI T, gp, tc, ep, tr, df, lt, dr, ad, nI (er_cn cs C), re, cs, cv, cx, le, lc, upd tp x.toNatClampNeg 6, pn, an, kd, mn, upd sn x.toNatClampNeg (cx y.toNatClampNeg), upd vl x.toNatClampNeg (cv y.toNatClampNeg), rs, er, ev), (nI C, nI T, gp, tc, ep, tr, df, lt, dr, ad, re, cs, cv, cx, le, lc, upd tp x.toNatClampNeg 6, pn, an, kd, mn, upd sn x.toNatClampNeg (cx y.toNatClampNeg), upd vl x.toNatClampNeg (cv y.toNatClampNeg), rs, er, ev), ⟨_, _, _, _, _, _, _, _, _, _, _, _, _, _, _, _, _, _, _, _, _, _, _, _, rfl, rfl, er_okP (q := 6) I rfl (by decide)⟩, fun post hq => xq_exec5 hv hp (fun _ => xq_read2 hv hy c w g) hq, fun post hq => yq_stepZ h hv h0 (fun z => yq_5c hv n1 n2 n3 n4 hp hy c w g hq)⟩
  · exact ⟨(nI C, nI T, gp, tc, ep, tr, df, lt, dr, ad, nI (er_cn cs C), re, cs, cv, cx, le, lc, upd tp x.toNatClampNeg 6, pn, an, kd, mn, sn, vl, rs, er, ev), (nI C, nI T, gp, tc, ep, tr, df, lt, dr, ad, re, cs, cv, cx, le, lc, upd tp x.toNatClampNeg 6, pn, an, kd, mn, sn, vl, rs, er, ev), ⟨_, _, _, _, _, _, _, _, _, _, _, _, _, _, _, _, _, _, _, _, _, _, _, _, rfl, rfl, er_okP (q := 6) I rfl (by decide)⟩, fun post hq => xq_exec5 hv hp (fun _ => xq_read0 hv hy c) hq, fun post hq => yq_stepZ h hv h0 (fun z => yq_5a hv n1 n2 n3 n4 hp hy c hq)⟩
theorem er_p6 (I : er_OK C T lc tp) (h : er_ir x (nI T)) (hv : vp_in x 4) (hp : tp x.toNatClampNeg = 6) : er_LS C T (nI C, nI T, gp, tc, ep, tr, df, lt, dr, ad, nI (er_cn cs C), re, cs, cv, cx, le, lc, tp, pn, an, kd, mn, sn, vl, rs, er, ev) (nI C, nI T, gp, tc, ep, tr, df, lt, dr, ad, re, cs, cv, cx, le, lc, tp, pn, an, kd, mn, sn, vl, rs, er, ev) x (tp x.toNatClampNeg) := by
  have h0 : ¬ tp x.toNatClampNeg = 0 := by rw [hp]; decide
  have n1 : ¬ tp x.toNatClampNeg = 1 := by rw [hp]; decide
  have n2 : ¬ tp x.toNatClampNeg = 2 := by rw [hp]; decide
  have n3 : ¬ tp x.toNatClampNeg = 3 := by rw [hp]; decide
  have n4 : ¬ tp x.toNatClampNeg = 4 := by rw [hp]; decide
  have n5 : ¬ tp x.toNatClampNeg = 5 := by rw [hp]; decide
  by_cases k : kd x.toNatClampNeg = 1
  · by_cases g : tc = sn x.toNatClampNeg
    · exact ⟨(nI C, nI T, gp, mn x.toNatClampNeg, ep, tr, df, lt, dr, ad, nI (er_cn cs C), re, cs, cv, cx, le, lc, upd tp x.toNatClampNeg 8, pn, an, kd, mn, sn, vl, upd rs x.toNatClampNeg 1, er, ev), (nI C, nI T, gp, mn x.toNatClampNeg, ep, tr, df, lt, dr, ad, re, cs, cv, cx, le, lc, upd tp x.toNatClampNeg 8, pn, an, kd, mn, sn, vl, upd rs x.toNatClampNeg 1, er, ev), ⟨_, _, _, _, _, _, _, _, _, _, _, _, _, _, _, _, _, _, _, _, _, _, _, _, rfl, rfl, er_okP (q := 8) I rfl (by decide)⟩, fun post hq => xq_exec6 hv hp (fun _ => xq_cas1 hv k g) hq, fun post hq => yq_stepP h hv h0 k (yq_6a hv n1 n2 n3 n4 n5 hp er_10 g hq)⟩
    · exact ⟨(nI C, nI T, gp, tc, ep, tr, df, lt, dr, ad, nI (er_cn cs C), re, cs, cv, cx, le, lc, upd tp x.toNatClampNeg 3, pn, an, kd, mn, sn, vl, rs, er, ev), (nI C, nI T, gp, tc, ep, tr, df, lt, dr, ad, re, cs, cv, cx, le, lc, upd tp x.toNatClampNeg 3, pn, an, kd, mn, sn, vl, rs, er, ev), ⟨_, _, _, _, _, _, _, _, _, _, _, _, _, _, _, _, _, _, _, _, _, _, _, _, rfl, rfl, er_okP (q := 3) I rfl (by decide)⟩, fun post hq => xq_exec6 hv hp (fun _ => xq_cas2 hv k g) hq, fun post hq => yq_stepP h hv h0 k (yq_6b hv n1 n2 n3 n4 n5 hp er_10 g hq)⟩
  · by_cases g : tc = mn x.toNatClampNeg
    · exact ⟨(nI C, nI T, gp, sn x.toNatClampNeg, ep, tr, df, lt, dr, ad, nI (er_cn cs C), re, cs, cv, cx, le, lc, upd tp x.toNatClampNeg 7, pn, an, kd, mn, sn, vl, upd rs x.toNatClampNeg 1, er, ev), (nI C, nI T, gp, sn x.toNatClampNeg, ep, tr, df, lt, dr, ad, re, cs, cv, cx, le, lc, upd tp x.toNatClampNeg 7, pn, an, kd, mn, sn, vl, upd rs x.toNatClampNeg 1, er, ev), ⟨_, _, _, _, _, _, _, _, _, _, _, _, _, _, _, _, _, _, _, _, _, _, _, _, rfl, rfl, er_okP (q := 7) I rfl (by decide)⟩, fun post hq => xq_exec6 hv hp (fun _ => xq_cas3 hv k g) hq, fun post hq => yq_stepQ h hv h0 k (yq_6c hv n1 n2 n3 n4 n5 hp rfl g hq)⟩
    · exact ⟨(nI C, nI T, gp, tc, ep, tr, df, lt, dr, ad, nI (er_cn cs C), re, cs, cv, cx, le, lc, upd tp x.toNatClampNeg 3, pn, an, kd, mn, sn, vl, rs, er, ev), (nI C, nI T, gp, tc, ep, tr, df, lt, dr, ad, re, cs, cv, cx, le, lc, upd tp x.toNatClampNeg 3, pn, an, kd, mn, sn, vl, rs, er, ev), ⟨_, _, _, _, _, _, _, _, _, _, _, _, _, _, _, _, _, _, _, _, _, _, _, _, rfl, rfl, er_okP (q := 3) I rfl (by decide)⟩, fun post hq => xq_exec6 hv hp (fun _ => xq_cas4 hv k g) hq, fun post hq => yq_stepQ h hv h0 k (yq_6d hv n1 n2 n3 n4 n5 hp rfl g hq)⟩
theorem er_p7 (I : er_OK C T lc tp) (h : er_ir x (nI T)) (hv : vp_in x 4) (hp : tp x.toNatClampNeg = 7) : er_LS C T (nI C, nI T, gp, tc, ep, tr, df, lt, dr, ad, nI (er_cn cs C), re, cs, cv, cx, le, lc, tp, pn, an, kd, mn, sn, vl, rs, er, ev) (nI C, nI T, gp, tc, ep, tr, df, lt, dr, ad, re, cs, cv, cx, le, lc, tp, pn, an, kd, mn, sn, vl, rs, er, ev) x (tp x.toNatClampNeg) := by
  have h0 : ¬ tp x.toNatClampNeg = 0 := by rw [hp]; decide
  have n1 : ¬ tp x.toNatClampNeg = 1 := by rw [hp]; decide
  have n2 : ¬ tp x.toNatClampNeg = 2 := by rw [hp]; decide
  have n3 : ¬ tp x.toNatClampNeg = 3 := by rw [hp]; decide
  have n4 : ¬ tp x.toNatClampNeg = 4 := by rw [hp]; decide
  have n5 : ¬ tp x.toNatClampNeg = 5 := by rw [hp]; decide
  have n6 : ¬ tp x.toNatClampNeg = 6 := by rw [hp]; decide
  obtain ⟨y, hy⟩ : ∃ y, mn x.toNatClampNeg = y := ⟨_, rfl⟩
  obtain ⟨s', hs, he⟩ := er_rt_ex cs I.2.1 y
  obtain ⟨l, h3, hl⟩ := er_l3_ex (an x.toNatClampNeg)
  have hlv : vp_in (nI l) 3 := vp_in_nI hl (by omega)
  have hl2 : (nI l).toNatClampNeg = l := nI_clamp (by omega)
  obtain ⟨n, hn, hN⟩ := I.2.2.2.2.2 l hl
  have hN2 : lc (nI l).toNatClampNeg = nI n := by rw [hl2]; exact hN
  by_cases g : n < 32
  · have g1 : ¬ 32 ≤ lc (nI l).toNatClampNeg := by rw [hN2]; exact nI_ge (b := 32) g (by decide)
    have g2 : vp_in (nI l * 32 + lc (nI l).toNatClampNeg) 96 := by rw [hN2]; exact er_vi hl g
    refine ⟨(nI C, nI T, gp, tc, ep, tr, df, lt, dr, ad, nI (er_cn s' C), re + 1, s', cv, cx, upd le (nI l * 32 + lc (nI l).toNatClampNeg).toNatClampNeg y, upd lc (nI l).toNatClampNeg (lc (nI l).toNatClampNeg + 1), upd tp x.toNatClampNeg 8, pn, an, kd, mn, sn, vl, rs, er, ev), (nI C, nI T, gp, tc, ep, tr, df, lt, dr, ad, re + 1, s', cv, cx, upd le (nI l * 32 + lc (nI l).toNatClampNeg).toNatClampNeg y, upd lc (nI l).toNatClampNeg (lc (nI l).toNatClampNeg + 1), upd tp x.toNatClampNeg 8, pn, an, kd, mn, sn, vl, rs, er, ev), ⟨_, _, _, _, _, _, _, _, _, _, _, _, _, _, _, _, _, _, _, _, _, _, _, _, rfl, rfl, er_okL (q := n + 1) (er_okP (q := 8) I rfl (by decide)) (by rw [hN2, nI_1]) (by omega)⟩, fun post hq => ?_, fun post hq => yq_stepZ h hv h0 (fun z => yq_7a hv n1 n2 n3 n4 n5 n6 hp hy h3 hlv g1 g2 hs hq)⟩
    rw [he] at hq
    exact xq_exec7 hv hp (fun _ => xq_ret1 hv hy h3 hlv g1 g2 hs) hq
  · have g1 : 32 ≤ lc (nI l).toNatClampNeg := by rw [hN2]; exact nI_le (a := 32) (by omega) (by omega)
    refine ⟨(nI C, nI T, gp, tc, ep, tr, df, lt, dr + 1, ad, nI (er_cn s' C), re + 1, s', cv, cx, le, lc, upd tp x.toNatClampNeg 8, pn, an, kd, mn, sn, vl, rs, er, ev), (nI C, nI T, gp, tc, ep, tr, df, lt, dr + 1, ad, re + 1, s', cv, cx, le, lc, upd tp x.toNatClampNeg 8, pn, an, kd, mn, sn, vl, rs, er, ev), ⟨_, _, _, _, _, _, _, _, _, _, _, _, _, _, _, _, _, _, _, _, _, _, _, _, rfl, rfl, er_okP (q := 8) I rfl (by decide)⟩, fun post hq => ?_, fun post hq => yq_stepZ h hv h0 (fun z => yq_7b hv n1 n2 n3 n4 n5 n6 hp hy h3 hlv g1 hs hq)⟩
    rw [he] at hq
    exact xq_exec7 hv hp (fun _ => xq_ret2 hv hy h3 hlv g1 hs) hq
theorem er_p8 (I : er_OK C T lc tp) (h : er_ir x (nI T)) (hv : vp_in x 4) (hp : tp x.toNatClampNeg = 8) : er_LS C T (nI C, nI T, gp, tc, ep, tr, df, lt, dr, ad, nI (er_cn cs C), re, cs, cv, cx, le, lc, tp, pn, an, kd, mn, sn, vl, rs, er, ev) (nI C, nI T, gp, tc, ep, tr, df, lt, dr, ad, re, cs, cv, cx, le, lc, tp, pn, an, kd, mn, sn, vl, rs, er, ev) x (tp x.toNatClampNeg) := by
  have h0 : ¬ tp x.toNatClampNeg = 0 := by rw [hp]; decide
  have n1 : ¬ tp x.toNatClampNeg = 1 := by rw [hp]; decide
  have n2 : ¬ tp x.toNatClampNeg = 2 := by rw [hp]; decide
  have n3 : ¬ tp x.toNatClampNeg = 3 := by rw [hp]; decide
  have n4 : ¬ tp x.toNatClampNeg = 4 := by rw [hp]; decide
  have n5 : ¬ tp x.toNatClampNeg = 5 := by rw [hp]; decide
  have n6 : ¬ tp x.toNatClampNeg = 6 := by rw [hp]; decide
  have n7 : ¬ tp x.toNatClampNeg = 7 := by rw [hp]; decide
  exact ⟨(nI C, nI T, gp, tc, ep, tr, df, lt, dr, ad, nI (er_cn cs C), re, cs, cv, cx, le, lc, upd tp x.toNatClampNeg 0, upd pn x.toNatClampNeg (vp_nar .boolean 0), an, kd, mn, sn, vl, rs, upd er x.toNatClampNeg (rs x.toNatClampNeg), upd ev x.toNatClampNeg (vl x.toNatClampNeg)), (nI C, nI T, gp, tc, ep, tr, df, lt, dr, ad, re, cs, cv, cx, le, lc, upd tp x.toNatClampNeg 0, upd pn x.toNatClampNeg (vp_nar .boolean 0), an, kd, mn, sn, vl, rs, upd er x.toNatClampNeg (rs x.toNatClampNeg), upd ev x.toNatClampNeg (vl x.toNatClampNeg)), ⟨_, _, _, _, _, _, _, _, _, _, _, _, _, _, _, _, _, _, _, _, _, _, _, _, rfl, rfl, er_okP (q := 0) I rfl (by decide)⟩, fun post hq => xq_exec8 hv hp (fun _ => xq_unpin hv) hq, fun post hq => yq_stepZ h hv h0 (fun z => yq_8a hv n1 n2 n3 n4 n5 n6 n7 hq)⟩
theorem er_ls (I : er_OK C T lc tp) (h : er_ir x (nI T)) (h0 : ¬ tp x.toNatClampNeg = 0) : er_LS C T (nI C, nI T, gp, tc, ep, tr, df, lt, dr, ad, nI (er_cn cs C), re, cs, cv, cx, le, lc, tp, pn, an, kd, mn, sn, vl, rs, er, ev) (nI C, nI T, gp, tc, ep, tr, df, lt, dr, ad, re, cs, cv, cx, le, lc, tp, pn, an, kd, mn, sn, vl, rs, er, ev) x (tp x.toNatClampNeg) := by
  obtain ⟨hv, hx⟩ := er_ir_in I.2.2.2.1 (by omega) h
  obtain ⟨p, hp8, hp⟩ := I.2.2.2.2.1 _ hx
  rcases (by omega : p = 0 ∨ p = 1 ∨ p = 2 ∨ p = 3 ∨ p = 4 ∨ p = 5 ∨ p = 6 ∨ p = 7 ∨ p = 8) with rfl | rfl | rfl | rfl | rfl | rfl | rfl | rfl | rfl
  · exact absurd hp h0
  · exact er_p1 I h hv hp
  · exact er_p2 I h hv hp
  · exact er_p3 I h hv hp
  · exact er_p4 I h hv hp
  · exact er_p5 I h hv hp
  · exact er_p6 I h hv hp
  · exact er_p7 I h hv hp
  · exact er_p8 I h hv hp
end
end
section
/-! clamping, on both sides -/
theorem er_clamp2 (y : Int32) (a b : Nat) (hab : a ≤ b) (hb : b < 2 ^ 31) : ∃ m, a ≤ m ∧ m ≤ b ∧ (∀ q : Int32 → Prop, q (nI m) → wpX_clamp q y (nI a) (nI b)) ∧ (∀ Z : Int32 → Prop, Z (nI m) → ((nI a ≤ y → ((y ≤ nI b → Z y) ∧ (¬ y ≤ nI b → Z (nI b)))) ∧ (¬ nI a ≤ y → Z (nI a)))) := by
  rcases er_cl y a b hab hb with h | ⟨h1, h2, h3⟩ | ⟨h1, h2, h3, j, h4, h5, h6⟩
  · have g : ¬ nI a ≤ y := Int32.not_le.mpr h
    exact ⟨a, Nat.le_refl a, hab, fun q hq => br_f g hq, fun Z hZ => br_f g hZ⟩
  · have g : nI a ≤ y := Int32.not_lt.mp h1
    exact ⟨b, hab, Nat.le_refl b, fun q hq => br_t g (br_f h3 hq), fun Z hZ => br_t g (br_f h3 hZ)⟩
  · have g : nI a ≤ y := Int32.not_lt.mp h1
    subst h6
    exact ⟨j, h4, h5, fun q hq => br_t g (br_t h3 hq), fun Z hZ => br_t g (br_t h3 hZ)⟩
section
variable {nc nt gp tc ep tr df lt dr ad fc re : Int32} {cs cv cx le lc tp pn an kd mn sn vl rs er ev : Nat → Int32}
variable {x y : Int32}
theorem xq_busy1 {q : Int32 → Prop} (h : er_ir x nt) (hv : vp_in x 4) (h0 : ¬ tp x.toNatClampNeg = 0) (hp : q 1) : wpX_isBusy q (nc, nt, gp, tc, ep, tr, df, lt, dr, ad, fc, re, cs, cv, cx, le, lc, tp, pn, an, kd, mn, sn, vl, rs, er, ev) x := by
  unfold wpX_isBusy
  exact xq_T1 h (br_f er_10 ⟨hv, br_f h0 hp⟩)
theorem xq_busy0 {q : Int32 → Prop} (h : er_ir x nt) (hv : vp_in x 4) (h0 : tp x.toNatClampNeg = 0) (hp : q 0) : wpX_isBusy q (nc, nt, gp, tc, ep, tr, df, lt, dr, ad, fc, re, cs, cv, cx, le, lc, tp, pn, an, kd, mn, sn, vl, rs, er, ev) x := by
  unfold wpX_isBusy
  exact xq_T1 h (br_f er_10 ⟨hv, br_t h0 hp⟩)
theorem xq_busyN {q : Int32 → Prop} (h : ¬ er_ir x nt) (hp : q 0) : wpX_isBusy q (nc, nt, gp, tc, ep, tr, df, lt, dr, ad, fc, re, cs, cv, cx, le, lc, tp, pn, an, kd, mn, sn, vl, rs, er, ev) x := by
  unfold wpX_isBusy
  exact xq_T0 h (br_t rfl hp)
/-! the loops of run, over a state in one piece -/
def er_wx (post : Int32 → SX → Prop) (x m : Int32) (n : Nat) (j : Int32) (u : SX) : Prop := match u with
  | (nc, nt, gp, tc, ep, tr, df, lt, dr, ad, fc, re, cs, cv, cx, le, lc, tp, pn, an, kd, mn, sn, vl, rs, er, ev) => wX_run_21 post x m n j nc nt gp tc ep tr df lt dr ad fc re cs cv cx le lc tp pn an kd mn sn vl rs er ev
def er_wy (post : Int32 → SY → Prop) (x m : Int32) (n : Nat) (j i : Int32) (v : SY) : Prop := match v with
  | (nc, nt, gp, tc, ep, tr, df, lt, dr, ad, re, cs, cv, cx, le, lc, tp, pn, an, kd, mn, sn, vl, rs, er, ev) => wY_run_47 post x m n j i nc nt gp tc ep tr df lt dr ad re cs cv cx le lc tp pn an kd mn sn vl rs er ev
theorem er_loop {C T m : Nat} (hm : m ≤ 64) (h : er_ir x (nI T)) (hv : vp_in x 4) : ∀ d j, j + d = m → ∀ u v, er_R C T u v → ∃ r u' v', er_R C T u' v' ∧ (∀ post : Int32 → SX → Prop, post r u' → er_wx post x (nI m) (d + 1) (nI j) u) ∧ (∀ post : Int32 → SY → Prop, post r v' → er_wy post x (nI m) (d + 1) (nI j) (nI j) v) := by
  intro d
  induction d with
  | zero =>
    intro j hj u v R
    have g : nI m ≤ nI j := nI_le (by omega) (by omega)
    have R' := R
    obtain ⟨gp, tc, ep, tr, df, lt, dr, ad, re, cs, cv, cx, le, lc, tp, pn, an, kd, mn, sn, vl, rs, er, ev, rfl, rfl, I⟩ := R
    exact ⟨nI j, _, _, R', fun post hq => br_t g hq, fun post hq => br_t g hq⟩
  | succ d ih =>
    intro j hj u v R
    have g : ¬ nI m ≤ nI j := nI_ge (by omega) (by omega)
    have R' := R
    obtain ⟨gp, tc, ep, tr, df, lt, dr, ad, re, cs, cv, cx, le, lc, tp, pn, an, kd, mn, sn, vl, rs, er, ev, rfl, rfl, I⟩ := R
    by_cases h0 : tp x.toNatClampNeg = 0
    · exact ⟨nI j, _, _, R', fun post hq => br_f g ⟨hv, br_t h0 hq⟩, fun post hq => br_f g ⟨hv, br_t h0 hq⟩⟩
    · obtain ⟨u', v', R2, HX, HY⟩ := er_ls (gp := gp) (tc := tc) (ep := ep) (tr := tr) (df := df) (lt := lt) (dr := dr) (ad := ad) (re := re) (cs := cs) (cv := cv) (cx := cx) (le := le) (pn := pn) (an := an) (kd := kd) (mn := mn) (sn := sn) (vl := vl) (rs := rs) (er := er) (ev := ev) I h h0
      obtain ⟨r, u3, v3, R3, KX, KY⟩ := ih (j + 1) (by omega) u' v' R2
      obtain ⟨gp', tc', ep', tr', df', lt', dr', ad', re', cs', cv', cx', le', lc', tp', pn', an', kd', mn', sn', vl', rs', er', ev', rfl, rfl, I'⟩ := R2
      exact ⟨r, u3, v3, R3, fun post hq => br_f g ⟨hv, br_f h0 (HX _ (nm_r (nI_1 j) (KX post hq)))⟩, fun post hq => br_f g ⟨hv, br_f h0 (HY _ (nm_r (nI_1 j) (nm_r (nI_1 j) (KY post hq))))⟩⟩
end
end
section
/-! tryAdvance: the scan, then the list -/
theorem er_lags (pn an : Nat → Int32) (ep : Int32) (T : Nat) : ∃ c, c ≤ T ∧ (∀ j, j < c → pn j = 0 ∨ an j = ep) ∧ (c = T ∨ (c < T ∧ ¬ pn c = 0 ∧ ¬ an c = ep)) := by
  induction T with
  | zero => exact ⟨0, Nat.le_refl 0, fun j h => absurd h (Nat.not_lt_zero j), Or.inl rfl⟩
  | succ T ih =>
    obtain ⟨c, h1, h2, h3⟩ := ih
    rcases h3 with h3 | ⟨h3, h4, h5⟩
    · subst h3
      by_cases p : pn c = 0
      · exact ⟨c + 1, Nat.le_refl _, lt_s h2 (Or.inl p), Or.inl rfl⟩
      · by_cases q : an c = ep
        · exact ⟨c + 1, Nat.le_refl _, lt_s h2 (Or.inr q), Or.inl rfl⟩
        · exact ⟨c, by omega, h2, Or.inr ⟨by omega, p, q⟩⟩
    · exact ⟨c, by omega, h2, Or.inr ⟨by omega, h4, h5⟩⟩
section
variable {nc nt gp tc ep tr df lt dr ad fc re : Int32} {cs cv cx le lc tp pn an kd mn sn vl rs er ev : Nat → Int32}
variable {x y : Int32}
theorem xq_lag {T c : Nat} {q : Int32 → Prop} (hT : T ≤ 4) (hc : c ≤ T) (hn : ∀ j, j < c → pn j = 0 ∨ an j = ep) (hq : (c = T ∧ q 0) ∨ (c < T ∧ ¬ pn c = 0 ∧ ¬ an c = ep ∧ q 1)) :
    ∀ d i, i + d = c → wX_someThreadLagsBehind_2 q nc (nI T) gp tc ep tr df lt dr ad fc re cs cv cx le lc tp pn an kd mn sn vl rs er ev (d + 1) (nI i) := by
  intro d
  induction d with
  | zero =>
    intro i hi
    have e : i = c := by omega
    subst e
    rcases hq with ⟨e, hq⟩ | ⟨h1, h2, h3, hq⟩
    · subst e
      exact br_t (nI_le (Nat.le_refl _) (by omega)) hq
    · have w : vp_in (nI i) 4 := vp_in_nI (by omega) (by omega)
      exact br_f (nI_ge h1 (by omega)) ⟨w, br_f (by rw [nI_clamp (by omega)]; exact h2) ⟨w, br_f (by rw [nI_clamp (by omega)]; exact h3) hq⟩⟩
  | succ d ih =>
    intro i hi
    have w : vp_in (nI i) 4 := vp_in_nI (by omega) (by omega)
    have K := ih (i + 1) (by omega)
    have cl : (nI i).toNatClampNeg = i := nI_clamp (by omega)
    refine br_f (nI_ge (by omega) (by omega)) ⟨w, ?_⟩
    by_cases p : pn i = 0
    · exact br_t (by rw [cl]; exact p) (nm_r (nI_1 i) K)
    · have a : an i = ep := (hn i (by omega)).resolve_left p
      exact br_f (by rw [cl]; exact p) ⟨w, br_t (by rw [cl]; exact a) (nm_r (nI_1 i) K)⟩
theorem yq_lag {T c : Nat} {post : Int32 → SY → Prop} (hT : T ≤ 4) (hc : c ≤ T) (hn : ∀ j, j < c → pn j = 0 ∨ an j = ep) (hq : (c = T ∧ wY_tryAdvance_2 post nc (nI T) gp tc ep tr df lt dr ad re cs cv cx le lc tp pn an kd mn sn vl rs er ev 1 (nI T)) ∨ (c < T ∧ ¬ pn c = 0 ∧ ¬ an c = ep ∧ post 0 (nc, nI T, gp, tc, ep, tr, df, lt, dr, ad, re, cs, cv, cx, le, lc, tp, pn, an, kd, mn, sn, vl, rs, er, ev))) :
    ∀ d i, i + d = c → wY_tryAdvance_2 post nc (nI T) gp tc ep tr df lt dr ad re cs cv cx le lc tp pn an kd mn sn vl rs er ev (d + 1) (nI i) := by
  intro d
  induction d with
  | zero =>
    intro i hi
    have e : i = c := by omega
    subst e
    rcases hq with ⟨e, hq⟩ | ⟨h1, h2, h3, hq⟩
    · subst e
      exact hq
    · have w : vp_in (nI i) 4 := vp_in_nI (by omega) (by omega)
      exact br_f (nI_ge h1 (by omega)) ⟨w, br_f (by rw [nI_clamp (by omega)]; exact h2) ⟨w, br_f (by rw [nI_clamp (by omega)]; exact h3) hq⟩⟩
  | succ d ih =>
    intro i hi
    have w : vp_in (nI i) 4 := vp_in_nI (by omega) (by omega)
    have K := ih (i + 1) (by omega)
    have cl : (nI i).toNatClampNeg = i := nI_clamp (by omega)
    refine br_f (nI_ge (by omega) (by omega)) ⟨w, ?_⟩
    by_cases p : pn i = 0
    · exact br_t (by rw [cl]; exact p) (nm_r (nI_1 i) K)
    · have a : an i = ep := (hn i (by omega)).resolve_left p
      exact br_f (by rw [cl]; exact p) ⟨w, br_t (by rw [cl]; exact a) (nm_r (nI_1 i) K)⟩
theorem xq_free0 {q : SX → Prop} (h : ¬ er_ir y nc) (hp : q (nc, nt, gp, tc, ep, tr, df, lt, dr, ad, fc, re, cs, cv, cx, le, lc, tp, pn, an, kd, mn, sn, vl, rs, er, ev)) : wpX_freeCell q (nc, nt, gp, tc, ep, tr, df, lt, dr, ad, fc, re, cs, cv, cx, le, lc, tp, pn, an, kd, mn, sn, vl, rs, er, ev) y := by
  unfold wpX_freeCell
  exact xq_C0 h (br_t rfl hp)
theorem xq_free1 {q : SX → Prop} (h : er_ir y nc) (hw : vp_in y 32) (h0 : cs y.toNatClampNeg = 0) (hp : q (nc, nt, gp, tc, ep, tr, df + 1, y, dr, ad, fc, re, cs, cv, cx, le, lc, tp, pn, an, kd, mn, sn, vl, rs, er, ev)) : wpX_freeCell q (nc, nt, gp, tc, ep, tr, df, lt, dr, ad, fc, re, cs, cv, cx, le, lc, tp, pn, an, kd, mn, sn, vl, rs, er, ev) y := by
  unfold wpX_freeCell
  exact xq_C1 h (br_f er_10 ⟨hw, br_t h0 (nm_e hp)⟩)
theorem xq_free2 {q : SX → Prop} {f : Int32} (h : er_ir y nc) (hw : vp_in y 32) (h0 : ¬ cs y.toNatClampNeg = 0) (hf : fc + 1 = f) (hp : q (nc, nt, gp, tc, ep, tr, df, lt, dr, ad, f, re, upd cs y.toNatClampNeg 0, cv, cx, le, lc, tp, pn, an, kd, mn, sn, vl, rs, er, ev)) : wpX_freeCell q (nc, nt, gp, tc, ep, tr, df, lt, dr, ad, fc, re, cs, cv, cx, le, lc, tp, pn, an, kd, mn, sn, vl, rs, er, ev) y := by
  unfold wpX_freeCell
  exact xq_C1 h (br_f er_10 ⟨hw, br_f h0 ⟨hw, nm_e (nm_r hf hp)⟩⟩)
theorem er_list {C T k m : Nat} (hC : C ≤ 32) (hk : k < 3) (hm : m ≤ 32) (hl : lc (nI k).toNatClampNeg = nI m) : ∀ d i, i + d = m → ∀ (df lt : Int32) (cs : Nat → Int32), ∃ (df' lt' : Int32) (cs' : Nat → Int32),
    (∀ post : SX → Prop, post (nI C, nI T, gp, tc, ep, tr, df', lt', dr, ad, nI (er_cn cs' C), re, cs', cv, cx, le, upd lc (nI k).toNatClampNeg 0, tp, pn, an, kd, mn, sn, vl, rs, er, ev) → wX_freeLimboList_2 post (nI k) (d + 1) (nI i) (nI C) (nI T) gp tc ep tr df lt dr ad (nI (er_cn cs C)) re cs cv cx le lc tp pn an kd mn sn vl rs er ev) ∧
    (∀ post : Int32 → SY → Prop, post 1 (nI C, nI T, gp, tc, ep, tr, df', lt', dr, ad, re, cs', cv, cx, le, upd lc (nI k).toNatClampNeg 0, tp, pn, an, kd, mn, sn, vl, rs, er, ev) → wY_tryAdvance_78 post (nI k) (nI C) (nI T) gp tc ep tr dr ad re (d + 1) (nI i) df lt cs cv cx le lc tp pn an kd mn sn vl rs er ev) := by
  intro d
  have w : vp_in (nI k) 3 := vp_in_nI hk (by omega)
  induction d with
  | zero =>
    intro i hi df lt cs
    have g : lc (nI k).toNatClampNeg ≤ nI i := by rw [hl]; exact nI_le (by omega) (by omega)
    exact ⟨df, lt, cs, fun post hp => ⟨w, br_t g ⟨w, nm_e hp⟩⟩, fun post hp => ⟨w, br_t g ⟨w, nm_e hp⟩⟩⟩
  | succ d ih =>
    intro i hi df lt cs
    have g : ¬ lc (nI k).toNatClampNeg ≤ nI i := by rw [hl]; exact nI_ge (by omega) (by omega)
    have wi : vp_in (nI k * 32 + nI i) 96 := er_vi hk (by omega)
    obtain ⟨y, hy⟩ : ∃ y, le (nI k * 32 + nI i).toNatClampNeg = y := ⟨_, rfl⟩
    by_cases c : er_ir y (nI C)
    · obtain ⟨wc, hc⟩ := er_ir_in hC (by omega) c
      by_cases z : cs y.toNatClampNeg = 0
      · obtain ⟨df', lt', cs', KX, KY⟩ := ih (i + 1) (by omega) (df + 1) y cs
        refine ⟨df', lt', cs', fun post hp => ⟨w, br_f g ⟨wi, ?_⟩⟩, fun post hp => ⟨w, br_f g ⟨wi, nm_r hy (yq_C1 c (br_f er_10 ⟨wc, br_t z (nm_e (nm_r (nI_1 i) (KY post hp)))⟩))⟩⟩⟩
        rw [hy]
        exact xq_free1 c wc z (nm_r (nI_1 i) (KX post hp))
      · obtain ⟨df', lt', cs', KX, KY⟩ := ih (i + 1) (by omega) df lt (upd cs y.toNatClampNeg 0)
        refine ⟨df', lt', cs', fun post hp => ⟨w, br_f g ⟨wi, ?_⟩⟩, fun post hp => ⟨w, br_f g ⟨wi, nm_r hy (yq_C1 c (br_f er_10 ⟨wc, br_f z ⟨wc, nm_e (nm_r (nI_1 i) (KY post hp))⟩⟩))⟩⟩⟩
        rw [hy]
        exact xq_free2 c wc z (er_cn_inc hc z) (nm_r (nI_1 i) (KX post hp))
    · obtain ⟨df', lt', cs', KX, KY⟩ := ih (i + 1) (by omega) df lt cs
      refine ⟨df', lt', cs', fun post hp => ⟨w, br_f g ⟨wi, ?_⟩⟩, fun post hp => ⟨w, br_f g ⟨wi, nm_r hy (yq_C0 c (br_t rfl (nm_r (nI_1 i) (KY post hp))))⟩⟩⟩
      rw [hy]
      exact xq_free0 c (nm_r (nI_1 i) (KX post hp))
end
end
section
/-! the constructors -/
def er_fl (i : Nat) : Nat → Int32 := fun j => if j < i then -1 else 0
theorem er_fl_s (i : Nat) : upd (er_fl i) i (-1) = er_fl (i + 1) := by
  funext j
  by_cases e : j = i
  · rw [e, pk_us]
    exact (if_pos (by omega)).symm
  · rw [pk_un e]
    unfold er_fl
    by_cases g : j < i
    · rw [if_pos g, if_pos (by omega)]
    · rw [if_neg g, if_neg (by omega)]
theorem er_fl_0 : er_fl 0 = fun _ => 0 := by
  funext j
  exact if_neg (Nat.not_lt_zero j)
theorem er_uz (k : Nat) : upd (fun _ => 0) k 0 = fun _ => 0 := by
  funext j
  by_cases e : j = k
  · rw [e, pk_us]
  · rw [pk_un e]
theorem er_uzb (k : Nat) : upd (fun _ => 0) k (vp_nar .boolean 0) = fun _ => 0 := er_uz k
section
variable {nc nt gp tc ep tr df lt dr ad fc re : Int32} {cs cv cx le lc tp pn an kd mn sn vl rs er ev : Nat → Int32}
theorem xq_i2 {post : SX → Prop} (hp : post (nc, nt, gp, tc, ep, tr, df, lt, dr, ad, fc, re, cs, cv, cx, le, lc, tp, pn, an, kd, er_fl 4, er_fl 4, vl, rs, er, ev)) : ∀ d i, i + d = 4 → wX_init_220 post nc nt gp tc ep tr df lt dr ad fc re (d + 1) (nI i) cs cv cx le lc tp pn an kd (er_fl i) (er_fl i) vl rs er ev := by
  intro d
  induction d with
  | zero =>
    intro i hi
    have e : i = 4 := by omega
    subst e
    exact br_t (by decide) hp
  | succ d ih =>
    intro i hi
    have w : vp_in (nI i) 4 := vp_in_nI (by omega) (by omega)
    have cl : upd (er_fl i) (nI i).toNatClampNeg (-1) = er_fl (i + 1) := by rw [nI_clamp (by omega)]; exact er_fl_s i
    exact br_f (nI_ge (b := 4) (by omega) (by decide)) ⟨w, nm_r cl ⟨w, nm_r cl (nm_r (nI_1 i) (ih (i + 1) (by omega)))⟩⟩
theorem xq_i1 {post : SX → Prop} (hp : post (nc, nt, gp, tc, ep, tr, df, lt, dr, ad, fc, re, cs, cv, er_fl 32, le, lc, tp, pn, an, kd, er_fl 4, er_fl 4, vl, rs, er, ev)) : ∀ d i, i + d = 32 → wX_init_196 post nc nt gp tc ep tr df lt dr ad fc re (d + 1) (nI i) cs cv (er_fl i) le lc tp pn an kd (er_fl 0) (er_fl 0) vl rs er ev := by
  intro d
  induction d with
  | zero =>
    intro i hi
    have e : i = 32 := by omega
    subst e
    exact br_t (by decide) ⟨5, xq_i2 hp 4 0 rfl⟩
  | succ d ih =>
    intro i hi
    have w : vp_in (nI i) 32 := vp_in_nI (by omega) (by omega)
    have cl : upd (er_fl i) (nI i).toNatClampNeg (-1) = er_fl (i + 1) := by rw [nI_clamp (by omega)]; exact er_fl_s i
    exact br_f (nI_ge (b := 32) (by omega) (by decide)) ⟨w, nm_r cl (nm_r (nI_1 i) (ih (i + 1) (by omega)))⟩
theorem yq_i2 {post : SY → Prop} (hp : post (nc, nt, gp, tc, ep, tr, df, lt, dr, ad, re, cs, cv, cx, le, lc, fun _ => 0, fun _ => 0, fun _ => 0, fun _ => 0, er_fl 4, er_fl 4, fun _ => 0, fun _ => 0, fun _ => 0, fun _ => 0)) : ∀ d i, i + d = 4 → wY_init_269 post nc nt gp tc ep tr df lt dr ad re (d + 1) (nI i) cs cv cx le lc (fun _ => 0) (fun _ => 0) (fun _ => 0) (fun _ => 0) (er_fl i) (er_fl i) (fun _ => 0) (fun _ => 0) (fun _ => 0) (fun _ => 0) := by
  intro d
  induction d with
  | zero =>
    intro i hi
    have e : i = 4 := by omega
    subst e
    exact br_t (by decide) hp
  | succ d ih =>
    intro i hi
    have w : vp_in (nI i) 4 := vp_in_nI (by omega) (by omega)
    have cl : upd (er_fl i) (nI i).toNatClampNeg (-1) = er_fl (i + 1) := by rw [nI_clamp (by omega)]; exact er_fl_s i
    exact br_f (nI_ge (b := 4) (by omega) (by decide)) ⟨w, nm_r (er_uz _) ⟨w, nm_r (er_uzb _) ⟨w, nm_r (er_uz _) ⟨w, nm_r (er_uz _) ⟨w, nm_r cl ⟨w, nm_r cl ⟨w, nm_r (er_uz _) ⟨w, nm_r (er_uz _) ⟨w, nm_r (er_uz _) ⟨w, nm_r (er_uz _) (nm_r (nI_1 i) (ih (i + 1) (by omega)))⟩⟩⟩⟩⟩⟩⟩⟩⟩⟩
theorem yq_i1 {post : SY → Prop} (hp : post (nc, nt, gp, tc, ep, tr, df, lt, dr, ad, re, fun _ => 0, fun _ => 0, er_fl 32, le, lc, fun _ => 0, fun _ => 0, fun _ => 0, fun _ => 0, er_fl 4, er_fl 4, fun _ => 0, fun _ => 0, fun _ => 0, fun _ => 0)) : ∀ d i, i + d = 32 → wY_init_229 post nc nt gp tc ep tr df lt dr ad re (d + 1) (nI i) (fun _ => 0) (fun _ => 0) (er_fl i) le lc (fun _ => 0) (fun _ => 0) (fun _ => 0) (fun _ => 0) (er_fl 0) (er_fl 0) (fun _ => 0) (fun _ => 0) (fun _ => 0) (fun _ => 0) := by
  intro d
  induction d with
  | zero =>
    intro i hi
    have e : i = 32 := by omega
    subst e
    exact br_t (by decide) ⟨5, yq_i2 hp 4 0 rfl⟩
  | succ d ih =>
    intro i hi
    have w : vp_in (nI i) 32 := vp_in_nI (by omega) (by omega)
    have cl : upd (er_fl i) (nI i).toNatClampNeg (-1) = er_fl (i + 1) := by rw [nI_clamp (by omega)]; exact er_fl_s i
    exact br_f (nI_ge (b := 32) (by omega) (by decide)) ⟨w, nm_r (er_uz _) ⟨w, nm_r (er_uz _) ⟨w, nm_r cl (nm_r (nI_1 i) (ih (i + 1) (by omega)))⟩⟩⟩
end
def er_x0 (C T G : Nat) : SX := (nI C, nI T, nI G, -1, 0, 0, 0, -1, 0, 0, nI C, 0, fun _ => 0, fun _ => 0, er_fl 32, fun _ => 0, fun _ => 0, fun _ => 0, fun _ => 0, fun _ => 0, fun _ => 0, er_fl 4, er_fl 4, fun _ => 0, fun _ => 0, fun _ => 0, fun _ => 0)
def er_y0 (C T G : Nat) : SY := (nI C, nI T, nI G, -1, 0, 0, 0, -1, 0, 0, 0, fun _ => 0, fun _ => 0, er_fl 32, fun _ => 0, fun _ => 0, fun _ => 0, fun _ => 0, fun _ => 0, fun _ => 0, er_fl 4, er_fl 4, fun _ => 0, fun _ => 0, fun _ => 0, fun _ => 0)
theorem xq_init {post : SX → Prop} {k0 k1 k2 : Int32} {C T G : Nat} (h0 : ∀ q : Int32 → Prop, q (nI C) → wpX_clamp q k0 (nI 8) (nI 32)) (h1 : ∀ q : Int32 → Prop, q (nI T) → wpX_clamp q k1 (nI 2) (nI 4)) (h2 : ∀ q : Int32 → Prop, q (nI G) → wpX_clamp q k2 (nI 1) (nI 3)) (hp : post (er_x0 C T G)) : wpX_init post k0 k1 k2 := by
  unfold wpX_init
  refine h0 _ (h1 _ (h2 _ ⟨33, ?_⟩))
  have K := xq_i1 (post := post) (nc := nI C) (nt := nI T) (gp := nI G) (tc := -1) (ep := 0) (tr := 0) (df := 0) (lt := -1) (dr := 0) (ad := 0) (fc := nI C) (re := 0) (cs := fun _ => 0) (cv := fun _ => 0) (le := fun _ => 0) (lc := fun _ => 0) (tp := fun _ => 0) (pn := fun _ => 0) (an := fun _ => 0) (kd := fun _ => 0) (vl := fun _ => 0) (rs := fun _ => 0) (er := fun _ => 0) (ev := fun _ => 0) hp 32 0 rfl
  rw [er_fl_0] at K
  exact K
theorem yq_init {post : SY → Prop} {k0 k1 k2 : Int32} {C T G : Nat}
    (h0 : ∀ Z : Int32 → Prop, Z (nI C) → ((nI 8 ≤ k0 → ((k0 ≤ nI 32 → Z k0) ∧ (¬ k0 ≤ nI 32 → Z (nI 32)))) ∧ (¬ nI 8 ≤ k0 → Z (nI 8))))
    (h1 : ∀ Z : Int32 → Prop, Z (nI T) → ((nI 2 ≤ k1 → ((k1 ≤ nI 4 → Z k1) ∧ (¬ k1 ≤ nI 4 → Z (nI 4)))) ∧ (¬ nI 2 ≤ k1 → Z (nI 2))))
    (h2 : ∀ Z : Int32 → Prop, Z (nI G) → ((nI 1 ≤ k2 → ((k2 ≤ nI 3 → Z k2) ∧ (¬ k2 ≤ nI 3 → Z (nI 3)))) ∧ (¬ nI 1 ≤ k2 → Z (nI 1)))) (hp : post (er_y0 C T G)) : wpY_init post k0 k1 k2 := by
  have K := yq_i1 (post := post) (nc := nI C) (nt := nI T) (gp := nI G) (tc := -1) (ep := 0) (tr := 0) (df := 0) (lt := -1) (dr := 0) (ad := 0) (re := 0) (le := fun _ => 0) (lc := fun _ => 0) hp 32 0 rfl
  rw [er_fl_0] at K
  have A2 : wY_init_200 post k2 (nI T) (nI C) 0 0 (-1) 0 0 0 (-1) 0 0 0 (fun _ => 0) (fun _ => 0) (fun _ => 0) (fun _ => 0) (fun _ => 0) (fun _ => 0) (fun _ => 0) (fun _ => 0) (fun _ => 0) (fun _ => 0) (fun _ => 0) (fun _ => 0) (fun _ => 0) (fun _ => 0) (fun _ => 0) := by
    unfold wY_init_200
    exact h2 (fun z => ∃ n229 : Nat, wY_init_229 post (nI C) (nI T) z (-1) 0 0 0 (-1) 0 0 0 n229 0 (fun _ => 0) (fun _ => 0) (fun _ => 0) (fun _ => 0) (fun _ => 0) (fun _ => 0) (fun _ => 0) (fun _ => 0) (fun _ => 0) (fun _ => 0) (fun _ => 0) (fun _ => 0) (fun _ => 0) (fun _ => 0) (fun _ => 0)) ⟨33, K⟩
  have A1 : wY_init_177 post k1 k2 (nI C) 0 0 0 (-1) 0 0 0 (-1) 0 0 0 (fun _ => 0) (fun _ => 0) (fun _ => 0) (fun _ => 0) (fun _ => 0) (fun _ => 0) (fun _ => 0) (fun _ => 0) (fun _ => 0) (fun _ => 0) (fun _ => 0) (fun _ => 0) (fun _ => 0) (fun _ => 0) (fun _ => 0) := by
    unfold wY_init_177
    exact h1 (fun z => wY_init_200 post k2 z (nI C) 0 0 (-1) 0 0 0 (-1) 0 0 0 (fun _ => 0) (fun _ => 0) (fun _ => 0) (fun _ => 0) (fun _ => 0) (fun _ => 0) (fun _ => 0) (fun _ => 0) (fun _ => 0) (fun _ => 0) (fun _ => 0) (fun _ => 0) (fun _ => 0) (fun _ => 0) (fun _ => 0)) A2
  unfold wpY_init
  exact h0 (fun z => wY_init_177 post k1 k2 z 0 0 0 (-1) 0 0 0 (-1) 0 0 0 (fun _ => 0) (fun _ => 0) (fun _ => 0) (fun _ => 0) (fun _ => 0) (fun _ => 0) (fun _ => 0) (fun _ => 0) (fun _ => 0) (fun _ => 0) (fun _ => 0) (fun _ => 0) (fun _ => 0) (fun _ => 0) (fun _ => 0)) A1
end
section
theorem i_vc0 (k0 : Int32) (k1 : Int32) (k2 : Int32) : wpX_init (fun u => wpY_init (fun v => i_Rel 3 u v) k0 k1 k2) k0 k1 k2 := by
  obtain ⟨C, c1, c2, c3, c4⟩ := er_clamp2 k0 8 32 (by omega) (by omega)
  obtain ⟨T, t1, t2, t3, t4⟩ := er_clamp2 k1 2 4 (by omega) (by omega)
  obtain ⟨G, g1, g2, g3, g4⟩ := er_clamp2 k2 1 3 (by omega) (by omega)
  refine xq_init c3 t3 g3 (yq_init c4 t4 g4 ⟨C, T, _, _, _, _, _, _, _, _, _, _, _, _, _, _, _, _, _, _, _, _, _, _, _, _, ?_, rfl, c1, c2, t1, t2, fun t _ => ⟨0, by omega, rfl⟩, fun k _ => ⟨0, by omega, rfl⟩⟩)
  rw [er_cn_0]
  rfl
theorem i_vc_push {k : Nat} {u : SX} {v : SY} (I : i_Rel k u v) (hk : k + 3 ≤ 1539) (v1 : Int32) (v2 : Int32) : wpX_push (fun r u' => wpY_push (fun r' v' => r' = r ∧ i_Rel (k + 3) u' v') v v1 v2) u v1 v2 := by
  have J := I
  obtain ⟨C, T, gp, tc, ep, tr, df, lt, dr, ad, re, cs, cv, cx, le, lc, tp, pn, an, kd, mn, sn, vl, rs, er, ev, rfl, rfl, I⟩ := I
  by_cases h : er_ir v1 (nI T)
  · have hv := (er_ir_in I.2.2.2.1 (by omega) h).1
    by_cases h0 : tp v1.toNatClampNeg = 0
    · exact xq_push2 h hv h0 (yq_push2 h hv h0 ⟨rfl, C, T, _, _, _, _, _, _, _, _, _, _, _, _, _, _, _, _, _, _, _, _, _, _, _, _, rfl, rfl, er_okP (q := 1) I rfl (by decide)⟩)
    · exact xq_push1 h hv h0 (yq_push1 h hv h0 ⟨rfl, J⟩)
  · exact xq_push0 h (yq_push0 h ⟨rfl, J⟩)
theorem i_vc_pop {k : Nat} {u : SX} {v : SY} (I : i_Rel k u v) (hk : k + 3 ≤ 1539) (v1 : Int32) : wpX_pop (fun r u' => wpY_pop (fun r' v' => r' = r ∧ i_Rel (k + 3) u' v') v v1) u v1 := by
  have J := I
  obtain ⟨C, T, gp, tc, ep, tr, df, lt, dr, ad, re, cs, cv, cx, le, lc, tp, pn, an, kd, mn, sn, vl, rs, er, ev, rfl, rfl, I⟩ := I
  by_cases h : er_ir v1 (nI T)
  · have hv := (er_ir_in I.2.2.2.1 (by omega) h).1
    by_cases h0 : tp v1.toNatClampNeg = 0
    · exact xq_pop2 h hv h0 (yq_pop2 h hv h0 ⟨rfl, C, T, _, _, _, _, _, _, _, _, _, _, _, _, _, _, _, _, _, _, _, _, _, _, _, _, rfl, rfl, er_okP (q := 1) I rfl (by decide)⟩)
    · exact xq_pop1 h hv h0 (yq_pop1 h hv h0 ⟨rfl, J⟩)
  · exact xq_pop0 h (yq_pop0 h ⟨rfl, J⟩)
theorem i_vc_step {k : Nat} {u : SX} {v : SY} (I : i_Rel k u v) (hk : k + 3 ≤ 1539) (v1 : Int32) : wpX_step (fun r u' => wpY_step (fun r' v' => r' = r ∧ i_Rel (k + 3) u' v') v v1) u v1 := by
  have J := I
  obtain ⟨C, T, gp, tc, ep, tr, df, lt, dr, ad, re, cs, cv, cx, le, lc, tp, pn, an, kd, mn, sn, vl, rs, er, ev, rfl, rfl, I⟩ := I
  unfold wpX_step
  by_cases h : er_ir v1 (nI T)
  · have hv := (er_ir_in I.2.2.2.1 (by omega) h).1
    by_cases h0 : tp v1.toNatClampNeg = 0
    · exact xq_busy0 h hv h0 (br_t rfl (yq_step0 h hv h0 ⟨rfl, J⟩))
    · obtain ⟨u', v', R, HX, HY⟩ := er_ls (gp := gp) (tc := tc) (ep := ep) (tr := tr) (df := df) (lt := lt) (dr := dr) (ad := ad) (re := re) (cs := cs) (cv := cv) (cx := cx) (le := le) (pn := pn) (an := an) (kd := kd) (mn := mn) (sn := sn) (vl := vl) (rs := rs) (er := er) (ev := ev) I h h0
      have J2 : i_Rel (k + 3) u' v' := ⟨C, T, R⟩
      obtain ⟨gp', tc', ep', tr', df', lt', dr', ad', re', cs', cv', cx', le', lc', tp', pn', an', kd', mn', sn', vl', rs', er', ev', rfl, rfl, I'⟩ := R
      exact xq_busy1 h hv h0 (br_f er_10 ⟨hv, nm_e (HX _ (HY _ ⟨rfl, J2⟩))⟩)
  · exact xq_busyN h (br_t rfl (yq_stepN h ⟨rfl, J⟩))
theorem i_vc_run {k : Nat} {u : SX} {v : SY} (I : i_Rel k u v) (hk : k + 3 ≤ 1539) (v1 : Int32) (v2 : Int32) : wpX_run (fun r u' => wpY_run (fun r' v' => r' = r ∧ i_Rel (k + 3) u' v') v v1 v2) u v1 v2 := by
  have J := I
  obtain ⟨C, T, gp, tc, ep, tr, df, lt, dr, ad, re, cs, cv, cx, le, lc, tp, pn, an, kd, mn, sn, vl, rs, er, ev, rfl, rfl, I⟩ := I
  unfold wpX_run
  by_cases h : er_ir v1 (nI T)
  · have hv := (er_ir_in I.2.2.2.1 (by omega) h).1
    by_cases h0 : tp v1.toNatClampNeg = 0
    · refine xq_busy0 h hv h0 (br_t rfl ?_)
      unfold wpY_run
      exact yq_T1 h (br_f er_10 ⟨hv, br_t h0 ⟨rfl, J⟩⟩)
    · obtain ⟨m, m1, m2, m3, m4⟩ := er_clamp2 v2 1 64 (by omega) (by omega)
      obtain ⟨r, u', v', R, KX, KY⟩ := er_loop m2 h hv m 0 (by omega) (nI C, nI T, gp, tc, ep, tr, df, lt, dr, ad, nI (er_cn cs C), re, cs, cv, cx, le, lc, tp, pn, an, kd, mn, sn, vl, rs, er, ev) (nI C, nI T, gp, tc, ep, tr, df, lt, dr, ad, re, cs, cv, cx, le, lc, tp, pn, an, kd, mn, sn, vl, rs, er, ev) ⟨_, _, _, _, _, _, _, _, _, _, _, _, _, _, _, _, _, _, _, _, _, _, _, _, rfl, rfl, I⟩
      have J2 : i_Rel (k + 3) u' v' := ⟨C, T, R⟩
      have KX' : ∀ post : Int32 → SX → Prop, post r u' → wX_run_21 post v1 (nI m) (m + 1) 0 (nI C) (nI T) gp tc ep tr df lt dr ad (nI (er_cn cs C)) re cs cv cx le lc tp pn an kd mn sn vl rs er ev := KX
      have KY' : ∀ post : Int32 → SY → Prop, post r v' → wY_run_47 post v1 (nI m) (m + 1) 0 0 (nI C) (nI T) gp tc ep tr df lt dr ad re cs cv cx le lc tp pn an kd mn sn vl rs er ev := KY
      refine xq_busy1 h hv h0 (br_f er_10 (m3 _ ⟨m + 1, KX' _ ?_⟩))
      unfold wpY_run
      exact yq_T1 h (br_f er_10 ⟨hv, br_f h0 (m4 (fun z => ∃ n47 : Nat, wY_run_47 (fun r' v' => r' = r ∧ i_Rel (k + 3) u' v') v1 z n47 0 0 (nI C) (nI T) gp tc ep tr df lt dr ad re cs cv cx le lc tp pn an kd mn sn vl rs er ev) ⟨m + 1, KY' _ ⟨rfl, J2⟩⟩)⟩)
  · refine xq_busyN h (br_t rfl ?_)
    unfold wpY_run
    exact yq_T0 h (br_t rfl ⟨rfl, J⟩)
theorem i_vc_tryAdvance {k : Nat} {u : SX} {v : SY} (I : i_Rel k u v) (hk : k + 3 ≤ 1539) : wpX_tryAdvance (fun r u' => wpY_tryAdvance (fun r' v' => r' = r ∧ i_Rel (k + 3) u' v') v) u := by
  have J := I
  obtain ⟨C, T, gp, tc, ep, tr, df, lt, dr, ad, re, cs, cv, cx, le, lc, tp, pn, an, kd, mn, sn, vl, rs, er, ev, rfl, rfl, I⟩ := I
  have hT := I.2.2.2.1
  obtain ⟨c, hc, hn, hq⟩ := er_lags pn an ep T
  unfold wpX_tryAdvance
  unfold wpX_someThreadLagsBehind
  rcases hq with e | ⟨h1, h2, h3⟩
  · obtain ⟨l, l3, hl⟩ := er_l3_ex (ep + 1 + 3 - gp)
    obtain ⟨n, n32, hN⟩ := I.2.2.2.2.2 l hl
    have hN2 : lc (nI l).toNatClampNeg = nI n := by rw [nI_clamp (by omega)]; exact hN
    obtain ⟨df', lt', cs', KX, KY⟩ := er_list (C := C) (T := T) (gp := gp) (tc := tc) (ep := ep + 1) (tr := tr) (dr := dr) (ad := ad + 1) (re := re) (cv := cv) (cx := cx) (le := le) (tp := tp) (pn := pn) (an := an) (kd := kd) (mn := mn) (sn := sn) (vl := vl) (rs := rs) (er := er) (ev := ev) I.2.1 hl n32 hN2 n 0 (by omega) df lt cs
    refine ⟨c + 1, xq_lag hT hc hn (Or.inl ⟨e, br_t rfl ?_⟩) c 0 (by omega)⟩
    intro f1 e1 f2 e2
    subst e1 e2
    refine xq_listOf l3 ?_
    unfold wpX_freeLimboList
    refine ⟨n + 1, KX _ ?_⟩
    unfold wpY_tryAdvance
    refine ⟨c + 1, yq_lag hT hc hn (Or.inl ⟨e, br_t (nI_le (Nat.le_refl T) (by omega)) ?_⟩) c 0 (by omega)⟩
    intro f1 e1 f2 e2
    subst e1 e2
    exact yq_mod3 l3 ⟨n + 1, KY _ ⟨rfl, C, T, _, _, _, _, _, _, _, _, _, _, _, _, _, _, _, _, _, _, _, _, _, _, _, _, rfl, rfl, er_okL (q := 0) I rfl (by omega)⟩⟩
  · refine ⟨c + 1, xq_lag hT hc hn (Or.inr ⟨h1, h2, h3, br_f er_10 ?_⟩) c 0 (by omega)⟩
    unfold wpY_tryAdvance
    exact ⟨c + 1, yq_lag hT hc hn (Or.inr ⟨h1, h2, h3, ⟨rfl, J⟩⟩) c 0 (by omega)⟩
end
section
theorem i_vc_phase {k : Nat} {u : SX} {v : SY} (I : i_Rel k u v) (hk : k + 3 ≤ 1539) (v1 : Int32) : wpX_phase (fun r => wpY_phase (fun r' => r' = r ∧ i_Rel (k + 3) u v) v v1) u v1 := by
  have J : i_Rel (k + 3) u v := I
  obtain ⟨C, T, gp, tc, ep, tr, df, lt, dr, ad, re, cs, cv, cx, le, lc, tp, pn, an, kd, mn, sn, vl, rs, er, ev, rfl, rfl, I⟩ := I
  by_cases h : er_ir v1 (nI T)
  · have hv := (er_ir_in I.2.2.2.1 (by omega) h).1
    exact xq_phase1 h hv (yq_phase1 h hv ⟨rfl, J⟩)
  · exact xq_phase0 h (yq_phase0 h ⟨rfl, J⟩)
theorem i_vc_lastResult {k : Nat} {u : SX} {v : SY} (I : i_Rel k u v) (hk : k + 3 ≤ 1539) (v1 : Int32) : wpX_lastResult (fun r => wpY_lastResult (fun r' => r' = r ∧ i_Rel (k + 3) u v) v v1) u v1 := by
  have J : i_Rel (k + 3) u v := I
  obtain ⟨C, T, gp, tc, ep, tr, df, lt, dr, ad, re, cs, cv, cx, le, lc, tp, pn, an, kd, mn, sn, vl, rs, er, ev, rfl, rfl, I⟩ := I
  by_cases h : er_ir v1 (nI T)
  · have hv := (er_ir_in I.2.2.2.1 (by omega) h).1
    exact xq_lastResult1 h hv (yq_lastResult1 h hv ⟨rfl, J⟩)
  · exact xq_lastResult0 h (yq_lastResult0 h ⟨rfl, J⟩)
theorem i_vc_lastValue {k : Nat} {u : SX} {v : SY} (I : i_Rel k u v) (hk : k + 3 ≤ 1539) (v1 : Int32) : wpX_lastValue (fun r => wpY_lastValue (fun r' => r' = r ∧ i_Rel (k + 3) u v) v v1) u v1 := by
  have J : i_Rel (k + 3) u v := I
  obtain ⟨C, T, gp, tc, ep, tr, df, lt, dr, ad, re, cs, cv, cx, le, lc, tp, pn, an, kd, mn, sn, vl, rs, er, ev, rfl, rfl, I⟩ := I
  by_cases h : er_ir v1 (nI T)
  · have hv := (er_ir_in I.2.2.2.1 (by omega) h).1
    exact xq_lastValue1 h hv (yq_lastValue1 h hv ⟨rfl, J⟩)
  · exact xq_lastValue0 h (yq_lastValue0 h ⟨rfl, J⟩)
theorem i_vc_announced {k : Nat} {u : SX} {v : SY} (I : i_Rel k u v) (hk : k + 3 ≤ 1539) (v1 : Int32) : wpX_announced (fun r => wpY_announced (fun r' => r' = r ∧ i_Rel (k + 3) u v) v v1) u v1 := by
  have J : i_Rel (k + 3) u v := I
  obtain ⟨C, T, gp, tc, ep, tr, df, lt, dr, ad, re, cs, cv, cx, le, lc, tp, pn, an, kd, mn, sn, vl, rs, er, ev, rfl, rfl, I⟩ := I
  by_cases h : er_ir v1 (nI T)
  · have hv := (er_ir_in I.2.2.2.1 (by omega) h).1
    by_cases b : pn v1.toNatClampNeg = 0
    · exact xq_announced1 h hv b (yq_announced1 h hv b ⟨rfl, J⟩)
    · exact xq_announced2 h hv b (yq_announced2 h hv b ⟨rfl, J⟩)
  · exact xq_announced0 h (yq_announced0 h ⟨rfl, J⟩)
theorem i_vc_local {k : Nat} {u : SX} {v : SY} (I : i_Rel k u v) (hk : k + 3 ≤ 1539) (v1 : Int32) (v2 : Int32) : wpX_local (fun r => wpY_local (fun r' => r' = r ∧ i_Rel (k + 3) u v) v v1 v2) u v1 v2 := by
  have J : i_Rel (k + 3) u v := I
  obtain ⟨C, T, gp, tc, ep, tr, df, lt, dr, ad, re, cs, cv, cx, le, lc, tp, pn, an, kd, mn, sn, vl, rs, er, ev, rfl, rfl, I⟩ := I
  by_cases h : er_ir v1 (nI T)
  · have hv := (er_ir_in I.2.2.2.1 (by omega) h).1
    by_cases w0 : v2 = 0
    · subst w0
      exact xq_local_0 h hv (yq_local_0 h hv ⟨rfl, J⟩)
    by_cases w1 : v2 = 1
    · subst w1
      exact xq_local_1 h hv (yq_local_1 h hv ⟨rfl, J⟩)
    by_cases w2 : v2 = 2
    · subst w2
      exact xq_local_2 h hv (yq_local_2 h hv ⟨rfl, J⟩)
    by_cases w3 : v2 = 3
    · subst w3
      exact xq_local_3 h hv (yq_local_3 h hv ⟨rfl, J⟩)
    by_cases w4 : v2 = 4
    · subst w4
      exact xq_local_4 h hv (yq_local_4 h hv ⟨rfl, J⟩)
    exact xq_local_o h w0 w1 w2 w3 w4 (yq_local_o h w0 w1 w2 w3 w4 ⟨rfl, J⟩)
  · exact xq_local_n h (yq_local_n h ⟨rfl, J⟩)
theorem i_vc_cell {k : Nat} {u : SX} {v : SY} (I : i_Rel k u v) (hk : k + 3 ≤ 1539) (v1 : Int32) (v2 : Int32) : wpX_cell (fun r => wpY_cell (fun r' => r' = r ∧ i_Rel (k + 3) u v) v v1 v2) u v1 v2 := by
  have J : i_Rel (k + 3) u v := I
  obtain ⟨C, T, gp, tc, ep, tr, df, lt, dr, ad, re, cs, cv, cx, le, lc, tp, pn, an, kd, mn, sn, vl, rs, er, ev, rfl, rfl, I⟩ := I
  by_cases h : er_ir v1 (nI C)
  · have hv := (er_ir_in I.2.1 (by omega) h).1
    by_cases w0 : v2 = 0
    · subst w0
      exact xq_cell_0 h hv (yq_cell_0 h hv ⟨rfl, J⟩)
    by_cases w1 : v2 = 1
    · subst w1
      exact xq_cell_1 h hv (yq_cell_1 h hv ⟨rfl, J⟩)
    by_cases w2 : v2 = 2
    · subst w2
      exact xq_cell_2 h hv (yq_cell_2 h hv ⟨rfl, J⟩)
    exact xq_cell_o h w0 w1 w2 (yq_cell_o h w0 w1 w2 ⟨rfl, J⟩)
  · exact xq_cell_n h (yq_cell_n h ⟨rfl, J⟩)
theorem i_vc_top {k : Nat} {u : SX} {v : SY} (I : i_Rel k u v) (hk : k + 3 ≤ 1539) : wpX_top (fun r => wpY_top (fun r' => r' = r ∧ i_Rel (k + 3) u v) v) u := by
  have J : i_Rel (k + 3) u v := I
  obtain ⟨C, T, gp, tc, ep, tr, df, lt, dr, ad, re, cs, cv, cx, le, lc, tp, pn, an, kd, mn, sn, vl, rs, er, ev, rfl, rfl, I⟩ := I
  exact ⟨rfl, J⟩
theorem i_vc_limboSize {k : Nat} {u : SX} {v : SY} (I : i_Rel k u v) (hk : k + 3 ≤ 1539) (v1 : Int32) : wpX_limboSize (fun r => wpY_limboSize (fun r' => r' = r ∧ i_Rel (k + 3) u v) v v1) u v1 := by
  have J : i_Rel (k + 3) u v := I
  obtain ⟨C, T, gp, tc, ep, tr, df, lt, dr, ad, re, cs, cv, cx, le, lc, tp, pn, an, kd, mn, sn, vl, rs, er, ev, rfl, rfl, I⟩ := I
  unfold wpX_limboSize
  by_cases a : v1 < 0
  · exact br_t a (br_t rfl (br_t a ⟨rfl, J⟩))
  · by_cases b : 3 ≤ v1
    · exact br_f a (br_t b (br_t rfl (br_f a (br_t b ⟨rfl, J⟩))))
    · have w := (er_ir_in (T := 3) (N := 3) (x := v1) (by omega) (by omega) ⟨a, b⟩).1
      exact br_f a (br_f b (br_f er_10 ⟨w, br_f a (br_f b ⟨w, rfl, J⟩)⟩))
theorem er_23 {x : Int32} (h : ¬ 3 ≤ x) : ¬ 2 < x := by
  have e2 : (2 : Int32).toInt = 2 := by decide
  have e3 : (3 : Int32).toInt = 3 := by decide
  rw [Int32.le_iff_toInt_le, e3] at h
  rw [Int32.lt_iff_toInt_lt, e2]
  omega
theorem er_32 {x : Int32} (h : 3 ≤ x) : 2 < x := by
  have e2 : (2 : Int32).toInt = 2 := by decide
  have e3 : (3 : Int32).toInt = 3 := by decide
  rw [Int32.le_iff_toInt_le, e3] at h
  rw [Int32.lt_iff_toInt_lt, e2]
  omega
theorem i_vc_limboCell {k : Nat} {u : SX} {v : SY} (I : i_Rel k u v) (hk : k + 3 ≤ 1539) (v1 : Int32) (v2 : Int32) : wpX_limboCell (fun r => wpY_limboCell (fun r' => r' = r ∧ i_Rel (k + 3) u v) v v1 v2) u v1 v2 := by
  have J : i_Rel (k + 3) u v := I
  obtain ⟨C, T, gp, tc, ep, tr, df, lt, dr, ad, re, cs, cv, cx, le, lc, tp, pn, an, kd, mn, sn, vl, rs, er, ev, rfl, rfl, I⟩ := I
  unfold wpX_limboCell
  by_cases a : v1 < 0
  · exact br_t a (br_t rfl (br_t a ⟨rfl, J⟩))
  · by_cases b : 3 ≤ v1
    · exact br_f a (br_t b (br_t rfl (br_f a (br_t (er_32 b) ⟨rfl, J⟩))))
    · obtain ⟨w, wl⟩ := er_ir_in (T := 3) (N := 3) (x := v1) (by omega) (by omega) ⟨a, b⟩
      have b2 := er_23 b
      by_cases c : v2 < 0
      · exact br_f a (br_f b (br_f er_10 (br_t c (br_f a (br_f b2 (br_t c ⟨rfl, J⟩))))))
      · by_cases d : v2 < lc v1.toNatClampNeg
        · obtain ⟨n, hn, hN⟩ := I.2.2.2.2.2 _ wl
          obtain ⟨i, hi, rfl⟩ := nI_of c
          obtain ⟨l, hl, rfl⟩ := nI_of a
          rw [nI_clamp hl] at wl
          have d2 := d
          rw [hN, nI_ltI hi (by omega)] at d2
          have wi : vp_in (nI l * 32 + nI i) 96 := er_vi wl (by omega)
          exact br_f a (br_f b (br_f er_10 (br_f c ⟨w, br_t d ⟨wi, br_f a (br_f b2 (br_f c ⟨w, br_t d ⟨wi, rfl, J⟩⟩))⟩⟩)))
        · exact br_f a (br_f b (br_f er_10 (br_f c ⟨w, br_f d (br_f a (br_f b2 (br_f c ⟨w, br_f d ⟨rfl, J⟩⟩)))⟩)))
/-! the number of FREE cells: the reference counts, the class keeps it -/
section
variable {nc nt gp tc ep tr df lt dr ad fc re : Int32} {cs cv cx le lc tp pn an kd mn sn vl rs er ev : Nat → Int32}
theorem yq_count {C : Nat} {q : Int32 → Prop} (hC : C ≤ 32) (hq : q (nI (er_cn cs C))) : ∀ d i, i + d = C → wY_counter_58 q (nI C) nt gp tc ep tr df lt dr ad re cs cv cx le lc tp pn an kd mn sn vl rs er ev (d + 1) (nI (er_cn cs i)) (nI i) := by
  intro d
  induction d with
  | zero =>
    intro i hi
    have e : i = C := by omega
    subst e
    exact br_t (nI_le (Nat.le_refl _) (by omega)) hq
  | succ d ih =>
    intro i hi
    have K := ih (i + 1) (by omega)
    have cl : (nI i).toNatClampNeg = i := nI_clamp (by omega)
    have s : er_cn cs (i + 1) = er_cn cs i + (if cs i = 0 then 1 else 0) := rfl
    rw [s] at K
    refine br_f (nI_ge (by omega) (by omega)) ⟨vp_in_nI (by omega) (by omega), ?_⟩
    by_cases z : cs i = 0
    · rw [if_pos z] at K
      exact br_t (by rw [cl]; exact z) (nm_r (nI_1 _) (nm_r (nI_1 i) K))
    · rw [if_neg z] at K
      exact br_f (by rw [cl]; exact z) (nm_r (nI_1 i) K)
end
theorem i_vc_counter {k : Nat} {u : SX} {v : SY} (I : i_Rel k u v) (hk : k + 3 ≤ 1539) (v1 : Int32) : wpX_counter (fun r => wpY_counter (fun r' => r' = r ∧ i_Rel (k + 3) u v) v v1) u v1 := by
  have J : i_Rel (k + 3) u v := I
  obtain ⟨C, T, gp, tc, ep, tr, df, lt, dr, ad, re, cs, cv, cx, le, lc, tp, pn, an, kd, mn, sn, vl, rs, er, ev, rfl, rfl, I⟩ := I
  by_cases w0 : v1 = 0
  · subst w0
    exact br_f (by decide) (br_f (by decide) (br_t rfl (br_t rfl ⟨rfl, J⟩)))
  by_cases w1 : v1 = 1
  · subst w1
    exact br_f (by decide) (br_f (by decide) (br_f (by decide) (br_t rfl (br_f (by decide) (br_t rfl ⟨rfl, J⟩)))))
  by_cases w2 : v1 = 2
  · subst w2
    exact br_f (by decide) (br_f (by decide) (br_f (by decide) (br_f (by decide) (br_t rfl (br_f (by decide) (br_f (by decide) (br_t rfl ⟨rfl, J⟩)))))))
  by_cases w3 : v1 = 3
  · subst w3
    exact br_f (by decide) (br_f (by decide) (br_f (by decide) (br_f (by decide) (br_f (by decide) (br_t rfl (br_f (by decide) (br_f (by decide) (br_f (by decide) (br_t rfl ⟨rfl, J⟩)))))))))
  by_cases w4 : v1 = 4
  · subst w4
    exact br_f (by decide) (br_f (by decide) (br_f (by decide) (br_f (by decide) (br_f (by decide) (br_f (by decide) (br_t rfl (br_f (by decide) (br_f (by decide) (br_f (by decide) (br_f (by decide) (br_t rfl ⟨rfl, J⟩)))))))))))
  by_cases w5 : v1 = 5
  · subst w5
    exact br_f (by decide) (br_f (by decide) (br_f (by decide) (br_f (by decide) (br_f (by decide) (br_f (by decide) (br_f (by decide) (br_t rfl (br_f (by decide) (br_f (by decide) (br_f (by decide) (br_f (by decide) (br_f (by decide) (br_t rfl ⟨C + 1, yq_count I.2.1 ⟨rfl, J⟩ C 0 (by omega)⟩)))))))))))))
  by_cases w6 : v1 = 6
  · subst w6
    exact br_f (by decide) (br_f (by decide) (br_f (by decide) (br_f (by decide) (br_f (by decide) (br_f (by decide) (br_f (by decide) (br_f (by decide) (br_t rfl (br_f (by decide) (br_f (by decide) (br_f (by decide) (br_f (by decide) (br_f (by decide) (br_f (by decide) (br_t rfl ⟨rfl, J⟩)))))))))))))))
  by_cases w7 : v1 = 7
  · subst w7
    exact br_f (by decide) (br_f (by decide) (br_f (by decide) (br_f (by decide) (br_f (by decide) (br_f (by decide) (br_f (by decide) (br_f (by decide) (br_f (by decide) (br_t rfl (br_f (by decide) (br_f (by decide) (br_f (by decide) (br_f (by decide) (br_f (by decide) (br_f (by decide) (br_f (by decide) (br_t rfl ⟨rfl, J⟩)))))))))))))))))
  have G : v1 < 0 ∨ (¬ v1 < 0 ∧ nI 7 < v1) := er_sw v1 7 (by decide) (fun j hj => by
    rcases (by omega : j = 0 ∨ j = 1 ∨ j = 2 ∨ j = 3 ∨ j = 4 ∨ j = 5 ∨ j = 6 ∨ j = 7) with rfl | rfl | rfl | rfl | rfl | rfl | rfl | rfl
    · exact w0
    · exact w1
    · exact w2
    · exact w3
    · exact w4
    · exact w5
    · exact w6
    · exact w7)
  rcases G with g | ⟨g1, g2⟩
  · exact br_t g (br_f w0 (br_f w1 (br_f w2 (br_f w3 (br_f w4 (br_f w5 (br_f w6 (br_f w7 (⟨rfl, J⟩)))))))))
  · exact br_f g1 (br_t g2 (br_f w0 (br_f w1 (br_f w2 (br_f w3 (br_f w4 (br_f w5 (br_f w6 (br_f w7 (⟨rfl, J⟩))))))))))
end
