section
/-! rows pasted from the pure rows -/
theorem pk_us {f : Nat → Int32} {k : Nat} {x : Int32} : upd f k x k = x := if_pos rfl
theorem pk_un {f : Nat → Int32} {k j : Nat} {x : Int32} (h : j ≠ k) : upd f k x j = f j := if_neg h
theorem pk_sub {a b : Nat} (h : b ≤ a) : nI a - nI b = nI (a - b) := by
  obtain ⟨c, rfl⟩ : ∃ c, a = c + b := ⟨a - b, by omega⟩
  rw [← nI_add, Int32.add_sub_cancel, Nat.add_sub_cancel]
theorem pk_m1 (n : Nat) : nI (n + 1) + (-1) = nI n := by
  rw [← nI_1, Int32.add_assoc, show (1 : Int32) + (-1) = 0 from rfl, Int32.add_zero]
theorem pk_mul (a b : Nat) : nI a * nI b = nI (a * b) := (Int32.ofNat_mul a b).symm
theorem pk_ix (x : Int32) {n : Nat} (hn : n < 2 ^ 31) : x < 0 ∨ nI n ≤ x ∨ ∃ j : Nat, j < n ∧ x = nI j := by
  by_cases h : x < 0
  · exact Or.inl h
  · obtain ⟨j, hj, rfl⟩ := nI_of h
    by_cases h2 : j < n
    · exact Or.inr (Or.inr ⟨j, h2, rfl⟩)
    · exact Or.inr (Or.inl (nI_le (by omega) hj))
theorem pk_le {x y : Int32} {A B : Prop} (a b : Nat) (f : a ≤ b → A) (g : b < a → B) (hx : x = nI a := by rfl) (hy : y = nI b := by rfl) (ha : a < 2 ^ 31 := by omega) (hb : b < 2 ^ 31 := by omega) : (x ≤ y → A) ∧ (¬ x ≤ y → B) := by
  subst hx hy
  rw [nI_leI ha hb]
  exact ⟨f, fun z => g (by omega)⟩
theorem pk_lt {x y : Int32} {A B : Prop} (a b : Nat) (f : a < b → A) (g : b ≤ a → B) (hx : x = nI a := by rfl) (hy : y = nI b := by rfl) (ha : a < 2 ^ 31 := by omega) (hb : b < 2 ^ 31 := by omega) : (x < y → A) ∧ (¬ x < y → B) := by
  subst hx hy
  rw [nI_ltI ha hb]
  exact ⟨f, fun z => g (by omega)⟩
theorem pk_eq {x y : Int32} {A B : Prop} (a b : Nat) (f : a = b → A) (g : a ≠ b → B) (hx : x = nI a := by rfl) (hy : y = nI b := by rfl) (ha : a < 2 ^ 31 := by omega) (hb : b < 2 ^ 31 := by omega) : (x = y → A) ∧ (¬ x = y → B) := by
  subst hx hy
  rw [nI_eq ha hb]
  exact ⟨f, g⟩
theorem pk_in {x : Int32} (n N : Nat) (h : n < N) (hx : x = nI n := by rfl) (hN : N < 2 ^ 31 := by omega) : vp_in x N := by
  subst hx
  exact vp_in_nI h hN
theorem pk_cl {x : Int32} (n : Nat) (hx : x = nI n := by rfl) (h : n < 2 ^ 31 := by omega) : x.toNatClampNeg = n := by
  subst hx
  exact nI_clamp h
/-! the number of FREE cells below n -/
def er_cn (f : Nat → Int32) : Nat → Nat
  | 0 => 0
  | n + 1 => er_cn f n + (if f n = 0 then 1 else 0)
theorem er_cn_le (f : Nat → Int32) : ∀ n, er_cn f n ≤ n := by
  intro n
  induction n with
  | zero => exact Nat.le_refl _
  | succ n ih =>
    show er_cn f n + (if f n = 0 then 1 else 0) ≤ n + 1
    split <;> omega
theorem er_cn_out {f : Nat → Int32} {k : Nat} {x : Int32} : ∀ n, n ≤ k → er_cn (upd f k x) n = er_cn f n := by
  intro n
  induction n with
  | zero => exact fun _ => rfl
  | succ n ih =>
    intro h
    show er_cn (upd f k x) n + (if upd f k x n = 0 then 1 else 0) = er_cn f n + (if f n = 0 then 1 else 0)
    rw [ih (by omega), pk_un (by omega)]
theorem er_cn_upd {f : Nat → Int32} {k : Nat} {x : Int32} : ∀ n, k < n → er_cn (upd f k x) n + (if f k = 0 then 1 else 0) = er_cn f n + (if x = 0 then 1 else 0) := by
  intro n
  induction n with
  | zero => intro h; omega
  | succ n ih =>
    intro h
    show er_cn (upd f k x) n + (if upd f k x n = 0 then 1 else 0) + (if f k = 0 then 1 else 0) = er_cn f n + (if f n = 0 then 1 else 0) + (if x = 0 then 1 else 0)
    by_cases e : n = k
    · subst e
      rw [er_cn_out n (Nat.le_refl _), pk_us]
      generalize (if f n = 0 then 1 else 0) = a
      generalize (if x = 0 then 1 else 0) = b
      omega
    · rw [pk_un e]
      have j := ih (by omega)
      generalize (if f n = 0 then 1 else 0) = a at j ⊢
      generalize (if f k = 0 then 1 else 0) = c at j ⊢
      generalize (if x = 0 then 1 else 0) = b at j ⊢
      omega
theorem er_cn_take {f : Nat → Int32} {k n : Nat} {x : Int32} (h : k < n) (h0 : f k = 0) (hx : ¬ x = 0) : er_cn f n = er_cn (upd f k x) n + 1 := by
  have j := er_cn_upd (f := f) (x := x) n h
  rw [if_pos h0, if_neg hx] at j
  omega
theorem er_cn_free {f : Nat → Int32} {k n : Nat} (h : k < n) (h0 : ¬ f k = 0) : er_cn (upd f k 0) n = er_cn f n + 1 := by
  have j := er_cn_upd (f := f) (x := 0) n h
  rw [if_neg h0, if_pos rfl] at j
  omega
theorem er_cn_same {f : Nat → Int32} {k n : Nat} {x : Int32} (h : k < n) (h0 : ¬ f k = 0) (hx : ¬ x = 0) : er_cn (upd f k x) n = er_cn f n := by
  have j := er_cn_upd (f := f) (x := x) n h
  rw [if_neg h0, if_neg hx] at j
  omega
theorem er_cn_dec {f : Nat → Int32} {k n : Nat} {x : Int32} (h : k < n) (h0 : f k = 0) (hx : ¬ x = 0) : nI (er_cn f n) + (-1) = nI (er_cn (upd f k x) n) := by
  rw [er_cn_take h h0 hx, pk_m1]
theorem er_cn_dec' {f : Nat → Int32} {k n : Nat} {x : Int32} (h : k < n) (h0 : f k = 0) (hx : ¬ x = 0) : nI (er_cn f n) - 1 = nI (er_cn (upd f k x) n) := by
  rw [er_cn_take h h0 hx, nI_pred]
theorem er_cn_inc {f : Nat → Int32} {k n : Nat} (h : k < n) (h0 : ¬ f k = 0) : nI (er_cn f n) + 1 = nI (er_cn (upd f k 0) n) := by
  rw [er_cn_free h h0, nI_1]
theorem er_cn_0 : ∀ n, er_cn (fun _ => 0) n = n := by
  intro n
  induction n with
  | zero => rfl
  | succ n ih =>
    show er_cn (fun _ => 0) n + (if (0 : Int32) = 0 then 1 else 0) = n + 1
    rw [ih, if_pos rfl]
/-! the list of an epoch -/
theorem er_m3 (x : Int32) : (x - x / 3 * 3 < 0 → ∃ k, k < 3 ∧ x - x / 3 * 3 + 3 = nI k) ∧ (¬ x - x / 3 * 3 < 0 → ∃ k, k < 3 ∧ x - x / 3 * 3 = nI k) := by
  have e := rem_toInt x 3
  have b := tmod_bounds (a := x.toInt) (M := 3) (by decide)
  have e3 : (3 : Int32).toInt = 3 := by decide
  have e0 : (0 : Int32).toInt = 0 := by decide
  rw [e3] at e
  rw [← e] at b
  generalize x - x / 3 * 3 = r at b ⊢
  constructor
  · intro h
    rw [Int32.lt_iff_toInt_lt, e0] at h
    have hb : (r.toInt + 3).bmod (2 ^ 32) = r.toInt + 3 := Int.bmod_eq_of_le (by omega) (by omega)
    refine ⟨(r.toInt + 3).toNat, by omega, Int32.toInt_inj.mp ?_⟩
    rw [Int32.toInt_add, nI_toInt (by omega), e3, hb]
    omega
  · intro h
    rw [Int32.lt_iff_toInt_lt, e0] at h
    refine ⟨r.toInt.toNat, by omega, Int32.toInt_inj.mp ?_⟩
    rw [nI_toInt (by omega)]
    omega
/-! clamping -/
theorem er_cl (x : Int32) (a b : Nat) (hab : a ≤ b) (hb : b < 2 ^ 31) : x < nI a ∨ (¬ x < nI a ∧ nI b < x ∧ ¬ x ≤ nI b) ∨ (¬ x < nI a ∧ ¬ nI b < x ∧ x ≤ nI b ∧ ∃ j, a ≤ j ∧ j ≤ b ∧ x = nI j) := by
  by_cases h : x < nI a
  · exact Or.inl h
  · right
    have h0 : ¬ x < 0 := by
      have g := nI_pos' (n := a) (by omega)
      rw [Int32.lt_iff_toInt_lt] at h ⊢
      rw [Int32.le_iff_toInt_le] at g
      omega
    obtain ⟨j, hj, rfl⟩ := nI_of h0
    have ha : a ≤ j := by
      rw [nI_ltI hj (by omega)] at h
      omega
    by_cases g : nI b < nI j
    · have g2 : b < j := (nI_ltI hb hj).mp g
      exact Or.inl ⟨h, g, nI_ge g2 hj⟩
    · have g2 : ¬ b < j := fun z => g ((nI_ltI hb hj).mpr z)
      exact Or.inr ⟨h, g, nI_le (by omega) hb, j, ha, by omega, rfl⟩
/-! the least FREE cell -/
theorem er_least (f : Nat → Int32) (n : Nat) : (∀ j, j < n → ¬ f j = 0) ∨ ∃ c, c < n ∧ f c = 0 ∧ ∀ j, j < c → ¬ f j = 0 := by
  induction n with
  | zero => exact Or.inl fun j h => absurd h (Nat.not_lt_zero j)
  | succ n ih =>
    rcases ih with h | ⟨c, h1, h2, h3⟩
    · by_cases e : f n = 0
      · exact Or.inr ⟨n, Nat.lt_succ_self n, e, h⟩
      · refine Or.inl fun j hj => ?_
        by_cases q : j = n
        · rw [q]; exact e
        · exact h j (by omega)
    · exact Or.inr ⟨c, by omega, h2, h3⟩
/-! indices -/
theorem er_ix (x : Int32) {n : Nat} (hn : n < 2 ^ 31) : x < 0 ∨ (¬ x < 0 ∧ ¬ x < nI n ∧ nI n ≤ x) ∨ ∃ j : Nat, j < n ∧ x = nI j := by
  rcases pk_ix x hn with h | h | h
  · exact Or.inl h
  · have g := nI_pos' (n := n) hn
    rw [Int32.le_iff_toInt_le] at g h
    refine Or.inr (Or.inl ⟨?_, ?_, ?_⟩)
    · rw [Int32.lt_iff_toInt_lt]
      have e0 : (0 : Int32).toInt = 0 := by decide
      omega
    · rw [Int32.lt_iff_toInt_lt]
      omega
    · rw [Int32.le_iff_toInt_le]
      exact h
  · exact Or.inr (Or.inr h)
theorem er_ne0 {p : Nat} (h0 : p ≠ 0) (h : p < 2 ^ 31) : ¬ nI p = 0 := nI_ne0 (by omega) h
theorem er_ne {a b : Nat} (h : a ≠ b) (ha : a < 2 ^ 31) (hb : b < 2 ^ 31) : ¬ nI a = nI b := fun e => h ((nI_eq ha hb).mp e)
end
section
section
variable {nc nt gp tc ep tr df lt dr ad fc re : Int32} {cs cv cx le lc tp pn an kd mn sn vl rs er ev : Nat → Int32}
variable {x y : Int32}
/-! a number within 0 .. n - 1 -/
def er_ir (x n : Int32) : Prop := ¬ x < 0 ∧ ¬ n ≤ x
theorem er_10 : ¬ (1 : Int32) = 0 := by decide
theorem er_ir_in {T N : Nat} (hT : T ≤ N) (hN : N < 2 ^ 31) (h : er_ir x (nI T)) : vp_in x N ∧ x.toNatClampNeg < T := by
  obtain ⟨j, hj, rfl⟩ := nI_of h.1
  have g : j < T := by
    have h2 := h.2
    rw [nI_leI (by omega) hj] at h2
    omega
  exact ⟨vp_in_nI (by omega) hN, by rw [nI_clamp hj]; exact g⟩
theorem er_ir_nI {j T : Nat} (h : j < T) (hT : T < 2 ^ 31) : er_ir (nI j) (nI T) := ⟨nI_pos (by omega), nI_ge h hT⟩
/-! what isn't one of 0 .. n falls out of the switch -/
theorem er_sw (x : Int32) (n : Nat) (hn : n < 2 ^ 31) (h : ∀ j, j ≤ n → ¬ x = nI j) : x < 0 ∨ (¬ x < 0 ∧ nI n < x) := by
  by_cases h0 : x < 0
  · exact Or.inl h0
  · obtain ⟨j, hj, rfl⟩ := nI_of h0
    have g : ¬ j ≤ n := fun z => h j z rfl
    exact Or.inr ⟨h0, nI_lt (by omega) hj⟩
theorem xq_T1 {post : Int32 → Prop} (h : er_ir x nt) (hp : post 1) : wpX_isThread post (nc, nt, gp, tc, ep, tr, df, lt, dr, ad, fc, re, cs, cv, cx, le, lc, tp, pn, an, kd, mn, sn, vl, rs, er, ev) x := br_f h.1 (br_f h.2 hp)
theorem xq_T0 {post : Int32 → Prop} (h : ¬ er_ir x nt) (hp : post 0) : wpX_isThread post (nc, nt, gp, tc, ep, tr, df, lt, dr, ad, fc, re, cs, cv, cx, le, lc, tp, pn, an, kd, mn, sn, vl, rs, er, ev) x := br_c (fun _ => hp) (fun h0 => br_c (fun _ => hp) (fun h1 => absurd ⟨h0, h1⟩ h))
theorem xq_C1 {post : Int32 → Prop} (h : er_ir x nc) (hp : post 1) : wpX_isCell post (nc, nt, gp, tc, ep, tr, df, lt, dr, ad, fc, re, cs, cv, cx, le, lc, tp, pn, an, kd, mn, sn, vl, rs, er, ev) x := br_f h.1 (br_f h.2 hp)
theorem xq_C0 {post : Int32 → Prop} (h : ¬ er_ir x nc) (hp : post 0) : wpX_isCell post (nc, nt, gp, tc, ep, tr, df, lt, dr, ad, fc, re, cs, cv, cx, le, lc, tp, pn, an, kd, mn, sn, vl, rs, er, ev) x := br_c (fun _ => hp) (fun h0 => br_c (fun _ => hp) (fun h1 => absurd ⟨h0, h1⟩ h))
theorem xq_phase1 {post : Int32 → Prop} (h : er_ir x nt) (hv : vp_in x 4) (hp : post (tp x.toNatClampNeg)) : wpX_phase post (nc, nt, gp, tc, ep, tr, df, lt, dr, ad, fc, re, cs, cv, cx, le, lc, tp, pn, an, kd, mn, sn, vl, rs, er, ev) x := by
  unfold wpX_phase
  exact xq_T1 h (br_f er_10 ⟨hv, hp⟩)
theorem xq_phase0 {post : Int32 → Prop} (h : ¬ er_ir x nt) (hp : post (-1)) : wpX_phase post (nc, nt, gp, tc, ep, tr, df, lt, dr, ad, fc, re, cs, cv, cx, le, lc, tp, pn, an, kd, mn, sn, vl, rs, er, ev) x := by
  unfold wpX_phase
  exact xq_T0 h (br_t rfl hp)
theorem xq_lastResult1 {post : Int32 → Prop} (h : er_ir x nt) (hv : vp_in x 4) (hp : post (er x.toNatClampNeg)) : wpX_lastResult post (nc, nt, gp, tc, ep, tr, df, lt, dr, ad, fc, re, cs, cv, cx, le, lc, tp, pn, an, kd, mn, sn, vl, rs, er, ev) x := by
  unfold wpX_lastResult
  exact xq_T1 h (br_f er_10 ⟨hv, hp⟩)
theorem xq_lastResult0 {post : Int32 → Prop} (h : ¬ er_ir x nt) (hp : post (-1)) : wpX_lastResult post (nc, nt, gp, tc, ep, tr, df, lt, dr, ad, fc, re, cs, cv, cx, le, lc, tp, pn, an, kd, mn, sn, vl, rs, er, ev) x := by
  unfold wpX_lastResult
  exact xq_T0 h (br_t rfl hp)
theorem xq_lastValue1 {post : Int32 → Prop} (h : er_ir x nt) (hv : vp_in x 4) (hp : post (ev x.toNatClampNeg)) : wpX_lastValue post (nc, nt, gp, tc, ep, tr, df, lt, dr, ad, fc, re, cs, cv, cx, le, lc, tp, pn, an, kd, mn, sn, vl, rs, er, ev) x := by
  unfold wpX_lastValue
  exact xq_T1 h (br_f er_10 ⟨hv, hp⟩)
theorem xq_lastValue0 {post : Int32 → Prop} (h : ¬ er_ir x nt) (hp : post (-1)) : wpX_lastValue post (nc, nt, gp, tc, ep, tr, df, lt, dr, ad, fc, re, cs, cv, cx, le, lc, tp, pn, an, kd, mn, sn, vl, rs, er, ev) x := by
  unfold wpX_lastValue
  exact xq_T0 h (br_t rfl hp)
theorem xq_announced2 {post : Int32 → Prop} (h : er_ir x nt) (hv : vp_in x 4) (hb : ¬ pn x.toNatClampNeg = 0) (hp : post (an x.toNatClampNeg)) : wpX_announced post (nc, nt, gp, tc, ep, tr, df, lt, dr, ad, fc, re, cs, cv, cx, le, lc, tp, pn, an, kd, mn, sn, vl, rs, er, ev) x := by
  unfold wpX_announced
  exact xq_T1 h (br_f er_10 ⟨hv, br_f hb ⟨hv, hp⟩⟩)
theorem xq_announced1 {post : Int32 → Prop} (h : er_ir x nt) (hv : vp_in x 4) (hb : pn x.toNatClampNeg = 0) (hp : post (-1)) : wpX_announced post (nc, nt, gp, tc, ep, tr, df, lt, dr, ad, fc, re, cs, cv, cx, le, lc, tp, pn, an, kd, mn, sn, vl, rs, er, ev) x := by
  unfold wpX_announced
  exact xq_T1 h (br_f er_10 ⟨hv, br_t hb hp⟩)
theorem xq_announced0 {post : Int32 → Prop} (h : ¬ er_ir x nt) (hp : post (-1)) : wpX_announced post (nc, nt, gp, tc, ep, tr, df, lt, dr, ad, fc, re, cs, cv, cx, le, lc, tp, pn, an, kd, mn, sn, vl, rs, er, ev) x := by
  unfold wpX_announced
  exact xq_T0 h (br_t rfl hp)
theorem xq_local_0 {post : Int32 → Prop} (h : er_ir x nt) (hv : vp_in x 4) (hp : post (kd x.toNatClampNeg)) : wpX_local post (nc, nt, gp, tc, ep, tr, df, lt, dr, ad, fc, re, cs, cv, cx, le, lc, tp, pn, an, kd, mn, sn, vl, rs, er, ev) x 0 := by
  unfold wpX_local
  exact xq_T1 h (br_f er_10 (br_f (by decide) (br_f (by decide) (br_t rfl ⟨hv, hp⟩))))
theorem xq_local_1 {post : Int32 → Prop} (h : er_ir x nt) (hv : vp_in x 4) (hp : post (mn x.toNatClampNeg)) : wpX_local post (nc, nt, gp, tc, ep, tr, df, lt, dr, ad, fc, re, cs, cv, cx, le, lc, tp, pn, an, kd, mn, sn, vl, rs, er, ev) x 1 := by
  unfold wpX_local
  exact xq_T1 h (br_f er_10 (br_f (by decide) (br_f (by decide) (br_f (by decide) (br_t rfl ⟨hv, hp⟩)))))
theorem xq_local_2 {post : Int32 → Prop} (h : er_ir x nt) (hv : vp_in x 4) (hp : post (sn x.toNatClampNeg)) : wpX_local post (nc, nt, gp, tc, ep, tr, df, lt, dr, ad, fc, re, cs, cv, cx, le, lc, tp, pn, an, kd, mn, sn, vl, rs, er, ev) x 2 := by
  unfold wpX_local
  exact xq_T1 h (br_f er_10 (br_f (by decide) (br_f (by decide) (br_f (by decide) (br_f (by decide) (br_t rfl ⟨hv, hp⟩))))))
theorem xq_local_3 {post : Int32 → Prop} (h : er_ir x nt) (hv : vp_in x 4) (hp : post (vl x.toNatClampNeg)) : wpX_local post (nc, nt, gp, tc, ep, tr, df, lt, dr, ad, fc, re, cs, cv, cx, le, lc, tp, pn, an, kd, mn, sn, vl, rs, er, ev) x 3 := by
  unfold wpX_local
  exact xq_T1 h (br_f er_10 (br_f (by decide) (br_f (by decide) (br_f (by decide) (br_f (by decide) (br_f (by decide) (br_t rfl ⟨hv, hp⟩)))))))
theorem xq_local_4 {post : Int32 → Prop} (h : er_ir x nt) (hv : vp_in x 4) (hp : post (rs x.toNatClampNeg)) : wpX_local post (nc, nt, gp, tc, ep, tr, df, lt, dr, ad, fc, re, cs, cv, cx, le, lc, tp, pn, an, kd, mn, sn, vl, rs, er, ev) x 4 := by
  unfold wpX_local
  exact xq_T1 h (br_f er_10 (br_f (by decide) (br_f (by decide) (br_f (by decide) (br_f (by decide) (br_f (by decide) (br_f (by decide) (br_t rfl ⟨hv, hp⟩))))))))
theorem xq_local_o {post : Int32 → Prop} (h : er_ir x nt) (h0 : ¬ y = 0) (h1 : ¬ y = 1) (h2 : ¬ y = 2) (h3 : ¬ y = 3) (h4 : ¬ y = 4) (hp : post (-1)) : wpX_local post (nc, nt, gp, tc, ep, tr, df, lt, dr, ad, fc, re, cs, cv, cx, le, lc, tp, pn, an, kd, mn, sn, vl, rs, er, ev) x y := by
  unfold wpX_local
  have G : y < 0 ∨ (¬ y < 0 ∧ nI 4 < y) := er_sw y 4 (by decide) (fun j hj => by
    rcases (by omega : j = 0 ∨ j = 1 ∨ j = 2 ∨ j = 3 ∨ j = 4) with rfl | rfl | rfl | rfl | rfl
    · exact h0
    · exact h1
    · exact h2
    · exact h3
    · exact h4)
  refine xq_T1 h (br_f er_10 ?_)
  rcases G with g | ⟨g1, g2⟩
  · exact br_t g hp
  · exact br_f g1 (br_t g2 hp)
theorem xq_local_n {post : Int32 → Prop} (h : ¬ er_ir x nt) (hp : post (-1)) : wpX_local post (nc, nt, gp, tc, ep, tr, df, lt, dr, ad, fc, re, cs, cv, cx, le, lc, tp, pn, an, kd, mn, sn, vl, rs, er, ev) x y := by
  unfold wpX_local
  exact xq_T0 h (br_t rfl hp)
theorem xq_cell_0 {post : Int32 → Prop} (h : er_ir x nc) (hv : vp_in x 32) (hp : post (cs x.toNatClampNeg)) : wpX_cell post (nc, nt, gp, tc, ep, tr, df, lt, dr, ad, fc, re, cs, cv, cx, le, lc, tp, pn, an, kd, mn, sn, vl, rs, er, ev) x 0 := by
  unfold wpX_cell
  exact xq_C1 h (br_f er_10 (br_f (by decide) (br_f (by decide) (br_t rfl ⟨hv, hp⟩))))
theorem xq_cell_1 {post : Int32 → Prop} (h : er_ir x nc) (hv : vp_in x 32) (hp : post (cv x.toNatClampNeg)) : wpX_cell post (nc, nt, gp, tc, ep, tr, df, lt, dr, ad, fc, re, cs, cv, cx, le, lc, tp, pn, an, kd, mn, sn, vl, rs, er, ev) x 1 := by
  unfold wpX_cell
  exact xq_C1 h (br_f er_10 (br_f (by decide) (br_f (by decide) (br_f (by decide) (br_t rfl ⟨hv, hp⟩)))))
theorem xq_cell_2 {post : Int32 → Prop} (h : er_ir x nc) (hv : vp_in x 32) (hp : post (cx x.toNatClampNeg)) : wpX_cell post (nc, nt, gp, tc, ep, tr, df, lt, dr, ad, fc, re, cs, cv, cx, le, lc, tp, pn, an, kd, mn, sn, vl, rs, er, ev) x 2 := by
  unfold wpX_cell
  exact xq_C1 h (br_f er_10 (br_f (by decide) (br_f (by decide) (br_f (by decide) (br_f (by decide) (br_t rfl ⟨hv, hp⟩))))))
theorem xq_cell_o {post : Int32 → Prop} (h : er_ir x nc) (h0 : ¬ y = 0) (h1 : ¬ y = 1) (h2 : ¬ y = 2) (hp : post (-1)) : wpX_cell post (nc, nt, gp, tc, ep, tr, df, lt, dr, ad, fc, re, cs, cv, cx, le, lc, tp, pn, an, kd, mn, sn, vl, rs, er, ev) x y := by
  unfold wpX_cell
  have G : y < 0 ∨ (¬ y < 0 ∧ nI 2 < y) := er_sw y 2 (by decide) (fun j hj => by
    rcases (by omega : j = 0 ∨ j = 1 ∨ j = 2) with rfl | rfl | rfl
    · exact h0
    · exact h1
    · exact h2)
  refine xq_C1 h (br_f er_10 ?_)
  rcases G with g | ⟨g1, g2⟩
  · exact br_t g hp
  · exact br_f g1 (br_t g2 hp)
theorem xq_cell_n {post : Int32 → Prop} (h : ¬ er_ir x nc) (hp : post (-1)) : wpX_cell post (nc, nt, gp, tc, ep, tr, df, lt, dr, ad, fc, re, cs, cv, cx, le, lc, tp, pn, an, kd, mn, sn, vl, rs, er, ev) x y := by
  unfold wpX_cell
  exact xq_C0 h (br_t rfl hp)
theorem xq_start2 {post : Int32 → SX → Prop} {k v : Int32} (h : er_ir x nt) (hv : vp_in x 4) (h0 : tp x.toNatClampNeg = 0) (hp : post 1 (nc, nt, gp, tc, ep, tr, df, lt, dr, ad, fc, re, cs, cv, cx, le, lc, upd tp x.toNatClampNeg 1, pn, an, upd kd x.toNatClampNeg k, upd mn x.toNatClampNeg (-1), upd sn x.toNatClampNeg (-1), upd vl x.toNatClampNeg v, upd rs x.toNatClampNeg 0, er, ev)) : wpX_start post (nc, nt, gp, tc, ep, tr, df, lt, dr, ad, fc, re, cs, cv, cx, le, lc, tp, pn, an, kd, mn, sn, vl, rs, er, ev) x k v := by
  unfold wpX_start
  exact xq_T1 h (br_f er_10 ⟨hv, br_t h0 ⟨hv, nm_e ⟨hv, nm_e ⟨hv, nm_e ⟨hv, nm_e ⟨hv, nm_e ⟨hv, nm_e hp⟩⟩⟩⟩⟩⟩⟩)
theorem xq_start1 {post : Int32 → SX → Prop} {k v : Int32} (h : er_ir x nt) (hv : vp_in x 4) (h0 : ¬ tp x.toNatClampNeg = 0) (hp : post 0 (nc, nt, gp, tc, ep, tr, df, lt, dr, ad, fc, re, cs, cv, cx, le, lc, tp, pn, an, kd, mn, sn, vl, rs, er, ev)) : wpX_start post (nc, nt, gp, tc, ep, tr, df, lt, dr, ad, fc, re, cs, cv, cx, le, lc, tp, pn, an, kd, mn, sn, vl, rs, er, ev) x k v := by
  unfold wpX_start
  exact xq_T1 h (br_f er_10 ⟨hv, br_f h0 hp⟩)
theorem xq_start0 {post : Int32 → SX → Prop} {k v : Int32} (h : ¬ er_ir x nt) (hp : post 0 (nc, nt, gp, tc, ep, tr, df, lt, dr, ad, fc, re, cs, cv, cx, le, lc, tp, pn, an, kd, mn, sn, vl, rs, er, ev)) : wpX_start post (nc, nt, gp, tc, ep, tr, df, lt, dr, ad, fc, re, cs, cv, cx, le, lc, tp, pn, an, kd, mn, sn, vl, rs, er, ev) x k v := by
  unfold wpX_start
  exact xq_T0 h (br_t rfl hp)
theorem xq_push2 {post : Int32 → SX → Prop} (h : er_ir x nt) (hv : vp_in x 4) (h0 : tp x.toNatClampNeg = 0) (hp : post 1 (nc, nt, gp, tc, ep, tr, df, lt, dr, ad, fc, re, cs, cv, cx, le, lc, upd tp x.toNatClampNeg 1, pn, an, upd kd x.toNatClampNeg 1, upd mn x.toNatClampNeg (-1), upd sn x.toNatClampNeg (-1), upd vl x.toNatClampNeg y, upd rs x.toNatClampNeg 0, er, ev)) : wpX_push post (nc, nt, gp, tc, ep, tr, df, lt, dr, ad, fc, re, cs, cv, cx, le, lc, tp, pn, an, kd, mn, sn, vl, rs, er, ev) x y := by
  unfold wpX_push
  exact xq_start2 h hv h0 ⟨rfl, hp⟩
theorem xq_push1 {post : Int32 → SX → Prop} (h : er_ir x nt) (hv : vp_in x 4) (h0 : ¬ tp x.toNatClampNeg = 0) (hp : post 0 (nc, nt, gp, tc, ep, tr, df, lt, dr, ad, fc, re, cs, cv, cx, le, lc, tp, pn, an, kd, mn, sn, vl, rs, er, ev)) : wpX_push post (nc, nt, gp, tc, ep, tr, df, lt, dr, ad, fc, re, cs, cv, cx, le, lc, tp, pn, an, kd, mn, sn, vl, rs, er, ev) x y := by
  unfold wpX_push
  exact xq_start1 h hv h0 ⟨rfl, hp⟩
theorem xq_push0 {post : Int32 → SX → Prop} (h : ¬ er_ir x nt) (hp : post 0 (nc, nt, gp, tc, ep, tr, df, lt, dr, ad, fc, re, cs, cv, cx, le, lc, tp, pn, an, kd, mn, sn, vl, rs, er, ev)) : wpX_push post (nc, nt, gp, tc, ep, tr, df, lt, dr, ad, fc, re, cs, cv, cx, le, lc, tp, pn, an, kd, mn, sn, vl, rs, er, ev) x y := by
  unfold wpX_push
  exact xq_start0 h ⟨rfl, hp⟩
theorem xq_pop2 {post : Int32 → SX → Prop} (h : er_ir x nt) (hv : vp_in x 4) (h0 : tp x.toNatClampNeg = 0) (hp : post 1 (nc, nt, gp, tc, ep, tr, df, lt, dr, ad, fc, re, cs, cv, cx, le, lc, upd tp x.toNatClampNeg 1, pn, an, upd kd x.toNatClampNeg 2, upd mn x.toNatClampNeg (-1), upd sn x.toNatClampNeg (-1), upd vl x.toNatClampNeg 0, upd rs x.toNatClampNeg 0, er, ev)) : wpX_pop post (nc, nt, gp, tc, ep, tr, df, lt, dr, ad, fc, re, cs, cv, cx, le, lc, tp, pn, an, kd, mn, sn, vl, rs, er, ev) x := by
  unfold wpX_pop
  exact xq_start2 h hv h0 ⟨rfl, hp⟩
theorem xq_pop1 {post : Int32 → SX → Prop} (h : er_ir x nt) (hv : vp_in x 4) (h0 : ¬ tp x.toNatClampNeg = 0) (hp : post 0 (nc, nt, gp, tc, ep, tr, df, lt, dr, ad, fc, re, cs, cv, cx, le, lc, tp, pn, an, kd, mn, sn, vl, rs, er, ev)) : wpX_pop post (nc, nt, gp, tc, ep, tr, df, lt, dr, ad, fc, re, cs, cv, cx, le, lc, tp, pn, an, kd, mn, sn, vl, rs, er, ev) x := by
  unfold wpX_pop
  exact xq_start1 h hv h0 ⟨rfl, hp⟩
theorem xq_pop0 {post : Int32 → SX → Prop} (h : ¬ er_ir x nt) (hp : post 0 (nc, nt, gp, tc, ep, tr, df, lt, dr, ad, fc, re, cs, cv, cx, le, lc, tp, pn, an, kd, mn, sn, vl, rs, er, ev)) : wpX_pop post (nc, nt, gp, tc, ep, tr, df, lt, dr, ad, fc, re, cs, cv, cx, le, lc, tp, pn, an, kd, mn, sn, vl, rs, er, ev) x := by
  unfold wpX_pop
  exact xq_start0 h ⟨rfl, hp⟩
theorem yq_T1 {post : Int32 → Prop} (h : er_ir x nt) (hp : post 1) : wpY_okT post (nc, nt, gp, tc, ep, tr, df, lt, dr, ad, re, cs, cv, cx, le, lc, tp, pn, an, kd, mn, sn, vl, rs, er, ev) x := br_f h.1 (br_f h.2 hp)
theorem yq_T0 {post : Int32 → Prop} (h : ¬ er_ir x nt) (hp : post 0) : wpY_okT post (nc, nt, gp, tc, ep, tr, df, lt, dr, ad, re, cs, cv, cx, le, lc, tp, pn, an, kd, mn, sn, vl, rs, er, ev) x := br_c (fun _ => hp) (fun h0 => br_c (fun _ => hp) (fun h1 => absurd ⟨h0, h1⟩ h))
theorem yq_C1 {post : Int32 → Prop} (h : er_ir x nc) (hp : post 1) : wpY_okC post (nc, nt, gp, tc, ep, tr, df, lt, dr, ad, re, cs, cv, cx, le, lc, tp, pn, an, kd, mn, sn, vl, rs, er, ev) x := br_f h.1 (br_f h.2 hp)
theorem yq_C0 {post : Int32 → Prop} (h : ¬ er_ir x nc) (hp : post 0) : wpY_okC post (nc, nt, gp, tc, ep, tr, df, lt, dr, ad, re, cs, cv, cx, le, lc, tp, pn, an, kd, mn, sn, vl, rs, er, ev) x := br_c (fun _ => hp) (fun h0 => br_c (fun _ => hp) (fun h1 => absurd ⟨h0, h1⟩ h))
theorem yq_phase1 {post : Int32 → Prop} (h : er_ir x nt) (hv : vp_in x 4) (hp : post (tp x.toNatClampNeg)) : wpY_phase post (nc, nt, gp, tc, ep, tr, df, lt, dr, ad, re, cs, cv, cx, le, lc, tp, pn, an, kd, mn, sn, vl, rs, er, ev) x := by
  unfold wpY_phase
  exact yq_T1 h (br_f er_10 ⟨hv, hp⟩)
theorem yq_phase0 {post : Int32 → Prop} (h : ¬ er_ir x nt) (hp : post (-1)) : wpY_phase post (nc, nt, gp, tc, ep, tr, df, lt, dr, ad, re, cs, cv, cx, le, lc, tp, pn, an, kd, mn, sn, vl, rs, er, ev) x := by
  unfold wpY_phase
  exact yq_T0 h (br_t rfl hp)
theorem yq_lastResult1 {post : Int32 → Prop} (h : er_ir x nt) (hv : vp_in x 4) (hp : post (er x.toNatClampNeg)) : wpY_lastResult post (nc, nt, gp, tc, ep, tr, df, lt, dr, ad, re, cs, cv, cx, le, lc, tp, pn, an, kd, mn, sn, vl, rs, er, ev) x := by
  unfold wpY_lastResult
  exact yq_T1 h (br_f er_10 ⟨hv, hp⟩)
theorem yq_lastResult0 {post : Int32 → Prop} (h : ¬ er_ir x nt) (hp : post (-1)) : wpY_lastResult post (nc, nt, gp, tc, ep, tr, df, lt, dr, ad, re, cs, cv, cx, le, lc, tp, pn, an, kd, mn, sn, vl, rs, er, ev) x := by
  unfold wpY_lastResult
  exact yq_T0 h (br_t rfl hp)
theorem yq_lastValue1 {post : Int32 → Prop} (h : er_ir x nt) (hv : vp_in x 4) (hp : post (ev x.toNatClampNeg)) : wpY_lastValue post (nc, nt, gp, tc, ep, tr, df, lt, dr, ad, re, cs, cv, cx, le, lc, tp, pn, an, kd, mn, sn, vl, rs, er, ev) x := by
  unfold wpY_lastValue
  exact yq_T1 h (br_f er_10 ⟨hv, hp⟩)
theorem yq_lastValue0 {post : Int32 → Prop} (h : ¬ er_ir x nt) (hp : post (-1)) : wpY_lastValue post (nc, nt, gp, tc, ep, tr, df, lt, dr, ad, re, cs, cv, cx, le, lc, tp, pn, an, kd, mn, sn, vl, rs, er, ev) x := by
  unfold wpY_lastValue
  exact yq_T0 h (br_t rfl hp)
theorem yq_announced2 {post : Int32 → Prop} (h : er_ir x nt) (hv : vp_in x 4) (hb : ¬ pn x.toNatClampNeg = 0) (hp : post (an x.toNatClampNeg)) : wpY_announced post (nc, nt, gp, tc, ep, tr, df, lt, dr, ad, re, cs, cv, cx, le, lc, tp, pn, an, kd, mn, sn, vl, rs, er, ev) x := by
  unfold wpY_announced
  exact yq_T1 h (br_f er_10 ⟨hv, br_f hb ⟨hv, hp⟩⟩)
theorem yq_announced1 {post : Int32 → Prop} (h : er_ir x nt) (hv : vp_in x 4) (hb : pn x.toNatClampNeg = 0) (hp : post (-1)) : wpY_announced post (nc, nt, gp, tc, ep, tr, df, lt, dr, ad, re, cs, cv, cx, le, lc, tp, pn, an, kd, mn, sn, vl, rs, er, ev) x := by
  unfold wpY_announced
  exact yq_T1 h (br_f er_10 ⟨hv, br_t hb hp⟩)
theorem yq_announced0 {post : Int32 → Prop} (h : ¬ er_ir x nt) (hp : post (-1)) : wpY_announced post (nc, nt, gp, tc, ep, tr, df, lt, dr, ad, re, cs, cv, cx, le, lc, tp, pn, an, kd, mn, sn, vl, rs, er, ev) x := by
  unfold wpY_announced
  exact yq_T0 h (br_t rfl hp)
theorem yq_local_0 {post : Int32 → Prop} (h : er_ir x nt) (hv : vp_in x 4) (hp : post (kd x.toNatClampNeg)) : wpY_local post (nc, nt, gp, tc, ep, tr, df, lt, dr, ad, re, cs, cv, cx, le, lc, tp, pn, an, kd, mn, sn, vl, rs, er, ev) x 0 := by
  unfold wpY_local
  exact yq_T1 h (br_f er_10 (br_t rfl ⟨hv, hp⟩))
theorem yq_local_1 {post : Int32 → Prop} (h : er_ir x nt) (hv : vp_in x 4) (hp : post (mn x.toNatClampNeg)) : wpY_local post (nc, nt, gp, tc, ep, tr, df, lt, dr, ad, re, cs, cv, cx, le, lc, tp, pn, an, kd, mn, sn, vl, rs, er, ev) x 1 := by
  unfold wpY_local
  exact yq_T1 h (br_f er_10 (br_f (by decide) (br_t rfl ⟨hv, hp⟩)))
theorem yq_local_2 {post : Int32 → Prop} (h : er_ir x nt) (hv : vp_in x 4) (hp : post (sn x.toNatClampNeg)) : wpY_local post (nc, nt, gp, tc, ep, tr, df, lt, dr, ad, re, cs, cv, cx, le, lc, tp, pn, an, kd, mn, sn, vl, rs, er, ev) x 2 := by
  unfold wpY_local
  exact yq_T1 h (br_f er_10 (br_f (by decide) (br_f (by decide) (br_t rfl ⟨hv, hp⟩))))
theorem yq_local_3 {post : Int32 → Prop} (h : er_ir x nt) (hv : vp_in x 4) (hp : post (vl x.toNatClampNeg)) : wpY_local post (nc, nt, gp, tc, ep, tr, df, lt, dr, ad, re, cs, cv, cx, le, lc, tp, pn, an, kd, mn, sn, vl, rs, er, ev) x 3 := by
  unfold wpY_local
  exact yq_T1 h (br_f er_10 (br_f (by decide) (br_f (by decide) (br_f (by decide) (br_t rfl ⟨hv, hp⟩)))))
theorem yq_local_4 {post : Int32 → Prop} (h : er_ir x nt) (hv : vp_in x 4) (hp : post (rs x.toNatClampNeg)) : wpY_local post (nc, nt, gp, tc, ep, tr, df, lt, dr, ad, re, cs, cv, cx, le, lc, tp, pn, an, kd, mn, sn, vl, rs, er, ev) x 4 := by
  unfold wpY_local
  exact yq_T1 h (br_f er_10 (br_f (by decide) (br_f (by decide) (br_f (by decide) (br_f (by decide) (br_t rfl ⟨hv, hp⟩))))))
theorem yq_local_o {post : Int32 → Prop} (h : er_ir x nt) (h0 : ¬ y = 0) (h1 : ¬ y = 1) (h2 : ¬ y = 2) (h3 : ¬ y = 3) (h4 : ¬ y = 4) (hp : post (-1)) : wpY_local post (nc, nt, gp, tc, ep, tr, df, lt, dr, ad, re, cs, cv, cx, le, lc, tp, pn, an, kd, mn, sn, vl, rs, er, ev) x y := by
  unfold wpY_local
  exact yq_T1 h (br_f er_10 (br_f h0 (br_f h1 (br_f h2 (br_f h3 (br_f h4 (hp)))))))
theorem yq_local_n {post : Int32 → Prop} (h : ¬ er_ir x nt) (hp : post (-1)) : wpY_local post (nc, nt, gp, tc, ep, tr, df, lt, dr, ad, re, cs, cv, cx, le, lc, tp, pn, an, kd, mn, sn, vl, rs, er, ev) x y := by
  unfold wpY_local
  exact yq_T0 h (br_t rfl hp)
theorem yq_cell_0 {post : Int32 → Prop} (h : er_ir x nc) (hv : vp_in x 32) (hp : post (cs x.toNatClampNeg)) : wpY_cell post (nc, nt, gp, tc, ep, tr, df, lt, dr, ad, re, cs, cv, cx, le, lc, tp, pn, an, kd, mn, sn, vl, rs, er, ev) x 0 := by
  unfold wpY_cell
  exact yq_C1 h (br_f er_10 (br_t rfl ⟨hv, hp⟩))
theorem yq_cell_1 {post : Int32 → Prop} (h : er_ir x nc) (hv : vp_in x 32) (hp : post (cv x.toNatClampNeg)) : wpY_cell post (nc, nt, gp, tc, ep, tr, df, lt, dr, ad, re, cs, cv, cx, le, lc, tp, pn, an, kd, mn, sn, vl, rs, er, ev) x 1 := by
  unfold wpY_cell
  exact yq_C1 h (br_f er_10 (br_f (by decide) (br_t rfl ⟨hv, hp⟩)))
theorem yq_cell_2 {post : Int32 → Prop} (h : er_ir x nc) (hv : vp_in x 32) (hp : post (cx x.toNatClampNeg)) : wpY_cell post (nc, nt, gp, tc, ep, tr, df, lt, dr, ad, re, cs, cv, cx, le, lc, tp, pn, an, kd, mn, sn, vl, rs, er, ev) x 2 := by
  unfold wpY_cell
  exact yq_C1 h (br_f er_10 (br_f (by decide) (br_f (by decide) (br_t rfl ⟨hv, hp⟩))))
theorem yq_cell_o {post : Int32 → Prop} (h : er_ir x nc) (h0 : ¬ y = 0) (h1 : ¬ y = 1) (h2 : ¬ y = 2) (hp : post (-1)) : wpY_cell post (nc, nt, gp, tc, ep, tr, df, lt, dr, ad, re, cs, cv, cx, le, lc, tp, pn, an, kd, mn, sn, vl, rs, er, ev) x y := by
  unfold wpY_cell
  exact yq_C1 h (br_f er_10 (br_f h0 (br_f h1 (br_f h2 (hp)))))
theorem yq_cell_n {post : Int32 → Prop} (h : ¬ er_ir x nc) (hp : post (-1)) : wpY_cell post (nc, nt, gp, tc, ep, tr, df, lt, dr, ad, re, cs, cv, cx, le, lc, tp, pn, an, kd, mn, sn, vl, rs, er, ev) x y := by
  unfold wpY_cell
  exact yq_C0 h (br_t rfl hp)
theorem yq_start2 {post : Int32 → SY → Prop} {k v : Int32} (h : er_ir x nt) (hv : vp_in x 4) (h0 : tp x.toNatClampNeg = 0) (hp : post 1 (nc, nt, gp, tc, ep, tr, df, lt, dr, ad, re, cs, cv, cx, le, lc, upd tp x.toNatClampNeg 1, pn, an, upd kd x.toNatClampNeg k, upd mn x.toNatClampNeg (-1), upd sn x.toNatClampNeg (-1), upd vl x.toNatClampNeg v, upd rs x.toNatClampNeg 0, er, ev)) : wpY_start post (nc, nt, gp, tc, ep, tr, df, lt, dr, ad, re, cs, cv, cx, le, lc, tp, pn, an, kd, mn, sn, vl, rs, er, ev) x k v := by
  unfold wpY_start
  exact yq_T1 h (br_f er_10 ⟨hv, br_t h0 ⟨hv, nm_e ⟨hv, nm_e ⟨hv, nm_e ⟨hv, nm_e ⟨hv, nm_e ⟨hv, nm_e hp⟩⟩⟩⟩⟩⟩⟩)
theorem yq_start1 {post : Int32 → SY → Prop} {k v : Int32} (h : er_ir x nt) (hv : vp_in x 4) (h0 : ¬ tp x.toNatClampNeg = 0) (hp : post 0 (nc, nt, gp, tc, ep, tr, df, lt, dr, ad, re, cs, cv, cx, le, lc, tp, pn, an, kd, mn, sn, vl, rs, er, ev)) : wpY_start post (nc, nt, gp, tc, ep, tr, df, lt, dr, ad, re, cs, cv, cx, le, lc, tp, pn, an, kd, mn, sn, vl, rs, er, ev) x k v := by
  unfold wpY_start
  exact yq_T1 h (br_f er_10 ⟨hv, br_f h0 hp⟩)
theorem yq_start0 {post : Int32 → SY → Prop} {k v : Int32} (h : ¬ er_ir x nt) (hp : post 0 (nc, nt, gp, tc, ep, tr, df, lt, dr, ad, re, cs, cv, cx, le, lc, tp, pn, an, kd, mn, sn, vl, rs, er, ev)) : wpY_start post (nc, nt, gp, tc, ep, tr, df, lt, dr, ad, re, cs, cv, cx, le, lc, tp, pn, an, kd, mn, sn, vl, rs, er, ev) x k v := by
  unfold wpY_start
  exact yq_T0 h (br_t rfl hp)
theorem yq_push2 {post : Int32 → SY → Prop} (h : er_ir x nt) (hv : vp_in x 4) (h0 : tp x.toNatClampNeg = 0) (hp : post 1 (nc, nt, gp, tc, ep, tr, df, lt, dr, ad, re, cs, cv, cx, le, lc, upd tp x.toNatClampNeg 1, pn, an, upd kd x.toNatClampNeg 1, upd mn x.toNatClampNeg (-1), upd sn x.toNatClampNeg (-1), upd vl x.toNatClampNeg y, upd rs x.toNatClampNeg 0, er, ev)) : wpY_push post (nc, nt, gp, tc, ep, tr, df, lt, dr, ad, re, cs, cv, cx, le, lc, tp, pn, an, kd, mn, sn, vl, rs, er, ev) x y := by
  unfold wpY_push
  exact yq_start2 h hv h0 ⟨rfl, hp⟩
theorem yq_push1 {post : Int32 → SY → Prop} (h : er_ir x nt) (hv : vp_in x 4) (h0 : ¬ tp x.toNatClampNeg = 0) (hp : post 0 (nc, nt, gp, tc, ep, tr, df, lt, dr, ad, re, cs, cv, cx, le, lc, tp, pn, an, kd, mn, sn, vl, rs, er, ev)) : wpY_push post (nc, nt, gp, tc, ep, tr, df, lt, dr, ad, re, cs, cv, cx, le, lc, tp, pn, an, kd, mn, sn, vl, rs, er, ev) x y := by
  unfold wpY_push
  exact yq_start1 h hv h0 ⟨rfl, hp⟩
theorem yq_push0 {post : Int32 → SY → Prop} (h : ¬ er_ir x nt) (hp : post 0 (nc, nt, gp, tc, ep, tr, df, lt, dr, ad, re, cs, cv, cx, le, lc, tp, pn, an, kd, mn, sn, vl, rs, er, ev)) : wpY_push post (nc, nt, gp, tc, ep, tr, df, lt, dr, ad, re, cs, cv, cx, le, lc, tp, pn, an, kd, mn, sn, vl, rs, er, ev) x y := by
  unfold wpY_push
  exact yq_start0 h ⟨rfl, hp⟩
theorem yq_pop2 {post : Int32 → SY → Prop} (h : er_ir x nt) (hv : vp_in x 4) (h0 : tp x.toNatClampNeg = 0) (hp : post 1 (nc, nt, gp, tc, ep, tr, df, lt, dr, ad, re, cs, cv, cx, le, lc, upd tp x.toNatClampNeg 1, pn, an, upd kd x.toNatClampNeg 2, upd mn x.toNatClampNeg (-1), upd sn x.toNatClampNeg (-1), upd vl x.toNatClampNeg 0, upd rs x.toNatClampNeg 0, er, ev)) : wpY_pop post (nc, nt, gp, tc, ep, tr, df, lt, dr, ad, re, cs, cv, cx, le, lc, tp, pn, an, kd, mn, sn, vl, rs, er, ev) x := by
  unfold wpY_pop
  exact yq_start2 h hv h0 ⟨rfl, hp⟩
theorem yq_pop1 {post : Int32 → SY → Prop} (h : er_ir x nt) (hv : vp_in x 4) (h0 : ¬ tp x.toNatClampNeg = 0) (hp : post 0 (nc, nt, gp, tc, ep, tr, df, lt, dr, ad, re, cs, cv, cx, le, lc, tp, pn, an, kd, mn, sn, vl, rs, er, ev)) : wpY_pop post (nc, nt, gp, tc, ep, tr, df, lt, dr, ad, re, cs, cv, cx, le, lc, tp, pn, an, kd, mn, sn, vl, rs, er, ev) x := by
  unfold wpY_pop
  exact yq_start1 h hv h0 ⟨rfl, hp⟩
theorem yq_pop0 {post : Int32 → SY → Prop} (h : ¬ er_ir x nt) (hp : post 0 (nc, nt, gp, tc, ep, tr, df, lt, dr, ad, re, cs, cv, cx, le, lc, tp, pn, an, kd, mn, sn, vl, rs, er, ev)) : wpY_pop post (nc, nt, gp, tc, ep, tr, df, lt, dr, ad, re, cs, cv, cx, le, lc, tp, pn, an, kd, mn, sn, vl, rs, er, ev) x := by
  unfold wpY_pop
  exact yq_start0 h ⟨rfl, hp⟩
end
end
section
/-! the private methods of X, each with a general post -/
section
variable {nc nt gp tc ep tr df lt dr ad fc re : Int32} {cs cv cx le lc tp pn an kd mn sn vl rs er ev : Nat → Int32}
variable {x y : Int32} {post : SX → Prop}
theorem xq_pin1 (hv : vp_in x 4) (hk : kd x.toNatClampNeg = 1) (hp : post (nc, nt, gp, tc, ep, tr, df, lt, dr, ad, fc, re, cs, cv, cx, le, lc, upd tp x.toNatClampNeg 2, upd pn x.toNatClampNeg (vp_nar .boolean 1), upd an x.toNatClampNeg ep, kd, mn, sn, vl, rs, er, ev)) : wpX_pin post (nc, nt, gp, tc, ep, tr, df, lt, dr, ad, fc, re, cs, cv, cx, le, lc, tp, pn, an, kd, mn, sn, vl, rs, er, ev) x :=
  ⟨hv, nm_e ⟨hv, nm_e ⟨hv, br_t hk ⟨hv, nm_e hp⟩⟩⟩⟩
theorem xq_pin2 (hv : vp_in x 4) (hk : ¬ kd x.toNatClampNeg = 1) (hp : post (nc, nt, gp, tc, ep, tr, df, lt, dr, ad, fc, re, cs, cv, cx, le, lc, upd tp x.toNatClampNeg 3, upd pn x.toNatClampNeg (vp_nar .boolean 1), upd an x.toNatClampNeg ep, kd, mn, sn, vl, rs, er, ev)) : wpX_pin post (nc, nt, gp, tc, ep, tr, df, lt, dr, ad, fc, re, cs, cv, cx, le, lc, tp, pn, an, kd, mn, sn, vl, rs, er, ev) x :=
  ⟨hv, nm_e ⟨hv, nm_e ⟨hv, br_f hk ⟨hv, nm_e hp⟩⟩⟩⟩
/-! the lowest FREE cell, upwards -/
theorem xq_low {C c : Nat} {q : Int32 → Prop} (hC : C ≤ 32) (hc : c ≤ C) (hn : ∀ j, j < c → ¬ cs j = 0) (hq : (c = C ∧ q (-1)) ∨ (c < C ∧ cs c = 0 ∧ q (nI c))) :
    ∀ d i, i + d = c → wX_lowestFreeCell_2 q (nI C) nt gp tc ep tr df lt dr ad fc re cs cv cx le lc tp pn an kd mn sn vl rs er ev (d + 1) (nI i) := by
  intro d
  induction d with
  | zero =>
    intro i hi
    have e : i = c := by omega
    subst e
    rcases hq with ⟨e, hq⟩ | ⟨h1, h2, hq⟩
    · subst e
      exact br_t (nI_le (Nat.le_refl _) (by omega)) hq
    · exact br_f (nI_ge h1 (by omega)) ⟨vp_in_nI (by omega) (by omega), br_t (by rw [nI_clamp (by omega)]; exact h2) hq⟩
  | succ d ih =>
    intro i hi
    refine br_f (nI_ge (by omega) (by omega)) ⟨vp_in_nI (by omega) (by omega), br_f (by rw [nI_clamp (by omega)]; exact hn i (by omega)) (nm_r (nI_1 i) ?_)⟩
    exact ih (i + 1) (by omega)
theorem xq_lowest {C c : Nat} {q : Int32 → Prop} (hC : C ≤ 32) (hc : c ≤ C) (hn : ∀ j, j < c → ¬ cs j = 0) (hq : (c = C ∧ q (-1)) ∨ (c < C ∧ cs c = 0 ∧ q (nI c))) :
    wpX_lowestFreeCell q (nI C, nt, gp, tc, ep, tr, df, lt, dr, ad, fc, re, cs, cv, cx, le, lc, tp, pn, an, kd, mn, sn, vl, rs, er, ev) := by
  unfold wpX_lowestFreeCell
  exact ⟨c + 1, xq_low hC hc hn hq c 0 (by omega)⟩
theorem xq_alloc0 {C : Nat} (hv : vp_in x 4) (hC : C ≤ 32) (hn : ∀ j, j < C → ¬ cs j = 0) (hp : post (nI C, nt, gp, tc, ep, tr, df, lt, dr, ad, fc, re, cs, cv, cx, le, lc, upd tp x.toNatClampNeg 8, pn, an, kd, mn, sn, vl, upd rs x.toNatClampNeg 3, er, ev)) : wpX_allocate post (nI C, nt, gp, tc, ep, tr, df, lt, dr, ad, fc, re, cs, cv, cx, le, lc, tp, pn, an, kd, mn, sn, vl, rs, er, ev) x := by
  unfold wpX_allocate
  exact xq_lowest hC (Nat.le_refl C) hn (Or.inl ⟨rfl, br_t rfl ⟨hv, nm_e ⟨hv, nm_e hp⟩⟩⟩)
theorem er_nm1 {n : Nat} (h : n < 2 ^ 31) : ¬ nI n = -1 := by
  intro e
  have g := nI_toInt h
  rw [e] at g
  have e1 : (-1 : Int32).toInt = -1 := by decide
  omega
theorem xq_alloc1 {C c : Nat} {f : Int32} (hv : vp_in x 4) (hC : C ≤ 32) (hc : c < C) (hn : ∀ j, j < c → ¬ cs j = 0) (h0 : cs c = 0) (hf : fc - 1 = f)
    (hp : post (nI C, nt, gp, tc, ep, tr, df, lt, dr, ad, f, re, upd cs (nI c).toNatClampNeg 1, upd cv (nI c).toNatClampNeg (vl x.toNatClampNeg), upd cx (nI c).toNatClampNeg (-1), le, lc, upd tp x.toNatClampNeg 3, pn, an, kd, upd mn x.toNatClampNeg (nI c), sn, vl, rs, er, ev)) : wpX_allocate post (nI C, nt, gp, tc, ep, tr, df, lt, dr, ad, fc, re, cs, cv, cx, le, lc, tp, pn, an, kd, mn, sn, vl, rs, er, ev) x := by
  unfold wpX_allocate
  have w : vp_in (nI c) 32 := vp_in_nI (by omega) (by omega)
  exact xq_lowest hC (Nat.le_of_lt hc) hn (Or.inr ⟨hc, h0, br_f (er_nm1 (by omega)) ⟨w, nm_e ⟨hv, w, nm_e ⟨w, nm_e (nm_r hf ⟨hv, nm_e ⟨hv, nm_e hp⟩⟩)⟩⟩⟩⟩)
theorem xq_top1 (hv : vp_in x 4) (hk : kd x.toNatClampNeg = 1) (hp : post (nc, nt, gp, tc, ep, tr, df, lt, dr, ad, fc, re, cs, cv, cx, le, lc, upd tp x.toNatClampNeg 4, pn, an, kd, mn, upd sn x.toNatClampNeg tc, vl, rs, er, ev)) : wpX_readTop post (nc, nt, gp, tc, ep, tr, df, lt, dr, ad, fc, re, cs, cv, cx, le, lc, tp, pn, an, kd, mn, sn, vl, rs, er, ev) x :=
  ⟨hv, br_t hk ⟨hv, nm_e ⟨hv, nm_e hp⟩⟩⟩
theorem xq_top2 (hv : vp_in x 4) (hk : ¬ kd x.toNatClampNeg = 1) (ht : tc = -1) (hp : post (nc, nt, gp, tc, ep, tr, df, lt, dr, ad, fc, re, cs, cv, cx, le, lc, upd tp x.toNatClampNeg 8, pn, an, kd, upd mn x.toNatClampNeg tc, sn, upd vl x.toNatClampNeg 0, upd rs x.toNatClampNeg 2, er, ev)) : wpX_readTop post (nc, nt, gp, tc, ep, tr, df, lt, dr, ad, fc, re, cs, cv, cx, le, lc, tp, pn, an, kd, mn, sn, vl, rs, er, ev) x :=
  ⟨hv, br_f hk ⟨hv, nm_e (br_t ht ⟨hv, nm_e ⟨hv, nm_e ⟨hv, nm_e hp⟩⟩⟩)⟩⟩
theorem xq_top3 (hv : vp_in x 4) (hk : ¬ kd x.toNatClampNeg = 1) (ht : ¬ tc = -1) (hp : post (nc, nt, gp, tc, ep, tr, df, lt, dr, ad, fc, re, cs, cv, cx, le, lc, upd tp x.toNatClampNeg 5, pn, an, kd, upd mn x.toNatClampNeg tc, sn, vl, rs, er, ev)) : wpX_readTop post (nc, nt, gp, tc, ep, tr, df, lt, dr, ad, fc, re, cs, cv, cx, le, lc, tp, pn, an, kd, mn, sn, vl, rs, er, ev) x :=
  ⟨hv, br_f hk ⟨hv, nm_e (br_f ht ⟨hv, nm_e hp⟩)⟩⟩
theorem xq_trap1 (hv : vp_in y 32) (h0 : cs y.toNatClampNeg = 0) (hp : post (nc, nt, gp, tc, ep, tr + 1, df, y, dr, ad, fc, re, cs, cv, cx, le, lc, tp, pn, an, kd, mn, sn, vl, rs, er, ev)) : wpX_trapIfFree post (nc, nt, gp, tc, ep, tr, df, lt, dr, ad, fc, re, cs, cv, cx, le, lc, tp, pn, an, kd, mn, sn, vl, rs, er, ev) y := ⟨hv, br_t h0 (nm_e hp)⟩
theorem xq_trap0 (hv : vp_in y 32) (h0 : ¬ cs y.toNatClampNeg = 0) (hp : post (nc, nt, gp, tc, ep, tr, df, lt, dr, ad, fc, re, cs, cv, cx, le, lc, tp, pn, an, kd, mn, sn, vl, rs, er, ev)) : wpX_trapIfFree post (nc, nt, gp, tc, ep, tr, df, lt, dr, ad, fc, re, cs, cv, cx, le, lc, tp, pn, an, kd, mn, sn, vl, rs, er, ev) y := ⟨hv, br_f h0 hp⟩
theorem xq_link0 (hv : vp_in x 4) (hy : mn x.toNatClampNeg = y) (hc : ¬ er_ir y nc) (hp : post (nc, nt, gp, tc, ep, tr, df, lt, dr, ad, fc, re, cs, cv, cx, le, lc, upd tp x.toNatClampNeg 6, pn, an, kd, mn, sn, vl, rs, er, ev)) : wpX_link post (nc, nt, gp, tc, ep, tr, df, lt, dr, ad, fc, re, cs, cv, cx, le, lc, tp, pn, an, kd, mn, sn, vl, rs, er, ev) x := by
  unfold wpX_link
  exact ⟨hv, nm_r hy (xq_C0 hc (br_t rfl ⟨hv, nm_e hp⟩))⟩
theorem xq_link1 (hv : vp_in x 4) (hy : mn x.toNatClampNeg = y) (hc : er_ir y nc) (hw : vp_in y 32) (h0 : cs y.toNatClampNeg = 0) (hp : post (nc, nt, gp, tc, ep, tr + 1, df, y, dr, ad, fc, re, cs, cv, upd cx y.toNatClampNeg (sn x.toNatClampNeg), le, lc, upd tp x.toNatClampNeg 6, pn, an, kd, mn, sn, vl, rs, er, ev)) : wpX_link post (nc, nt, gp, tc, ep, tr, df, lt, dr, ad, fc, re, cs, cv, cx, le, lc, tp, pn, an, kd, mn, sn, vl, rs, er, ev) x := by
  unfold wpX_link
  exact ⟨hv, nm_r hy (xq_C1 hc (br_f er_10 (xq_trap1 hw h0 ⟨hv, hw, nm_e ⟨hv, nm_e hp⟩⟩)))⟩
theorem xq_link2 (hv : vp_in x 4) (hy : mn x.toNatClampNeg = y) (hc : er_ir y nc) (hw : vp_in y 32) (h0 : ¬ cs y.toNatClampNeg = 0) (hp : post (nc, nt, gp, tc, ep, tr, df, lt, dr, ad, fc, re, cs, cv, upd cx y.toNatClampNeg (sn x.toNatClampNeg), le, lc, upd tp x.toNatClampNeg 6, pn, an, kd, mn, sn, vl, rs, er, ev)) : wpX_link post (nc, nt, gp, tc, ep, tr, df, lt, dr, ad, fc, re, cs, cv, cx, le, lc, tp, pn, an, kd, mn, sn, vl, rs, er, ev) x := by
  unfold wpX_link
  exact ⟨hv, nm_r hy (xq_C1 hc (br_f er_10 (xq_trap0 hw h0 ⟨hv, hw, nm_e ⟨hv, nm_e hp⟩⟩)))⟩
theorem xq_read0 (hv : vp_in x 4) (hy : mn x.toNatClampNeg = y) (hc : ¬ er_ir y nc) (hp : post (nc, nt, gp, tc, ep, tr, df, lt, dr, ad, fc, re, cs, cv, cx, le, lc, upd tp x.toNatClampNeg 6, pn, an, kd, mn, sn, vl, rs, er, ev)) : wpX_readCell post (nc, nt, gp, tc, ep, tr, df, lt, dr, ad, fc, re, cs, cv, cx, le, lc, tp, pn, an, kd, mn, sn, vl, rs, er, ev) x := by
  unfold wpX_readCell
  exact ⟨hv, nm_r hy (xq_C0 hc (br_t rfl ⟨hv, nm_e hp⟩))⟩
theorem xq_read1 (hv : vp_in x 4) (hy : mn x.toNatClampNeg = y) (hc : er_ir y nc) (hw : vp_in y 32) (h0 : cs y.toNatClampNeg = 0) (hp : post (nc, nt, gp, tc, ep, tr + 1, df, y, dr, ad, fc, re, cs, cv, cx, le, lc, upd tp x.toNatClampNeg 6, pn, an, kd, mn, upd sn x.toNatClampNeg (cx y.toNatClampNeg), upd vl x.toNatClampNeg (cv y.toNatClampNeg), rs, er, ev)) : wpX_readCell post (nc, nt, gp, tc, ep, tr, df, lt, dr, ad, fc, re, cs, cv, cx, le, lc, tp, pn, an, kd, mn, sn, vl, rs, er, ev) x := by
  unfold wpX_readCell
  exact ⟨hv, nm_r hy (xq_C1 hc (br_f er_10 (xq_trap1 hw h0 ⟨hw, hv, nm_e ⟨hw, hv, nm_e ⟨hv, nm_e hp⟩⟩⟩)))⟩
theorem xq_read2 (hv : vp_in x 4) (hy : mn x.toNatClampNeg = y) (hc : er_ir y nc) (hw : vp_in y 32) (h0 : ¬ cs y.toNatClampNeg = 0) (hp : post (nc, nt, gp, tc, ep, tr, df, lt, dr, ad, fc, re, cs, cv, cx, le, lc, upd tp x.toNatClampNeg 6, pn, an, kd, mn, upd sn x.toNatClampNeg (cx y.toNatClampNeg), upd vl x.toNatClampNeg (cv y.toNatClampNeg), rs, er, ev)) : wpX_readCell post (nc, nt, gp, tc, ep, tr, df, lt, dr, ad, fc, re, cs, cv, cx, le, lc, tp, pn, an, kd, mn, sn, vl, rs, er, ev) x := by
  unfold wpX_readCell
  exact ⟨hv, nm_r hy (xq_C1 hc (br_f er_10 (xq_trap0 hw h0 ⟨hw, hv, nm_e ⟨hw, hv, nm_e ⟨hv, nm_e hp⟩⟩⟩)))⟩
theorem xq_cas1 (hv : vp_in x 4) (hk : kd x.toNatClampNeg = 1) (ht : tc = sn x.toNatClampNeg) (hp : post (nc, nt, gp, mn x.toNatClampNeg, ep, tr, df, lt, dr, ad, fc, re, cs, cv, cx, le, lc, upd tp x.toNatClampNeg 8, pn, an, kd, mn, sn, vl, upd rs x.toNatClampNeg 1, er, ev)) : wpX_compareAndSwap post (nc, nt, gp, tc, ep, tr, df, lt, dr, ad, fc, re, cs, cv, cx, le, lc, tp, pn, an, kd, mn, sn, vl, rs, er, ev) x :=
  ⟨hv, br_t hk (br_f er_10 ⟨hv, br_t ht (br_f er_10 ⟨hv, hv, nm_e (br_f er_10 ⟨hv, nm_e hp⟩)⟩)⟩)⟩
theorem xq_cas2 (hv : vp_in x 4) (hk : kd x.toNatClampNeg = 1) (ht : ¬ tc = sn x.toNatClampNeg) (hp : post (nc, nt, gp, tc, ep, tr, df, lt, dr, ad, fc, re, cs, cv, cx, le, lc, upd tp x.toNatClampNeg 3, pn, an, kd, mn, sn, vl, rs, er, ev)) : wpX_compareAndSwap post (nc, nt, gp, tc, ep, tr, df, lt, dr, ad, fc, re, cs, cv, cx, le, lc, tp, pn, an, kd, mn, sn, vl, rs, er, ev) x :=
  ⟨hv, br_t hk (br_f er_10 ⟨hv, br_f ht ⟨hv, nm_e hp⟩⟩)⟩
theorem xq_cas3 (hv : vp_in x 4) (hk : ¬ kd x.toNatClampNeg = 1) (ht : tc = mn x.toNatClampNeg) (hp : post (nc, nt, gp, sn x.toNatClampNeg, ep, tr, df, lt, dr, ad, fc, re, cs, cv, cx, le, lc, upd tp x.toNatClampNeg 7, pn, an, kd, mn, sn, vl, upd rs x.toNatClampNeg 1, er, ev)) : wpX_compareAndSwap post (nc, nt, gp, tc, ep, tr, df, lt, dr, ad, fc, re, cs, cv, cx, le, lc, tp, pn, an, kd, mn, sn, vl, rs, er, ev) x :=
  ⟨hv, br_f hk (br_t rfl ⟨hv, br_t ht (br_t rfl ⟨hv, hv, nm_e (br_t rfl ⟨hv, nm_e hp⟩)⟩)⟩)⟩
theorem xq_cas4 (hv : vp_in x 4) (hk : ¬ kd x.toNatClampNeg = 1) (ht : ¬ tc = mn x.toNatClampNeg) (hp : post (nc, nt, gp, tc, ep, tr, df, lt, dr, ad, fc, re, cs, cv, cx, le, lc, upd tp x.toNatClampNeg 3, pn, an, kd, mn, sn, vl, rs, er, ev)) : wpX_compareAndSwap post (nc, nt, gp, tc, ep, tr, df, lt, dr, ad, fc, re, cs, cv, cx, le, lc, tp, pn, an, kd, mn, sn, vl, rs, er, ev) x :=
  ⟨hv, br_f hk (br_t rfl ⟨hv, br_f ht ⟨hv, nm_e hp⟩⟩)⟩
/-! the list of an epoch: one number l below 3 -/
def er_l3 (x l : Int32) : Prop := (0 ≤ x - x / 3 * 3 ∧ l = x - x / 3 * 3) ∨ (¬ 0 ≤ x - x / 3 * 3 ∧ l = x - x / 3 * 3 + 3)
theorem er_l3_ex (x : Int32) : ∃ l, er_l3 x (nI l) ∧ l < 3 := by
  have h := er_m3 x
  by_cases g : 0 ≤ x - x / 3 * 3
  · obtain ⟨k, hk, e⟩ := h.2 (Int32.not_lt.mpr g)
    exact ⟨k, Or.inl ⟨g, e.symm⟩, hk⟩
  · obtain ⟨k, hk, e⟩ := h.1 (Int32.not_le.mp g)
    exact ⟨k, Or.inr ⟨g, e.symm⟩, hk⟩
theorem xq_listOf {q : Int32 → Prop} {l : Int32} (h : er_l3 x l) (hq : q l) : wpX_listOf q x := by
  rcases h with ⟨g, e⟩ | ⟨g, e⟩
  · subst e
    exact ⟨by decide, nm_e (br_t g hq)⟩
  · subst e
    exact ⟨by decide, nm_e (br_f g hq)⟩
theorem yq_mod3 {q : Int32 → Prop} {l : Int32} (h : er_l3 x l) (hq : q l) : wpY_mod3 q (nc, nt, gp, tc, ep, tr, df, lt, dr, ad, re, cs, cv, cx, le, lc, tp, pn, an, kd, mn, sn, vl, rs, er, ev) x := by
  rcases h with ⟨g, e⟩ | ⟨g, e⟩
  · subst e
    exact ⟨by decide, nm_e (br_t g hq)⟩
  · subst e
    exact ⟨by decide, nm_e (br_f g (nm_e hq))⟩
theorem xq_app1 {l : Int32} (hl : vp_in l 3) (hn : ¬ 32 ≤ lc l.toNatClampNeg) (hi : vp_in (l * 32 + lc l.toNatClampNeg) 96) (hp : post (nc, nt, gp, tc, ep, tr, df, lt, dr, ad, fc, re, cs, cv, cx, upd le (l * 32 + lc l.toNatClampNeg).toNatClampNeg y, upd lc l.toNatClampNeg (lc l.toNatClampNeg + 1), tp, pn, an, kd, mn, sn, vl, rs, er, ev)) : wpX_appendToLimbo post (nc, nt, gp, tc, ep, tr, df, lt, dr, ad, fc, re, cs, cv, cx, le, lc, tp, pn, an, kd, mn, sn, vl, rs, er, ev) l y :=
  ⟨hl, br_f hn ⟨hl, hi, nm_e ⟨hl, hl, nm_e hp⟩⟩⟩
theorem xq_app2 {l : Int32} (hl : vp_in l 3) (hn : 32 ≤ lc l.toNatClampNeg) (hp : post (nc, nt, gp, tc, ep, tr, df, lt, dr + 1, ad, fc, re, cs, cv, cx, le, lc, tp, pn, an, kd, mn, sn, vl, rs, er, ev)) : wpX_appendToLimbo post (nc, nt, gp, tc, ep, tr, df, lt, dr, ad, fc, re, cs, cv, cx, le, lc, tp, pn, an, kd, mn, sn, vl, rs, er, ev) l y :=
  ⟨hl, br_t hn (nm_e hp)⟩
/-! what becomes of the cell at RETIRE: s' is the states afterwards -/
def er_rt (nc : Int32) (cs : Nat → Int32) (y : Int32) (s' : Nat → Int32) : Prop := (¬ er_ir y nc ∧ s' = cs) ∨ (er_ir y nc ∧ vp_in y 32 ∧ ((cs y.toNatClampNeg = 1 ∧ s' = upd cs y.toNatClampNeg 2) ∨ (¬ cs y.toNatClampNeg = 1 ∧ s' = cs)))
theorem xq_ret1 {l : Int32} {s' : Nat → Int32} (hv : vp_in x 4) (hy : mn x.toNatClampNeg = y) (h3 : er_l3 (an x.toNatClampNeg) l) (hl : vp_in l 3) (hn : ¬ 32 ≤ lc l.toNatClampNeg) (hi : vp_in (l * 32 + lc l.toNatClampNeg) 96) (hs : er_rt nc cs y s')
    (hp : post (nc, nt, gp, tc, ep, tr, df, lt, dr, ad, fc, re + 1, s', cv, cx, upd le (l * 32 + lc l.toNatClampNeg).toNatClampNeg y, upd lc l.toNatClampNeg (lc l.toNatClampNeg + 1), upd tp x.toNatClampNeg 8, pn, an, kd, mn, sn, vl, rs, er, ev)) : wpX_retire post (nc, nt, gp, tc, ep, tr, df, lt, dr, ad, fc, re, cs, cv, cx, le, lc, tp, pn, an, kd, mn, sn, vl, rs, er, ev) x := by
  unfold wpX_retire
  refine ⟨hv, nm_r hy ⟨hv, xq_listOf h3 (xq_app1 hl hn hi ?_)⟩⟩
  rcases hs with ⟨g, e⟩ | ⟨g, w, ⟨g2, e⟩ | ⟨g2, e⟩⟩
  · subst e
    exact xq_C0 g (br_t rfl (nm_e ⟨hv, nm_e hp⟩))
  · subst e
    exact xq_C1 g (br_f er_10 ⟨w, br_t g2 ⟨w, nm_e (nm_e ⟨hv, nm_e hp⟩)⟩⟩)
  · subst e
    exact xq_C1 g (br_f er_10 ⟨w, br_f g2 (nm_e ⟨hv, nm_e hp⟩)⟩)
theorem xq_ret2 {l : Int32} {s' : Nat → Int32} (hv : vp_in x 4) (hy : mn x.toNatClampNeg = y) (h3 : er_l3 (an x.toNatClampNeg) l) (hl : vp_in l 3) (hn : 32 ≤ lc l.toNatClampNeg) (hs : er_rt nc cs y s')
    (hp : post (nc, nt, gp, tc, ep, tr, df, lt, dr + 1, ad, fc, re + 1, s', cv, cx, le, lc, upd tp x.toNatClampNeg 8, pn, an, kd, mn, sn, vl, rs, er, ev)) : wpX_retire post (nc, nt, gp, tc, ep, tr, df, lt, dr, ad, fc, re, cs, cv, cx, le, lc, tp, pn, an, kd, mn, sn, vl, rs, er, ev) x := by
  unfold wpX_retire
  refine ⟨hv, nm_r hy ⟨hv, xq_listOf h3 (xq_app2 hl hn ?_)⟩⟩
  rcases hs with ⟨g, e⟩ | ⟨g, w, ⟨g2, e⟩ | ⟨g2, e⟩⟩
  · subst e
    exact xq_C0 g (br_t rfl (nm_e ⟨hv, nm_e hp⟩))
  · subst e
    exact xq_C1 g (br_f er_10 ⟨w, br_t g2 ⟨w, nm_e (nm_e ⟨hv, nm_e hp⟩)⟩⟩)
  · subst e
    exact xq_C1 g (br_f er_10 ⟨w, br_f g2 (nm_e ⟨hv, nm_e hp⟩)⟩)
theorem xq_unpin (hv : vp_in x 4) (hp : post (nc, nt, gp, tc, ep, tr, df, lt, dr, ad, fc, re, cs, cv, cx, le, lc, upd tp x.toNatClampNeg 0, upd pn x.toNatClampNeg (vp_nar .boolean 0), an, kd, mn, sn, vl, rs, upd er x.toNatClampNeg (rs x.toNatClampNeg), upd ev x.toNatClampNeg (vl x.toNatClampNeg))) : wpX_unpin post (nc, nt, gp, tc, ep, tr, df, lt, dr, ad, fc, re, cs, cv, cx, le, lc, tp, pn, an, kd, mn, sn, vl, rs, er, ev) x :=
  ⟨hv, nm_e ⟨hv, hv, nm_e ⟨hv, hv, nm_e ⟨hv, nm_e hp⟩⟩⟩⟩
/-! the switch of executePhase -/
theorem xq_exec1 {u' : SX} (hv : vp_in x 4) (hk : tp x.toNatClampNeg = 1) (H : ∀ post : SX → Prop, post u' → wpX_pin post (nc, nt, gp, tc, ep, tr, df, lt, dr, ad, fc, re, cs, cv, cx, le, lc, tp, pn, an, kd, mn, sn, vl, rs, er, ev) x) (hp : post u') : wpX_executePhase post (nc, nt, gp, tc, ep, tr, df, lt, dr, ad, fc, re, cs, cv, cx, le, lc, tp, pn, an, kd, mn, sn, vl, rs, er, ev) x := by
  obtain ⟨a1, a2, a3, a4, a5, a6, a7, a8, a9, a10, a11, a12, a13, a14, a15, a16, a17, a18, a19, a20, a21, a22, a23, a24, a25, a26, a27⟩ := u'
  unfold wpX_executePhase
  exact ⟨hv, nm_r hk (br_f (by decide) (br_f (by decide) (br_t rfl (H _ hp))))⟩
theorem xq_exec2 {u' : SX} (hv : vp_in x 4) (hk : tp x.toNatClampNeg = 2) (H : ∀ post : SX → Prop, post u' → wpX_allocate post (nc, nt, gp, tc, ep, tr, df, lt, dr, ad, fc, re, cs, cv, cx, le, lc, tp, pn, an, kd, mn, sn, vl, rs, er, ev) x) (hp : post u') : wpX_executePhase post (nc, nt, gp, tc, ep, tr, df, lt, dr, ad, fc, re, cs, cv, cx, le, lc, tp, pn, an, kd, mn, sn, vl, rs, er, ev) x := by
  obtain ⟨a1, a2, a3, a4, a5, a6, a7, a8, a9, a10, a11, a12, a13, a14, a15, a16, a17, a18, a19, a20, a21, a22, a23, a24, a25, a26, a27⟩ := u'
  unfold wpX_executePhase
  exact ⟨hv, nm_r hk (br_f (by decide) (br_f (by decide) (br_f (by decide) (br_t rfl (H _ hp)))))⟩
theorem xq_exec3 {u' : SX} (hv : vp_in x 4) (hk : tp x.toNatClampNeg = 3) (H : ∀ post : SX → Prop, post u' → wpX_readTop post (nc, nt, gp, tc, ep, tr, df, lt, dr, ad, fc, re, cs, cv, cx, le, lc, tp, pn, an, kd, mn, sn, vl, rs, er, ev) x) (hp : post u') : wpX_executePhase post (nc, nt, gp, tc, ep, tr, df, lt, dr, ad, fc, re, cs, cv, cx, le, lc, tp, pn, an, kd, mn, sn, vl, rs, er, ev) x := by
  obtain ⟨a1, a2, a3, a4, a5, a6, a7, a8, a9, a10, a11, a12, a13, a14, a15, a16, a17, a18, a19, a20, a21, a22, a23, a24, a25, a26, a27⟩ := u'
  unfold wpX_executePhase
  exact ⟨hv, nm_r hk (br_f (by decide) (br_f (by decide) (br_f (by decide) (br_f (by decide) (br_t rfl (H _ hp))))))⟩
theorem xq_exec4 {u' : SX} (hv : vp_in x 4) (hk : tp x.toNatClampNeg = 4) (H : ∀ post : SX → Prop, post u' → wpX_link post (nc, nt, gp, tc, ep, tr, df, lt, dr, ad, fc, re, cs, cv, cx, le, lc, tp, pn, an, kd, mn, sn, vl, rs, er, ev) x) (hp : post u') : wpX_executePhase post (nc, nt, gp, tc, ep, tr, df, lt, dr, ad, fc, re, cs, cv, cx, le, lc, tp, pn, an, kd, mn, sn, vl, rs, er, ev) x := by
  obtain ⟨a1, a2, a3, a4, a5, a6, a7, a8, a9, a10, a11, a12, a13, a14, a15, a16, a17, a18, a19, a20, a21, a22, a23, a24, a25, a26, a27⟩ := u'
  unfold wpX_executePhase
  exact ⟨hv, nm_r hk (br_f (by decide) (br_f (by decide) (br_f (by decide) (br_f (by decide) (br_f (by decide) (br_t rfl (H _ hp)))))))⟩
theorem xq_exec5 {u' : SX} (hv : vp_in x 4) (hk : tp x.toNatClampNeg = 5) (H : ∀ post : SX → Prop, post u' → wpX_readCell post (nc, nt, gp, tc, ep, tr, df, lt, dr, ad, fc, re, cs, cv, cx, le, lc, tp, pn, an, kd, mn, sn, vl, rs, er, ev) x) (hp : post u') : wpX_executePhase post (nc, nt, gp, tc, ep, tr, df, lt, dr, ad, fc, re, cs, cv, cx, le, lc, tp, pn, an, kd, mn, sn, vl, rs, er, ev) x := by
  obtain ⟨a1, a2, a3, a4, a5, a6, a7, a8, a9, a10, a11, a12, a13, a14, a15, a16, a17, a18, a19, a20, a21, a22, a23, a24, a25, a26, a27⟩ := u'
  unfold wpX_executePhase
  exact ⟨hv, nm_r hk (br_f (by decide) (br_f (by decide) (br_f (by decide) (br_f (by decide) (br_f (by decide) (br_f (by decide) (br_t rfl (H _ hp))))))))⟩
theorem xq_exec6 {u' : SX} (hv : vp_in x 4) (hk : tp x.toNatClampNeg = 6) (H : ∀ post : SX → Prop, post u' → wpX_compareAndSwap post (nc, nt, gp, tc, ep, tr, df, lt, dr, ad, fc, re, cs, cv, cx, le, lc, tp, pn, an, kd, mn, sn, vl, rs, er, ev) x) (hp : post u') : wpX_executePhase post (nc, nt, gp, tc, ep, tr, df, lt, dr, ad, fc, re, cs, cv, cx, le, lc, tp, pn, an, kd, mn, sn, vl, rs, er, ev) x := by
  obtain ⟨a1, a2, a3, a4, a5, a6, a7, a8, a9, a10, a11, a12, a13, a14, a15, a16, a17, a18, a19, a20, a21, a22, a23, a24, a25, a26, a27⟩ := u'
  unfold wpX_executePhase
  exact ⟨hv, nm_r hk (br_f (by decide) (br_f (by decide) (br_f (by decide) (br_f (by decide) (br_f (by decide) (br_f (by decide) (br_f (by decide) (br_t rfl (H _ hp)))))))))⟩
theorem xq_exec7 {u' : SX} (hv : vp_in x 4) (hk : tp x.toNatClampNeg = 7) (H : ∀ post : SX → Prop, post u' → wpX_retire post (nc, nt, gp, tc, ep, tr, df, lt, dr, ad, fc, re, cs, cv, cx, le, lc, tp, pn, an, kd, mn, sn, vl, rs, er, ev) x) (hp : post u') : wpX_executePhase post (nc, nt, gp, tc, ep, tr, df, lt, dr, ad, fc, re, cs, cv, cx, le, lc, tp, pn, an, kd, mn, sn, vl, rs, er, ev) x := by
  obtain ⟨a1, a2, a3, a4, a5, a6, a7, a8, a9, a10, a11, a12, a13, a14, a15, a16, a17, a18, a19, a20, a21, a22, a23, a24, a25, a26, a27⟩ := u'
  unfold wpX_executePhase
  exact ⟨hv, nm_r hk (br_f (by decide) (br_f (by decide) (br_f (by decide) (br_f (by decide) (br_f (by decide) (br_f (by decide) (br_f (by decide) (br_f (by decide) (br_t rfl (H _ hp))))))))))⟩
theorem xq_exec8 {u' : SX} (hv : vp_in x 4) (hk : tp x.toNatClampNeg = 8) (H : ∀ post : SX → Prop, post u' → wpX_unpin post (nc, nt, gp, tc, ep, tr, df, lt, dr, ad, fc, re, cs, cv, cx, le, lc, tp, pn, an, kd, mn, sn, vl, rs, er, ev) x) (hp : post u') : wpX_executePhase post (nc, nt, gp, tc, ep, tr, df, lt, dr, ad, fc, re, cs, cv, cx, le, lc, tp, pn, an, kd, mn, sn, vl, rs, er, ev) x := by
  obtain ⟨a1, a2, a3, a4, a5, a6, a7, a8, a9, a10, a11, a12, a13, a14, a15, a16, a17, a18, a19, a20, a21, a22, a23, a24, a25, a26, a27⟩ := u'
  unfold wpX_executePhase
  exact ⟨hv, nm_r hk (br_f (by decide) (br_f (by decide) (br_f (by decide) (br_f (by decide) (br_f (by decide) (br_f (by decide) (br_f (by decide) (br_f (by decide) (br_f (by decide) (br_t rfl (H _ hp)))))))))))⟩
end
end
section
/-! the reference's step, a case at a time, each with a general post; it answers the phase -/
section
variable {nc nt gp tc ep tr df lt dr ad fc re : Int32} {cs cv cx le lc tp pn an kd mn sn vl rs er ev : Nat → Int32}
variable {x y : Int32} {post : Int32 → SY → Prop}
theorem yq_acc1 {q : SY → Prop} (hc : er_ir y nc) (hw : vp_in y 32) (h0 : cs y.toNatClampNeg = 0) (hp : q (nc, nt, gp, tc, ep, tr + 1, df, y, dr, ad, re, cs, cv, cx, le, lc, tp, pn, an, kd, mn, sn, vl, rs, er, ev)) : wpY_access q (nc, nt, gp, tc, ep, tr, df, lt, dr, ad, re, cs, cv, cx, le, lc, tp, pn, an, kd, mn, sn, vl, rs, er, ev) y := by
  unfold wpY_access
  exact yq_C1 hc (br_f er_10 ⟨hw, br_t h0 (nm_e hp)⟩)
theorem yq_acc2 {q : SY → Prop} (hc : er_ir y nc) (hw : vp_in y 32) (h0 : ¬ cs y.toNatClampNeg = 0) (hp : q (nc, nt, gp, tc, ep, tr, df, lt, dr, ad, re, cs, cv, cx, le, lc, tp, pn, an, kd, mn, sn, vl, rs, er, ev)) : wpY_access q (nc, nt, gp, tc, ep, tr, df, lt, dr, ad, re, cs, cv, cx, le, lc, tp, pn, an, kd, mn, sn, vl, rs, er, ev) y := by
  unfold wpY_access
  exact yq_C1 hc (br_f er_10 ⟨hw, br_f h0 hp⟩)
theorem yq_acc0 {q : SY → Prop} (hc : ¬ er_ir y nc) (hp : q (nc, nt, gp, tc, ep, tr, df, lt, dr, ad, re, cs, cv, cx, le, lc, tp, pn, an, kd, mn, sn, vl, rs, er, ev)) : wpY_access q (nc, nt, gp, tc, ep, tr, df, lt, dr, ad, re, cs, cv, cx, le, lc, tp, pn, an, kd, mn, sn, vl, rs, er, ev) y := by
  unfold wpY_access
  exact yq_C0 hc (br_t rfl hp)
theorem yq_stepP (h : er_ir x nt) (hv : vp_in x 4) (h0 : ¬ tp x.toNatClampNeg = 0) (hk : kd x.toNatClampNeg = 1) (H : wY_step_41 post x (tp x.toNatClampNeg) 1 nc nt gp tc ep tr df lt dr ad re cs cv cx le lc tp pn an kd mn sn vl rs er ev) : wpY_step post (nc, nt, gp, tc, ep, tr, df, lt, dr, ad, re, cs, cv, cx, le, lc, tp, pn, an, kd, mn, sn, vl, rs, er, ev) x := by
  unfold wpY_step
  exact yq_T1 h (br_f er_10 ⟨hv, br_f h0 ⟨hv, nm_e ⟨hv, br_t hk H⟩⟩⟩)
theorem yq_stepQ (h : er_ir x nt) (hv : vp_in x 4) (h0 : ¬ tp x.toNatClampNeg = 0) (hk : ¬ kd x.toNatClampNeg = 1) (H : wY_step_41 post x (tp x.toNatClampNeg) 0 nc nt gp tc ep tr df lt dr ad re cs cv cx le lc tp pn an kd mn sn vl rs er ev) : wpY_step post (nc, nt, gp, tc, ep, tr, df, lt, dr, ad, re, cs, cv, cx, le, lc, tp, pn, an, kd, mn, sn, vl, rs, er, ev) x := by
  unfold wpY_step
  exact yq_T1 h (br_f er_10 ⟨hv, br_f h0 ⟨hv, nm_e ⟨hv, br_f hk H⟩⟩⟩)
theorem yq_stepN (h : ¬ er_ir x nt) (hp : post 0 (nc, nt, gp, tc, ep, tr, df, lt, dr, ad, re, cs, cv, cx, le, lc, tp, pn, an, kd, mn, sn, vl, rs, er, ev)) : wpY_step post (nc, nt, gp, tc, ep, tr, df, lt, dr, ad, re, cs, cv, cx, le, lc, tp, pn, an, kd, mn, sn, vl, rs, er, ev) x := by
  unfold wpY_step
  exact yq_T0 h (br_t rfl hp)
theorem yq_step0 (h : er_ir x nt) (hv : vp_in x 4) (h0 : tp x.toNatClampNeg = 0) (hp : post 0 (nc, nt, gp, tc, ep, tr, df, lt, dr, ad, re, cs, cv, cx, le, lc, tp, pn, an, kd, mn, sn, vl, rs, er, ev)) : wpY_step post (nc, nt, gp, tc, ep, tr, df, lt, dr, ad, re, cs, cv, cx, le, lc, tp, pn, an, kd, mn, sn, vl, rs, er, ev) x := by
  unfold wpY_step
  exact yq_T1 h (br_f er_10 ⟨hv, br_t h0 hp⟩)
/-! over the kind: the answer does not look at it -/
theorem yq_stepZ (h : er_ir x nt) (hv : vp_in x 4) (h0 : ¬ tp x.toNatClampNeg = 0) (H : ∀ z, wY_step_41 post x (tp x.toNatClampNeg) z nc nt gp tc ep tr df lt dr ad re cs cv cx le lc tp pn an kd mn sn vl rs er ev) : wpY_step post (nc, nt, gp, tc, ep, tr, df, lt, dr, ad, re, cs, cv, cx, le, lc, tp, pn, an, kd, mn, sn, vl, rs, er, ev) x := by
  by_cases hk : kd x.toNatClampNeg = 1
  · exact yq_stepP h hv h0 hk (H 1)
  · exact yq_stepQ h hv h0 hk (H 0)
theorem yq_1a {z p : Int32} (hv : vp_in x 4) (e : p = 1) (hz : ¬ z = 0) (hp : post p (nc, nt, gp, tc, ep, tr, df, lt, dr, ad, re, cs, cv, cx, le, lc, upd tp x.toNatClampNeg 2, upd pn x.toNatClampNeg (vp_nar .boolean 1), upd an x.toNatClampNeg ep, kd, mn, sn, vl, rs, er, ev)) : wY_step_41 post x p z nc nt gp tc ep tr df lt dr ad re cs cv cx le lc tp pn an kd mn sn vl rs er ev :=
  br_t e ⟨hv, nm_e ⟨hv, nm_e (br_f hz ⟨hv, nm_e hp⟩)⟩⟩
theorem yq_1b {z p : Int32} (hv : vp_in x 4) (e : p = 1) (hz : z = 0) (hp : post p (nc, nt, gp, tc, ep, tr, df, lt, dr, ad, re, cs, cv, cx, le, lc, upd tp x.toNatClampNeg 3, upd pn x.toNatClampNeg (vp_nar .boolean 1), upd an x.toNatClampNeg ep, kd, mn, sn, vl, rs, er, ev)) : wY_step_41 post x p z nc nt gp tc ep tr df lt dr ad re cs cv cx le lc tp pn an kd mn sn vl rs er ev :=
  br_t e ⟨hv, nm_e ⟨hv, nm_e (br_t hz ⟨hv, nm_e hp⟩)⟩⟩
/-! the reference's scan for the lowest FREE cell, downwards -/
theorem yq_down {C c : Nat} {p : Int32} (hC : C ≤ 32) (hc : c ≤ C) (hn : ∀ j, j < c → ¬ cs j = 0)
    (H : ∀ n, wY_step_98 post x p (nI C) nt gp tc ep tr df lt dr ad re cs cv cx le lc tp pn an kd mn sn vl rs er ev (n + 1) (if c = C then -1 else nI c) (-1)) :
    ∀ i, i ≤ c → ∀ m, wY_step_98 post x p (nI C) nt gp tc ep tr df lt dr ad re cs cv cx le lc tp pn an kd mn sn vl rs er ev (i + 1 + m) (if c = C then -1 else nI c) (nI i + (-1)) := by
  intro i
  induction i with
  | zero =>
    intro _ m
    rw [show 0 + 1 + m = m + 1 from by omega, nI_0, show (0 : Int32) + (-1) = -1 from by decide]
    exact H m
  | succ i ih =>
    intro hi m
    rw [pk_m1, show i + 1 + 1 + m = (i + 1 + m) + 1 from by omega]
    exact br_f (nI_pos (by omega)) ⟨vp_in_nI (by omega) (by omega), br_f (by rw [nI_clamp (by omega)]; exact hn i (by omega)) (nm_e (ih (by omega) m))⟩
/-- from the last cell down to the lowest FREE one -/
theorem yq_down2 {C c : Nat} {p : Int32} (hC : C ≤ 32) (hc : c < C) (h0 : cs c = 0) (hn : ∀ j, j < c → ¬ cs j = 0)
    (H : ∀ n, wY_step_98 post x p (nI C) nt gp tc ep tr df lt dr ad re cs cv cx le lc tp pn an kd mn sn vl rs er ev (n + 1) (nI c) (-1)) :
    ∀ d i, i = c + 1 + d → i ≤ C → ∀ z m, wY_step_98 post x p (nI C) nt gp tc ep tr df lt dr ad re cs cv cx le lc tp pn an kd mn sn vl rs er ev (i + 1 + m) z (nI i + (-1)) := by
  intro d
  induction d with
  | zero =>
    intro i hi hiC z m
    subst hi
    rw [show c + 1 + 0 = c + 1 from rfl, pk_m1, show c + 1 + 1 + m = (c + 1 + m) + 1 from by omega]
    have K := yq_down (C := C) (c := c) (p := p) (post := post) (x := x) hC (by omega) hn (by rw [if_neg (by omega)]; exact H) c (Nat.le_refl c) m
    rw [if_neg (by omega)] at K
    exact br_f (nI_pos (by omega)) ⟨vp_in_nI (by omega) (by omega), br_t (by rw [nI_clamp (by omega)]; exact h0) (nm_e K)⟩
  | succ d ih =>
    intro i hi hiC z m
    obtain ⟨j, rfl⟩ : ∃ j, i = j + 1 := ⟨i - 1, by omega⟩
    rw [pk_m1, show j + 1 + 1 + m = (j + 1 + m) + 1 from by omega]
    refine br_f (nI_pos (by omega)) ⟨vp_in_nI (by omega) (by omega), br_c (fun _ => nm_e ?_) (fun _ => nm_e ?_)⟩
    · exact ih j (by omega) (by omega) (nI j) m
    · exact ih j (by omega) (by omega) z m
theorem yq_2a {C : Nat} {z p : Int32} (hv : vp_in x 4) (n1 : ¬ p = 1) (e : p = 2) (hC : C ≤ 32) (hn : ∀ j, j < C → ¬ cs j = 0)
    (hp : post p (nI C, nt, gp, tc, ep, tr, df, lt, dr, ad, re, cs, cv, cx, le, lc, upd tp x.toNatClampNeg 8, pn, an, kd, mn, sn, vl, upd rs x.toNatClampNeg 3, er, ev)) : wY_step_41 post x p z (nI C) nt gp tc ep tr df lt dr ad re cs cv cx le lc tp pn an kd mn sn vl rs er ev := by
  refine br_f n1 (br_t e (nm_e ⟨C + 1 + 0, ?_⟩))
  rw [show nI C - 1 = nI C + (-1) from Int32.sub_eq_add_neg _ _]
  have K := yq_down (C := C) (c := C) (p := p) (post := post) (x := x) hC (Nat.le_refl C) hn
    (by rw [if_pos rfl]; exact fun n => br_t (by decide) (br_t rfl ⟨hv, nm_e ⟨hv, nm_e hp⟩⟩)) C (Nat.le_refl C) 0
  rw [if_pos rfl] at K
  exact K
theorem yq_2b {C c : Nat} {z p : Int32} (hv : vp_in x 4) (n1 : ¬ p = 1) (e : p = 2) (hC : C ≤ 32) (hc : c < C) (h0 : cs c = 0) (hn : ∀ j, j < c → ¬ cs j = 0)
    (hp : post p (nI C, nt, gp, tc, ep, tr, df, lt, dr, ad, re, upd cs (nI c).toNatClampNeg 1, upd cv (nI c).toNatClampNeg (vl x.toNatClampNeg), upd cx (nI c).toNatClampNeg (-1), le, lc, upd tp x.toNatClampNeg 3, pn, an, kd, upd mn x.toNatClampNeg (nI c), sn, vl, rs, er, ev)) : wY_step_41 post x p z (nI C) nt gp tc ep tr df lt dr ad re cs cv cx le lc tp pn an kd mn sn vl rs er ev := by
  have w : vp_in (nI c) 32 := vp_in_nI (by omega) (by omega)
  refine br_f n1 (br_t e (nm_e ⟨C + 1 + 0, ?_⟩))
  rw [show nI C - 1 = nI C + (-1) from Int32.sub_eq_add_neg _ _]
  exact yq_down2 hC hc h0 hn (fun n => br_t (by decide) (br_f (er_nm1 (by omega)) ⟨w, nm_e ⟨hv, w, nm_e ⟨w, nm_e ⟨hv, nm_e ⟨hv, nm_e hp⟩⟩⟩⟩⟩)) (C - c - 1) C (by omega) (Nat.le_refl C) (-1) 0
theorem yq_3a {z p : Int32} (hv : vp_in x 4) (n1 : ¬ p = 1) (n2 : ¬ p = 2) (e : p = 3) (hz : ¬ z = 0) (hp : post p (nc, nt, gp, tc, ep, tr, df, lt, dr, ad, re, cs, cv, cx, le, lc, upd tp x.toNatClampNeg 4, pn, an, kd, mn, upd sn x.toNatClampNeg tc, vl, rs, er, ev)) : wY_step_41 post x p z nc nt gp tc ep tr df lt dr ad re cs cv cx le lc tp pn an kd mn sn vl rs er ev :=
  br_f n1 (br_f n2 (br_t e (br_f hz ⟨hv, nm_e ⟨hv, nm_e hp⟩⟩)))
theorem yq_3b {z p : Int32} (hv : vp_in x 4) (n1 : ¬ p = 1) (n2 : ¬ p = 2) (e : p = 3) (hz : z = 0) (ht : tc = -1) (hp : post p (nc, nt, gp, tc, ep, tr, df, lt, dr, ad, re, cs, cv, cx, le, lc, upd tp x.toNatClampNeg 8, pn, an, kd, upd mn x.toNatClampNeg tc, sn, upd vl x.toNatClampNeg 0, upd rs x.toNatClampNeg 2, er, ev)) : wY_step_41 post x p z nc nt gp tc ep tr df lt dr ad re cs cv cx le lc tp pn an kd mn sn vl rs er ev :=
  br_f n1 (br_f n2 (br_t e (br_t hz ⟨hv, nm_e (br_t ht ⟨hv, nm_e ⟨hv, nm_e ⟨hv, nm_e hp⟩⟩⟩)⟩)))
theorem yq_3c {z p : Int32} (hv : vp_in x 4) (n1 : ¬ p = 1) (n2 : ¬ p = 2) (e : p = 3) (hz : z = 0) (ht : ¬ tc = -1) (hp : post p (nc, nt, gp, tc, ep, tr, df, lt, dr, ad, re, cs, cv, cx, le, lc, upd tp x.toNatClampNeg 5, pn, an, kd, upd mn x.toNatClampNeg tc, sn, vl, rs, er, ev)) : wY_step_41 post x p z nc nt gp tc ep tr df lt dr ad re cs cv cx le lc tp pn an kd mn sn vl rs er ev :=
  br_f n1 (br_f n2 (br_t e (br_t hz ⟨hv, nm_e (br_f ht ⟨hv, nm_e hp⟩)⟩)))
theorem yq_4a {z p : Int32} (hv : vp_in x 4) (n1 : ¬ p = 1) (n2 : ¬ p = 2) (n3 : ¬ p = 3) (e : p = 4) (hy : mn x.toNatClampNeg = y) (hc : ¬ er_ir y nc) (hp : post p (nc, nt, gp, tc, ep, tr, df, lt, dr, ad, re, cs, cv, cx, le, lc, upd tp x.toNatClampNeg 6, pn, an, kd, mn, sn, vl, rs, er, ev)) : wY_step_41 post x p z nc nt gp tc ep tr df lt dr ad re cs cv cx le lc tp pn an kd mn sn vl rs er ev :=
  br_f n1 (br_f n2 (br_f n3 (br_t e ⟨hv, nm_r hy (yq_acc0 hc (yq_C0 hc (br_t rfl ⟨hv, nm_e hp⟩)))⟩)))
theorem yq_4b {z p : Int32} (hv : vp_in x 4) (n1 : ¬ p = 1) (n2 : ¬ p = 2) (n3 : ¬ p = 3) (e : p = 4) (hy : mn x.toNatClampNeg = y) (hc : er_ir y nc) (hw : vp_in y 32) (h0 : cs y.toNatClampNeg = 0) (hp : post p (nc, nt, gp, tc, ep, tr + 1, df, y, dr, ad, re, cs, cv, upd cx y.toNatClampNeg (sn x.toNatClampNeg), le, lc, upd tp x.toNatClampNeg 6, pn, an, kd, mn, sn, vl, rs, er, ev)) : wY_step_41 post x p z nc nt gp tc ep tr df lt dr ad re cs cv cx le lc tp pn an kd mn sn vl rs er ev :=
  br_f n1 (br_f n2 (br_f n3 (br_t e ⟨hv, nm_r hy (yq_acc1 hc hw h0 (yq_C1 hc (br_f er_10 ⟨hv, hw, nm_e ⟨hv, nm_e hp⟩⟩)))⟩)))
theorem yq_4c {z p : Int32} (hv : vp_in x 4) (n1 : ¬ p = 1) (n2 : ¬ p = 2) (n3 : ¬ p = 3) (e : p = 4) (hy : mn x.toNatClampNeg = y) (hc : er_ir y nc) (hw : vp_in y 32) (h0 : ¬ cs y.toNatClampNeg = 0) (hp : post p (nc, nt, gp, tc, ep, tr, df, lt, dr, ad, re, cs, cv, upd cx y.toNatClampNeg (sn x.toNatClampNeg), le, lc, upd tp x.toNatClampNeg 6, pn, an, kd, mn, sn, vl, rs, er, ev)) : wY_step_41 post x p z nc nt gp tc ep tr df lt dr ad re cs cv cx le lc tp pn an kd mn sn vl rs er ev :=
  br_f n1 (br_f n2 (br_f n3 (br_t e ⟨hv, nm_r hy (yq_acc2 hc hw h0 (yq_C1 hc (br_f er_10 ⟨hv, hw, nm_e ⟨hv, nm_e hp⟩⟩)))⟩)))
theorem yq_5a {z p : Int32} (hv : vp_in x 4) (n1 : ¬ p = 1) (n2 : ¬ p = 2) (n3 : ¬ p = 3) (n4 : ¬ p = 4) (e : p = 5) (hy : mn x.toNatClampNeg = y) (hc : ¬ er_ir y nc) (hp : post p (nc, nt, gp, tc, ep, tr, df, lt, dr, ad, re, cs, cv, cx, le, lc, upd tp x.toNatClampNeg 6, pn, an, kd, mn, sn, vl, rs, er, ev)) : wY_step_41 post x p z nc nt gp tc ep tr df lt dr ad re cs cv cx le lc tp pn an kd mn sn vl rs er ev :=
  br_f n1 (br_f n2 (br_f n3 (br_f n4 (br_t e ⟨hv, nm_r hy (yq_acc0 hc (yq_C0 hc (br_t rfl ⟨hv, nm_e hp⟩)))⟩))))
theorem yq_5b {z p : Int32} (hv : vp_in x 4) (n1 : ¬ p = 1) (n2 : ¬ p = 2) (n3 : ¬ p = 3) (n4 : ¬ p = 4) (e : p = 5) (hy : mn x.toNatClampNeg = y) (hc : er_ir y nc) (hw : vp_in y 32) (h0 : cs y.toNatClampNeg = 0) (hp : post p (nc, nt, gp, tc, ep, tr + 1, df, y, dr, ad, re, cs, cv, cx, le, lc, upd tp x.toNatClampNeg 6, pn, an, kd, mn, upd sn x.toNatClampNeg (cx y.toNatClampNeg), upd vl x.toNatClampNeg (cv y.toNatClampNeg), rs, er, ev)) : wY_step_41 post x p z nc nt gp tc ep tr df lt dr ad re cs cv cx le lc tp pn an kd mn sn vl rs er ev :=
  br_f n1 (br_f n2 (br_f n3 (br_f n4 (br_t e ⟨hv, nm_r hy (yq_acc1 hc hw h0 (yq_C1 hc (br_f er_10 ⟨hw, hv, nm_e ⟨hw, hv, nm_e ⟨hv, nm_e hp⟩⟩⟩)))⟩))))
theorem yq_5c {z p : Int32} (hv : vp_in x 4) (n1 : ¬ p = 1) (n2 : ¬ p = 2) (n3 : ¬ p = 3) (n4 : ¬ p = 4) (e : p = 5) (hy : mn x.toNatClampNeg = y) (hc : er_ir y nc) (hw : vp_in y 32) (h0 : ¬ cs y.toNatClampNeg = 0) (hp : post p (nc, nt, gp, tc, ep, tr, df, lt, dr, ad, re, cs, cv, cx, le, lc, upd tp x.toNatClampNeg 6, pn, an, kd, mn, upd sn x.toNatClampNeg (cx y.toNatClampNeg), upd vl x.toNatClampNeg (cv y.toNatClampNeg), rs, er, ev)) : wY_step_41 post x p z nc nt gp tc ep tr df lt dr ad re cs cv cx le lc tp pn an kd mn sn vl rs er ev :=
  br_f n1 (br_f n2 (br_f n3 (br_f n4 (br_t e ⟨hv, nm_r hy (yq_acc2 hc hw h0 (yq_C1 hc (br_f er_10 ⟨hw, hv, nm_e ⟨hw, hv, nm_e ⟨hv, nm_e hp⟩⟩⟩)))⟩))))
theorem yq_6a {z p : Int32} (hv : vp_in x 4) (n1 : ¬ p = 1) (n2 : ¬ p = 2) (n3 : ¬ p = 3) (n4 : ¬ p = 4) (n5 : ¬ p = 5) (e : p = 6) (hz : ¬ z = 0) (ht : tc = sn x.toNatClampNeg) (hp : post p (nc, nt, gp, mn x.toNatClampNeg, ep, tr, df, lt, dr, ad, re, cs, cv, cx, le, lc, upd tp x.toNatClampNeg 8, pn, an, kd, mn, sn, vl, upd rs x.toNatClampNeg 1, er, ev)) : wY_step_41 post x p z nc nt gp tc ep tr df lt dr ad re cs cv cx le lc tp pn an kd mn sn vl rs er ev :=
  br_f n1 (br_f n2 (br_f n3 (br_f n4 (br_f n5 (br_t e (br_f hz ⟨hv, br_t ht ⟨hv, nm_e ⟨hv, nm_e ⟨hv, nm_e hp⟩⟩⟩⟩))))))
theorem yq_6b {z p : Int32} (hv : vp_in x 4) (n1 : ¬ p = 1) (n2 : ¬ p = 2) (n3 : ¬ p = 3) (n4 : ¬ p = 4) (n5 : ¬ p = 5) (e : p = 6) (hz : ¬ z = 0) (ht : ¬ tc = sn x.toNatClampNeg) (hp : post p (nc, nt, gp, tc, ep, tr, df, lt, dr, ad, re, cs, cv, cx, le, lc, upd tp x.toNatClampNeg 3, pn, an, kd, mn, sn, vl, rs, er, ev)) : wY_step_41 post x p z nc nt gp tc ep tr df lt dr ad re cs cv cx le lc tp pn an kd mn sn vl rs er ev :=
  br_f n1 (br_f n2 (br_f n3 (br_f n4 (br_f n5 (br_t e (br_f hz ⟨hv, br_f ht ⟨hv, nm_e hp⟩⟩))))))
theorem yq_6c {z p : Int32} (hv : vp_in x 4) (n1 : ¬ p = 1) (n2 : ¬ p = 2) (n3 : ¬ p = 3) (n4 : ¬ p = 4) (n5 : ¬ p = 5) (e : p = 6) (hz : z = 0) (ht : tc = mn x.toNatClampNeg) (hp : post p (nc, nt, gp, sn x.toNatClampNeg, ep, tr, df, lt, dr, ad, re, cs, cv, cx, le, lc, upd tp x.toNatClampNeg 7, pn, an, kd, mn, sn, vl, upd rs x.toNatClampNeg 1, er, ev)) : wY_step_41 post x p z nc nt gp tc ep tr df lt dr ad re cs cv cx le lc tp pn an kd mn sn vl rs er ev :=
  br_f n1 (br_f n2 (br_f n3 (br_f n4 (br_f n5 (br_t e (br_t hz ⟨hv, br_t ht ⟨hv, nm_e ⟨hv, nm_e ⟨hv, nm_e hp⟩⟩⟩⟩))))))
theorem yq_6d {z p : Int32} (hv : vp_in x 4) (n1 : ¬ p = 1) (n2 : ¬ p = 2) (n3 : ¬ p = 3) (n4 : ¬ p = 4) (n5 : ¬ p = 5) (e : p = 6) (hz : z = 0) (ht : ¬ tc = mn x.toNatClampNeg) (hp : post p (nc, nt, gp, tc, ep, tr, df, lt, dr, ad, re, cs, cv, cx, le, lc, upd tp x.toNatClampNeg 3, pn, an, kd, mn, sn, vl, rs, er, ev)) : wY_step_41 post x p z nc nt gp tc ep tr df lt dr ad re cs cv cx le lc tp pn an kd mn sn vl rs er ev :=
  br_f n1 (br_f n2 (br_f n3 (br_f n4 (br_f n5 (br_t e (br_t hz ⟨hv, br_f ht ⟨hv, nm_e hp⟩⟩))))))
theorem yq_ret {s' : Nat → Int32} {p : Int32} (hv : vp_in x 4) (hy : mn x.toNatClampNeg = y) (hs : er_rt nc cs y s') (hp : post p (nc, nt, gp, tc, ep, tr, df, lt, dr, ad, re + 1, s', cv, cx, le, lc, upd tp x.toNatClampNeg 8, pn, an, kd, mn, sn, vl, rs, er, ev)) : wY_step_583 post x p nc nt gp tc ep tr df lt dr ad re cs cv cx le lc tp pn an kd mn sn vl rs er ev := by
  unfold wY_step_583
  refine ⟨hv, nm_r hy ?_⟩
  rcases hs with ⟨g, e⟩ | ⟨g, w, ⟨g2, e⟩ | ⟨g2, e⟩⟩
  · subst e
    exact yq_C0 g (br_t rfl (nm_e ⟨hv, nm_e hp⟩))
  · subst e
    exact yq_C1 g (br_f er_10 ⟨w, br_t g2 ⟨w, nm_e (nm_e ⟨hv, nm_e hp⟩)⟩⟩)
  · subst e
    exact yq_C1 g (br_f er_10 ⟨w, br_f g2 (nm_e ⟨hv, nm_e hp⟩)⟩)
theorem yq_7a {z p l : Int32} {s' : Nat → Int32} (hv : vp_in x 4) (n1 : ¬ p = 1) (n2 : ¬ p = 2) (n3 : ¬ p = 3) (n4 : ¬ p = 4) (n5 : ¬ p = 5) (n6 : ¬ p = 6) (e : p = 7) (hy : mn x.toNatClampNeg = y) (h3 : er_l3 (an x.toNatClampNeg) l) (hl : vp_in l 3) (hn : ¬ 32 ≤ lc l.toNatClampNeg) (hi : vp_in (l * 32 + lc l.toNatClampNeg) 96) (hs : er_rt nc cs y s')
    (hp : post p (nc, nt, gp, tc, ep, tr, df, lt, dr, ad, re + 1, s', cv, cx, upd le (l * 32 + lc l.toNatClampNeg).toNatClampNeg y, upd lc l.toNatClampNeg (lc l.toNatClampNeg + 1), upd tp x.toNatClampNeg 8, pn, an, kd, mn, sn, vl, rs, er, ev)) : wY_step_41 post x p z nc nt gp tc ep tr df lt dr ad re cs cv cx le lc tp pn an kd mn sn vl rs er ev := by
  refine br_f n1 (br_f n2 (br_f n3 (br_f n4 (br_f n5 (br_f n6 (br_t e ⟨hv, yq_mod3 h3 ⟨hl, br_f hn ⟨hl, hv, hi, nm_r (by rw [hy]) ⟨hl, hl, nm_e ?_⟩⟩⟩⟩))))))
  exact yq_ret hv hy hs hp
theorem yq_7b {z p l : Int32} {s' : Nat → Int32} (hv : vp_in x 4) (n1 : ¬ p = 1) (n2 : ¬ p = 2) (n3 : ¬ p = 3) (n4 : ¬ p = 4) (n5 : ¬ p = 5) (n6 : ¬ p = 6) (e : p = 7) (hy : mn x.toNatClampNeg = y) (h3 : er_l3 (an x.toNatClampNeg) l) (hl : vp_in l 3) (hn : 32 ≤ lc l.toNatClampNeg) (hs : er_rt nc cs y s')
    (hp : post p (nc, nt, gp, tc, ep, tr, df, lt, dr + 1, ad, re + 1, s', cv, cx, le, lc, upd tp x.toNatClampNeg 8, pn, an, kd, mn, sn, vl, rs, er, ev)) : wY_step_41 post x p z nc nt gp tc ep tr df lt dr ad re cs cv cx le lc tp pn an kd mn sn vl rs er ev := by
  refine br_f n1 (br_f n2 (br_f n3 (br_f n4 (br_f n5 (br_f n6 (br_t e ⟨hv, yq_mod3 h3 ⟨hl, br_t hn (nm_e ?_)⟩⟩))))))
  exact yq_ret hv hy hs hp
theorem yq_8a {z p : Int32} (hv : vp_in x 4) (n1 : ¬ p = 1) (n2 : ¬ p = 2) (n3 : ¬ p = 3) (n4 : ¬ p = 4) (n5 : ¬ p = 5) (n6 : ¬ p = 6) (n7 : ¬ p = 7) (hp : post p (nc, nt, gp, tc, ep, tr, df, lt, dr, ad, re, cs, cv, cx, le, lc, upd tp x.toNatClampNeg 0, upd pn x.toNatClampNeg (vp_nar .boolean 0), an, kd, mn, sn, vl, rs, upd er x.toNatClampNeg (rs x.toNatClampNeg), upd ev x.toNatClampNeg (vl x.toNatClampNeg))) : wY_step_41 post x p z nc nt gp tc ep tr df lt dr ad re cs cv cx le lc tp pn an kd mn sn vl rs er ev :=
  br_f n1 (br_f n2 (br_f n3 (br_f n4 (br_f n5 (br_f n6 (br_f n7 ⟨hv, nm_e ⟨hv, hv, nm_e ⟨hv, hv, nm_e ⟨hv, nm_e hp⟩⟩⟩⟩))))))
end
end
section
/-! the relation: every field and every array is one on both sides; freeCells is the number of FREE cells -/
def er_OK (C T : Nat) (lc tp : Nat → Int32) : Prop := 8 ≤ C ∧ C ≤ 32 ∧ 2 ≤ T ∧ T ≤ 4 ∧ (∀ t, t < T → ∃ p, p ≤ 8 ∧ tp t = nI p) ∧ (∀ k, k < 3 → ∃ n, n ≤ 32 ∧ lc k = nI n)
def er_R (C T : Nat) (u : SX) (v : SY) : Prop := ∃ (gp tc ep tr df lt dr ad re : Int32) (cs cv cx le lc tp pn an kd mn sn vl rs er ev : Nat → Int32), u = (nI C, nI T, gp, tc, ep, tr, df, lt, dr, ad, nI (er_cn cs C), re, cs, cv, cx, le, lc, tp, pn, an, kd, mn, sn, vl, rs, er, ev) ∧ v = (nI C, nI T, gp, tc, ep, tr, df, lt, dr, ad, re, cs, cv, cx, le, lc, tp, pn, an, kd, mn, sn, vl, rs, er, ev) ∧ er_OK C T lc tp
def i_Rel (_ : Nat) (u : SX) (v : SY) : Prop := ∃ C T, er_R C T u v
theorem i_up {k : Nat} {u : SX} {v : SY} (h : i_Rel k u v) : i_Rel (k + 3) u v := h
theorem er_okP {C T i q : Nat} {lc tp : Nat → Int32} {y : Int32} (h : er_OK C T lc tp) (hy : y = nI q) (hq : q ≤ 8) : er_OK C T lc (upd tp i y) := by
  obtain ⟨h1, h2, h3, h4, h5, h6⟩ := h
  refine ⟨h1, h2, h3, h4, fun t ht => ?_, h6⟩
  by_cases e : t = i
  · exact ⟨q, hq, by rw [e, pk_us]; exact hy⟩
  · rw [pk_un e]
    exact h5 t ht
theorem er_okL {C T i q : Nat} {lc tp : Nat → Int32} {y : Int32} (h : er_OK C T lc tp) (hy : y = nI q) (hq : q ≤ 32) : er_OK C T (upd lc i y) tp := by
  obtain ⟨h1, h2, h3, h4, h5, h6⟩ := h
  refine ⟨h1, h2, h3, h4, h5, fun t ht => ?_⟩
  by_cases e : t = i
  · exact ⟨q, hq, by rw [e, pk_us]; exact hy⟩
  · rw [pk_un e]
    exact h6 t ht
theorem er_rt_ex {C : Nat} (cs : Nat → Int32) (hC : C ≤ 32) (y : Int32) : ∃ s', er_rt (nI C) cs y s' ∧ er_cn s' C = er_cn cs C := by
  by_cases h : er_ir y (nI C)
  · obtain ⟨w, hc⟩ := er_ir_in hC (by omega) h
    by_cases g : cs y.toNatClampNeg = 1
    · exact ⟨upd cs y.toNatClampNeg 2, Or.inr ⟨h, w, Or.inl ⟨g, rfl⟩⟩, er_cn_same hc (by rw [g]; decide) (by decide)⟩
    · exact ⟨cs, Or.inr ⟨h, w, Or.inr ⟨g, rfl⟩⟩, rfl⟩
  · exact ⟨cs, Or.inl ⟨h, rfl⟩, rfl⟩
theorem er_vi {k i : Nat} (hk : k < 3) (hi : i < 32) : vp_in (nI k * 32 + nI i) 96 := by
  show vp_in (nI k * nI 32 + nI i) 96
  rw [pk_mul, nI_add]
  exact vp_in_nI (by omega) (by omega)
/-! one step of a busy thread, in lockstep -/
def er_LS (C T : Nat) (u : SX) (v : SY) (x p : Int32) : Prop := ∃ u' v', er_R C T u' v' ∧ (∀ post : SX → Prop, post u' → wpX_executePhase post u x) ∧ (∀ post : Int32 → SY → Prop, post p v' → wpY_step post v x)
section
variable {nc nt gp tc ep tr df lt dr ad fc re : Int32} {cs cv cx le lc tp pn an kd mn sn vl rs er ev : Nat → Int32}
variable {C T : Nat} {x : Int32}
theorem er_p1 (I : er_OK C T lc tp) (h : er_ir x (nI T)) (hv : vp_in x 4) (hp : tp x.toNatClampNeg = 1) : er_LS C T (nI C, nI T, gp, tc, ep, tr, df, lt, dr, ad, nI (er_cn cs C), re, cs, cv, cx, le, lc, tp, pn, an, kd, mn, sn, vl, rs, er, ev) (nI C, nI T, gp, tc, ep, tr, df, lt, dr, ad, re, cs, cv, cx, le, lc, tp, pn, an, kd, mn, sn, vl, rs, er, ev) x (tp x.toNatClampNeg) := by
  have h0 : ¬ tp x.toNatClampNeg = 0 := by rw [hp]; decide
  by_cases k : kd x.toNatClampNeg = 1
  · exact ⟨(nI C, nI T, gp, tc, ep, tr, df, lt, dr, ad, nI (er_cn cs C), re, cs, cv, cx, le, lc, upd tp x.toNatClampNeg 2, upd pn x.toNatClampNeg (vp_nar .boolean 1), upd an x.toNatClampNeg ep, kd, mn, sn, vl, rs, er, ev), (nI C, nI T, gp, tc, ep, tr, df, lt, dr, ad, re, cs, cv, cx, le, lc, upd tp x.toNatClampNeg 2, upd pn x.toNatClampNeg (vp_nar .boolean 1), upd an x.toNatClampNeg ep, kd, mn, sn, vl, rs, er, ev), ⟨_, _, _, _, _, _, _, _, _, _, _, _, _, _, _, _, _, _, _, _, _, _, _, _, rfl, rfl, er_okP (q := 2) I rfl (by decide)⟩, fun post hq => xq_exec1 hv hp (fun _ => xq_pin1 hv k) hq, fun post hq => yq_stepP h hv h0 k (yq_1a hv hp er_10 hq)⟩
  · exact ⟨(nI C, nI T, gp, tc, ep, tr, df, lt, dr, ad, nI (er_cn cs C), re, cs, cv, cx, le, lc, upd tp x.toNatClampNeg 3, upd pn x.toNatClampNeg (vp_nar .boolean 1), upd an x.toNatClampNeg ep, kd, mn, sn, vl, rs, er, ev), (nI C, nI T, gp, tc, ep, tr, df, lt, dr, ad, re, cs, cv, cx, le, lc, upd tp x.toNatClampNeg 3, upd pn x.toNatClampNeg (vp_nar .boolean 1), upd an x.toNatClampNeg ep, kd, mn, sn, vl, rs, er, ev), ⟨_, _, _, _, _, _, _, _, _, _, _, _, _, _, _, _, _, _, _, _, _, _, _, _, rfl, rfl, er_okP (q := 3) I rfl (by decide)⟩, fun post hq => xq_exec1 hv hp (fun _ => xq_pin2 hv k) hq, fun post hq => yq_stepQ h hv h0 k (yq_1b hv hp rfl hq)⟩
theorem er_p2 (I : er_OK C T lc tp) (h : er_ir x (nI T)) (hv : vp_in x 4) (hp : tp x.toNatClampNeg = 2) : er_LS C T (nI C, nI T, gp, tc, ep, tr, df, lt, dr, ad, nI (er_cn cs C), re, cs, cv, cx, le, lc, tp, pn, an, kd, mn, sn, vl, rs, er, ev) (nI C, nI T, gp, tc, ep, tr, df, lt, dr, ad, re, cs, cv, cx, le, lc, tp, pn, an, kd, mn, sn, vl, rs, er, ev) x (tp x.toNatClampNeg) := by
  have h0 : ¬ tp x.toNatClampNeg = 0 := by rw [hp]; decide
  have n1 : ¬ tp x.toNatClampNeg = 1 := by rw [hp]; decide
  have hC := I.2.1
  rcases er_least cs C with hn | ⟨c, hc, hz, hn⟩
  · exact ⟨(nI C, nI T, gp, tc, ep, tr, df, lt, dr, ad, nI (er_cn cs C), re, cs, cv, cx, le, lc, upd tp x.toNatClampNeg 8, pn, an, kd, mn, sn, vl, upd rs x.toNatClampNeg 3, er, ev), (nI C, nI T, gp, tc, ep, tr, df, lt, dr, ad, re, cs, cv, cx, le, lc, upd tp x.toNatClampNeg 8, pn, an, kd, mn, sn, vl, upd rs x.toNatClampNeg 3, er, ev), ⟨_, _, _, _, _, _, _, _, _, _, _, _, _, _, _, _, _, _, _, _, _, _, _, _, rfl, rfl, er_okP (q := 8) I rfl (by decide)⟩, fun post hq => xq_exec2 hv hp (fun _ => xq_alloc0 hv hC hn) hq, fun post hq => yq_stepZ h hv h0 (fun z => yq_2a hv n1 hp hC hn hq)⟩
  · have hf : nI (er_cn cs C) - 1 = nI (er_cn (upd cs (nI c).toNatClampNeg 1) C) := by
      rw [nI_clamp (by omega)]
      exact er_cn_dec' hc hz (by decide)
    exact ⟨(nI C, nI T, gp, tc, ep, tr, df, lt, dr, ad, nI (er_cn (upd cs (nI c).toNatClampNeg 1) C), re, upd cs (nI c).toNatClampNeg 1, upd cv (nI c).toNatClampNeg (vl x.toNatClampNeg), upd cx (nI c).toNatClampNeg (-1), le, lc, upd tp x.toNatClampNeg 3, pn, an, kd, upd mn x.toNatClampNeg (nI c), sn, vl, rs, er, ev), (nI C, nI T, gp, tc, ep, tr, df, lt, dr, ad, re, upd cs (nI c).toNatClampNeg 1, upd cv (nI c).toNatClampNeg (vl x.toNatClampNeg), upd cx (nI c).toNatClampNeg (-1), le, lc, upd tp x.toNatClampNeg 3, pn, an, kd, upd mn x.toNatClampNeg (nI c), sn, vl, rs, er, ev), ⟨_, _, _, _, _, _, _, _, _, _, _, _, _, _, _, _, _, _, _, _, _, _, _, _, rfl, rfl, er_okP (q := 3) I rfl (by decide)⟩, fun post hq => xq_exec2 hv hp (fun _ => xq_alloc1 hv hC hc hn hz hf) hq, fun post hq => yq_stepZ h hv h0 (fun z => yq_2b hv n1 hp hC hc hz hn hq)⟩
theorem er_p3 (I : er_OK C T lc tp) (h : er_ir x (nI T)) (hv : vp_in x 4) (hp : tp x.toNatClampNeg = 3) : er_LS C T (nI C, nI T, gp, tc, ep, tr, df, lt, dr, ad, nI (er_cn cs C), re, cs, cv, cx, le, lc, tp, pn, an, kd, mn, sn, vl, rs, er, ev) (nI C, nI T, gp, tc, ep, tr, df, lt, dr, ad, re, cs, cv, cx, le, lc, tp, pn, an, kd, mn, sn, vl, rs, er, ev) x (tp x.toNatClampNeg) := by
  have h0 : ¬ tp x.toNatClampNeg = 0 := by rw [hp]; decide
  have n1 : ¬ tp x.toNatClampNeg = 1 := by rw [hp]; decide
  have n2 : ¬ tp x.toNatClampNeg = 2 := by rw [hp]; decide
  by_cases k : kd x.toNatClampNeg = 1
  · exact ⟨(nI C, nI T, gp, tc, ep, tr, df, lt, dr, ad, nI (er_cn cs C), re, cs, cv, cx, le, lc, upd tp x.toNatClampNeg 4, pn, an, kd, mn, upd sn x.toNatClampNeg tc, vl, rs, er, ev), (nI C, nI T, gp, tc, ep, tr, df, lt, dr, ad, re, cs, cv, cx, le, lc, upd tp x.toNatClampNeg 4, pn, an, kd, mn, upd sn x.toNatClampNeg tc, vl, rs, er, ev), ⟨_, _, _, _, _, _, _, _, _, _, _, _, _, _, _, _, _, _, _, _, _, _, _, _, rfl, rfl, er_okP (q := 4) I rfl (by decide)⟩, fun post hq => xq_exec3 hv hp (fun _ => xq_top1 hv k) hq, fun post hq => yq_stepP h hv h0 k (yq_3a hv n1 n2 hp er_10 hq)⟩
  · by_cases g : tc = -1
    · exact ⟨(nI C, nI T, gp, tc, ep, tr, df, lt, dr, ad, nI (er_cn cs C), re, cs, cv, cx, le, lc, upd tp x.toNatClampNeg 8, pn, an, kd, upd mn x.toNatClampNeg tc, sn, upd vl x.toNatClampNeg 0, upd rs x.toNatClampNeg 2, er, ev), (nI C, nI T, gp, tc, ep, tr, df, lt, dr, ad, re, cs, cv, cx, le, lc, upd tp x.toNatClampNeg 8, pn, an, kd, upd mn x.toNatClampNeg tc, sn, upd vl x.toNatClampNeg 0, upd rs x.toNatClampNeg 2, er, ev), ⟨_, _, _, _, _, _, _, _, _, _, _, _, _, _, _, _, _, _, _, _, _, _, _, _, rfl, rfl, er_okP (q := 8) I rfl (by decide)⟩, fun post hq => xq_exec3 hv hp (fun _ => xq_top2 hv k g) hq, fun post hq => yq_stepQ h hv h0 k (yq_3b hv n1 n2 hp rfl g hq)⟩
    · exact ⟨(nI C, nI T, gp, tc, ep, tr, df, lt, dr, ad, nI (er_cn cs C), re, cs, cv, cx, le, lc, upd tp x.toNatClampNeg 5, pn, an, kd, upd mn x.toNatClampNeg tc, sn, vl, rs, er, ev), (nI C, nI T, gp, tc, ep, tr, df, lt, dr, ad, re, cs, cv, cx, le, lc, upd tp x.toNatClampNeg 5, pn, an, kd, upd mn x.toNatClampNeg tc, sn, vl, rs, er, ev), ⟨_, _, _, _, _, _, _, _, _, _, _, _, _, _, _, _, _, _, _, _, _, _, _, _, rfl, rfl, er_okP (q := 5) I rfl (by decide)⟩, fun post hq => xq_exec3 hv hp (fun _ => xq_top3 hv k g) hq, fun post hq => yq_stepQ h hv h0 k (yq_3c hv n1 n2 hp rfl g hq)⟩
theorem er_p4 (I : er_OK C T lc tp) (h : er_ir x (nI T)) (hv : vp_in x 4) (hp : tp x.toNatClampNeg = 4) : er_LS C T (nI C, nI T, gp, tc, ep, tr, df, lt, dr, ad, nI (er_cn cs C), re, cs, cv, cx, le, lc, tp, pn, an, kd, mn, sn, vl, rs, er, ev) (nI C, nI T, gp, tc, ep, tr, df, lt, dr, ad, re, cs, cv, cx, le, lc, tp, pn, an, kd, mn, sn, vl, rs, er, ev) x (tp x.toNatClampNeg) := by
  have h0 : ¬ tp x.toNatClampNeg = 0 := by rw [hp]; decide
  have n1 : ¬ tp x.toNatClampNeg = 1 := by rw [hp]; decide
  have n2 : ¬ tp x.toNatClampNeg = 2 := by rw [hp]; decide
  have n3 : ¬ tp x.toNatClampNeg = 3 := by rw [hp]; decide
  obtain ⟨y, hy⟩ : ∃ y, mn x.toNatClampNeg = y := ⟨_, rfl⟩
  by_cases c : er_ir y (nI C)
  · have w := (er_ir_in I.2.1 (by omega) c).1
    by_cases g : cs y.toNatClampNeg = 0
    · exact ⟨(nI C, nI T, gp, tc, ep, tr + 1, df, y, dr, ad, nI (er_cn cs C), re, cs, cv, upd cx y.toNatClampNeg (sn x.toNatClampNeg), le, lc, upd tp x.toNatClampNeg 6, pn, an, kd, mn, sn, vl, rs, er, ev), (nI C, nI T, gp, tc, ep, tr + 1, df, y, dr, ad, re, cs, cv, upd cx y.toNatClampNeg (sn x.toNatClampNeg), le, lc, upd tp x.toNatClampNeg 6, pn, an, kd, mn, sn, vl, rs, er, ev), ⟨_, _, _, _, _, _, _, _, _, _, _, _, _, _, _, _, _, _, _, _, _, _, _, _, rfl, rfl, er_okP (q := 6) I rfl (by decide)⟩, fun post hq => xq_exec4 hv hp (fun _ => xq_link1 hv hy c w g) hq, fun post hq => yq_stepZ h hv h0 (fun z => yq_4b hv n1 n2 n3 hp hy c w g hq)⟩
    · exact ⟨(nI C, nI T, gp, tc, ep, tr, df, lt, dr, ad, nI (er_cn cs C), re, cs, cv, upd cx y.toNatClampNeg (sn x.toNatClampNeg), le, lc, upd tp x.toNatClampNeg 6, pn, an, kd, mn, sn, vl, rs, er, ev), (nI C, nI T, gp, tc, ep, tr, df, lt, dr, ad, re, cs, cv, upd cx y.toNatClampNeg (sn x.toNatClampNeg), le, lc, upd tp x.toNatClampNeg 6, pn, an, kd, mn, sn, vl, rs, er, ev), ⟨_, _, _, _, _, _, _, _, _, _, _, _, _, _, _, _, _, _, _, _, _, _, _, _, rfl, rfl, er_okP (q := 6) I rfl (by decide)⟩, fun post hq => xq_exec4 hv hp (fun _ => xq_link2 hv hy c w g) hq, fun post hq => yq_stepZ h hv h0 (fun z => yq_4c hv n1 n2 n3 hp hy c w g hq)⟩
  · exact ⟨(nI C, nI T, gp, tc, ep, tr, df, lt, dr, ad, nI (er_cn cs C), re, cs, cv, cx, le, lc, upd tp x.toNatClampNeg 6, pn, an, kd, mn, sn, vl, rs, er, ev), (nI C, nI T, gp, tc, ep, tr, df, lt, dr, ad, re, cs, cv, cx, le, lc, upd tp x.toNatClampNeg 6, pn, an, kd, mn, sn, vl, rs, er, ev), ⟨_, _, _, _, _, _, _, _, _, _, _, _, _, _, _, _, _, _, _, _, _, _, _, _, rfl, rfl, er_okP (q := 6) I rfl (by decide)⟩, fun post hq => xq_exec4 hv hp (fun _ => xq_link0 hv hy c) hq, fun post hq => yq_stepZ h hv h0 (fun z => yq_4a hv n1 n2 n3 hp hy c hq)⟩
theorem er_p5 (I : er_OK C T lc tp) (h : er_ir x (nI T)) (hv : vp_in x 4) (hp : tp x.toNatClampNeg = 5) : er_LS C T (nI C, nI T, gp, tc, ep, tr, df, lt, dr, ad, nI (er_cn cs C), re, cs, cv, cx, le, lc, tp, pn, an, kd, mn, sn, vl, rs, er, ev) (nI C, nI T, gp, tc, ep, tr, df, lt, dr, ad, re, cs, cv, cx, le, lc, tp, pn, an, kd, mn, sn, vl, rs, er, ev) x (tp x.toNatClampNeg) := by
  have h0 : ¬ tp x.toNatClampNeg = 0 := by rw [hp]; decide
  have n1 : ¬ tp x.toNatClampNeg = 1 := by rw [hp]; decide
  have n2 : ¬ tp x.toNatClampNeg = 2 := by rw [hp]; decide
  have n3 : ¬ tp x.toNatClampNeg = 3 := by rw [hp]; decide
  have n4 : ¬ tp x.toNatClampNeg = 4 := by rw [hp]; decide
  obtain ⟨y, hy⟩ : ∃ y, mn x.toNatClampNeg = y := ⟨_, rfl⟩
  by_cases c : er_ir y (nI C)
  · have w := (er_ir_in I.2.1 (by omega) c).1
    by_cases g : cs y.toNatClampNeg = 0
    · exact ⟨(nI C, nI T, gp, tc, ep, tr + 1, df, y, dr, ad, nI (er_cn cs C), re, cs, cv, cx, le, lc, upd tp x.toNatClampNeg 6, pn, an, kd, mn, upd sn x.toNatClampNeg (cx y.toNatClampNeg), upd vl x.toNatClampNeg (cv y.toNatClampNeg), rs, er, ev), (nI C, nI T, gp, tc, ep, tr + 1, df, y, dr, ad, re, cs, cv, cx, le, lc, upd tp x.toNatClampNeg 6, pn, an, kd, mn, upd sn x.toNatClampNeg (cx y.toNatClampNeg), upd vl x.toNatClampNeg (cv y.toNatClampNeg), rs, er, ev), ⟨_, _, _, _, _, _, _, _, _, _, _, _, _, _, _, _, _, _, _, _, _, _, _, _, rfl, rfl, er_okP (q := 6) I rfl (by decide)⟩, fun post hq => xq_exec5 hv hp (fun _ => xq_read1 hv hy c w g) hq, fun post hq => yq_stepZ h hv h0 (fun z => yq_5b hv n1 n2 n3 n4 hp hy c w g hq)⟩
    · exact ⟨(nI C, nI T, gp, tc, ep, tr, df, lt, dr, ad, nI (er_cn cs C), re, cs, cv, cx, le, lc, upd tp x.toNatClampNeg 6, pn, an, kd, mn, upd sn x.toNatClampNeg (cx y.toNatClampNeg), upd vl x.toNatClampNeg (cv y.toNatClampNeg), rs, er, ev), (nI C, nI T, gp, tc, ep, tr, df, lt, dr, ad, re, cs, cv, cx, le, lc, upd tp x.toNatClampNeg 6, pn, an, kd, mn, upd sn x.toNatClampNeg (cx y.toNatClampNeg), upd vl x.toNatClampNeg (cv y.toNatClampNeg), rs, er, ev), ⟨_, _, _, _, _, _, _, _, _, _, _, _, _, _, _, _, _, _, _, _, _, _, _, _, rfl, rfl, er_okP (q := 6) I rfl (by decide)⟩, fun post hq => xq_exec5 hv hp (fun _ => xq_read2 hv hy c w g) hq, fun post hq => yq_stepZ h hv h0 (fun z => yq_5c hv n1 n2 n3 n4 hp hy c w g hq)⟩
  · exact ⟨(nI C, nI T, gp, tc, ep, tr, df, lt, dr, ad, nI (er_cn cs C), re, cs, cv, cx, le, lc, upd tp x.toNatClampNeg 6, pn, an, kd, mn, sn, vl, rs, er, ev), (nI C, nI T, gp, tc, ep, tr, df, lt, dr, ad, re, cs, cv, cx, le, lc, upd tp x.toNatClampNeg 6, pn, an, kd, mn, sn, vl, rs, er, ev), ⟨_, _, _, _, _, _, _, _, _, _, _, _, _, _, _, _, _, _, _, _, _, _, _, _, rfl, rfl, er_okP (q := 6) I rfl (by decide)⟩, fun post hq => xq_exec5 hv hp (fun _ => xq_read0 hv hy c) hq, fun post hq => yq_stepZ h hv h0 (fun z => yq_5a hv n1 n2 n3 n4 hp hy c hq)⟩
theorem er_p6 (I : er_OK C T lc tp) (h : er_ir x (nI T)) (hv : vp_in x 4) (hp : tp x.toNatClampNeg = 6) : er_LS C T (nI C, nI T, gp, tc, ep, tr, df, lt, dr, ad, nI (er_cn cs C), re, cs, cv, cx, le, lc, tp, pn, an, kd, mn, sn, vl, rs, er, ev) (nI C, nI T, gp, tc, ep, tr, df, lt, dr, ad, re, cs, cv, cx, le, lc, tp, pn, an, kd, mn, sn, vl, rs, er, ev) x (tp x.toNatClampNeg) := by
  have h0 : ¬ tp x.toNatClampNeg = 0 := by rw [hp]; decide
  have n1 : ¬ tp x.toNatClampNeg = 1 := by rw [hp]; decide
  have n2 : ¬ tp x.toNatClampNeg = 2 := by rw [hp]; decide
  have n3 : ¬ tp x.toNatClampNeg = 3 := by rw [hp]; decide
  have n4 : ¬ tp x.toNatClampNeg = 4 := by rw [hp]; decide
  have n5 : ¬ tp x.toNatClampNeg = 5 := by rw [hp]; decide
  by_cases k : kd x.toNatClampNeg = 1
  · by_cases g : tc = sn x.toNatClampNeg
    · exact ⟨(nI C, nI T, gp, mn x.toNatClampNeg, ep, tr, df, lt, dr, ad, nI (er_cn cs C), re, cs, cv, cx, le, lc, upd tp x.toNatClampNeg 8, pn, an, kd, mn, sn, vl, upd rs x.toNatClampNeg 1, er, ev), (nI C, nI T, gp, mn x.toNatClampNeg, ep, tr, df, lt, dr, ad, re, cs, cv, cx, le, lc, upd tp x.toNatClampNeg 8, pn, an, kd, mn, sn, vl, upd rs x.toNatClampNeg 1, er, ev), ⟨_, _, _, _, _, _, _, _, _, _, _, _, _, _, _, _, _, _, _, _, _, _, _, _, rfl, rfl, er_okP (q := 8) I rfl (by decide)⟩, fun post hq => xq_exec6 hv hp (fun _ => xq_cas1 hv k g) hq, fun post hq => yq_stepP h hv h0 k (yq_6a hv n1 n2 n3 n4 n5 hp er_10 g hq)⟩
    · exact ⟨(nI C, nI T, gp, tc, ep, tr, df, lt, dr, ad, nI (er_cn cs C), re, cs, cv, cx, le, lc, upd tp x.toNatClampNeg 3, pn, an, kd, mn, sn, vl, rs, er, ev), (nI C, nI T, gp, tc, ep, tr, df, lt, dr, ad, re, cs, cv, cx, le, lc, upd tp x.toNatClampNeg 3, pn, an, kd, mn, sn, vl, rs, er, ev), ⟨_, _, _, _, _, _, _, _, _, _, _, _, _, _, _, _, _, _, _, _, _, _, _, _, rfl, rfl, er_okP (q := 3) I rfl (by decide)⟩, fun post hq => xq_exec6 hv hp (fun _ => xq_cas2 hv k g) hq, fun post hq => yq_stepP h hv h0 k (yq_6b hv n1 n2 n3 n4 n5 hp er_10 g hq)⟩
  · by_cases g : tc = mn x.toNatClampNeg
    · exact ⟨(nI C, nI T, gp, sn x.toNatClampNeg, ep, tr, df, lt, dr, ad, nI (er_cn cs C), re, cs, cv, cx, le, lc, upd tp x.toNatClampNeg 7, pn, an, kd, mn, sn, vl, upd rs x.toNatClampNeg 1, er, ev), (nI C, nI T, gp, sn x.toNatClampNeg, ep, tr, df, lt, dr, ad, re, cs, cv, cx, le, lc, upd tp x.toNatClampNeg 7, pn, an, kd, mn, sn, vl, upd rs x.toNatClampNeg 1, er, ev), ⟨_, _, _, _, _, _, _, _, _, _, _, _, _, _, _, _, _, _, _, _, _, _, _, _, rfl, rfl, er_okP (q := 7) I rfl (by decide)⟩, fun post hq => xq_exec6 hv hp (fun _ => xq_cas3 hv k g) hq, fun post hq => yq_stepQ h hv h0 k (yq_6c hv n1 n2 n3 n4 n5 hp rfl g hq)⟩
    · exact ⟨(nI C, nI T, gp, tc, ep, tr, df, lt, dr, ad, nI (er_cn cs C), re, cs, cv, cx, le, lc, upd tp x.toNatClampNeg 3, pn, an, kd, mn, sn, vl, rs, er, ev), (nI C, nI T, gp, tc, ep, tr, df, lt, dr, ad, re, cs, cv, cx, le, lc, upd tp x.toNatClampNeg 3, pn, an, kd, mn, sn, vl, rs, er, ev), ⟨_, _, _, _, _, _, _, _, _, _, _, _, _, _, _, _, _, _, _, _, _, _, _, _, rfl, rfl, er_okP (q := 3) I rfl (by decide)⟩, fun post hq => xq_exec6 hv hp (fun _ => xq_cas4 hv k g) hq, fun post hq => yq_stepQ h hv h0 k (yq_6d hv n1 n2 n3 n4 n5 hp rfl g hq)⟩
theorem er_p7 (I : er_OK C T lc tp) (h : er_ir x (nI T)) (hv : vp_in x 4) (hp : tp x.toNatClampNeg = 7) : er_LS C T (nI C, nI T, gp, tc, ep, tr, df, lt, dr, ad, nI (er_cn cs C), re, cs, cv, cx, le, lc, tp, pn, an, kd, mn, sn, vl, rs, er, ev) (nI C, nI T, gp, tc, ep, tr, df, lt, dr, ad, re, cs, cv, cx, le, lc, tp, pn, an, kd, mn, sn, vl, rs, er, ev) x (tp x.toNatClampNeg) := by
  have h0 : ¬ tp x.toNatClampNeg = 0 := by rw [hp]; decide
  have n1 : ¬ tp x.toNatClampNeg = 1 := by rw [hp]; decide
  have n2 : ¬ tp x.toNatClampNeg = 2 := by rw [hp]; decide
  have n3 : ¬ tp x.toNatClampNeg = 3 := by rw [hp]; decide
  have n4 : ¬ tp x.toNatClampNeg = 4 := by rw [hp]; decide
  have n5 : ¬ tp x.toNatClampNeg = 5 := by rw [hp]; decide
  have n6 : ¬ tp x.toNatClampNeg = 6 := by rw [hp]; decide
  obtain ⟨y, hy⟩ : ∃ y, mn x.toNatClampNeg = y := ⟨_, rfl⟩
  obtain ⟨s', hs, he⟩ := er_rt_ex cs I.2.1 y
  obtain ⟨l, h3, hl⟩ := er_l3_ex (an x.toNatClampNeg)
  have hlv : vp_in (nI l) 3 := vp_in_nI hl (by omega)
  have hl2 : (nI l).toNatClampNeg = l := nI_clamp (by omega)
  obtain ⟨n, hn, hN⟩ := I.2.2.2.2.2 l hl
  have hN2 : lc (nI l).toNatClampNeg = nI n := by rw [hl2]; exact hN
  by_cases g : n < 32
  · have g1 : ¬ 32 ≤ lc (nI l).toNatClampNeg := by rw [hN2]; exact nI_ge (b := 32) g (by decide)
    have g2 : vp_in (nI l * 32 + lc (nI l).toNatClampNeg) 96 := by rw [hN2]; exact er_vi hl g
    refine ⟨(nI C, nI T, gp, tc, ep, tr, df, lt, dr, ad, nI (er_cn s' C), re + 1, s', cv, cx, upd le (nI l * 32 + lc (nI l).toNatClampNeg).toNatClampNeg y, upd lc (nI l).toNatClampNeg (lc (nI l).toNatClampNeg + 1), upd tp x.toNatClampNeg 8, pn, an, kd, mn, sn, vl, rs, er, ev), (nI C, nI T, gp, tc, ep, tr, df, lt, dr, ad, re + 1, s', cv, cx, upd le (nI l * 32 + lc (nI l).toNatClampNeg).toNatClampNeg y, upd lc (nI l).toNatClampNeg (lc (nI l).toNatClampNeg + 1), upd tp x.toNatClampNeg 8, pn, an, kd, mn, sn, vl, rs, er, ev), ⟨_, _, _, _, _, _, _, _, _, _, _, _, _, _, _, _, _, _, _, _, _, _, _, _, rfl, rfl, er_okL (q := n + 1) (er_okP (q := 8) I rfl (by decide)) (by rw [hN2, nI_1]) (by omega)⟩, fun post hq => ?_, fun post hq => yq_stepZ h hv h0 (fun z => yq_7a hv n1 n2 n3 n4 n5 n6 hp hy h3 hlv g1 g2 hs hq)⟩
    rw [he] at hq
    exact xq_exec7 hv hp (fun _ => xq_ret1 hv hy h3 hlv g1 g2 hs) hq
  · have g1 : 32 ≤ lc (nI l).toNatClampNeg := by rw [hN2]; exact nI_le (a := 32) (by omega) (by omega)
    refine ⟨(nI C, nI T, gp, tc, ep, tr, df, lt, dr + 1, ad, nI (er_cn s' C), re + 1, s', cv, cx, le, lc, upd tp x.toNatClampNeg 8, pn, an, kd, mn, sn, vl, rs, er, ev), (nI C, nI T, gp, tc, ep, tr, df, lt, dr + 1, ad, re + 1, s', cv, cx, le, lc, upd tp x.toNatClampNeg 8, pn, an, kd, mn, sn, vl, rs, er, ev), ⟨_, _, _, _, _, _, _, _, _, _, _, _, _, _, _, _, _, _, _, _, _, _, _, _, rfl, rfl, er_okP (q := 8) I rfl (by decide)⟩, fun post hq => ?_, fun post hq => yq_stepZ h hv h0 (fun z => yq_7b hv n1 n2 n3 n4 n5 n6 hp hy h3 hlv g1 hs hq)⟩
    rw [he] at hq
    exact xq_exec7 hv hp (fun _ => xq_ret2 hv hy h3 hlv g1 hs) hq
theorem er_p8 (I : er_OK C T lc tp) (h : er_ir x (nI T)) (hv : vp_in x 4) (hp : tp x.toNatClampNeg = 8) : er_LS C T (nI C, nI T, gp, tc, ep, tr, df, lt, dr, ad, nI (er_cn cs C), re, cs, cv, cx, le, lc, tp, pn, an, kd, mn, sn, vl, rs, er, ev) (nI C, nI T, gp, tc, ep, tr, df, lt, dr, ad, re, cs, cv, cx, le, lc, tp, pn, an, kd, mn, sn, vl, rs, er, ev) x (tp x.toNatClampNeg) := by
  have h0 : ¬ tp x.toNatClampNeg = 0 := by rw [hp]; decide
  have n1 : ¬ tp x.toNatClampNeg = 1 := by rw [hp]; decide
  have n2 : ¬ tp x.toNatClampNeg = 2 := by rw [hp]; decide
  have n3 : ¬ tp x.toNatClampNeg = 3 := by rw [hp]; decide
  have n4 : ¬ tp x.toNatClampNeg = 4 := by rw [hp]; decide
  have n5 : ¬ tp x.toNatClampNeg = 5 := by rw [hp]; decide
  have n6 : ¬ tp x.toNatClampNeg = 6 := by rw [hp]; decide
  have n7 : ¬ tp x.toNatClampNeg = 7 := by rw [hp]; decide
  exact ⟨(nI C, nI T, gp, tc, ep, tr, df, lt, dr, ad, nI (er_cn cs C), re, cs, cv, cx, le, lc, upd tp x.toNatClampNeg 0, upd pn x.toNatClampNeg (vp_nar .boolean 0), an, kd, mn, sn, vl, rs, upd er x.toNatClampNeg (rs x.toNatClampNeg), upd ev x.toNatClampNeg (vl x.toNatClampNeg)), (nI C, nI T, gp, tc, ep, tr, df, lt, dr, ad, re, cs, cv, cx, le, lc, upd tp x.toNatClampNeg 0, upd pn x.toNatClampNeg (vp_nar .boolean 0), an, kd, mn, sn, vl, rs, upd er x.toNatClampNeg (rs x.toNatClampNeg), upd ev x.toNatClampNeg (vl x.toNatClampNeg)), ⟨_, _, _, _, _, _, _, _, _, _, _, _, _, _, _, _, _, _, _, _, _, _, _, _, rfl, rfl, er_okP (q := 0) I rfl (by decide)⟩, fun post hq => xq_exec8 hv hp (fun _ => xq_unpin hv) hq, fun post hq => yq_stepZ h hv h0 (fun z => yq_8a hv n1 n2 n3 n4 n5 n6 n7 hq)⟩
theorem er_ls (I : er_OK C T lc tp) (h : er_ir x (nI T)) (h0 : ¬ tp x.toNatClampNeg = 0) : er_LS C T (nI C, nI T, gp, tc, ep, tr, df, lt, dr, ad, nI (er_cn cs C), re, cs, cv, cx, le, lc, tp, pn, an, kd, mn, sn, vl, rs, er, ev) (nI C, nI T, gp, tc, ep, tr, df, lt, dr, ad, re, cs, cv, cx, le, lc, tp, pn, an, kd, mn, sn, vl, rs, er, ev) x (tp x.toNatClampNeg) := by
  obtain ⟨hv, hx⟩ := er_ir_in I.2.2.2.1 (by omega) h
  obtain ⟨p, hp8, hp⟩ := I.2.2.2.2.1 _ hx
  rcases (by omega : p = 0 ∨ p = 1 ∨ p = 2 ∨ p = 3 ∨ p = 4 ∨ p = 5 ∨ p = 6 ∨ p = 7 ∨ p = 8) with rfl | rfl | rfl | rfl | rfl | rfl | rfl | rfl | rfl
  · exact absurd hp h0
  · exact er_p1 I h hv hp
  · exact er_p2 I h hv hp
  · exact er_p3 I h hv hp
  · exact er_p4 I h hv hp
  · exact er_p5 I h hv hp
  · exact er_p6 I h hv hp
  · exact er_p7 I h hv hp
  · exact er_p8 I h hv hp
end
end
