/-! rows pasted from the bits -/
theorem ts_bit {w : Int64} {s : UInt64} {j : Nat} (hj : j < 64) (hs : s.toNat = j) : ((w.toUInt64 >>> s).toInt64 &&& 1) = 0 ↔ w.toBitVec.getLsbD j = false := by
  have e : (w.toUInt64 >>> s).toInt64.toBitVec = w.toBitVec >>> j := by
    apply BitVec.eq_of_toNat_eq
    show (w.toUInt64 >>> s).toNat = _
    rw [UInt64.toNat_shiftRight, hs, Nat.mod_eq_of_lt hj, BitVec.toNat_ushiftRight]
    rfl
  rw [← Int64.toBitVec_inj, Int64.toBitVec_and, e]
  show w.toBitVec >>> j &&& 1#64 = 0#64 ↔ _
  constructor
  · intro h
    have t := congrArg (fun x => x.getLsbD 0) h
    simpa using t
  · intro h
    apply BitVec.eq_of_getLsbD_eq
    intro i hi
    cases i with
    | zero => simp [h]
    | succ i => simp
theorem wb_of32 (x : Int32) : ∃ n, n < 2 ^ 32 ∧ x = nI n := ⟨x.toBitVec.toNat, x.toBitVec.isLt, Int32.toBitVec_inj.mp (by show _ = BitVec.ofNat 32 _; simp)⟩
theorem wb_cu : ∀ k, k < 64 → ((nI k).toInt64.toUInt64 &&& Int64.toUInt64 63) = UInt64.ofNat k := by decide +kernel
theorem u_tn {n : Nat} (h : n < 2 ^ 64) : (UInt64.ofNat n).toNat = n := Nat.mod_eq_of_lt h
/-! the law's bit set -/
theorem ew_sh : ∀ l, l < 32 → ((1 : Int64) <<< ((nI l).toInt64 &&& 63)).toBitVec = BitVec.twoPow 64 l := by decide +kernel
theorem ew_tp : ∀ l, l < 32 → BitVec.twoPow 64 l ≠ 0#64 := by decide +kernel
def ew_BS (x : Int64) (p : List Nat) : Prop := ∀ c, c < 32 → (x.toBitVec.getLsbD c = true ↔ c ∈ p)
theorem ew_bs0 : ew_BS 0 [] := fun c _ => ⟨fun h => by
    have : (0 : Int64).toBitVec = 0#64 := rfl
    rw [this] at h
    simp at h, fun h => (nomatch h)⟩
theorem ew_bsn {x : Int64} {p : List Nat} {c : Nat} (h : ew_BS x p) (hc : c < 32) (hn : c ∉ p) : (x &&& ((1 : Int64) <<< ((nI c).toInt64 &&& 63))) = 0 := by
  rw [← Int64.toBitVec_inj, Int64.toBitVec_and, ew_sh c hc, BitVec.and_twoPow]
  have g : ¬ x.toBitVec.getLsbD c = true := fun z => hn ((h c hc).mp z)
  rw [if_neg g]
  rfl
theorem ew_bss {x : Int64} {p : List Nat} {c : Nat} (h : ew_BS x p) (hc : c < 32) : ew_BS (x ||| ((1 : Int64) <<< ((nI c).toInt64 &&& 63))) (p ++ [c]) := by
  intro d hd
  rw [Int64.toBitVec_or, ew_sh c hc, BitVec.getLsbD_or, BitVec.getLsbD_twoPow, List.mem_append, List.mem_singleton, Bool.or_eq_true, h d hd]
  have g : (decide (c < 64) && decide (c = d)) = true ↔ d = c := by
    rw [Bool.and_eq_true, decide_eq_true_eq, decide_eq_true_eq]
    omega
  rw [g]
theorem ew_bsb {x : Int64} {p : List Nat} {c : Nat} (h : ew_BS x p) (hc : c < 32) (hb : ((x.toUInt64 >>> ((nI c).toInt64.toUInt64 &&& Int64.toUInt64 63)).toInt64 &&& 1) = 0) : c ∉ p := by
  rw [wb_cu c (by omega), ts_bit (j := c) (by omega) (u_tn (by omega))] at hb
  intro m
  have g := (h c hc).mpr m
  rw [hb] at g
  exact absurd g (by decide)
/-! the getters that the law asks -/
section
variable {nc nt gp tc ep tr df lt dr ad fc re : Int32} {cs cv cx le lc tp pn an kd mn sn vl rs er ev : Nat → Int32}
theorem xq_cok {post : Int32 → Prop} (hp : post 1) : wpL_countersOk post (nc, nt, gp, tc, ep, 0, 0, lt, 0, ad, fc, re, cs, cv, cx, le, lc, tp, pn, an, kd, mn, sn, vl, rs, er, ev) := by
  unfold wpL_countersOk
  exact br_f (by decide) (br_f (by decide) (br_t rfl (br_t rfl (br_f (by decide) (br_f (by decide) (br_f (by decide) (br_t rfl (br_t rfl (br_f (by decide) (br_f (by decide) (br_f (by decide) (br_f (by decide) (br_f (by decide) (br_t rfl (br_t rfl hp)))))))))))))))
theorem xq_cnt5 {post : Int32 → Prop} (hp : post fc) : wpX_counter post (nc, nt, gp, tc, ep, tr, df, lt, dr, ad, fc, re, cs, cv, cx, le, lc, tp, pn, an, kd, mn, sn, vl, rs, er, ev) 5 := by
  unfold wpX_counter
  exact br_f (by decide) (br_f (by decide) (br_f (by decide) (br_f (by decide) (br_f (by decide) (br_f (by decide) (br_f (by decide) (br_t rfl hp)))))))
theorem xq_lsz {post : Int32 → Prop} {k : Nat} (hk : k < 3) (hp : post (lc (nI k).toNatClampNeg)) : wpX_limboSize post (nc, nt, gp, tc, ep, tr, df, lt, dr, ad, fc, re, cs, cv, cx, le, lc, tp, pn, an, kd, mn, sn, vl, rs, er, ev) (nI k) := by
  unfold wpX_limboSize
  exact br_f (nI_pos (by omega)) (br_f (nI_ge (b := 3) hk (by decide)) (br_f er_10 ⟨vp_in_nI hk (by omega), hp⟩))
end
