/-! the advance -/
theorem ew_nd : ∀ (l : List Nat), l.Nodup → ∀ (i j c : Nat), l[i]? = some c → l[j]? = some c → i = j := by
  intro l
  induction l with
  | nil => intro _ i j c h; exact absurd h (by simp)
  | cons d l ih =>
    intro hn i j c h1 h2
    have hn' := List.nodup_cons.mp hn
    cases i with
    | zero =>
      cases j with
      | zero => rfl
      | succ j =>
        have e : d = c := by simpa using h1
        have m : l[j]? = some c := by simpa using h2
        exact absurd (by rw [e]; exact List.mem_of_getElem? m) hn'.1
    | succ i =>
      cases j with
      | zero =>
        have e : d = c := by simpa using h2
        have m : l[i]? = some c := by simpa using h1
        exact absurd (by rw [e]; exact List.mem_of_getElem? m) hn'.1
      | succ j =>
        have m1 : l[i]? = some c := by simpa using h1
        have m2 : l[j]? = some c := by simpa using h2
        rw [ih hn'.2 i j c m1 m2]
/-- f is S with the first i of l made FREE -/
def ew_FR (l : List Nat) (S f : Nat → Int32) (i : Nat) : Prop := (∀ d, (∃ j, j < i ∧ l[j]? = some d) → f d = 0) ∧ (∀ d, ¬ (∃ j, j < i ∧ l[j]? = some d) → f d = S d)
theorem ew_fr0 {l : List Nat} {S : Nat → Int32} : ew_FR l S S 0 := ⟨fun d h => by obtain ⟨j, hj, _⟩ := h; omega, fun _ _ => rfl⟩
theorem ew_frs {l : List Nat} {S f : Nat → Int32} {i c : Nat} (hn : l.Nodup) (h : ew_FR l S f i) (hi : l[i]? = some c) : f c = S c ∧ ew_FR l S (upd f c 0) (i + 1) := by
  refine ⟨h.2 c fun ⟨j, hj, hx⟩ => ?_, fun d hd => ?_, fun d hd => ?_⟩
  · have := ew_nd l hn j i c hx hi
    omega
  · rcases ew_vc f c 0 d with ⟨e, u⟩ | ⟨e, u⟩
    · exact u
    · rw [u]
      obtain ⟨j, hj, hx⟩ := hd
      refine h.1 d ⟨j, ?_, hx⟩
      have : j ≠ i := fun w => by
        rw [w, hi] at hx
        exact e (Option.some.inj hx).symm
      omega
  · have ne : d ≠ c := fun w => hd ⟨i, by omega, by rw [w]; exact hi⟩
    rw [pk_un ne]
    exact h.2 d fun ⟨j, hj, hx⟩ => hd ⟨j, by omega, hx⟩
theorem ew_fre {l : List Nat} {S f : Nat → Int32} (h : ew_FR l S f l.length) (d : Nat) : (d ∈ l → f d = 0) ∧ (d ∉ l → f d = S d) := by
  refine ⟨fun m => ?_, fun m => h.2 d fun ⟨j, _, hx⟩ => m (List.mem_of_getElem? hx)⟩
  obtain ⟨j, hj⟩ := List.mem_iff_getElem?.mp m
  exact h.1 d ⟨j, (List.getElem?_eq_some_iff.mp hj).1, hj⟩
theorem ew_TH_adv {C e t : Nat} {own own' : Nat → Nat} {N : Nat → Int32} {p k : Nat} {b a m z : Int32} (he : e + 1 < 2 ^ 31)
    (ho : ∀ c, c < C → own c ≠ 2 + (e + 1) % 3 → own' c = own c) (hb : ¬ b = 0 → a = nI e) (h : ew_TH C e t own N p k b a m z) : ew_TH C (e + 1) t own' N p k b a m z := by
  obtain ⟨g1, g2, g3, g4, g5, g6⟩ := h
  have ha : 2 ≤ p → b = 1 ∧ a = nI e := fun x => by
    have b1 := (g3 x).1
    exact ⟨b1, hb (by rw [b1]; decide)⟩
  refine ⟨g1, g2, fun x => ⟨(ha x).1, e, (ha x).2, Or.inr rfl⟩, fun x y => ?_, fun x y => ?_, fun x => ?_⟩
  · obtain ⟨c, ⟨q1, q2, q3⟩, q⟩ := g4 x y
    exact ⟨c, ⟨q1, q2, by rw [ho c q1 (by omega)]; exact q3⟩, q⟩
  · obtain ⟨c, ⟨q1, q2, q3, q4, q5⟩, q⟩ := g5 x y
    have hx := (ha (by omega)).2
    have hn : own c ≠ 2 + (e + 1) % 3 := fun w => q5 w hx
    have ho' := ho c q1 hn
    refine ⟨c, ⟨q1, q2, by rw [ho']; exact q3, by rw [ho']; exact q4, fun _ w => ?_⟩, fun w o => q w (by rw [← ho']; exact o)⟩
    rw [hx, nI_eq (by omega) (by omega)] at w
    omega
  · obtain ⟨c, q1, q2, q3⟩ := g6 x
    exact ⟨c, q1, q2, by rw [ho c q1 (by omega)]; exact q3⟩
theorem ew_s_adv {C T e j : Nat} {top : Int32} {S S' N E L P B A K M Z : Nat → Int32} {own : Nat → Nat} {ch : List Nat} {lim : Nat → List Nat} (he : e + 1 < 2 ^ 31)
    (h : ew_I C T e top S N E L P B A K M Z own ch lim) (hb : ∀ t, t < T → ¬ B t = 0 → A t = nI e) (hj : j = (e + 1) % 3) (hf : ew_FR (lim j) S S' (lim j).length) :
    ∃ own', ew_I C T (e + 1) top S' N E (upd L j 0) P B A K M Z own' ch (ew_lu lim j []) := by
  obtain ⟨⟨a1, a2, a3, a4⟩, h2, h3, h4⟩ := h
  have j3 : j < 3 := by omega
  obtain ⟨l1, l2, l3, l4⟩ := h2 j j3
  have hz : ∀ c, c < C → own c = 2 + j → S' c = 0 := fun c hc w => (ew_fre hf c).1 ((l3 c).mpr ⟨hc, w⟩)
  have hs : ∀ c, own c ≠ 2 + j → S' c = S c := fun c w => (ew_fre hf c).2 fun m => w ((l3 c).mp m).2
  let own' : Nat → Nat := fun c => if own c = 2 + j then 0 else own c
  have o1 : ∀ c, own c = 2 + j → own' c = 0 := fun c w => if_pos w
  have o2 : ∀ c, own c ≠ 2 + j → own' c = own c := fun c w => if_neg w
  refine ⟨own', ⟨fun c hc => ?_, a2, a3, fun c => ?_⟩, fun k hk => ?_, fun t ht => ?_, fun c hc h5 => ?_⟩
  · by_cases w : own c = 2 + j
    · rw [o1 c w, hz c hc w, ew_st0]
    · rw [o2 c w, hs c w]; exact a1 c hc
  · rw [a4 c]
    by_cases w : own c = 2 + j
    · rw [o1 c w]; omega
    · rw [o2 c w]
  · by_cases x : k = j
    · subst x
      refine ⟨by rw [pk_us, ew_lus]; rfl, by rw [ew_lus]; exact List.nodup_nil, fun c => ?_, fun i c hi => ?_⟩
      · rw [ew_lus]
        refine ⟨fun w => (nomatch w), fun w => ?_⟩
        by_cases y : own c = 2 + k
        · rw [o1 c y] at w; omega
        · rw [o2 c y] at w; omega
      · rw [ew_lus] at hi
        exact absurd hi (by simp)
    · obtain ⟨m1, m2, m3, m4⟩ := h2 k hk
      refine ⟨by rw [pk_un x, ew_lun x]; exact m1, by rw [ew_lun x]; exact m2, fun c => ?_, fun i c hi => m4 i c (by rw [ew_lun x] at hi; exact hi)⟩
      rw [ew_lun x, m3 c]
      by_cases y : own c = 2 + j
      · rw [o1 c y]; omega
      · rw [o2 c y]
  · obtain ⟨p, k, q1, q2, q3⟩ := h3 t ht
    exact ⟨p, k, q1, q2, ew_TH_adv he (fun c _ w => o2 c (by rw [hj]; exact w)) (hb t ht) q3⟩
  · by_cases y : own c = 2 + j
    · rw [o1 c y] at h5; omega
    · have u := o2 c y
      rw [u] at h5
      obtain ⟨t, ht, g⟩ := h4 c hc h5
      refine ⟨t, ht, ?_⟩
      rw [u]
      exact g
/-! all at rest -/
theorem ew_idle {C T e : Nat} {top : Int32} {S N E L P B A K M Z : Nat → Int32} {own : Nat → Nat} {ch : List Nat} {lim : Nat → List Nat}
    (h : ew_I C T e top S N E L P B A K M Z own ch lim) (hz : ∀ t, t < T → P t = nI 0) : (∀ t, t < T → B t = 0) ∧ (∀ c, c < C → own c < 5) := by
  refine ⟨fun t ht => ?_, fun c hc => ?_⟩
  · obtain ⟨k, hk, _, hh⟩ := ew_at h ht (hz t ht) (by omega)
    exact hh.2.1 (by omega)
  · by_cases y : 5 ≤ own c
    · obtain ⟨t, ht, _, ⟨_, _, g | g | g⟩ | ⟨_, g⟩⟩ := h.2.2.2 c hc y
      · rw [hz t ht, nI_eq (by omega) (by omega)] at g; omega
      · rw [hz t ht, nI_eq (by omega) (by omega)] at g; omega
      · rw [hz t ht, nI_eq (by omega) (by omega)] at g; omega
      · rw [hz t ht, nI_eq (by omega) (by omega)] at g; omega
    · omega
/-- at rest, the lists empty: a cell is on the chain or FREE, and the numbers add up -/
theorem ew_rest {C T e : Nat} {top : Int32} {S N E L P B A K M Z : Nat → Int32} {own : Nat → Nat} {ch : List Nat} {lim : Nat → List Nat}
    (h : ew_I C T e top S N E L P B A K M Z own ch lim) (hz : ∀ t, t < T → P t = nI 0) (hl : ∀ k, k < 3 → lim k = []) :
    (∀ c, c < C → c ∉ ch → S c = 0) ∧ (∀ c, c ∈ ch → c < C ∧ S c = 1) ∧ er_cn S C + ch.length = C := by
  obtain ⟨_, i2⟩ := ew_idle h hz
  obtain ⟨⟨a1, a2, a3, a4⟩, h2, h3, h4⟩ := h
  have f1 : ∀ c, c < C → c ∉ ch → S c = 0 := fun c hc hn => by
    have n1 : own c ≠ 1 := fun w => hn ((a4 c).mpr ⟨hc, w⟩)
    have n2 : ∀ k, k < 3 → own c ≠ 2 + k := fun k hk w => by
      have m := ((h2 k hk).2.2.1 c).mpr ⟨hc, w⟩
      rw [hl k hk] at m
      exact nomatch m
    have n3 := n2 0 (by omega)
    have n4 := n2 1 (by omega)
    have n5 := n2 2 (by omega)
    have n6 := i2 c hc
    have z : own c = 0 := by omega
    rw [a1 c hc, z, ew_st0]
  have f2 : ∀ c, c ∈ ch → c < C ∧ S c = 1 := fun c hm => by
    have w := (a4 c).mp hm
    exact ⟨w.1, by rw [a1 c w.1, w.2, ew_st1]⟩
  refine ⟨f1, f2, ?_⟩
  obtain ⟨f, g1, g2⟩ := ew_cnl (C := C) ch a3 (fun c hc => (f2 c hc).1)
  rw [ew_cn_congr (f := S) (g := f) C fun c hc => ?_]
  · exact g1
  · rw [g2 c]
    refine ⟨fun w hm => ?_, fun w => f1 c hc w⟩
    rw [(f2 c hm).2] at w
    exact absurd w (by decide)
/-- the start -/
theorem ew_init {C T : Nat} {N M Z : Nat → Int32} : ew_I C T 0 (-1) (fun _ => 0) N (fun _ => 0) (fun _ => 0) (fun _ => 0) (fun _ => 0) (fun _ => 0) (fun _ => 0) M Z (fun _ => 0) [] (fun _ => []) := by
  refine ⟨⟨fun c _ => rfl, rfl, List.nodup_nil, fun c => ⟨fun w => (nomatch w), fun w => by have := w.2; dsimp only at this; omega⟩⟩, fun k hk => ⟨rfl, List.nodup_nil, fun c => ⟨fun w => (nomatch w), fun w => ?_⟩, fun i c hi => absurd hi (by simp)⟩, fun t ht => ⟨0, 0, rfl, rfl, by unfold ew_TA; omega, fun _ => rfl, fun x => by omega, fun x => by omega, fun x => by omega, fun x => by omega⟩, fun c hc h5 => ?_⟩
  · have := w.2
    dsimp only at this
    omega
  · dsimp only at h5
    omega
