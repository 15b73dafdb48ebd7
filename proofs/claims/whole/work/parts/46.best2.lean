/-! best: the class's search -/
section
variable {G : GT} {d : Nat} {h : Hp} {Q : Int32 → Hp → Prop} {QW : Hp → Prop}
/-- numbers, text, words that may come, HEARD of the first, most SECONDS -/
abbrev SP := (Nat → Int) × List Int32 × List Nat × Int32 × Int32
/-- the best so far: what it brings, its SECONDS, its row -/
abbrev BB := Int32 × Int32 × List Nat
def wdS (S : SP) (k : Nat) : Nat := S.2.2.1.getD k 0
def tkS (S : SP) (k : Nat) : Int32 := oI (S.1 (31 + 5 * wdS S k))
def erS (S : SP) (k : Nat) (s : Int32) : Int32 := tgP 0 S.2.1 (oI (S.1 (32 + 5 * wdS S k))) (oI (S.1 (31 + 5 * wdS S k))) (S.2.2.2.1 + s)
def inS (S : SP) (u : Nat) (b : Int) : Bool := (List.range S.2.2.1.length).any (fun j => decide ((wdS S j : Int) = b) && u.testBit j)
def frS (S : SP) (k : Nat) : Prop := S.1 (33 + 5 * wdS S k) < 0 ∨ S.1 (34 + 5 * (S.1 (33 + 5 * wdS S k)).toNat) = 1
abbrev mayS (S : SP) (u k : Nat) (t : Int32) : Prop := u.testBit k = false ∧ t + tkS S k ≤ S.2.2.2.2 ∧ ((S.1 (33 + 5 * wdS S k) < 0 ∨ S.1 (34 + 5 * (S.1 (33 + 5 * wdS S k)).toNat) = 1) ∨ inS S u (S.1 (33 + 5 * wdS S k)) = true)
def betS (b : BB) (t s : Int32) (row : List Nat) : BB := if b.1 < s ∨ (s = b.1 ∧ t < b.2.1) then (s, t, row) else b
def loS (S : SP) (nd : Nat → Int32 → Int32 → List Nat → BB → BB) (u : Nat) (t s : Int32) (row : List Nat) : Nat → Nat → BB → BB
  | 0, _, b => b
  | m + 1, k, b => loS S nd u t s row m (k + 1) (if mayS S u k t then nd (u + 2 ^ k) (t + tkS S k) (s + erS S k s) (row ++ [wdS S k]) b else b)
def ndS (S : SP) : Nat → Nat → Int32 → Int32 → List Nat → BB → BB
  | 0, _, t, s, row, b => betS b t s row
  | f + 1, u, t, s, row, b => loS S (ndS S f) u t s row S.2.2.1.length 0 (betS b t s row)
def OKS (S : SP) : Prop := OKF 99999 S.1 ∧ okL S.2.2.1 (S.1 1).toNat
theorem inS_iff {S : SP} {u : Nat} {b : Int} : inS S u b = true ↔ ∃ j, j < S.2.2.1.length ∧ (wdS S j : Int) = b ∧ u.testBit j = true := by
  unfold inS
  rw [List.any_eq_true]
  constructor
  · rintro ⟨j, hj, e⟩
    rw [Bool.and_eq_true, decide_eq_true_eq] at e
    exact ⟨j, List.mem_range.mp hj, e⟩
  · rintro ⟨j, hj, e⟩
    exact ⟨j, List.mem_range.mpr hj, by rw [Bool.and_eq_true, decide_eq_true_eq]; exact e⟩
theorem wd_lt {S : SP} (o : OKS S) {k : Nat} (hk : k < S.2.2.1.length) : (wdS S k : Int) < S.1 1 ∧ wdS S k < 12 := by
  have a := o.2.2.1 k hk
  have b := o.1.2.1
  unfold wdS
  omega
theorem wd_inj {S : SP} (o : OKS S) {i j : Nat} (hi : i < S.2.2.1.length) (hj : j < S.2.2.1.length) (e : wdS S i = wdS S j) : i = j := by
  unfold wdS at e
  have a := o.2.2.2 i j
  have b := o.2.2.2 j i
  rcases Nat.lt_trichotomy i j with c | c | c
  · have := a c hj; omega
  · exact c
  · have := b c hi; omega
/-- the class's bits of the words of a row -/
def UR (S : SP) (U : Int32) (u : Nat) : Prop := ∀ w, w < 12 → (bitP U w ↔ ∃ j, j < S.2.2.1.length ∧ wdS S j = w ∧ u.testBit j = true)
theorem UR_bit {S : SP} (o : OKS S) {U : Int32} {u k : Nat} (ur : UR S U u) (hk : k < S.2.2.1.length) : bitP U (wdS S k) ↔ u.testBit k = true := by
  rw [ur _ (wd_lt o hk).2]
  constructor
  · rintro ⟨j, hj, e, t⟩
    rw [wd_inj o hj hk e] at t
    exact t
  · intro t
    exact ⟨k, hk, rfl, t⟩
theorem UR_set {S : SP} (o : OKS S) {U : Int32} {u k : Nat} (ur : UR S U u) (hk : k < S.2.2.1.length) (hu : u < 32) (t : u.testBit k = false) : UR S (U ||| (1 <<< (nI (wdS S k) &&& 31))) (u + 2 ^ k) := by
  intro w hw
  have l5 := o.2.1
  rw [bitP_or hw, ur w hw, bitP_one _ (wd_lt o hk).2 w hw]
  constructor
  · rintro (⟨j, hj, e, tj⟩ | e)
    · exact ⟨j, hj, e, by rw [u_test u hu k (by omega) t j (by omega), tj, Bool.or_true]⟩
    · exact ⟨k, hk, e.symm, by rw [u_test u hu k (by omega) t k (by omega)]; simp⟩
  · rintro ⟨j, hj, e, tj⟩
    rw [u_test u hu k (by omega) t j (by omega), Bool.or_eq_true, decide_eq_true_eq] at tj
    rcases tj with c | c
    · subst c; exact Or.inr e.symm
    · exact Or.inl ⟨j, hj, e, c⟩
theorem UR_0 {S : SP} : UR S 0 0 := fun w hw => ⟨fun z => absurd z (bitP_0 w hw), fun ⟨j, _, _, t⟩ => by simp at t⟩
/-- the class amid its search -/
def CB (S : SP) (h0 : Hp) (b : BB) (tr : List Nat) (h : Hp) : Prop := RF h ∧ (∀ a, a ≠ 15 → a ≠ 49 → a ≠ 50 → a ≠ 52 → h.1 a = h0.1 a) ∧ (h.1 49 5 = nI S.2.2.1.length ∧ h.1 49 7 = S.2.2.2.1 ∧ h.1 49 8 = S.2.2.2.2) ∧ (h.1 49 2 = b.1 ∧ h.1 49 3 = b.2.1 ∧ h.1 49 1 = nI b.2.2.length ∧ b.2.2.length ≤ 5 ∧ ∀ i, i < b.2.2.length → h.1 50 i = nI (b.2.2.getD i 0)) ∧ ∀ i, i < tr.length → h.1 52 i = nI (tr.getD i 0)
def HC (S : SP) (bg : Nat → Int) (h0 : Hp) : Prop := OKS S ∧ vC h0 9 bg = S.1 ∧ TxC h0 13 S.2.1 ∧ ∀ i, i < S.2.2.1.length → h0.1 51 i = nI (wdS S i)
section
variable {S : SP} {bg : Nat → Int} {h0 : Hp}
theorem CB.vc {b : BB} {tr : List Nat} (H : HC S bg h0) (c : CB S h0 b tr h) : vC h 9 bg = S.1 := by
  rw [← H.2.1]
  exact vC_eq2 (fun a _ _ => c.2.1 a (by omega) (by omega) (by omega) (by omega)) (fun k _ _ => by rw [c.2.1 9 (by omega) (by omega) (by omega) (by omega)]) (fun k _ => by rw [c.2.1 _ (by omega) (by omega) (by omega) (by omega)]) (fun k _ => by rw [c.2.1 _ (by omega) (by omega) (by omega) (by omega)]) (fun k _ => by rw [c.2.1 _ (by omega) (by omega) (by omega) (by omega)])
theorem CB.tx {b : BB} {tr : List Nat} (H : HC S bg h0) (c : CB S h0 b tr h) : TxC h 13 S.2.1 := TxC_eq (by rw [c.2.1 13 (by omega) (by omega) (by omega) (by omega)]) (fun k _ => by rw [c.2.1 (13 + 1) (by omega) (by omega) (by omega) (by omega)]) H.2.2.1
theorem CB.ct {b : BB} {tr : List Nat} {h' : Hp} (c : CB S h0 b tr h) (m : CT 15 h h') : CB S h0 b tr h' := by
  obtain ⟨c1, c2, c3, c4, c5⟩ := c
  refine ⟨m.1, fun a z1 z2 z3 z4 => by rw [m.2.2 a z1, c2 a z1 z2 z3 z4], ?_, ?_, ?_⟩
  · rw [m.2.2 49 (by omega)]; exact c3
  · rw [m.2.2 49 (by omega), m.2.2 50 (by omega)]; exact c4
  · rw [m.2.2 52 (by omega)]; exact c5
theorem CB.le {b : BB} {tr tr2 : List Nat} (c : CB S h0 b (tr ++ tr2) h) : CB S h0 b tr h := by
  obtain ⟨c1, c2, c3, c4, c5⟩ := c
  refine ⟨c1, c2, c3, c4, fun i hi => ?_⟩
  rw [c5 i (by rw [List.length_append]; omega)]
  simp only [List.getD_eq_getElem?_getD, List.getElem?_append_left hi]
theorem CB.put {b : BB} {tr : List Nat} {w D : Nat} {x : Int32} (c : CB S h0 b tr h) (ex : x = nI w) (hD : D = tr.length) : CB S h0 b (tr ++ [w]) (sI h 52 D x) := by
  obtain ⟨c1, c2, c3, c4, c5⟩ := c
  refine ⟨c1, fun a z1 z2 z3 z4 => by funext t; rw [sI_ne (by omega), c2 a z1 z2 z3 z4], ?_, ?_, fun i hi => ?_⟩
  · rw [sI_ne (by omega), sI_ne (by omega), sI_ne (by omega)]; exact c3
  · refine ⟨by rw [sI_ne (by omega)]; exact c4.1, by rw [sI_ne (by omega)]; exact c4.2.1, by rw [sI_ne (by omega)]; exact c4.2.2.1, c4.2.2.2.1, fun i hi => by rw [sI_ne (by omega)]; exact c4.2.2.2.2 i hi⟩
  · rw [List.length_append] at hi
    simp only [List.length_cons, List.length_nil] at hi
    rw [sI_at, getD_appN, ex, hD]
    by_cases q : i < tr.length
    · rw [if_neg (by omega), if_pos q]; exact c5 i q
    · rw [if_pos (by omega), if_neg q, if_pos (by omega)]
theorem ev_keepB {b : BB} {tr : List Nat} {a1 a2 a3 : Int32} (c : CB S h0 b tr h) (hd : 2 ≤ d) (e1 : a1 = nI tr.length) (l5 : tr.length ≤ 5) (k : ∀ h', CB S h0 (betS b a2 a3 tr) tr h' → QW h') : EvV G d mX5_keepIfBetter [.inr (.inr (some 49)), .inl a1, .inl a2, .inl a3] h QW := by
  obtain ⟨e, rfl⟩ := dpos (show 1 ≤ d by omega)
  obtain ⟨c1, c2, c3, c4, c5⟩ := id c
  have et : a1.toInt = (tr.length : Int) := by rw [e1]; exact ti_nI (by omega)
  have eh : hd3 a1 0 5 = a1 := by
    rw [i_eq, hd3_i (by decide)]
    simp only [Int32.reduceToInt]
    omega
  have fin : (b.1 < a3 ∨ (a3 = b.1 ∧ a2 < b.2.1)) → ¬ hd3 a1 0 5 < 0 ∧ 0 + Int32.toNatClampNeg (hd3 a1 0 5) ≤ 5 ∧ 0 + Int32.toNatClampNeg (hd3 a1 0 5) ≤ 5 ∧ QW (sI (sI (sI (cpI h 52 0 50 0 (Int32.toNatClampNeg (hd3 a1 0 5))) 49 1 a1) 49 2 a3) 49 3 a2) := fun hc => by
    rw [eh, cl_of et]
    refine ⟨fun z => by rw [i_lt, et] at z; simp only [Int32.reduceToInt] at z; omega, by omega, by omega, ?_⟩
    unfold betS at k
    rw [if_pos hc] at k
    refine k _ ⟨c1, fun a z1 z2 z3 z4 => ?_, ?_, ⟨?_, ?_, ?_, l5, fun i hi => ?_⟩, fun i hi => ?_⟩
    · funext t; rw [sI_ne (by omega), sI_ne (by omega), sI_ne (by omega), cpI_at, if_neg (by omega), c2 a z1 z2 z3 z4]
    · refine ⟨?_, ?_, ?_⟩ <;> rw [sI_ne (by omega), sI_ne (by omega), sI_ne (by omega), cpI_at, if_neg (by omega)]
      · exact c3.1
      · exact c3.2.1
      · exact c3.2.2
    · rw [sI_ne (by omega), sI_self]
    · rw [sI_self]
    · rw [sI_ne (by omega), sI_ne (by omega), sI_self, e1]
    · have hi' : i < tr.length := hi
      rw [sI_ne (by omega), sI_ne (by omega), sI_ne (by omega), cpI_at, if_pos (by omega), show 0 + (i - 0) = i by omega]
      exact c5 i hi
    · rw [sI_ne (by omega), sI_ne (by omega), sI_ne (by omega), cpI_at, if_neg (by omega)]
      exact c5 i hi
  have nok : ¬ (b.1 < a3 ∨ (a3 = b.1 ∧ a2 < b.2.1)) → QW h := fun hc => by
    unfold betS at k
    rw [if_neg hc] at k
    exact k h c
  refine vc_X5_keepIfBetter c1 ?_
  rw [c4.1, c4.2.1]
  refine ⟨fun z => ev_heldC c1 (by omega) (by decide) (fin (Or.inl z)), fun z => ⟨fun z2 => nok (fun y => y.elim z (fun y => z2 y.1)), fun z2 => ⟨fun z3 => nok (fun y => y.elim z (fun y => ?_)), fun z3 => ev_heldC c1 (by omega) (by decide) (fin (Or.inr ⟨z2, ?_⟩))⟩⟩⟩
  · rw [i_le] at z3
    have := y.2
    rw [i_lt] at this
    omega
  · rw [i_le] at z3
    rw [i_lt]
    omega
theorem ev_mayC {b : BB} {tr : List Nat} {u k : Nat} {U a1 : Int32} (H : HC S bg h0) (c : CB S h0 b tr h) (hd : 4 ≤ d) (ur : UR S U u) (hk : k < S.2.2.1.length) (e1 : a1 = nI (wdS S k)) (k1 : u.testBit k = false → ((S.1 (33 + 5 * wdS S k) < 0 ∨ S.1 (34 + 5 * (S.1 (33 + 5 * wdS S k)).toNat) = 1) ∨ inS S u (S.1 (33 + 5 * wdS S k)) = true) → Q 1 h) (k0 : ¬ (u.testBit k = false ∧ ((S.1 (33 + 5 * wdS S k) < 0 ∨ S.1 (34 + 5 * (S.1 (33 + 5 * wdS S k)).toNat) = 1) ∨ inS S u (S.1 (33 + 5 * wdS S k)) = true)) → Q 0 h) : EvI G d mX5_mayCome [.inr (.inr (some 1)), .inl a1, .inl U] h Q := by
  obtain ⟨e, rfl⟩ := dpos (show 1 ≤ d by omega)
  have ev := c.vc H
  have okF := H.1.1
  have o1 := okF.2.1
  have wl := wd_lt H.1 hk
  have e4 : (h.1 1 4).toInt = S.1 1 := by rw [← ev] <;> rfl
  have et : a1.toInt = (wdS S k : Int) := by rw [e1]; exact ti_nI (by omega)
  have hb := UR_bit H.1 ur hk
  refine vc_X5_mayCome c.1 (ev_hasWord c.1 (by omega) (by omega) (br2 (fun _ => ?_) (fun z => absurd ⟨by omega, by omega⟩ z)))
  rw [e1]
  refine ⟨fun z => ?_, fun z => k0 (fun y => ?_)⟩
  · have uf : u.testBit k = false := by
      cases e : u.testBit k with
      | false => rfl
      | true => exact absurd (hb.mpr e) z
    refine ev_isFree (B := 99999) (bg := bg) (f := 9) c.1 (by omega) rfl (by rw [ev]; exact okF) (j := wdS S k) (by rw [ti_nI (by omega)]) (by rw [ev]; exact wl.1) ?_
    rw [ev]
    refine br2' (fun c1 => k1 uf (Or.inl c1)) (fun c1 => ⟨in_of (by rw [ti_nI (by omega)]; omega) (by rw [ti_nI (by omega)]; omega), ?_⟩)
    have o := okF.2.2.2.2.2.2.2.2.2 (wdS S k) wl.2
    unfold OKW at o
    have b3 := o.2.2.2.2.2.1 wl.1
    have hge : 0 ≤ S.1 (33 + 5 * wdS S k) := by
      rcases Int.lt_or_le (S.1 (33 + 5 * wdS S k)) 0 with y | y
      · exact absurd (Or.inl y) c1
      · exact y
    have e8 : h.1 8 (wdS S k) = nI (S.1 (33 + 5 * wdS S k)).toNat := by
      refine eq_nI ?_
      have := (@vC_w h 9 bg (wdS S k) wl.2).2.2.2.1
      rw [ev] at this
      omega
    have hin : bitP U (S.1 (33 + 5 * wdS S k)).toNat ↔ inS S u (S.1 (33 + 5 * wdS S k)) = true := by
      rw [ur _ (by omega), inS_iff]
      constructor
      · rintro ⟨j, hj, e, t⟩; exact ⟨j, hj, by omega, t⟩
      · rintro ⟨j, hj, e, t⟩; exact ⟨j, hj, by omega, t⟩
    rw [cl_of (ti_nI (by omega)), e8]
    refine ⟨fun y => k0 (fun q => q.2.elim c1 (fun q2 => y (hin.mpr q2))), fun y => k1 uf (Or.inr (hin.mp y))⟩
  · have := hb.mp z
    rw [this] at y
    exact absurd y.1 (by decide)
theorem oI_w {b : BB} {tr : List Nat} {k : Nat} (H : HC S bg h0) (c : CB S h0 b tr h) (hk : k < S.2.2.1.length) : h.1 6 (wdS S k) = tkS S k ∧ h.1 7 (wdS S k) = oI (S.1 (32 + 5 * wdS S k)) := by
  have wl := wd_lt H.1 hk
  have vw := @vC_w h 9 bg (wdS S k) wl.2
  rw [c.vc H] at vw
  unfold tkS
  rw [vw.2.1, vw.2.2.1, oi_ti, oi_ti]
  exact ⟨rfl, rfl⟩
/-- a word comes behind those of the trial -/
def AppC (G : GT) (S : SP) (h0 : Hp) (f : Nat) : Prop := ∀ (d u k : Nat) (U t s : Int32) (tr : List Nat) (b : BB) (h : Hp) (QW : Hp → Prop), 2 * f + 12 ≤ d → tr.length + f + 1 = 5 → k < S.2.2.1.length → u < 32 → u.testBit k = false → UR S U u → CB S h0 b tr h → (∀ h', CB S h0 (if t + tkS S k ≤ S.2.2.2.2 then ndS S f (u + 2 ^ k) (t + tkS S k) (s + erS S k s) (tr ++ [wdS S k]) b else b) tr h' → QW h') → EvV G d mX5_append [.inr (.inr (some 49)), .inr (.inr (some 1)), .inl (nI (wdS S k)), .inl (nI tr.length), .inl U, .inl t, .inl s] h QW
def LenC (G : GT) (S : SP) (h0 : Hp) (f : Nat) : Prop := ∀ (d u : Nat) (U t s : Int32) (tr : List Nat) (b : BB) (h : Hp) (QW : Hp → Prop), 2 * f + 11 ≤ d → tr.length + f = 5 → u < 32 → UR S U u → CB S h0 b tr h → (∀ h', CB S h0 (match f with | 0 => b | f + 1 => loS S (ndS S f) u t s tr S.2.2.1.length 0 b) tr h' → QW h') → EvV G d mX5_lengthen [.inr (.inr (some 49)), .inr (.inr (some 1)), .inl (nI tr.length), .inl U, .inl t, .inl s] h QW
theorem app_of (H : HC S bg h0) {f : Nat} (L : LenC G S h0 f) : AppC G S h0 f := by
  intro d u k U t s tr b h QW hd hl hk hu ub ur c K
  obtain ⟨e, rfl⟩ := dpos (show 1 ≤ d by omega)
  have wl := wd_lt H.1 hk
  have l5 := H.1.2.1
  have ev := c.vc H
  have o1 := H.1.1.2.1
  have e4 : (h.1 1 4).toInt = S.1 1 := by rw [← ev] <;> rfl
  have et : (nI (wdS S k)).toInt = (wdS S k : Int) := ti_nI (by omega)
  have el : (nI tr.length).toInt = (tr.length : Int) := ti_nI (by omega)
  have ow := oI_w H c hk
  have inn : vp_in (nI (wdS S k)) 12 := in_of (by omega) (by omega)
  refine vc_X5_append c.1 (ev_hasWord c.1 (by omega) (by omega) (br2 (fun _ => ev_within c.1 (by omega) (br2' (fun _ => ⟨inn, ?_⟩) (fun z => absurd ⟨by rw [el]; simp only [Int32.reduceToInt]; omega, by rw [el]; simp only [Int32.reduceToInt]; omega⟩ z))) (fun z => absurd ⟨by omega, by omega⟩ z)))
  rw [cl_of et, ow.1, ow.2, c.2.2.1.2.1, c.2.2.1.2.2]
  refine ⟨fun z => ⟨inn, inn, ev_earBy c.1 (by omega) (c.tx H) (fun h1 m1 => ⟨in_of (by omega) (by omega), ?_⟩)⟩, fun z => ?_⟩
  · rw [if_pos z] at K
    rw [cl_of el, nI_1]
    have ln : (tr ++ [wdS S k]).length = tr.length + 1 := by simp
    have c2 : CB S h0 b (tr ++ [wdS S k]) (sI h1 52 tr.length (nI (wdS S k))) := (c.ct m1).put rfl rfl
    refine ev_keepB c2 (by omega) (by rw [ln]) (by omega) (fun h2 c3 => ?_)
    have us := u_set u hu k (by omega) ub
    have g := L e (u + 2 ^ k) (U ||| (1 <<< (nI (wdS S k) &&& 31))) (t + tkS S k) (s + erS S k s) (tr ++ [wdS S k]) _ h2 QW (by omega) (by omega) us.2.1 (UR_set H.1 ur hk hu ub) c3 (fun h' c4 => K h' (CB.le (tr2 := [wdS S k]) ?_))
    · rw [ln] at g
      exact g
    · cases f with
      | zero => exact c4
      | succ f => exact c4
  · rw [if_neg z] at K
    exact K h c
theorem len_0 : LenC G S h0 0 := by
  intro d u U t s tr b h QW hd hl hu ur c K
  obtain ⟨e, rfl⟩ := dpos (show 1 ≤ d by omega)
  have el : (nI tr.length).toInt = (tr.length : Int) := ti_nI (by omega)
  refine vc_X5_lengthen c.1 (vc_X5_lengthen_3 c.1 ⟨fun _ => K h c, fun _ => ⟨fun _ => K h c, fun _ => ⟨fun _ => K h c, fun z => ?_⟩⟩⟩)
  exfalso
  rw [i_le, el] at z
  simp only [Int32.reduceToInt] at z
  omega
theorem len_s (H : HC S bg h0) {f : Nat} (A : AppC G S h0 f) : LenC G S h0 (f + 1) := by
  intro d u U t s tr b h QW hd hl hu ur c K
  obtain ⟨e, rfl⟩ := dpos (show 1 ≤ d by omega)
  have l5 := H.1.2.1
  have el : (nI tr.length).toInt = (tr.length : Int) := ti_nI (by omega)
  have lo : ∀ (m k : Nat) (b : BB) (h : Hp), k + m = S.2.2.1.length → CB S h0 b tr h → (∀ h', CB S h0 (loS S (ndS S f) u t s tr m k b) tr h' → QW h') → Rg_X5_lengthen_3 G e (nI tr.length) U t s (nI k) h QW := by
    intro m
    induction m with
    | zero =>
      intro k b h hk c K
      refine vc_X5_lengthen_3 c.1 ⟨fun _ => K h c, fun z => ?_⟩
      exfalso
      rw [c.2.2.1.1, i_le, ti_nI (by omega), ti_nI (by omega)] at z
      omega
    | succ m ih =>
      intro k b h hk c K
      have ek : (nI k).toInt = (k : Int) := ti_nI (by omega)
      have hk' : k < S.2.2.1.length := by omega
      have e51 : ∀ h', CB S h0 b tr h' → h'.1 51 k = nI (wdS S k) := fun h' c' => by rw [c'.2.1 51 (by omega) (by omega) (by omega) (by omega)]; exact H.2.2.2 k hk'
      refine vc_X5_lengthen_3 c.1 ⟨fun z => ?_, fun _ => ⟨fun z => ?_, fun _ => ⟨fun z => ?_, fun _ => ⟨in_of (by omega) (by omega), ?_⟩⟩⟩⟩
      · exfalso
        rw [c.2.2.1.1, i_le, ti_nI (by omega), ti_nI (by omega)] at z
        omega
      · exfalso
        rw [i_le, ek] at z
        simp only [Int32.reduceToInt] at z
        omega
      · exfalso
        rw [i_le, el] at z
        simp only [Int32.reduceToInt] at z
        omega
      · rw [cl_of ek, e51 h c, nI_1]
        refine ev_mayC H c (by omega) ur hk' rfl (fun uf fr => ⟨fun z => absurd z (by decide), fun _ => ⟨in_of (by omega) (by omega), ?_⟩⟩) (fun z => ⟨fun _ => ?_, fun y => absurd rfl y⟩)
        · rw [e51 h c]
          refine A e u k U t s tr b h _ (by omega) (by omega) hk' hu uf ur c (fun h' c' => ih (k + 1) _ h' (by omega) c' (fun h2 c2 => K h2 ?_))
          have em : (if mayS S u k t then ndS S f (u + 2 ^ k) (t + tkS S k) (s + erS S k s) (tr ++ [wdS S k]) b else b) = (if t + tkS S k ≤ S.2.2.2.2 then ndS S f (u + 2 ^ k) (t + tkS S k) (s + erS S k s) (tr ++ [wdS S k]) b else b) := by
            by_cases q : t + tkS S k ≤ S.2.2.2.2
            · rw [if_pos q, if_pos ⟨uf, q, fr⟩]
            · rw [if_neg q, if_neg (fun y => q y.2.1)]
          unfold loS
          rw [em]
          exact c2
        · refine ih (k + 1) b h (by omega) c (fun h2 c2 => K h2 ?_)
          unfold loS
          rw [if_neg (fun y => z ⟨y.1, y.2.2⟩)]
          exact c2
  exact vc_X5_lengthen c.1 (lo S.2.2.1.length 0 b h (by omega) c K)
theorem len_all (H : HC S bg h0) : ∀ f, LenC G S h0 f
  | 0 => len_0
  | f + 1 => len_s H (app_of H (len_all H f))
end
end
