/-! best: the reference's search -/
section
variable {G : GT} {d : Nat} {h : Hp} {Q : Int32 → Hp → Prop} {QW : Hp → Prop}
/-- the reference amid its search at depth D; X: places tried, T2, T3: SECONDS and what they bring -/
def MB (S : SP) (h0 : Hp) (X : Nat → Nat) (T2 T3 : Nat → Int32) (D : Nat) (b : BB) (h : Hp) : Prop := RF h ∧ (∀ a, a ≠ 94 → a ≠ 99 → ¬ (101 ≤ a ∧ a ≤ 104) → h.1 a = h0.1 a) ∧ (∀ k, ¬ (5 ≤ k ∧ k ≤ 10) → ¬ (17 ≤ k ∧ k ≤ 19) → h.1 94 k = h0.1 94 k) ∧ (h.1 94 17 = b.1 ∧ h.1 94 18 = b.2.1 ∧ h.1 94 19 = nI b.2.2.length ∧ b.2.2.length ≤ 5 ∧ ∀ i, i < b.2.2.length → h.1 104 i = nI (b.2.2.getD i 0)) ∧ (∀ i, i < D → h.1 101 i = nI (X i)) ∧ ∀ i, i ≤ D → h.1 102 i = T2 i ∧ h.1 103 i = T3 i
def HM (S : SP) (j : Nat) (h0 : Hp) : Prop := OKS S ∧ vM h0 = S.1 ∧ (∃ p1, TxM h0 95 S.2.1 p1) ∧ h0.1 94 13 = nI S.2.2.1.length ∧ (∀ i, i < S.2.2.1.length → h0.1 100 i = nI (wdS S i)) ∧ j < 4 ∧ h0.1 95 (14 + 5 * j) = S.2.2.2.1
section
variable {S : SP} {j : Nat} {h0 : Hp} {X : Nat → Nat} {T2 T3 : Nat → Int32} {D : Nat} {b : BB}
theorem MB.mt {h' : Hp} (c : MB S h0 X T2 T3 D b h) (m : MT h h') : MB S h0 X T2 T3 D b h' := by
  obtain ⟨c1, c2, c3, c4, c5, c6⟩ := c
  have f : ∀ a, a ≠ 94 → a ≠ 99 → h'.1 a = h.1 a := fun a z1 z2 => by
    by_cases e : a = 95
    · rw [e, m.2]
    · exact m.1.2.2.1 a z1 e z2
  refine ⟨m.1.1, fun a z1 z2 z3 => by rw [f a z1 z2, c2 a z1 z2 z3], fun k z1 z2 => by rw [m.1.2.2.2.1 k (by omega), c3 k z1 z2], ?_, ?_, ?_⟩
  · rw [m.1.2.2.2.1 17 (by omega), m.1.2.2.2.1 18 (by omega), m.1.2.2.2.1 19 (by omega), f 104 (by omega) (by omega)]
    exact c4
  · rw [f 101 (by omega) (by omega)]; exact c5
  · rw [f 102 (by omega) (by omega), f 103 (by omega) (by omega)]; exact c6
theorem MB.tx {p1 : List Int32} (T : TxM h0 95 S.2.1 p1) (c : MB S h0 X T2 T3 D b h) : TxM h 95 S.2.1 p1 := TxM_eq (fun k _ _ => by rw [c.2.1 95 (by omega) (by omega) (by omega)]) T
theorem nI_prm (D : Nat) (h : D < 1000) : nI (D + 1) + (-1) = nI D := by
  rw [i_eq, ti_add (by rw [ti_nI (by omega), ti_m1]; omega) (by rw [ti_nI (by omega), ti_m1]; omega), ti_nI (by omega), ti_nI (by omega), ti_m1]
  omega
theorem rg_com1 {l2 l6 : Int32} {n : Nat} (hR : RF h) (hn : h.1 94 13 = nI n) (h5 : n ≤ 5) (k : Q 1 h) : ∀ (m i : Nat), i + m = n → Rg_X12_mayCome_68 G d l2 l6 1 (nI i) h Q := by
  intro m
  induction m with
  | zero =>
    intro i hi
    refine vc_X12_mayCome_68 hR ⟨fun _ => ⟨rfl, k⟩, fun z => ?_⟩
    exfalso
    rw [hn, i_le, ti_nI (by omega), ti_nI (by omega)] at z
    omega
  | succ m ih =>
    intro i hi
    refine vc_X12_mayCome_68 hR ⟨fun z => ?_, fun _ => ⟨fun _ => by rw [nI_1]; exact ih (i + 1) (by omega), fun z => absurd z (by decide)⟩⟩
    exfalso
    rw [hn, i_le, ti_nI (by omega), ti_nI (by omega)] at z
    omega
theorem rg_com0 {l6 : Int32} {u : Nat} {bw : Int} (hu : u < 32) (hR : RF h) (hn : h.1 94 13 = nI S.2.2.1.length) (h5 : S.2.2.1.length ≤ 5) (hw : ∀ i, i < S.2.2.1.length → h.1 100 i = nI (wdS S i)) (o : OKS S) (e6 : l6.toInt = bw) : ∀ (m i : Nat), i + m = S.2.2.1.length → ((∃ q, i ≤ q ∧ q < S.2.2.1.length ∧ (wdS S q : Int) = bw ∧ u.testBit q = true) → Q 1 h) → (¬ (∃ q, i ≤ q ∧ q < S.2.2.1.length ∧ (wdS S q : Int) = bw ∧ u.testBit q = true) → Q 0 h) → Rg_X12_mayCome_68 G d (nI u) l6 0 (nI i) h Q := by
  intro m
  induction m with
  | zero =>
    intro i hi k1 k0
    refine vc_X12_mayCome_68 hR ⟨fun _ => ⟨rfl, k0 (fun ⟨q, q1, q2, _⟩ => by omega)⟩, fun z => ?_⟩
    exfalso
    rw [hn, i_le, ti_nI (by omega), ti_nI (by omega)] at z
    omega
  | succ m ih =>
    intro i hi k1 k0
    have ei : (nI i).toInt = (i : Int) := ti_nI (by omega)
    have wl := wd_lt o (k := i) (by omega)
    have ew : (nI (wdS S i)).toInt = (wdS S i : Int) := ti_nI (by omega)
    have nx : ¬ ((wdS S i : Int) = bw ∧ u.testBit i = true) → Rg_X12_mayCome_68 G d (nI u) l6 0 (nI (i + 1)) h Q := fun z => by
      refine ih (i + 1) (by omega) (fun ⟨q, q1, q2⟩ => k1 ⟨q, by omega, q2⟩) (fun y => k0 (fun ⟨q, q1, q2, q3⟩ => ?_))
      by_cases e : q = i
      · subst e; exact z q3
      · exact y ⟨q, by omega, q2, q3⟩
    refine vc_X12_mayCome_68 hR ⟨fun z => ?_, fun _ => ⟨fun z => absurd rfl z, fun _ => ⟨in_of (by omega) (by omega), ?_⟩⟩⟩
    · exfalso
      rw [hn, i_le, ti_nI (by omega), ti_nI (by omega)] at z
      omega
    · rw [cl_of ei, hw i (by omega), nI_1]
      refine ⟨fun z => nx (fun y => z (by rw [i_eq, ew, e6]; exact y.1)), fun z => ⟨fun z2 => nx (fun y => z2 ((u_bit u hu i (by omega)).mpr y.2)), fun z2 => ?_⟩⟩
      rw [i_eq, ew, e6] at z
      exact rg_com1 hR hn h5 (k1 ⟨i, by omega, by omega, z, (u_bit u hu i (by omega)).mp z2⟩) m (i + 1) (by omega)
theorem ev_mayM {k u : Nat} {t : Int32} (H : HM S j h0) (c : MB S h0 X T2 T3 D b h) (hd : 3 ≤ d) (hu : u < 32) (hk : k < S.2.2.1.length) (k1 : mayS S u k t → Q 1 h) (k0 : ¬ mayS S u k t → Q 0 h) : EvI G d mX12_mayCome [.inr (.inr (some 94)), .inl (nI k), .inl (nI u), .inl S.2.2.2.2, .inl t] h Q := by
  obtain ⟨e, rfl⟩ := dpos (show 1 ≤ d by omega)
  obtain ⟨o, ev, _, e13, e100, hj, eH⟩ := H
  have l5 := o.2.1
  have okF := o.1
  have o1 := okF.2.1
  have wl := wd_lt o hk
  have ek : (nI k).toInt = (k : Int) := ti_nI (by omega)
  have hn : h.1 94 13 = nI S.2.2.1.length := by rw [c.2.2.1 13 (by omega) (by omega)]; exact e13
  have h100 : ∀ i, i < S.2.2.1.length → h.1 100 i = nI (wdS S i) := fun i hi => by rw [c.2.1 100 (by omega) (by omega) (by omega)]; exact e100 i hi
  have e95 : ∀ i, h.1 95 i = oI (S.1 i) := fun i => by
    rw [c.2.1 95 (by omega) (by omega) (by omega), ← ev]
    exact (oi_ti _).symm
  have ow := okF.2.2.2.2.2.2.2.2.2 (wdS S k) wl.2
  unfold OKW at ow
  have b3 := ow.2.2.2.2.2.1 wl.1
  refine vc_X12_mayCome c.1 ⟨in_of (by omega) (by omega), fun z => k0 (fun y => ?_), fun z => ?_⟩
  · have := (u_bit u hu k (by omega)).mp z
    have y1 := y.1
    rw [this] at y1
    exact absurd y1 (by decide)
  · have uf : u.testBit k = false := by
      cases e : u.testBit k with
      | false => rfl
      | true => exact absurd ((u_bit u hu k (by omega)).mpr e) z
    rw [cl_of ek, h100 k hk]
    refine ev_its c.1 (by omega) (j := wdS S k) (w := 1) rfl rfl (by omega) (by omega) ?_
    rw [show 30 + 5 * wdS S k + 1 = 31 + 5 * wdS S k by omega, e95]
    refine ⟨fun z2 => ?_, fun z2 => k0 (fun y => z2 y.2.1)⟩
    refine ev_its c.1 (by omega) (j := wdS S k) (w := 3) rfl rfl (by omega) (by omega) ?_
    rw [show 30 + 5 * wdS S k + 3 = 33 + 5 * wdS S k by omega, e95]
    have e3 : (oI (S.1 (33 + 5 * wdS S k))).toInt = S.1 (33 + 5 * wdS S k) := ti_oI (by omega) (by omega)
    refine ⟨fun z3 => rg_com1 c.1 hn l5 (k1 ⟨uf, z2, Or.inl (Or.inl ?_)⟩) S.2.2.1.length 0 (by omega), fun z3 => ?_⟩
    · rw [i_lt, e3] at z3
      exact z3
    · rw [i_lt, e3] at z3
      simp only [Int32.reduceToInt] at z3
      refine ev_its c.1 (by omega) (j := (S.1 (33 + 5 * wdS S k)).toNat) (w := 4) (eq_nI (by omega)) rfl (by omega) (by omega) ?_
      rw [show 30 + 5 * (S.1 (33 + 5 * wdS S k)).toNat + 4 = 34 + 5 * (S.1 (33 + 5 * wdS S k)).toNat by omega, e95]
      have o4 := okF.2.2.2.2.2.2.2.2.2 (S.1 (33 + 5 * wdS S k)).toNat (by omega)
      unfold OKW at o4
      have e4 : (oI (S.1 (34 + 5 * (S.1 (33 + 5 * wdS S k)).toNat))).toInt = S.1 (34 + 5 * (S.1 (33 + 5 * wdS S k)).toNat) := ti_oI (by omega) (by omega)
      refine ⟨fun z4 => ?_, fun z4 => rg_com1 c.1 hn l5 (k1 ⟨uf, z2, Or.inl (Or.inr ?_)⟩) S.2.2.1.length 0 (by omega)⟩
      · rw [i_eq, e4] at z4
        simp only [Int32.reduceToInt] at z4
        refine rg_com0 hu c.1 hn l5 h100 o e3 S.2.2.1.length 0 (by omega) (fun ⟨q, _, q2, q3⟩ => k1 ⟨uf, z2, Or.inr (inS_iff.mpr ⟨q, q2, q3⟩)⟩) (fun y => k0 (fun q => ?_))
        rcases q.2.2 with (r | r) | r
        · omega
        · exact z4 r
        · obtain ⟨i, i1, i2⟩ := inS_iff.mp r
          exact y ⟨i, by omega, i1, i2⟩
      · rw [i_eq, e4] at z4
        exact z4
/-- the best row is kept -/
theorem rg_kept {l2 l4 l5 : Int32} {D1 : Nat} (hD : D1 ≤ 5) (hX : ∀ i, i < D1 → X i < S.2.2.1.length) (h5 : S.2.2.1.length ≤ 5) : ∀ (m i : Nat) (h : Hp), i + m = D1 → RF h → (∀ q, q < D1 → h.1 101 q = nI (X q)) → (∀ q, q < S.2.2.1.length → h.1 100 q = nI (wdS S q)) → (∀ h', RF h' → (∀ a, a ≠ 104 → h'.1 a = h.1 a) → (∀ q, q < D1 → i ≤ q → h'.1 104 q = nI (wdS S (X q))) → (∀ q, q < i → h'.1 104 q = h.1 104 q) → Rg_X12_findBest_109 G d l2 l4 l5 (nI D1) h' QW) → Rg_X12_findBest_373 G d l2 l4 l5 (nI D1) (nI i) h QW := by
  intro m
  induction m with
  | zero =>
    intro i h hi hR h1 h2 K
    refine vc_X12_findBest_373 hR ⟨fun _ => K h hR (fun _ _ => rfl) (fun q _ _ => by omega) (fun _ _ => rfl), fun z => ?_⟩
    exfalso
    rw [i_le, ti_nI (by omega), ti_nI (by omega)] at z
    omega
  | succ m ih =>
    intro i h hi hR h1 h2 K
    have ei : (nI i).toInt = (i : Int) := ti_nI (by omega)
    have x := hX i (by omega)
    have ex : (nI (X i)).toInt = (X i : Int) := ti_nI (by omega)
    refine vc_X12_findBest_373 hR ⟨fun z => ?_, fun _ => ⟨in_of (by omega) (by omega), ?_⟩⟩
    · exfalso
      rw [i_le, ti_nI (by omega), ti_nI (by omega)] at z
      omega
    · rw [cl_of ei, h1 i (by omega), cl_of ex, h2 _ x, nI_1]
      refine ⟨in_of (by omega) (by omega), in_of (by omega) (by omega), ih (i + 1) _ (by omega) hR (fun q hq => by rw [sI_ne (by omega)]; exact h1 q hq) (fun q hq => by rw [sI_ne (by omega)]; exact h2 q hq) (fun h' r1 r2 r3 r4 => K h' r1 (fun a ha => ?_) (fun q hq hiq => ?_) (fun q hq => ?_))⟩
      · rw [r2 a ha]; funext t; rw [sI_ne (by omega)]
      · by_cases e : q = i
        · subst e; rw [r4 q (by omega), sI_self]
        · exact r3 q hq (by omega)
      · rw [r4 q (by omega), sI_ne (by omega)]
def goS (S : SP) : Nat → Nat → Int32 → Int32 → List Nat → Nat → Nat → BB → BB
  | 0, _, _, _, _, _, _, b => b
  | f + 1, u, t, s, tr, m, k, b => loS S (ndS S f) u t s tr m k b
theorem nd_go (S : SP) (f u : Nat) (t s : Int32) (row : List Nat) (b : BB) : ndS S f u t s row b = goS S f u t s row S.2.2.1.length 0 (betS b t s row) := by
  cases f with
  | zero => rfl
  | succ f => rfl
/-- from a depth on -/
def SeaM (G : GT) (S : SP) (h0 : Hp) (j f : Nat) : Prop := ∀ (d u D m k : Nat) (X : Nat → Nat) (T2 T3 : Nat → Int32) (tr : List Nat) (b : BB) (h : Hp) (QW : Hp → Prop), 75 ≤ d → D + f = 5 → k + m = S.2.2.1.length → u < 32 → pc u = D → MB S h0 X T2 T3 D b h → tr.length = D → (∀ i, i < D → X i < S.2.2.1.length ∧ tr.getD i 0 = wdS S (X i)) → (∀ h', MB S h0 X T2 T3 D (goS S f u (T2 D) (T3 D) tr m k b) h' → Rg_X12_findBest_125 G d (nI j) S.2.2.2.2 (nI u) (nI D) (nI S.2.2.1.length) h' QW) → Rg_X12_findBest_125 G d (nI j) S.2.2.2.2 (nI u) (nI D) (nI k) h QW
theorem sea_0 (H : HM S j h0) : SeaM G S h0 j 0 := by
  intro d u D m
  have l5 := H.1.2.1
  induction m with
  | zero =>
    intro k X T2 T3 tr b h QW hd hf hk hu hp c ht hX K
    rw [show k = S.2.2.1.length by omega]
    exact K h c
  | succ m ih =>
    intro k X T2 T3 tr b h QW hd hf hk hu hp c ht hX K
    have eD : (nI D).toInt = (D : Int) := ti_nI (by omega)
    have ek : (nI k).toInt = (k : Int) := ti_nI (by omega)
    refine vc_X12_findBest_125 c.1 ⟨fun z => ?_, fun _ => ⟨in_of (by omega) (by omega), ?_⟩⟩
    · exfalso
      rw [c.2.2.1 13 (by omega) (by omega), H.2.2.2.1, i_le, ti_nI (by omega), ti_nI (by omega)] at z
      omega
    · refine ev_mayM H c (by omega) hu (by omega) (fun y => ?_) (fun y => ⟨fun z => absurd rfl z, fun _ => ?_⟩)
      · have := u_full u hu (by omega) k (by omega)
        have y1 := y.1
        rw [this] at y1
        exact absurd y1 (by decide)
      · rw [nI_1]
        exact ih (k + 1) X T2 T3 tr b h QW hd hf (by omega) hu hp c ht hX K
theorem sea_s (H : HM S j h0) {f : Nat} (A : SeaM G S h0 j f) : SeaM G S h0 j (f + 1) := by
  intro d u D m
  have l5 := H.1.2.1
  obtain ⟨o, ev, ⟨p1, T⟩, e13, e100, hj, eH⟩ := id H
  have okF := o.1
  induction m with
  | zero =>
    intro k X T2 T3 tr b h QW hd hf hk hu hp c ht hX K
    rw [show k = S.2.2.1.length by omega]
    exact K h c
  | succ m ih =>
    intro k X T2 T3 tr b h QW hd hf hk hu hp c ht hX K
    have eD : (nI D).toInt = (D : Int) := ti_nI (by omega)
    have eD1 : (nI (D + 1)).toInt = ((D + 1 : Nat) : Int) := ti_nI (by omega)
    have ek : (nI k).toInt = (k : Int) := ti_nI (by omega)
    have hk' : k < S.2.2.1.length := by omega
    have wl := wd_lt o hk'
    have hn : h.1 94 13 = nI S.2.2.1.length := by rw [c.2.2.1 13 (by omega) (by omega)]; exact e13
    have h100 : h.1 100 k = nI (wdS S k) := by rw [c.2.1 100 (by omega) (by omega) (by omega)]; exact e100 k hk'
    have e95 : ∀ (h : Hp) i, h.1 95 = h0.1 95 → h.1 95 i = oI (S.1 i) := fun h i e => by
      rw [e, ← ev]
      exact (oi_ti _).symm
    have c95 : h.1 95 = h0.1 95 := c.2.1 95 (by omega) (by omega) (by omega)
    refine vc_X12_findBest_125 c.1 ⟨fun z => ?_, fun _ => ⟨in_of (by omega) (by omega), ?_⟩⟩
    · exfalso
      rw [hn, i_le, ti_nI (by omega), ti_nI (by omega)] at z
      omega
    · rw [cl_of eD, (c.2.2.2.2.2 D (by omega)).1]
      refine ev_mayM H c (by omega) hu hk' (fun y => ⟨fun _ => ⟨in_of (by omega) (by omega), fun _ => ⟨in_of (by omega) (by omega), in_of (by omega) (by omega), ?_⟩, fun z => ?_⟩, fun z => absurd z (by decide)⟩) (fun y => ⟨fun z => absurd rfl z, fun _ => ?_⟩)
      · -- visited
        rw [cl_of ek, h100, nI_1, cl_of eD1, (c.2.2.2.2.2 D (by omega)).1]
        refine ev_its (h := sI h 101 D (nI k)) c.1 (by omega) (j := wdS S k) (w := 1) rfl rfl (by omega) (by omega) ?_
        rw [show 30 + 5 * wdS S k + 1 = 31 + 5 * wdS S k by omega, sI_ne (by omega), e95 h _ c95]
        refine ⟨in_of (by omega) (by omega), in_of (by omega) (by omega), in_of (by omega) (by omega), ?_⟩
        refine ev_of c.1 (by omega) (j := j) (w := 4) rfl rfl (by omega) (by omega) ?_
        have v1 : (sI (sI h 101 D (nI k)) 102 (D + 1) (T2 D + tkS S k)).1 95 (14 + 5 * j) = S.2.2.2.1 := by rw [sI_ne (by omega), sI_ne (by omega), c95, eH]
        have v2 : (sI (sI h 101 D (nI k)) 102 (D + 1) (T2 D + tkS S k)).1 103 D = T3 D := by rw [sI_ne (by omega), sI_ne (by omega), (c.2.2.2.2.2 D (by omega)).2]
        have v3 : (sI h 101 D (nI k)).1 100 k = nI (wdS S k) := by rw [sI_ne (by omega), h100]
        rw [show 10 + 5 * j + 4 = 14 + 5 * j by omega, show oI (S.1 (31 + 5 * wdS S k)) = tkS S k from rfl, v1, v2, v3]
        refine ⟨in_of (by omega) (by omega), ?_⟩
        have c1 : MB S h0 (fun i => if i = D then k else X i) (fun i => if i = D + 1 then T2 D + tkS S k else T2 i) T3 D b (sI (sI h 101 D (nI k)) 102 (D + 1) (T2 D + tkS S k)) := by
          obtain ⟨c1, c2, c3, c4, c5, c6⟩ := c
          refine ⟨c1, fun a z1 z2 z3 => by funext t; rw [sI_ne (by omega), sI_ne (by omega), c2 a z1 z2 z3], fun t z1 z2 => by rw [sI_ne (by omega), sI_ne (by omega), c3 t z1 z2], ?_, fun i hi => ?_, fun i hi => ?_⟩
          · refine ⟨by rw [sI_ne (by omega), sI_ne (by omega)]; exact c4.1, by rw [sI_ne (by omega), sI_ne (by omega)]; exact c4.2.1, by rw [sI_ne (by omega), sI_ne (by omega)]; exact c4.2.2.1, c4.2.2.2.1, fun i hi => by rw [sI_ne (by omega), sI_ne (by omega)]; exact c4.2.2.2.2 i hi⟩
          · rw [sI_ne (by omega), sI_ne (by omega), c5 i hi]
            show _ = nI (if _ then _ else _)
            rw [if_neg (by omega)]
          · rw [sI_ne (by omega), sI_ne (by omega), sI_ne (by omega), sI_ne (by omega)]
            show _ = (if _ then _ else _) ∧ _
            rw [if_neg (by omega)]
            exact c6 i hi
        have d1 : (sI (sI h 101 D (nI k)) 102 (D + 1) (T2 D + tkS S k)).1 101 D = nI k ∧ (sI (sI h 101 D (nI k)) 102 (D + 1) (T2 D + tkS S k)).1 102 (D + 1) = T2 D + tkS S k := ⟨by rw [sI_ne (by omega), sI_self], sI_self _ _ _ _⟩
        have d3 : (sI h 101 D (nI k)).1 103 D = T3 D := by rw [sI_ne (by omega)]; exact (c.2.2.2.2.2 D (by omega)).2
        revert c1 d1
        generalize (sI (sI h 101 D (nI k)) 102 (D + 1) (T2 D + tkS S k)) = h1
        intro c1 d1
        refine ev_earOf c1.1 (by omega) (c1.tx T) (w := wdS S k) rfl (by omega) (fun h2 x m2 ex => ?_)
        have c2 := c1.mt m2
        have c951 : h1.1 95 = h0.1 95 := c1.2.1 95 (by omega) (by omega) (by omega)
        rw [e95 h1 _ c951, e95 h1 _ c951] at ex
        have ex' : x = erS S k (T3 D) := ex
        have g2 : h2.1 101 = h1.1 101 ∧ h2.1 102 = h1.1 102 := ⟨m2.1.2.2.1 101 (by omega) (by omega) (by omega), m2.1.2.2.1 102 (by omega) (by omega) (by omega)⟩
        rw [d3, ex', c2.2.2.2.1.1]
        have ub := y.1
        have us := u_set u hu k (by omega) ub
        rw [us.1]
        have ln : (tr ++ [wdS S k]).length = D + 1 := by rw [List.length_append, ht]; rfl
        have row : ∀ i, i < D + 1 → (if i = D then k else X i) < S.2.2.1.length ∧ (tr ++ [wdS S k]).getD i 0 = wdS S (if i = D then k else X i) := fun i hi => by
          rw [getD_appN, ht]
          by_cases e : i = D
          · rw [if_pos e, if_neg (by omega), if_pos e]
            exact ⟨hk', rfl⟩
          · rw [if_neg e, if_pos (by omega)]
            exact hX i (by omega)
        -- what goes on from the deeper place
        have deep : ∀ (b1 : BB) (h3 : Hp), b1 = betS b (T2 D + tkS S k) (T3 D + erS S k (T3 D)) (tr ++ [wdS S k]) → MB S h0 (fun i => if i = D then k else X i) (fun i => if i = D + 1 then T2 D + tkS S k else T2 i) (fun i => if i = D + 1 then T3 D + erS S k (T3 D) else T3 i) (D + 1) b1 h3 → h3.1 101 (D + 1) = -1 → Rg_X12_findBest_109 G d (nI j) S.2.2.2.2 (nI (u + 2 ^ k)) (nI (D + 1)) h3 QW := fun b1 h3 eb c3 e1 => by
          refine vc_X12_findBest_109 c3.1 ⟨fun z => ?_, fun _ => ⟨in_of (by omega) (by omega), ?_⟩⟩
          · exfalso
            rw [i_lt, eD1] at z
            simp only [Int32.reduceToInt] at z
            omega
          · rw [cl_of eD1, e1, show (-1 : Int32) + 1 = nI 0 by decide]
            refine A d (u + 2 ^ k) (D + 1) S.2.2.1.length 0 _ _ _ (tr ++ [wdS S k]) b1 h3 QW hd (by omega) (by omega) us.2.1 (by omega) c3 ln row (fun h4 c4 => ?_)
            refine vc_X12_findBest_125 c4.1 ⟨fun _ => ⟨in_of (by omega) (by omega), fun z => ?_, fun _ => ⟨fun _ => ?_, fun z => ?_⟩⟩, fun z => ?_⟩
            · exfalso
              rw [c4.2.2.1 13 (by omega) (by omega), e13, i_lt] at z
              omega
            · rw [nI_prm D (by omega), cl_of eD, cl_of eD1, sI_ne (by omega), c4.2.2.2.2.1 D (by omega)]
              show _ ∧ Rg_X12_findBest_109 G d (nI j) S.2.2.2.2 (nI (u + 2 ^ k) &&& ((1 <<< (nI (if D = D then k else X D) &&& 31)) ^^^ (-1))) (nI D) (sI h4 101 (D + 1) (nI S.2.2.1.length)) QW
              rw [if_pos rfl, u_off u hu k (by omega) ub]
              refine ⟨in_of (by omega) (by omega), vc_X12_findBest_109 (h := sI h4 101 (D + 1) (nI S.2.2.1.length)) c4.1 ⟨fun z => ?_, fun _ => ⟨in_of (by omega) (by omega), ?_⟩⟩⟩
              · exfalso
                rw [i_lt, eD] at z
                simp only [Int32.reduceToInt] at z
                omega
              · have e4 : h4.1 101 D = nI k := by
                  rw [c4.2.2.2.2.1 D (by omega)]
                  show nI (if _ then _ else _) = _
                  rw [if_pos rfl]
                rw [cl_of eD, sI_ne (by omega), e4, nI_1]
                -- back at D
                obtain ⟨q1, q2, q3, q4, q5, q6⟩ := c4
                have c5 : MB S h0 X T2 T3 D (ndS S f (u + 2 ^ k) (T2 D + tkS S k) (T3 D + erS S k (T3 D)) (tr ++ [wdS S k]) b) (sI h4 101 (D + 1) (nI S.2.2.1.length)) := by
                  have t2e : (if D + 1 = D + 1 then T2 D + tkS S k else T2 (D + 1)) = T2 D + tkS S k := if_pos rfl
                  have t3e : (if D + 1 = D + 1 then T3 D + erS S k (T3 D) else T3 (D + 1)) = T3 D + erS S k (T3 D) := if_pos rfl
                  rw [t2e, t3e, eb, ← nd_go] at q4
                  refine ⟨q1, fun a z1 z2 z3 => by funext t; rw [sI_ne (by omega), q2 a z1 z2 z3], fun t z1 z2 => by rw [sI_ne (by omega), q3 t z1 z2], ?_, fun i hi => ?_, fun i hi => ?_⟩
                  · refine ⟨by rw [sI_ne (by omega)]; exact q4.1, by rw [sI_ne (by omega)]; exact q4.2.1, by rw [sI_ne (by omega)]; exact q4.2.2.1, q4.2.2.2.1, fun i hi => by rw [sI_ne (by omega)]; exact q4.2.2.2.2 i hi⟩
                  · rw [sI_ne (by omega), q5 i (by omega)]
                    show nI (if _ then _ else _) = _
                    rw [if_neg (by omega)]
                  · rw [sI_ne (by omega), sI_ne (by omega), (q6 i (by omega)).1, (q6 i (by omega)).2]
                    show (if _ then _ else _) = _ ∧ (if _ then _ else _) = _
                    rw [if_neg (by omega), if_neg (by omega)]
                    exact ⟨rfl, rfl⟩
                refine ih (k + 1) X T2 T3 tr _ _ QW hd hf (by omega) hu hp c5 ht hX (fun h' c' => K h' ?_)
                show MB S h0 X T2 T3 D (loS S (ndS S f) u (T2 D) (T3 D) tr (m + 1) k b) h'
                unfold loS
                rw [if_pos y]
                exact c'
            · exfalso
              apply z
              rw [nI_prm D (by omega), i_le, eD]
              simp only [Int32.reduceToInt]
              omega
            · exfalso
              apply z
              rw [c4.2.2.1 13 (by omega) (by omega), e13, i_le]
              omega
        have base : ∀ v, MB S h0 (fun i => if i = D then k else X i) (fun i => if i = D + 1 then T2 D + tkS S k else T2 i) (fun i => if i = D + 1 then v else T3 i) (D + 1) b (sI (sI h2 103 (D + 1) v) 101 (D + 1) (-1)) := fun v => by
          obtain ⟨q1, q2, q3, q4, q5, q6⟩ := c2
          refine ⟨q1, fun a z1 z2 z3 => by funext t; rw [sI_ne (by omega), sI_ne (by omega), q2 a z1 z2 z3], fun t z1 z2 => by rw [sI_ne (by omega), sI_ne (by omega), q3 t z1 z2], ?_, fun i hi => ?_, fun i hi => ?_⟩
          · refine ⟨by rw [sI_ne (by omega), sI_ne (by omega)]; exact q4.1, by rw [sI_ne (by omega), sI_ne (by omega)]; exact q4.2.1, by rw [sI_ne (by omega), sI_ne (by omega)]; exact q4.2.2.1, q4.2.2.2.1, fun i hi => by rw [sI_ne (by omega), sI_ne (by omega)]; exact q4.2.2.2.2 i hi⟩
          · rw [sI_ne (by omega), sI_ne (by omega)]
            by_cases e : i = D
            · subst e
              rw [g2.1, d1.1]
              show _ = nI (if _ then _ else _)
              rw [if_pos rfl]
            · exact q5 i (by omega)
          · rw [sI_ne (by omega), sI_ne (by omega), sI_ne (by omega)]
            by_cases e : i = D + 1
            · subst e
              rw [sI_self, g2.2, d1.2]
              show _ = (if _ then _ else _) ∧ _ = (if _ then _ else _)
              rw [if_pos rfl, if_pos rfl]
              exact ⟨rfl, rfl⟩
            · rw [sI_ne (by omega), (q6 i (by omega)).1, (q6 i (by omega)).2]
              show _ ∧ _ = (if _ then _ else _)
              rw [if_neg (show ¬ i = D + 1 from e)]
              exact ⟨rfl, rfl⟩
        have i7 : vp_in (nI (D + 1)) 7 := in_of (by omega) (by omega)
        have e2D : h2.1 102 (D + 1) = T2 D + tkS S k := by rw [g2.2, d1.2]
        have better : (b.1 < T3 D + erS S k (T3 D) ∨ (T3 D + erS S k (T3 D) = b.1 ∧ T2 D + tkS S k < b.2.1)) → ∀ h19 : Hp, h19 = (sI (sI (sI h2 103 (D + 1) (T3 D + erS S k (T3 D))) 101 (D + 1) (-1)) 94 17 (T3 D + erS S k (T3 D))) → vp_in (nI (D + 1)) 7 ∧ Rg_X12_findBest_373 G d (nI j) S.2.2.2.2 (nI (u + 2 ^ k)) (nI (D + 1)) 0 (sI (sI h19 94 18 (h19.1 102 (D + 1))) 94 19 (nI (D + 1))) QW := fun hb h19 e19 => by
          refine ⟨i7, ?_⟩
          have bs := base (T3 D + erS S k (T3 D))
          subst e19
          obtain ⟨q1, q2, q3, q4, q5, q6⟩ := bs
          refine rg_kept (S := S) (X := fun i => if i = D then k else X i) (by omega) (fun i hi => (row i hi).1) l5 (D + 1) 0 _ (by omega) q1 (fun q hq => by rw [sI_ne (by omega), sI_ne (by omega), sI_ne (by omega)]; exact q5 q hq) (fun q hq => by rw [sI_ne (by omega), sI_ne (by omega), sI_ne (by omega), q2 100 (by omega) (by omega) (by omega)]; exact e100 q hq) (fun h3 r1 r2 r3 _ => ?_)
          refine deep (T3 D + erS S k (T3 D), T2 D + tkS S k, tr ++ [wdS S k]) h3 (by unfold betS; rw [if_pos hb]) ⟨r1, fun a z1 z2 z3 => ?_, fun t z1 z2 => ?_, ⟨?_, ?_, ?_, by rw [ln]; omega, fun i hi => ?_⟩, fun i hi => ?_, fun i hi => ?_⟩ ?_
          · rw [r2 a (by omega)]
            funext t
            rw [sI_ne (by omega), sI_ne (by omega), sI_ne (by omega), q2 a z1 z2 z3]
          · rw [r2 94 (by omega), sI_ne (by omega), sI_ne (by omega), sI_ne (by omega), q3 t z1 z2]
          · rw [r2 94 (by omega), sI_ne (by omega), sI_ne (by omega), sI_self]
          · rw [r2 94 (by omega), sI_ne (by omega), sI_self, sI_ne (by omega), sI_ne (by omega), sI_ne (by omega), e2D]
          · rw [r2 94 (by omega), sI_self, ln]
          · have hi' : i < D + 1 := by rw [← ln]; exact hi
            rw [r3 i hi' (by omega), (row i hi').2]
          · rw [r2 101 (by omega), sI_ne (by omega), sI_ne (by omega), sI_ne (by omega)]
            exact q5 i hi
          · rw [r2 102 (by omega), r2 103 (by omega), sI_ne (by omega), sI_ne (by omega), sI_ne (by omega), sI_ne (by omega), sI_ne (by omega), sI_ne (by omega)]
            exact q6 i hi
          · rw [r2 101 (by omega), sI_ne (by omega), sI_ne (by omega), sI_ne (by omega), sI_self]
        have worse : ¬ (b.1 < T3 D + erS S k (T3 D) ∨ (T3 D + erS S k (T3 D) = b.1 ∧ T2 D + tkS S k < b.2.1)) → Rg_X12_findBest_109 G d (nI j) S.2.2.2.2 (nI (u + 2 ^ k)) (nI (D + 1)) (sI (sI h2 103 (D + 1) (T3 D + erS S k (T3 D))) 101 (D + 1) (-1)) QW := fun hb =>
          deep b _ (by unfold betS; rw [if_neg hb]) (base _) (sI_self _ _ _ _)
        rw [sI_self, c2.2.2.2.1.2.1, e2D]
        refine ⟨i7, i7, i7, fun z => ⟨i7, better (Or.inl z)⟩, fun z => ⟨i7, fun z2 => worse (fun q => q.elim z (fun q => z2 q.1)), fun z2 => ⟨i7, fun z3 => worse (fun q => q.elim z (fun q => ?_)), fun z3 => ⟨i7, better (Or.inr ⟨z2, ?_⟩)⟩⟩⟩⟩
        · rw [i_le] at z3
          have := q.2
          rw [i_lt] at this
          omega
        · rw [i_le] at z3
          rw [i_lt]
          omega
      · exfalso
        apply z
        rw [hn, i_lt, ek, ti_nI (by omega)]
        omega
      · rw [nI_1]
        refine ih (k + 1) X T2 T3 tr b h QW hd hf (by omega) hu hp c ht hX (fun h' c' => K h' ?_)
        show MB S h0 X T2 T3 D (loS S (ndS S f) u (T2 D) (T3 D) tr (m + 1) k b) h'
        unfold loS
        rw [if_neg y]
        exact c'
theorem sea_all (H : HM S j h0) : ∀ f, SeaM G S h0 j f
  | 0 => sea_0 H
  | f + 1 => sea_s H (sea_all H f)
end
end
