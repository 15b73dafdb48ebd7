/-! share, leaves -/
section
variable {G : GT} {d : Nat} {h : Hp} {Q : Int32 → Hp → Prop} {QW : Hp → Prop} {QL' : Int64 → Hp → Prop}
theorem W2.z {bs : Nat → Int32} {N p : Nat} {h0 : Hp} (w : W2 bs N h0 p h) : MZ h0 h := ⟨w.1.1, fun a z1 z2 => w.1.2.1 a (fun z => z1 (by unfold scr; omega)) (fun z => z1 (by unfold scr; omega)), by rw [w.1.2.1 94 (by omega) (by omega)], by rw [w.1.2.1 94 (by omega) (by omega)]⟩
theorem V2.z {bs : Nat → Int32} {N p : Nat} {h0 : Hp} (w : V2 bs N h0 p h) : MZ h0 h := ⟨w.1.1, fun a z1 z2 => w.1.2.1 a z2 (fun z => z1 (by unfold scr; omega)), w.1.2.2.1 3 (by omega), w.1.2.2.1 32 (by omega)⟩
theorem fact_in : ∀ N, N < 5 → 1 ≤ (fact N).toInt := by decide
def bsF (F : Nat → Int) (p0 : List Int32) : Nat → Int32 := fun v => (bestF F p0 (nI v)).1
def shF (F : Nat → Int) (p0 : List Int32) (p : Nat) : Int32 := gainM (bsF F p0) (F 0).toNat p (2 ^ (F 0).toNat) 0 0
abbrev shOk (N a1 a2 : Int) : Prop := (0 ≤ a1 ∧ a1 < N) ∧ (0 ≤ a2 ∧ a2 ≤ 1)
theorem M_share {F : Nat → Int} {a1 a2 : Int32} {p0 p1 : List Int32} (eF : vM h = F) (hR : RF h) (hd : 85 ≤ d) (ok : OKF 99999 F) (T : TxM h 95 p0 p1) (k1 : ¬ shOk (F 0) a1.toInt a2.toInt → QL' (Int32.toInt64 (er 1)) (sI h 98 1 (h.1 98 1 + 1)))
    (k : ∀ (j : Nat) (h' : Hp) (g : Int64), a1.toInt = j → shOk (F 0) a1.toInt a2.toInt → MZ h h' → g.toInt = Nat.gcd (absN (Int32.toInt64 (shF F p0 j))) (Int32.toInt64 (fact (F 0).toNat)).toInt.toNat → QL' ((if a2 = 0 then Int32.toInt64 (shF F p0 j) else Int32.toInt64 (fact (F 0).toNat)) / g) h') : EvL G d mX12_share [.inr (.inr (some 94)), .inl a1, .inl a2] h QL' := by
  obtain ⟨e, rfl⟩ := dpos (show 1 ≤ d by omega)
  subst eF
  have o0 := ok.1
  refine vc_X12_share hR (ev_isParty hR (by omega) (by omega) (br2 (fun c => ev_in32 hR (by omega) (br2' (fun c2 => ?_) (fun c2 => ev_finds hR (by omega) (n := 1) rfl (by omega) (k1 (fun z => c2 z.2))))) (fun c => ev_finds hR (by omega) (n := 1) rfl (by omega) (k1 (fun z => c z.1)))))
  have c3 : 0 ≤ a2.toInt ∧ a2.toInt ≤ 1 := c2
  obtain ⟨j, ej⟩ : ∃ j : Nat, a1.toInt = j := ⟨a1.toInt.toNat, by omega⟩
  have inn : vp_in a1 4 := in_of (by omega) (by omega)
  refine ev_findShares (N := (vM h 0).toNat) hR (by omega) (by omega) (by omega) ok rfl T (fun h' w => ?_)
  have fp := fact_in (vM h 0).toNat (by omega)
  have e1 : h'.1 106 j = shF (vM h) p0 j := w.2 j (by omega)
  rw [cl_of ej, e1, w.1.2.2.2.1]
  refine ⟨inn, ev_commonM w.1.1 (by omega) (by rw [l_of_i]; have := i_lo (shF (vM h) p0 j); omega) (by rw [l_of_i]; omega) (fun g eg => ?_)⟩
  have K := k j h' g ej ⟨c, c3⟩ w.z eg
  have gp : 0 < Nat.gcd (absN (Int32.toInt64 (shF (vM h) p0 j))) (Int32.toInt64 (fact (vM h 0).toNat)).toInt.toNat := Nat.gcd_pos_of_pos_right _ (by rw [l_of_i]; omega)
  have g1 : ¬ g = 0 := fun z => by rw [z] at eg; have e0 : (0 : Int64).toInt = 0 := rfl; omega
  refine ⟨fun z => ⟨g1, ?_⟩, fun z => ⟨inn, g1, ?_⟩⟩
  · rw [if_neg z] at K
    rw [w.1.2.2.2.1]
    exact K
  · rw [if_pos z] at K
    rw [e1]
    exact K
theorem step_share {a1 a2 : Int32} (I : Inv h) (hd : 100 ≤ d) : EvL G d mX11_share [.inr (.inr (some 0)), .inl a1, .inl a2] h (fun x h1 => EvL G d mX12_share [.inr (.inr (some 94)), .inl a1, .inl a2] h1 (fun y h2 => x = y ∧ Inv h2)) := by
  have hd' := hd
  have hR := I.1
  have ok := I.ok
  have n0 := I.n
  obtain ⟨p0, p1, T, T0, T1⟩ := I.tx
  have kx : ∀ k v, TxM (sI h 93 k v) 95 p0 p1 := fun k v => TxM_eq (fun j _ _ => by rw [sI_ne (by omega)]) T
  obtain ⟨e, rfl⟩ := dpos (show 1 ≤ d by omega)
  have bad : ¬ shOk (vM h 0) a1.toInt a2.toInt → EvI G e mX11_refuse [.inr (.inr (some 0)), .inl 1] h (fun x5 h4 => EvL G (e + 1) mX12_share [.inr (.inr (some 94)), .inl a1, .inl a2] h4 (fun y h2 => Int32.toInt64 x5 = y ∧ Inv h2)) := fun z =>
    ev_refuse hR (by omega) (n := 1) rfl (by omega) (M_share (vM_lo (by omega)) (RF_sI hR) (by omega) ok (kx _ _) (fun _ => ⟨rfl, Inv_err I rfl⟩) (fun j h' g _ y _ _ => absurd y z))
  refine vc_X11_share hR (ev_hasParty hR (by omega) (by omega) (br2 (fun c => ev_within hR (by omega) (br2' (fun c2 => ?_) (fun c2 => bad (fun z => c2 z.2)))) (fun c => bad (fun z => c (by rw [n0.1]; exact z.1)))))
  have c3 : 0 ≤ a2.toInt ∧ a2.toInt ≤ 1 := c2
  obtain ⟨j, ej⟩ : ∃ j : Nat, a1.toInt = j := ⟨a1.toInt.toNat, by omega⟩
  refine ev_weigh (N := (vM h 0).toNat) (bg := vM h) (F := vM h) hR (by omega) (by omega) (by omega) ok I.cf T0 (fun h1 w => ⟨in_of (by omega) (by omega), ?_⟩)
  have mz := w.z
  have fp := fact_in (vM h 0).toNat (by omega)
  have e1 : h1.1 54 j = shF (vM h) p0 j := by
    rw [w.2.2 j (by omega), gain_eq _ (by omega) (by omega)]
    rfl
  rw [cl_of ej, e1, w.2.1]
  refine ev_partOf w.1.1 (by omega) (by rw [l_of_i]; have := i_lo (shF (vM h) p0 j); omega) (by rw [l_of_i]; omega) (fun g eg => ?_)
  refine M_share mz.v mz.1 (by omega) ok (mz.tx T) (fun z => absurd ⟨⟨by omega, by omega⟩, c3⟩ z) (fun j' h2 g' ej' _ m2 eg' => ?_)
  have : j' = j := by omega
  subst this
  have : g' = g := by rw [l_eq, eg, eg']
  subst this
  exact ⟨rfl, m2.inv (mz.inv I)⟩
/-- the shares of a set -/
def smS (gn : Nat → Int32) (u : Nat) : Nat → Nat → Int32 → Int32
  | 0, _, l => l
  | m + 1, p, l => smS gn u m (p + 1) (if u.testBit p = true then l + gn p else l)
theorem smS_off {gn : Nat → Int32} {u : Nat} : ∀ (b p : Nat) (l : Int32), (∀ q, p ≤ q → q < p + b → u.testBit q = false) → smS gn u b p l = l
  | 0, _, _, _ => rfl
  | b + 1, p, l, g => by
    unfold smS
    rw [if_neg (by rw [g p (by omega) (by omega)]; decide)]
    exact smS_off b (p + 1) l (fun q h1 h2 => g q (by omega) (by omega))
theorem smS_ext {gn : Nat → Int32} {u b : Nat} : ∀ (a p : Nat) (l : Int32), smS gn u (a + b) p l = smS gn u b (p + a) (smS gn u a p l)
  | 0, p, l => by
    rw [Nat.zero_add]
    rfl
  | a + 1, p, l => by
    rw [show a + 1 + b = (a + b) + 1 by omega]
    unfold smS
    rw [smS_ext a (p + 1), show p + 1 + a = p + (a + 1) by omega]
    cases b <;> rfl
/-- who would leave -/
def lvS (bs gn : Nat → Int32) (N : Nat) : Nat → Nat → Nat
  | 0, _ => 0
  | m + 1, u => if bs u * fact N ≤ smS gn u N 0 0 then lvS bs gn N m (u + 1) else u
theorem p_bit1 : ∀ u, u < 16 → ∀ p, p < 4 → ((nI u >>> (nI p &&& 31)) &&& 1) = if u.testBit p = true then 1 else 0 := by decide
theorem rg_sumC {gn : Nat → Int32} {N u : Nat} {L : Int32} (hR : RF h) (hN : N < 5) (hu : u < 2 ^ N) (g54 : ∀ q, q < N → h.1 54 q = gn q) (k : (h.1 55 u * h.1 53 1 ≤ L → Rg_X3_leastLeaving_2 G d (nI (u + 1)) h Q) ∧ (¬ h.1 55 u * h.1 53 1 ≤ L → Q (nI u) h)) : ∀ (m p : Nat) (l : Int32), p + m = 4 → smS gn u m p l = L → Rg_X3_leastLeaving_23 G d (nI u) l (nI p) h Q := by
  have p16 := (p_two N hN).2
  have eu : (nI u).toInt = (u : Int) := ti_nI (by omega)
  intro m
  induction m with
  | zero =>
    intro p l hp he
    have e : l = L := he
    subst e
    refine vc_X3_leastLeaving_23 hR ⟨fun _ => ⟨in_of (by omega) (by omega), ?_⟩, fun z => ?_⟩
    · rw [cl_of eu, nI_1]
      exact k
    · exfalso
      rw [i_le, ti_nI (by omega)] at z
      simp only [Int32.reduceToInt] at z
      omega
  | succ m ih =>
    intro p l hp he
    have ep : (nI p).toInt = (p : Int) := ti_nI (by omega)
    refine vc_X3_leastLeaving_23 hR ⟨fun z => ?_, fun _ => ⟨in_of (by omega) (by omega), ?_⟩⟩
    · exfalso
      rw [i_le, ep] at z
      simp only [Int32.reduceToInt] at z
      omega
    · rw [cl_of ep, p_bit1 u (by omega) p (by omega), nI_1]
      refine ih (p + 1) _ (by omega) ?_
      rw [← he]
      show _ = smS gn u m (p + 1) (if _ then _ else _)
      by_cases c : u.testBit p = true
      · have hpN : p < N := by
          rcases Nat.lt_or_ge p N with y | y
          · exact y
          · have := p_hi N hN u hu p (by omega) y
            rw [this] at c
            exact absurd c (by decide)
        rw [if_pos c, if_pos c, g54 p hpN, Int32.one_mul]
      · rw [if_neg c, if_neg c, Int32.zero_mul, Int32.add_zero]
theorem rg_lvC {bs gn : Nat → Int32} {N : Nat} (hR : RF h) (hN : N < 5) (e3 : h.1 53 3 = nI (2 ^ N)) (e1 : h.1 53 1 = fact N) (g55 : ∀ q, q < 2 ^ N → h.1 55 q = bs q) (g54 : ∀ q, q < N → h.1 54 q = gn q) : ∀ (m u : Nat), u + m = 2 ^ N → Q (nI (lvS bs gn N m u)) h → Rg_X3_leastLeaving_2 G d (nI u) h Q := by
  have p16 := (p_two N hN).2
  intro m
  induction m with
  | zero =>
    intro u hu k
    refine vc_X3_leastLeaving_2 hR ⟨fun _ => k, fun z => ?_⟩
    exfalso
    rw [e3, i_le, ti_nI (by omega), ti_nI (by omega)] at z
    omega
  | succ m ih =>
    intro u hu k
    have e4 : smS gn u 4 0 0 = smS gn u N 0 0 := by
      have := @smS_ext gn u (4 - N) N 0 0
      rw [show N + (4 - N) = 4 by omega, smS_off (4 - N) (0 + N) _ (fun q h1 h2 => p_hi N hN u (by omega) q (by omega) (by omega))] at this
      exact this
    refine vc_X3_leastLeaving_2 hR ⟨fun z => ?_, fun _ => ⟨fun z => ?_, fun _ => rg_sumC hR hN (show u < 2 ^ N by omega) g54 ⟨fun z => ih (u + 1) (by omega) ?_, fun z => ?_⟩ 4 0 0 (by omega) e4⟩⟩
    · exfalso
      rw [e3, i_le, ti_nI (by omega), ti_nI (by omega)] at z
      omega
    · exfalso
      rw [i_le, ti_nI (by omega)] at z
      simp only [Int32.reduceToInt] at z
      omega
    · rw [g55 u (by omega), e1] at z
      unfold lvS at k
      rw [if_pos z] at k
      exact k
    · rw [g55 u (by omega), e1] at z
      unfold lvS at k
      rw [if_neg z] at k
      exact k
theorem rg_sumM {gn : Nat → Int32} {N u : Nat} {L : Int32} (hR : RF h) (hN : N < 5) (hu : u < 2 ^ N) (e0 : h.1 95 0 = nI N) (g106 : ∀ q, q < N → h.1 106 q = gn q) (k : (h.1 105 u * h.1 94 23 ≤ L → Rg_X12_leaves_6 G d (nI (u + 1)) h Q) ∧ (¬ h.1 105 u * h.1 94 23 ≤ L → Q (nI u) h)) : ∀ (m p : Nat) (l : Int32), p + m = N → smS gn u m p l = L → Rg_X12_leaves_22 G d (nI u) l (nI p) h Q := by
  have p16 := (p_two N hN).2
  have eu : (nI u).toInt = (u : Int) := ti_nI (by omega)
  intro m
  induction m with
  | zero =>
    intro p l hp he
    have e : l = L := he
    subst e
    refine vc_X12_leaves_22 hR ⟨fun _ => ⟨in_of (by omega) (by omega), ?_⟩, fun z => ?_⟩
    · rw [cl_of eu, nI_1]
      exact k
    · exfalso
      rw [e0, i_le, ti_nI (by omega), ti_nI (by omega)] at z
      omega
  | succ m ih =>
    intro p l hp he
    have ep : (nI p).toInt = (p : Int) := ti_nI (by omega)
    refine vc_X12_leaves_22 hR ⟨fun z => ?_, fun _ => ⟨fun z => ?_, fun z => ⟨in_of (by omega) (by omega), ?_⟩⟩⟩
    · exfalso
      rw [e0, i_le, ti_nI (by omega), ti_nI (by omega)] at z
      omega
    · rw [p_bit1 u (by omega) p (by omega)] at z
      have c : ¬ u.testBit p = true := fun c => by rw [if_pos c] at z; exact z rfl
      rw [nI_1, Int32.add_zero]
      refine ih (p + 1) _ (by omega) ?_
      rw [← he]
      show _ = smS gn u m (p + 1) (if _ then _ else _)
      rw [if_neg c]
    · rw [p_bit1 u (by omega) p (by omega)] at z
      have c : u.testBit p = true := by
        cases e : u.testBit p with
        | true => rfl
        | false => rw [e] at z; exact absurd z (by decide)
      rw [nI_1, cl_of ep, g106 p (by omega)]
      refine ih (p + 1) _ (by omega) ?_
      rw [← he]
      show _ = smS gn u m (p + 1) (if _ then _ else _)
      rw [if_pos c]
theorem rg_lvM {bs gn : Nat → Int32} {N : Nat} (hR : RF h) (hd : 1 ≤ d) (hN : N < 5) (e0 : h.1 95 0 = nI N) (e1 : h.1 94 23 = fact N) (g105 : ∀ q, q < 2 ^ N → h.1 105 q = bs q) (g106 : ∀ q, q < N → h.1 106 q = gn q) : ∀ (m u : Nat), u + m = 2 ^ N → 1 ≤ u → (lvS bs gn N m u = 0 → Q (er 2) (sI h 98 2 (h.1 98 2 + 1))) → (lvS bs gn N m u ≠ 0 → Q (nI (lvS bs gn N m u)) h) → Rg_X12_leaves_6 G d (nI u) h Q := by
  have p16 := p_two N hN
  intro m
  induction m with
  | zero =>
    intro u hu h1 k0 k1
    refine vc_X12_leaves_6 hR ⟨fun _ => ev_finds hR hd (n := 2) rfl (by omega) (k0 rfl), fun z => ?_⟩
    exfalso
    rw [e0, p16.1, i_le, ti_nI (by omega), ti_nI (by omega)] at z
    omega
  | succ m ih =>
    intro u hu h1 k0 k1
    refine vc_X12_leaves_6 hR ⟨fun z => ?_, fun _ => rg_sumM hR hN (show u < 2 ^ N by omega) e0 g106 ⟨fun z => ?_, fun z => ?_⟩ N 0 0 (by omega) rfl⟩
    · exfalso
      rw [e0, p16.1, i_le, ti_nI (by omega), ti_nI (by omega)] at z
      omega
    · rw [g105 u (by omega), e1] at z
      unfold lvS at k0 k1
      rw [if_pos z] at k0 k1
      exact ih (u + 1) (by omega) (by omega) k0 k1
    · rw [g105 u (by omega), e1] at z
      unfold lvS at k1
      rw [if_neg z] at k1
      exact k1 (by omega)
theorem lvS_in {bs gn : Nat → Int32} {N : Nat} : ∀ (m u : Nat), lvS bs gn N m u ≤ u + m
  | 0, _ => Nat.zero_le _
  | m + 1, u => by
    have := @lvS_in bs gn N m (u + 1)
    unfold lvS
    split <;> omega
theorem M_leaves {F : Nat → Int} {p0 p1 : List Int32} (eF : vM h = F) (hR : RF h) (hd : 85 ≤ d) (ok : OKF 99999 F) (T : TxM h 95 p0 p1)
    (k : ∀ (h' : Hp), MZ h h' → (lvS (bsF F p0) (shF F p0) (F 0).toNat (2 ^ (F 0).toNat - 1) 1 = 0 → Q (er 2) (sI h' 98 2 (h'.1 98 2 + 1))) ∧ (lvS (bsF F p0) (shF F p0) (F 0).toNat (2 ^ (F 0).toNat - 1) 1 ≠ 0 → Q (nI (lvS (bsF F p0) (shF F p0) (F 0).toNat (2 ^ (F 0).toNat - 1) 1)) h')) : EvI G d mX12_leaves [.inr (.inr (some 94))] h Q := by
  obtain ⟨e, rfl⟩ := dpos (show 1 ≤ d by omega)
  subst eF
  have o0 := ok.1
  have p1' : 1 ≤ 2 ^ (vM h 0).toNat := Nat.one_le_two_pow
  refine vc_X12_leaves hR (ev_findShares (N := (vM h 0).toNat) hR (by omega) (by omega) (by omega) ok rfl T (fun h' w => ?_))
  obtain ⟨k0, k1⟩ := k h' w.z
  have e0 : h'.1 95 0 = nI (vM h 0).toNat := by
    rw [w.1.2.1 95 (by omega) (by omega)]
    refine eq_nI ?_
    show vM h 0 = _
    omega
  exact rg_lvM w.1.1 (by omega) (by omega) e0 w.1.2.2.2.1 w.1.2.2.2.2 w.2 (2 ^ (vM h 0).toNat - 1) 1 (by omega) (by omega) k0 k1
theorem step_leaves (I : Inv h) (hd : 100 ≤ d) : EvI G d mX11_leaves [.inr (.inr (some 0))] h (fun x h1 => EvI G d mX12_leaves [.inr (.inr (some 94))] h1 (fun y h2 => x = y ∧ Inv h2)) := by
  have hd' := hd
  have hR := I.1
  have ok := I.ok
  have n0 := I.n
  obtain ⟨p0, p1, T, T0, T1⟩ := I.tx
  obtain ⟨e, rfl⟩ := dpos (show 1 ≤ d by omega)
  obtain ⟨e, rfl⟩ := dpos (show 1 ≤ e by omega)
  have p1' : 1 ≤ 2 ^ (vM h 0).toNat := Nat.one_le_two_pow
  have p16 := (p_two (vM h 0).toNat (by omega)).2
  refine vc_X11_leaves hR (ev_weigh (N := (vM h 0).toNat) (bg := vM h) (F := vM h) hR (by omega) (by omega) (by omega) ok I.cf T0 (fun h1 w => vc_X3_leastLeaving w.1.1 ?_))
  have mz := w.z
  have I1 := mz.inv I
  have li := @lvS_in (bsF (vM h) p0) (shF (vM h) p0) (vM h 0).toNat (2 ^ (vM h 0).toNat - 1) 1
  refine rg_lvC (bs := bsF (vM h) p0) (gn := shF (vM h) p0) w.1.1 (by omega) w.1.2.2.1 w.2.1 w.1.2.2.2 (fun q hq => by rw [w.2.2 q hq, gain_eq _ (by omega) (by omega)]; rfl) (2 ^ (vM h 0).toNat - 1) 1 (by omega) ?_
  refine ⟨fun z => ?_, fun z => ?_⟩
  · rw [i_eq, ti_nI (by omega)] at z
    simp only [Int32.reduceToInt] at z
    exact M_leaves mz.v mz.1 (by omega) ok (mz.tx T) (fun h2 m2 => ⟨fun y => absurd y (by omega), fun _ => ⟨rfl, m2.inv I1⟩⟩)
  · rw [i_eq, ti_nI (by omega)] at z
    simp only [Int32.reduceToInt] at z
    refine ev_refuse w.1.1 (by omega) (n := 2) rfl (by omega) (M_leaves (F := vM h) (by rw [vM_lo (by omega)]; exact mz.v) (RF_sI mz.1) (by omega) ok (TxM_eq (fun j _ _ => by rw [sI_ne (by omega)]) (mz.tx T)) (fun h2 m2 => ⟨fun _ => ⟨rfl, Inv_errZ I1 m2⟩, fun y => absurd y (by omega)⟩))
end
