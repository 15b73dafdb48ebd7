/-! best: whole -/
section
variable {G : GT} {d : Nat} {h : Hp} {Q : Int32 → Hp → Prop} {QW : Hp → Prop}
theorem low0 (y : BitVec 32) : y &&& 1#32 = 0#32 ↔ y.getLsbD 0 = false := by
  constructor
  · intro e
    have e2 := congrArg (fun z => BitVec.getLsbD z 0) e
    simpa using e2
  · intro e
    apply BitVec.eq_of_getLsbD_eq
    intro i hi
    by_cases c : i = 0
    · subst c; rw [BitVec.getLsbD_and, e, Bool.false_and, BitVec.getLsbD_zero]
    · rw [BitVec.getLsbD_and]
      have : (1#32).getLsbD i = false := by
        have : ∀ i, i < 32 → ¬ i = 0 → (1#32).getLsbD i = false := by decide
        exact this i hi c
      rw [this, Bool.and_false, BitVec.getLsbD_zero]
theorem bit_n0 {X : Int32} {p : Nat} (hp : p < 12) : ((X >>> (nI p &&& 31)) &&& 1) = 0 ↔ ¬ bitP X p := by
  have sm : ∀ p, p < 12 → ((nI p &&& 31).toBitVec.smod 32).toNat = p := by decide
  rw [bitP_iff hp, ← Int32.toBitVec_inj, Int32.toBitVec_and, Int32.toBitVec_shiftRight, BitVec.sshiftRight_eq', sm p hp]
  show _ &&& 1#32 = 0#32 ↔ _
  rw [low0, BitVec.getLsbD_sshiftRight]
  rw [if_pos (by omega)]
  simp
/-- the least of a set from p on (m left) -/
def fstS (set : Int32) : Nat → Nat → Nat
  | 0, p => p
  | m + 1, p => if bitP set p then p else fstS set m (p + 1)
theorem fst_in {set : Int32} : ∀ (m p : Nat), p ≤ fstS set m p ∧ fstS set m p ≤ p + m
  | 0, p => ⟨Nat.le_refl _, Nat.le_refl _⟩
  | m + 1, p => by
    have := fst_in (set := set) m (p + 1)
    unfold fstS
    split <;> omega
theorem fst_ext {set : Int32} (b : Nat) : ∀ (a p : Nat), fstS set (a + b) p = if fstS set a p < p + a then fstS set a p else fstS set b (p + a)
  | 0, p => by
    show _ = if p < p + 0 then _ else _
    rw [if_neg (by omega), Nat.zero_add]
    rfl
  | a + 1, p => by
    rw [show a + 1 + b = (a + b) + 1 by omega]
    unfold fstS
    by_cases c : bitP set p
    · rw [if_pos c, if_pos c, if_pos (by omega)]
    · rw [if_neg c, if_neg c, fst_ext b a (p + 1), show p + 1 + a = p + (a + 1) by omega]
      cases b <;> rfl
def spS (F : Nat → Int) (p0 : List Int32) (set : Int32) : SP := (F, p0, plS F set (F 1).toNat 0 [], oI (F (14 + 5 * fstS set 4 0)), oI (wat F set (F 0).toNat / rnk (F (10 + 5 * fstS set 4 0)) (F (11 + 5 * fstS set 4 0))))
def bestF (F : Nat → Int) (p0 : List Int32) (set : Int32) : BB := if (fstS set 4 0 : Int) < F 0 then loS (spS F p0 set) (ndS (spS F p0 set) 4) 0 0 0 [] (spS F p0 set).2.2.1.length 0 (0, 0, []) else (0, 0, [])
theorem OKS_sp {F : Nat → Int} {p0 : List Int32} {set : Int32} (ok : OKF 99999 F) : OKS (spS F p0 set) := by
  refine ⟨ok, ?_⟩
  have := okL_pl (F := F) (set := set) (F 1).toNat 0 [] ⟨by simp, fun k hk => absurd hk (by simp), fun i j _ hj => absurd hj (by simp)⟩
  rw [Nat.zero_add] at this
  exact this
theorem goS_5 (S : SP) (u : Nat) (t s : Int32) (tr : List Nat) (m k : Nat) (b : BB) : goS S 5 u t s tr m k b = loS S (ndS S 4) u t s tr m k b := rfl
theorem len_5 {S : SP} {bg : Nat → Int} {h0 : Hp} (H : HC S bg h0) (hd : 21 ≤ d) {U t s : Int32} {b : BB} (c : CB S h0 b [] h) (ur : UR S U 0) (K : ∀ h', CB S h0 (loS S (ndS S 4) 0 t s [] S.2.2.1.length 0 b) [] h' → QW h') : EvV G d mX5_lengthen [.inr (.inr (some 49)), .inr (.inr (some 1)), .inl 0, .inl U, .inl t, .inl s] h QW := len_all H 5 d 0 U t s [] b h QW hd rfl (by omega) ur c K
def FC (h0 : Hp) (b : BB) (h : Hp) : Prop := RF h ∧ (∀ a, a ≠ 15 → ¬ (49 ≤ a ∧ a ≤ 52) → h.1 a = h0.1 a) ∧ h.1 49 2 = b.1 ∧ h.1 49 1 = nI b.2.2.length ∧ b.2.2.length ≤ 5 ∧ ∀ i, i < b.2.2.length → h.1 50 i = nI (b.2.2.getD i 0)
def FM (h0 : Hp) (b : BB) (h : Hp) : Prop := RF h ∧ (∀ a, a ≠ 94 → ¬ (99 ≤ a ∧ a ≤ 104) → h.1 a = h0.1 a) ∧ (∀ k, ¬ (5 ≤ k ∧ k ≤ 19) → h.1 94 k = h0.1 94 k) ∧ h.1 94 17 = b.1 ∧ h.1 94 19 = nI b.2.2.length ∧ b.2.2.length ≤ 5 ∧ ∀ i, i < b.2.2.length → h.1 104 i = nI (b.2.2.getD i 0)
theorem rg_least {set : Int32} (hR : RF h) : ∀ (m i : Nat), i + m = 4 → Q (nI (fstS set m i)) h → Rg_X5_leastOf_2 G d set (nI i) h Q := by
  intro m
  induction m with
  | zero =>
    intro i hi k
    refine vc_X5_leastOf_2 hR ⟨fun _ => k, fun z => ?_⟩
    exfalso
    rw [i_le, ti_nI (by omega)] at z
    simp only [Int32.reduceToInt] at z
    omega
  | succ m ih =>
    intro i hi k
    refine vc_X5_leastOf_2 hR ⟨fun z => ?_, fun _ => ⟨fun z => ?_, fun z => ?_⟩⟩
    · exfalso
      rw [i_le, ti_nI (by omega)] at z
      simp only [Int32.reduceToInt] at z
      omega
    · rw [bit_n0 (by omega), Classical.not_not] at z
      unfold fstS at k
      rw [if_pos z] at k
      exact k
    · rw [bit_n0 (by omega)] at z
      unfold fstS at k
      rw [if_neg z] at k
      rw [nI_1]
      exact ih (i + 1) (by omega) k
theorem ev_find {set : Int32} {bg : Nat → Int} {p0 : List Int32} (hR : RF h) (hd : 30 ≤ d) (ok : OKF 99999 (vC h 9 bg)) (T : TxC h 13 p0) (k : ∀ h', FC h (bestF (vC h 9 bg) p0 set) h' → QW h') : EvV G d mX5_find [.inr (.inr (some 49)), .inr (.inr (some 1)), .inl set] h QW := by
  obtain ⟨e, rfl⟩ := dpos (show 1 ≤ d by omega)
  have o0 := ok.1
  have o1 := ok.2.1
  have e0 : (h.1 1 0).toInt = vC h 9 bg 0 := rfl
  have e4 : (h.1 1 4).toInt = vC h 9 bg 1 := rfl
  have fi := @fst_in set 4 0
  have efp : (nI (fstS set 4 0)).toInt = (fstS set 4 0 : Int) := ti_nI (by omega)
  obtain ⟨e, rfl⟩ := dpos (show 1 ≤ e by omega)
  have hR1 : RF (sI (sI (sI h 49 1 0) 49 2 0) 49 3 0) := hR
  refine vc_X5_find hR (vc_X5_leastOf hR1 (rg_least hR1 4 0 (by omega) (ev_hasParty hR1 (by omega) (by rw [sI_ne (by omega), sI_ne (by omega), sI_ne (by omega)]; omega) (br2' (fun c => ?_) (fun c => ?_)))))
  · rw [sI_ne (by omega), sI_ne (by omega), sI_ne (by omega), efp] at c
    have hp : (fstS set 4 0 : Int) < vC h 9 bg 0 := c.2
    have vp := @vC_p h 9 bg (fstS set 4 0) (by omega)
    have okp := ok.2.2.2.2.2.2.2.2.1 (fstS set 4 0) (by omega)
    unfold OKP at okp
    unfold bestF at k
    rw [if_pos hp] at k
    refine ⟨in_of (by omega) (by omega), ?_⟩
    rw [cl_of efp, sI_ne (by omega), sI_ne (by omega), sI_ne (by omega)]
    have fr : ∀ a, a ≠ 49 → (sI (sI (sI (sI h 49 1 0) 49 2 0) 49 3 0) 49 7 (h.1 11 (fstS set 4 0))).1 a = h.1 a := fun a ha => by funext t; rw [sI_ne (by omega), sI_ne (by omega), sI_ne (by omega), sI_ne (by omega)]
    have f49 : ∀ k, k ≠ 7 → k ≠ 1 → k ≠ 2 → k ≠ 3 → (sI (sI (sI (sI h 49 1 0) 49 2 0) 49 3 0) 49 7 (h.1 11 (fstS set 4 0))).1 49 k = h.1 49 k := fun k z1 z2 z3 z4 => by rw [sI_ne (by omega), sI_ne (by omega), sI_ne (by omega), sI_ne (by omega)]
    have g1 : (sI (sI (sI (sI h 49 1 0) 49 2 0) 49 3 0) 49 7 (h.1 11 (fstS set 4 0))).1 49 1 = 0 ∧ (sI (sI (sI (sI h 49 1 0) 49 2 0) 49 3 0) 49 7 (h.1 11 (fstS set 4 0))).1 49 2 = 0 ∧ (sI (sI (sI (sI h 49 1 0) 49 2 0) 49 3 0) 49 7 (h.1 11 (fstS set 4 0))).1 49 3 = 0 ∧ (sI (sI (sI (sI h 49 1 0) 49 2 0) 49 3 0) 49 7 (h.1 11 (fstS set 4 0))).1 49 7 = (h.1 11 (fstS set 4 0)) := ⟨by rw [sI_ne (by omega), sI_ne (by omega), sI_ne (by omega), sI_self], by rw [sI_ne (by omega), sI_ne (by omega), sI_self], by rw [sI_ne (by omega), sI_self], sI_self _ _ _ _⟩
    have hR2 : RF (sI (sI (sI (sI h 49 1 0) 49 2 0) 49 3 0) 49 7 (h.1 11 (fstS set 4 0))) := hR
    revert fr f49 g1 hR2
    generalize (sI (sI (sI (sI h 49 1 0) 49 2 0) 49 3 0) 49 7 (h.1 11 (fstS set 4 0))) = h1
    intro fr f49 g1 hR2
    refine ev_waterOf hR2 (by omega) (n := (vC h 9 bg 0).toNat) (F := vC h 9 bg) (by rw [fr 1 (by omega)]; omega) (by omega) (fun q hq => ?_) (fun x7 e7 => ?_)
    · have := ok.2.2.2.2.2.2.2.2.1 q (by omega)
      unfold OKP at this
      rw [fr 10 (by omega), (@vC_p h 9 bg q (by omega)).2.2.2.1]
      have vq := (@vC_p h 9 bg q (by omega)).2.2.2.1
      rw [vq] at this
      exact ⟨rfl, this.2.2.2.1⟩
    · have wb := @wat_in (vC h 9 bg) set (vC h 9 bg 0).toNat (fun q hq => (ok.2.2.2.2.2.2.2.2.1 q (by omega)).2.2.2.1)
      refine ev_runsC hR2 (by omega) (j := fstS set 4 0) rfl (by rw [fr 1 (by omega)]; omega) (by rw [fr 1 (by omega)]; omega) (by rw [fr 3 (by omega)]; omega) (fun x9 e9 => ?_)
      rw [fr 2 (by omega), fr 3 (by omega), ← vp.1, ← vp.2.1] at e9
      have rb := @rnk_in (vC h 9 bg (10 + 5 * fstS set 4 0)) (vC h 9 bg (11 + 5 * fstS set 4 0)) okp.2.1.1 okp.2.1.2
      refine ev_quotient hR2 (by omega) (by omega) (by omega) (fun x11 e11 => ?_)
      rw [e7, e9] at e11
      have ev3 : vC (sI h1 49 8 x11) 9 bg = vC h 9 bg := vC_eq2 (fun a _ _ => by funext t; rw [sI_ne (by omega), fr a (by omega)]) (fun k _ _ => by rw [sI_ne (by omega), fr 9 (by omega)]) (fun k _ => by rw [sI_ne (by omega), fr _ (by omega)]) (fun k _ => by rw [sI_ne (by omega), fr _ (by omega)]) (fun k _ => by rw [sI_ne (by omega), fr _ (by omega)])
      refine ev_gather (h := sI h1 49 8 x11) (B := 99999) (bg := bg) (n := (vC h 9 bg 1).toNat) hR2 (by omega) (by rw [ev3]; exact ok) (by rw [ev3]; omega) (fun h4 g4 => ?_)
      rw [ev3] at g4
      obtain ⟨q1, q2, q3, q4, q5⟩ := g4
      have f4 : ∀ a, a ≠ 49 → a ≠ 51 → h4.1 a = h.1 a := fun a z1 z2 => by
        rw [q2 a z1 z2]
        funext t
        rw [sI_ne (by omega), fr a z1]
      have ev4 : vC h4 9 bg = vC h 9 bg := vC_eq2 (fun a _ _ => f4 a (by omega) (by omega)) (fun k _ _ => by rw [f4 9 (by omega) (by omega)]) (fun k _ => by rw [f4 _ (by omega) (by omega)]) (fun k _ => by rw [f4 _ (by omega) (by omega)]) (fun k _ => by rw [f4 _ (by omega) (by omega)])
      have H : HC (spS (vC h 9 bg) p0 set) bg h4 := ⟨OKS_sp ok, ev4, TxC_eq (by rw [f4 13 (by omega) (by omega)]) (fun k _ => by rw [f4 (13 + 1) (by omega) (by omega)]) T, q5⟩
      have c0 : CB (spS (vC h 9 bg) p0 set) h4 (0, 0, []) [] h4 := by
        refine ⟨q1, fun _ _ _ _ _ => rfl, ⟨q4, ?_, ?_⟩, ⟨?_, ?_, ?_, by simp, fun i hi => absurd hi (by simp)⟩, fun i hi => absurd hi (by simp)⟩
        · rw [q3 7 (by omega), sI_ne (by omega), g1.2.2.2]
          show _ = oI (vC h 9 bg (14 + 5 * fstS set 4 0))
          rw [vp.2.2.2.2, oi_ti]
        · rw [q3 8 (by omega), sI_self]
          show _ = oI (wat (vC h 9 bg) set (vC h 9 bg 0).toNat / rnk _ _)
          rw [← e11, oi_ti]
        · rw [q3 2 (by omega), sI_ne (by omega), g1.2.1]
        · rw [q3 3 (by omega), sI_ne (by omega), g1.2.2.1]
        · rw [q3 1 (by omega), sI_ne (by omega), g1.1]; rfl
      refine len_5 H (by omega) c0 UR_0 (fun h5 c5 => k h5 ⟨c5.1, fun a z1 z2 => ?_, c5.2.2.2.1.1, c5.2.2.2.1.2.2.1, c5.2.2.2.1.2.2.2.1, c5.2.2.2.1.2.2.2.2⟩)
      rw [c5.2.1 a z1 (by omega) (by omega) (by omega), f4 a (by omega) (by omega)]
  · rw [sI_ne (by omega), sI_ne (by omega), sI_ne (by omega), efp] at c
    unfold bestF at k
    rw [if_neg (by omega)] at k
    refine k _ ⟨hR, fun a z1 z2 => by funext t; rw [sI_ne (by omega), sI_ne (by omega), sI_ne (by omega)], by rw [sI_ne (by omega), sI_self], by rw [sI_ne (by omega), sI_ne (by omega), sI_self]; rfl, by simp, fun i hi => absurd hi (by simp)⟩
theorem rg_first {h0 : Hp} {set l1 : Int32} {p0 p1 : List Int32} {N : Nat} (hd : 76 ≤ d) (ok : OKF 99999 (vM h0)) (hN : vM h0 0 = N) (T : TxM h0 95 p0 p1) (g : GM h0 (plS (vM h0) set (vM h0 1).toNat 0 []) h) (k : ∀ h', FM h0 (bestF (vM h0) p0 set) h' → QW h') : ∀ (i : Nat) (l2 l3 l4 : Int32), i ≤ N → l2.toInt = (if fstS set (N - i) i < N then (fstS set (N - i) i : Int) else -1) → l3.toInt + wat (vM h0) set i = wat (vM h0) set N → l4.toInt = (i : Int) - 1 → Rg_X12_findBest_19 G d set l2 l3 l4 h QW := by
  have o0 := ok.1
  have e95 : h.1 95 = h0.1 95 := g.2.1 95 (by omega) (by omega)
  have wb : ∀ i, i ≤ N → 0 ≤ wat (vM h0) set i ∧ wat (vM h0) set i ≤ 999 * (i : Int) := fun i hi => @wat_in (vM h0) set i (fun q hq => (ok.2.2.2.2.2.2.2.2.1 q (by omega)).2.2.2.1)
  have wN := wb N (Nat.le_refl _)
  intro i
  induction i with
  | zero =>
    intro l2 l3 l4 hi e2 e3 e4
    rw [Nat.sub_zero] at e2
    have ex := @fst_ext set (4 - N) N 0
    rw [show N + (4 - N) = 4 by omega, Nat.zero_add] at ex
    have e3' : l3.toInt = wat (vM h0) set N := by rw [← e3]; show _ = _ + 0; omega
    have base : ∀ a, a ≠ 94 → (sI (sI (sI h 94 17 0) 94 18 0) 94 19 0).1 a = h.1 a := fun a ha => by funext t; rw [sI_ne (by omega), sI_ne (by omega), sI_ne (by omega)]
    refine vc_X12_findBest_19 g.1 ⟨fun _ => ⟨fun z => ?_, fun z => ?_⟩, fun z => ?_⟩
    · rw [i_le, e2] at z
      simp only [Int32.reduceToInt] at z
      have c : fstS set N 0 < N := by
        by_cases c : fstS set N 0 < N
        · exact c
        · rw [if_neg c] at z; omega
      rw [if_pos c] at e2 ex
      have hp : (fstS set 4 0 : Int) < vM h0 0 := by rw [ex, hN]; omega
      rw [← ex] at e2
      have okp := ok.2.2.2.2.2.2.2.2.1 (fstS set 4 0) (by omega)
      unfold bestF at k
      rw [if_pos hp] at k
      have ev : vM (sI (sI (sI h 94 17 0) 94 18 0) 94 19 0) = vM h0 := by funext t; show ((sI (sI (sI h 94 17 0) 94 18 0) 94 19 0).1 95 t).toInt = _; rw [base 95 (by omega), e95] <;> rfl
      have l2e : l2 = nI (fstS set 4 0) := eq_nI e2
      subst l2e
      refine ev_runsM (h := sI (sI (sI h 94 17 0) 94 18 0) 94 19 0) g.1 (by omega) (j := fstS set 4 0) rfl (by omega) (by rw [ev]; exact okp) (fun x5 e5 => ?_)
      rw [ev] at e5
      have okp' := okp
      unfold OKP at okp'
      have rb := @rnk_in (vM h0 (10 + 5 * fstS set 4 0)) (vM h0 (11 + 5 * fstS set 4 0)) okp'.2.1.1 okp'.2.1.2
      refine ⟨fun z => by rw [i_eq, e5] at z; simp only [Int32.reduceToInt] at z; omega, ?_⟩
      have eR : l3 / x5 = (spS (vM h0) p0 set).2.2.2.2 := by
        show _ = oI (wat (vM h0) set (vM h0 0).toNat / rnk _ _)
        rw [show (vM h0 0).toNat = N by omega, ← e3', ← e5, ← ti_div (by omega) (by omega), oi_ti]
      rw [eR]
      obtain ⟨q1, q2, q3, q4, q5⟩ := g
      -- the place to start from
      have fr : ∀ a, a ≠ 94 → ¬ (101 ≤ a ∧ a ≤ 103) → (sI (sI (sI (sI (sI (sI h 94 17 0) 94 18 0) 94 19 0) 101 0 (-1)) 102 0 0) 103 0 0).1 a = h.1 a := fun a z1 z2 => by funext t; rw [sI_ne (by omega), sI_ne (by omega), sI_ne (by omega), sI_ne (by omega), sI_ne (by omega), sI_ne (by omega)]
      have f94 : ∀ t, ¬ (17 ≤ t ∧ t ≤ 19) → (sI (sI (sI (sI (sI (sI h 94 17 0) 94 18 0) 94 19 0) 101 0 (-1)) 102 0 0) 103 0 0).1 94 t = h.1 94 t := fun t z1 => by rw [sI_ne (by omega), sI_ne (by omega), sI_ne (by omega), sI_ne (by omega), sI_ne (by omega), sI_ne (by omega)]
      have g1 : (sI (sI (sI (sI (sI (sI h 94 17 0) 94 18 0) 94 19 0) 101 0 (-1)) 102 0 0) 103 0 0).1 94 17 = 0 ∧ (sI (sI (sI (sI (sI (sI h 94 17 0) 94 18 0) 94 19 0) 101 0 (-1)) 102 0 0) 103 0 0).1 94 18 = 0 ∧ (sI (sI (sI (sI (sI (sI h 94 17 0) 94 18 0) 94 19 0) 101 0 (-1)) 102 0 0) 103 0 0).1 94 19 = 0 := ⟨by rw [sI_ne (by omega), sI_ne (by omega), sI_ne (by omega), sI_ne (by omega), sI_ne (by omega), sI_self], by rw [sI_ne (by omega), sI_ne (by omega), sI_ne (by omega), sI_ne (by omega), sI_self], by rw [sI_ne (by omega), sI_ne (by omega), sI_ne (by omega), sI_self]⟩
      have g2 : (sI (sI (sI (sI (sI (sI h 94 17 0) 94 18 0) 94 19 0) 101 0 (-1)) 102 0 0) 103 0 0).1 101 0 = -1 ∧ (sI (sI (sI (sI (sI (sI h 94 17 0) 94 18 0) 94 19 0) 101 0 (-1)) 102 0 0) 103 0 0).1 102 0 = 0 ∧ (sI (sI (sI (sI (sI (sI h 94 17 0) 94 18 0) 94 19 0) 101 0 (-1)) 102 0 0) 103 0 0).1 103 0 = 0 := ⟨by rw [sI_ne (by omega), sI_ne (by omega), sI_self], by rw [sI_ne (by omega), sI_self], sI_self _ _ _ _⟩
      have hR3 : RF (sI (sI (sI (sI (sI (sI h 94 17 0) 94 18 0) 94 19 0) 101 0 (-1)) 102 0 0) 103 0 0) := q1
      revert fr f94 g1 g2 hR3
      generalize (sI (sI (sI (sI (sI (sI h 94 17 0) 94 18 0) 94 19 0) 101 0 (-1)) 102 0 0) 103 0 0) = h3
      intro fr f94 g1 g2 hR3
      have e953 : h3.1 95 = h0.1 95 := by rw [fr 95 (by omega) (by omega), e95]
      have H : HM (spS (vM h0) p0 set) (fstS set 4 0) h3 := by
        refine ⟨OKS_sp ok, by funext t; show (h3.1 95 t).toInt = _; rw [e953]; rfl, ⟨p1, TxM_eq (fun t _ _ => by rw [e953]) T⟩, by rw [f94 13 (by omega)]; exact q4, fun t ht => by rw [fr 100 (by omega) (by omega)]; exact q5 t ht, by omega, ?_⟩
        show _ = oI (vM h0 (14 + 5 * fstS set 4 0))
        rw [e953]
        exact (oi_ti _).symm
      have c0 : MB (spS (vM h0) p0 set) h3 (fun _ => 0) (fun _ => 0) (fun _ => 0) 0 (0, 0, []) h3 := ⟨hR3, fun _ _ _ _ => rfl, fun _ _ _ => rfl, ⟨g1.1, g1.2.1, g1.2.2, by simp, fun t ht => absurd ht (by simp)⟩, fun t ht => absurd ht (by omega), fun t ht => by rw [show t = 0 by omega]; exact ⟨g2.2.1, g2.2.2⟩⟩
      refine vc_X12_findBest_109 hR3 ⟨fun z => absurd z (by decide), fun _ => ⟨in_of (by decide) (by decide), ?_⟩⟩
      rw [show Int32.toNatClampNeg 0 = 0 by decide, g2.1, show (-1 : Int32) + 1 = nI 0 by decide]
      refine sea_all H 5 d 0 0 (spS (vM h0) p0 set).2.2.1.length 0 (fun _ => 0) (fun _ => 0) (fun _ => 0) [] (0, 0, []) h3 QW (by omega) (by omega) (by omega) (by omega) (by decide) c0 rfl (fun t ht => absurd ht (by omega)) (fun h4 c4 => ?_)
      rw [goS_5] at c4
      have hfin : FM h0 (loS (spS (vM h0) p0 set) (ndS (spS (vM h0) p0 set) 4) 0 0 0 [] (spS (vM h0) p0 set).2.2.1.length 0 (0, 0, [])) (sI h4 101 0 (nI (spS (vM h0) p0 set).2.2.1.length)) := by
        obtain ⟨r1, r2, r3, r4, r5, r6⟩ := c4
        refine ⟨r1, fun a z1 z2 => ?_, fun t z1 => ?_, ?_, ?_, r4.2.2.2.1, fun t ht => ?_⟩
        · funext t
          rw [sI_ne (by omega), r2 a z1 (by omega) (by omega), fr a z1 (by omega), q2 a z1 (by omega)]
        · rw [sI_ne (by omega), r3 t (by omega) (by omega), f94 t (by omega), q3 t (by omega)]
        · rw [sI_ne (by omega)]; exact r4.1
        · rw [sI_ne (by omega)]; exact r4.2.2.1
        · rw [sI_ne (by omega)]; exact r4.2.2.2.2 t ht
      have en : h4.1 94 13 = nI (spS (vM h0) p0 set).2.2.1.length := by rw [c4.2.2.1 13 (by omega) (by omega)]; exact H.2.2.2.1
      refine vc_X12_findBest_125 c4.1 ⟨fun _ => ⟨in_of (by decide) (by decide), fun z => ?_, fun _ => ⟨fun z => absurd z (by decide), fun _ => vc_X12_findBest_109 (h := sI h4 101 (Int32.toNatClampNeg (nI 0)) (nI (spS (vM h0) p0 set).2.2.1.length)) c4.1 ⟨fun _ => k _ hfin, fun z => absurd (by decide) z⟩⟩⟩, fun z => ?_⟩
      · exfalso
        rw [en, i_lt] at z
        omega
      · exfalso
        apply z
        rw [en, i_le]
        omega
    · rw [i_le, e2] at z
      simp only [Int32.reduceToInt] at z
      have c : ¬ fstS set N 0 < N := fun c => by rw [if_pos c] at z; omega
      rw [if_neg c] at ex
      have hp : ¬ (fstS set 4 0 : Int) < vM h0 0 := by
        have := @fst_in set (4 - N) N
        rw [ex, hN]
        omega
      unfold bestF at k
      rw [if_neg hp] at k
      refine k _ ⟨g.1, fun a z1 z2 => by rw [base a z1, g.2.1 a z1 (by omega)], fun t z1 => by rw [sI_ne (by omega), sI_ne (by omega), sI_ne (by omega), g.2.2.1 t (by omega)], by rw [sI_ne (by omega), sI_ne (by omega), sI_self], by rw [sI_self]; rfl, by simp, fun t ht => absurd ht (by simp)⟩
    · exfalso
      rw [i_lt, e4] at z
      simp only [Int32.reduceToInt] at z
      omega
  | succ i ih =>
    intro l2 l3 l4 hi e2 e3 e4
    have l4e : l4 = nI i := eq_nI (by omega)
    have eN : N - i = (N - (i + 1)) + 1 := by omega
    have e5 : ∀ v, v = nI i + (-1) → v.toInt = (i : Int) - 1 := fun v hv => by
      rw [hv, ti_add (by rw [ti_nI (by omega), ti_m1]; omega) (by rw [ti_nI (by omega), ti_m1]; omega), ti_nI (by omega), ti_m1]
      omega
    have wi := wb i (by omega)
    have ok13 := (ok.2.2.2.2.2.2.2.2.1 i (by omega)).2.2.2.1
    have ew : wat (vM h0) set (i + 1) = wat (vM h0) set i + (if bitP set i then vM h0 (13 + 5 * i) else 0) := rfl
    subst l4e
    refine vc_X12_findBest_19 g.1 ⟨fun z => ?_, fun _ => ⟨fun c => ih _ _ _ (by omega) ?_ ?_ (e5 _ rfl), fun c => ev_of g.1 (by omega) (j := i) (w := 3) rfl rfl (by omega) (by omega) (ih _ _ _ (by omega) ?_ ?_ (e5 _ rfl))⟩⟩
    · exfalso
      rw [i_lt, e4] at z
      simp only [Int32.reduceToInt] at z
      omega
    · rw [eN]
      unfold fstS
      rw [if_neg c]
      exact e2
    · rw [ew, if_neg c] at e3
      omega
    · rw [eN]
      unfold fstS
      rw [if_pos c, if_pos (by omega), ti_nI (by omega)]
    · rw [ew, if_pos c] at e3
      have e13 : (h.1 95 (10 + 5 * i + 3)).toInt = vM h0 (13 + 5 * i) := by rw [e95, show 10 + 5 * i + 3 = 13 + 5 * i by omega] <;> rfl
      rw [ti_add (by omega) (by omega), e13]
      omega
theorem ev_findBest {set : Int32} {p0 p1 : List Int32} (hR : RF h) (hd : 78 ≤ d) (ok : OKF 99999 (vM h)) (T : TxM h 95 p0 p1) (k : ∀ h', FM h (bestF (vM h) p0 set) h' → QW h') : EvV G d mX12_findBest [.inr (.inr (some 94)), .inl set] h QW := by
  obtain ⟨e, rfl⟩ := dpos (show 1 ≤ d by omega)
  have o0 := ok.1
  have o1 := ok.2.1
  have e0 : (h.1 95 0).toInt = vM h 0 := rfl
  refine vc_X12_findBest hR (ev_findPool (B := 99999) hR (by omega) ok (n := (vM h 1).toNat) (by omega) (fun h1 g => ?_))
  refine rg_first (l1 := 0) (N := (vM h 0).toNat) (by omega) ok (by omega) T g k (vM h 0).toNat _ _ _ (Nat.le_refl _) ?_ ?_ ?_
  · rw [Nat.sub_self]
    show _ = if (vM h 0).toNat < (vM h 0).toNat then _ else _
    rw [if_neg (by omega), ti_m1]
  · show (0 : Int) + _ = _
    omega
  · rw [g.2.1 95 (by omega) (by omega), ti_sub (by rw [e0]; simp only [Int32.reduceToInt]; omega) (by rw [e0]; simp only [Int32.reduceToInt]; omega), e0]
    simp only [Int32.reduceToInt]
    omega
theorem FC.z {h0 : Hp} {b : BB} (c : FC h0 b h) : MZ h0 h := ⟨c.1, fun a z1 z2 => c.2.1 a (fun z => z1 (by unfold scr; omega)) (fun z => z1 (by unfold scr; omega)), by rw [c.2.1 94 (by omega) (by omega)], by rw [c.2.1 94 (by omega) (by omega)]⟩
theorem FM.z {h0 : Hp} {b : BB} (c : FM h0 b h) : MZ h0 h := ⟨c.1, fun a z1 z2 => c.2.1 a z2 (fun z => z1 (by unfold scr; omega)), c.2.2.1 3 (by omega), c.2.2.1 32 (by omega)⟩
/-- an error behind what only uses scratch -/
theorem Inv_errZ {h1 h2 : Hp} {n : Nat} (I : Inv h1) (m : MZ (sI h1 93 n (h1.1 93 n + 1)) h2) : Inv (sI h2 98 n (h2.1 98 n + 1)) := by
  have I3 := Inv_err I (k := n) rfl
  refine MZ.inv (h := sI (sI h1 93 n (h1.1 93 n + 1)) 98 n ((sI h1 93 n (h1.1 93 n + 1)).1 98 n + 1)) ⟨m.1, fun a z1 z2 => ?_, ?_, ?_⟩ I3
  · have ea := m.2.1 a z1 z2
    have e98 := m.2.1 98 (by unfold scr; omega) (by omega)
    funext t
    rw [sI_at, sI_at, ea, e98]
  · rw [sI_ne (by omega), sI_ne (by omega)]; exact m.2.2.1
  · rw [sI_ne (by omega), sI_ne (by omega)]; exact m.2.2.2
end
