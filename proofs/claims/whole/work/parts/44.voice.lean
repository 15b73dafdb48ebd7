/-! voice -/
section
variable {G : GT} {d : Nat} {h : Hp} {Q : Int32 → Hp → Prop} {QW : Hp → Prop}
/-- what bodies answer, and the bodies begun -/
abbrev VR := Int32 × List Int32
def v10 (n x : Int32) : VR := (x + n, [10])
def v30 (n x : Int32) : VR := ((v10 n x).1 * 3, 30 :: (v10 n x).2)
def v12 (m x : Int32) : VR := (x - m, [12])
def v40 (m x : Int32) : VR := (-(v12 m x).1, 40 :: (v12 m x).2)
def v70 (n m x : Int32) : VR := ((v40 m x).1 ^^^ n, 70 :: (v40 m x).2)
def fP (n : Int32) (k : Nat) (x : Int32) : VR := if k = 2 ∨ k = 5 then v30 n x else v10 n x
def fR (n m : Int32) (k : Nat) (x : Int32) : VR := if k = 6 then v70 n m x else if k = 3 then v40 m x else v12 m x
def v11 (n : Int32) (K : Nat) (x : Int32) : VR := ((fP n K x).1 * 2, 11 :: (fP n K x).2)
def v20 (n m : Int32) (K : Nat) (x : Int32) : VR := ((v11 n K x).1 - (fR n m K 1).1, 20 :: ((v11 n K x).2 ++ (fR n m K 1).2))
def v50 (n m : Int32) (K : Nat) (x : Int32) : VR := ((v20 n m K (x + 1)).1, 50 :: (v20 n m K (x + 1)).2)
def fS (n m : Int32) (K k : Nat) (x : Int32) : VR := if k = 4 then v50 n m K x else if k = 1 then v20 n m K x else v11 n K x
def v13 (n m : Int32) (K : Nat) (x : Int32) : VR := ((fS n m K K x).1 ^^^ (fR n m K x).1, 13 :: ((fS n m K K x).2 ++ (fR n m K x).2))
def v60 (n m : Int32) (K : Nat) (x : Int32) : VR := ((v13 n m K x).1 - (fP n K 2).1, 60 :: ((v13 n m K x).2 ++ (fP n K 2).2))
def v71 (n m : Int32) (K : Nat) (x : Int32) : VR := ((fS n m K K x).1 - (v13 n m K x).1, 71 :: ((fS n m K K x).2 ++ (v13 n m K x).2))
def fT (n m : Int32) (K k : Nat) (x : Int32) : VR := if k = 6 then v71 n m K x else if k = 5 then v60 n m K x else v13 n m K x
theorem lP (n : Int32) (k : Nat) (x : Int32) : (fP n k x).2.length ≤ 2 := by unfold fP; split <;> (show _ ≤ _; simp only [v30, v10, List.length_cons, List.length_nil]; omega)
theorem lR (n m : Int32) (k : Nat) (x : Int32) : (fR n m k x).2.length ≤ 3 := by
  unfold fR
  split
  · simp only [v70, v40, v12, List.length_cons, List.length_nil]; omega
  · split <;> (simp only [v40, v12, List.length_cons, List.length_nil]; omega)
theorem l11 (n : Int32) (k : Nat) (x : Int32) : (v11 n k x).2.length ≤ 3 := by
  have := lP n k x
  simp only [v11, List.length_cons]; omega
theorem l20 (n m : Int32) (k : Nat) (x : Int32) : (v20 n m k x).2.length ≤ 7 := by
  have := l11 n k x
  have := lR n m k 1
  simp only [v20, List.length_cons, List.length_append]; omega
theorem l50 (n m : Int32) (k : Nat) (x : Int32) : (v50 n m k x).2.length ≤ 8 := by
  have := l20 n m k (x + 1)
  simp only [v50, List.length_cons]; omega
theorem lS (n m : Int32) (K k : Nat) (x : Int32) : (fS n m K k x).2.length ≤ 8 := by
  have := l20 n m K x
  have := l50 n m K x
  have := l11 n K x
  unfold fS
  split
  · omega
  · split <;> omega
theorem l13 (n m : Int32) (k : Nat) (x : Int32) : (v13 n m k x).2.length ≤ 12 := by
  have := lS n m k k x
  have := lR n m k x
  simp only [v13, List.length_cons, List.length_append]; omega
theorem lT (n m : Int32) (K k : Nat) (x : Int32) : (fT n m K k x).2.length ≤ 21 := by
  have := l13 n m K x
  have := lS n m K K x
  have := lP n K 2
  unfold fT
  split
  · simp only [v71, List.length_cons, List.length_append]; omega
  · split
    · simp only [v60, List.length_cons, List.length_append]; omega
    · omega
/-- the class's chorus amid a call -/
def C8 (K : Nat) (n m : Int32) (h0 : Hp) (tr : List Int32) (h : Hp) : Prop := RF h ∧ (∀ a, a ≠ 83 → a ≠ 84 → h.1 a = h0.1 a) ∧ h.1 83 2 = nI K ∧ h.1 83 3 = n ∧ h.1 83 4 = m ∧ h.1 83 1 = nI tr.length ∧ ∀ i, i < tr.length → h.1 84 i = tr.getD i 0
/-- the reference's -/
def M8 (h0 : Hp) (tr : List Int32) (h : Hp) : Prop := RF h ∧ (∀ a, a ≠ 94 → a ≠ 113 → h.1 a = h0.1 a) ∧ (∀ k, k ≠ 32 → h.1 94 k = h0.1 94 k) ∧ h.1 94 32 = nI tr.length ∧ ∀ i, i < tr.length → h.1 113 i = tr.getD i 0
theorem getD_app (tr : List Int32) (b : Int32) (i : Nat) : (tr ++ [b]).getD i 0 = if i < tr.length then tr.getD i 0 else if i = tr.length then b else 0 := by
  simp only [List.getD_eq_getElem?_getD, List.getElem?_append]
  split
  · rfl
  · split
    · rename_i e; subst e; simp
    · rename_i a b'
      have : i - tr.length ≠ 0 := by omega
      rw [List.getElem?_eq_none (by simp only [List.length_cons, List.length_nil]; omega)]; rfl
theorem c8_ran {K : Nat} {n m b : Int32} {h0 : Hp} {tr : List Int32} (w : C8 K n m h0 tr h) (hl : tr.length < 40) : C8 K n m h0 (tr ++ [b]) (sI (sI h 84 (Int32.toNatClampNeg (h.1 83 1)) b) 83 1 (h.1 83 1 + 1)) := by
  obtain ⟨w1, w2, w3, w4, w5, w6, w7⟩ := w
  have ec : Int32.toNatClampNeg (h.1 83 1) = tr.length := by rw [w6]; exact cl_of (ti_nI (by omega))
  refine ⟨RF_sI (RF_sI w1), fun a z1 z2 => ?_, ?_, ?_, ?_, ?_, fun i hi => ?_⟩
  · funext t
    rw [sI_ne (by omega), sI_ne (by omega), w2 a z1 z2]
  · rw [sI_ne (by omega), sI_ne (by omega), w3]
  · rw [sI_ne (by omega), sI_ne (by omega), w4]
  · rw [sI_ne (by omega), sI_ne (by omega), w5]
  · rw [sI_self, w6, nI_1, List.length_append]; rfl
  · rw [List.length_append] at hi
    simp only [List.length_cons, List.length_nil] at hi
    rw [sI_ne (by omega), sI_at, ec, getD_app]
    by_cases c : i < tr.length
    · rw [if_neg (by omega), if_pos c]; exact w7 i c
    · rw [if_pos (by omega), if_neg c, if_pos (by omega)]
theorem m8_ran {b : Int32} {h0 : Hp} {tr : List Int32} (w : M8 h0 tr h) (hl : tr.length < 40) (hd : 1 ≤ d) (k : ∀ h', M8 h0 (tr ++ [b]) h' → QW h') : EvV G d mX12_ran [.inr (.inr (some 94)), .inl b] h QW := by
  obtain ⟨e, rfl⟩ := dpos (show 1 ≤ d by omega)
  obtain ⟨w1, w2, w3, w6, w7⟩ := w
  have ec : Int32.toNatClampNeg (h.1 94 32) = tr.length := by rw [w6]; exact cl_of (ti_nI (by omega))
  have et : (h.1 94 32).toInt = tr.length := by rw [w6]; exact ti_nI (by omega)
  refine vc_X12_ran w1 ⟨fun z => ?_, fun _ => ⟨in_of (by omega) (by omega), k _ ⟨RF_sI (RF_sI w1), fun a z1 z2 => ?_, fun k z => ?_, ?_, fun i hi => ?_⟩⟩⟩
  · exfalso
    rw [i_le, et] at z
    simp only [Int32.reduceToInt] at z
    omega
  · funext t
    rw [sI_ne (by omega), sI_ne (by omega), w2 a z1 z2]
  · rw [sI_ne (by omega), sI_ne (by omega), w3 k z]
  · rw [sI_self, w6, nI_1, List.length_append]; rfl
  · rw [List.length_append] at hi
    simp only [List.length_cons, List.length_nil] at hi
    rw [sI_ne (by omega), sI_at, ec, getD_app]
    by_cases c : i < tr.length
    · rw [if_neg (by omega), if_pos c]; exact w7 i c
    · rw [if_pos (by omega), if_neg c, if_pos (by omega)]
theorem app1 (tr L : List Int32) (b : Int32) : (tr ++ [b]) ++ L = tr ++ b :: L := by simp
theorem app2 (tr L1 L2 : List Int32) (b : Int32) : ((tr ++ [b]) ++ L1) ++ L2 = tr ++ b :: (L1 ++ L2) := by simp
theorem run_10 {n m : Int32} {kk : Nat} {h0 : Hp} {tr : List Int32} {a2 a3 : Int32} (hd : 1 ≤ d) (w : C8 kk n m h0 tr h) (hl : tr.length < 40) (h3 : a3.toInt ≤ 40) (K : ∀ h', C8 kk n m h0 (tr ++ [10]) h' → Q (a2 + n) h') : EvI G (d + 1) mX0_run [.inr (.inr (some 83)), .inl 10, .inl a2, .inl a3] h Q := by
  have el : (h.1 83 1).toInt = (tr.length : Int) := by rw [w.2.2.2.2.2.1]; exact ti_nI (by omega)
  have K' := K _ (c8_ran (b := 10) w hl)
  refine vc_X0_run w.1 ⟨fun _ => ev_within w.1 hd (br2 (fun _ => ⟨in_of (by omega) (by omega), ⟨fun _ => (by rw [← w.2.2.2.1] at K'; exact K'), fun z => absurd (by decide) z⟩⟩) (fun z => absurd ⟨by rw [el]; simp only [Int32.reduceToInt]; omega, by rw [el]; show (tr.length : Int) ≤ 39; omega⟩ z)), fun z => absurd (show a3 ≤ 40 by rw [i_le]; exact h3) z⟩
theorem run_11 {n m : Int32} {kk : Nat} {h0 : Hp} {tr : List Int32} {a2 a3 : Int32} (hd : 1 ≤ d) (w : C8 kk n m h0 tr h) (hl : tr.length < 40) (h3 : a3.toInt ≤ 40) (K : ∀ h', C8 kk n m h0 (tr ++ [11]) h' → EvI G d mX0_own [.inr (.inr (some 83)), .inl 0, .inl a2, .inl a3] h' (fun y h7 => Q (y * 2) h7)) : EvI G (d + 1) mX0_run [.inr (.inr (some 83)), .inl 11, .inl a2, .inl a3] h Q := by
  have el : (h.1 83 1).toInt = (tr.length : Int) := by rw [w.2.2.2.2.2.1]; exact ti_nI (by omega)
  have K' := K _ (c8_ran (b := 11) w hl)
  refine vc_X0_run w.1 ⟨fun _ => ev_within w.1 hd (br2 (fun _ => ⟨in_of (by omega) (by omega), ⟨fun z => absurd z (by decide), fun _ => ⟨fun _ => K', fun z => absurd (by decide) z⟩⟩⟩) (fun z => absurd ⟨by rw [el]; simp only [Int32.reduceToInt]; omega, by rw [el]; show (tr.length : Int) ≤ 39; omega⟩ z)), fun z => absurd (show a3 ≤ 40 by rw [i_le]; exact h3) z⟩
theorem run_12 {n m : Int32} {kk : Nat} {h0 : Hp} {tr : List Int32} {a2 a3 : Int32} (hd : 1 ≤ d) (w : C8 kk n m h0 tr h) (hl : tr.length < 40) (h3 : a3.toInt ≤ 40) (K : ∀ h', C8 kk n m h0 (tr ++ [12]) h' → Q (a2 - m) h') : EvI G (d + 1) mX0_run [.inr (.inr (some 83)), .inl 12, .inl a2, .inl a3] h Q := by
  have el : (h.1 83 1).toInt = (tr.length : Int) := by rw [w.2.2.2.2.2.1]; exact ti_nI (by omega)
  have K' := K _ (c8_ran (b := 12) w hl)
  refine vc_X0_run w.1 ⟨fun _ => ev_within w.1 hd (br2 (fun _ => ⟨in_of (by omega) (by omega), ⟨fun z => absurd z (by decide), fun _ => ⟨fun z => absurd z (by decide), fun _ => ⟨fun _ => (by rw [← w.2.2.2.2.1] at K'; exact K'), fun z => absurd (by decide) z⟩⟩⟩⟩) (fun z => absurd ⟨by rw [el]; simp only [Int32.reduceToInt]; omega, by rw [el]; show (tr.length : Int) ≤ 39; omega⟩ z)), fun z => absurd (show a3 ≤ 40 by rw [i_le]; exact h3) z⟩
theorem run_13 {n m : Int32} {kk : Nat} {h0 : Hp} {tr : List Int32} {a2 a3 : Int32} (hd : 1 ≤ d) (w : C8 kk n m h0 tr h) (hl : tr.length < 40) (h3 : a3.toInt ≤ 40) (K : ∀ h', C8 kk n m h0 (tr ++ [13]) h' → EvI G d mX0_own [.inr (.inr (some 83)), .inl 1, .inl a2, .inl a3] h' (fun y h7 => EvI G d mX0_own [.inr (.inr (some 83)), .inl 2, .inl a2, .inl a3] h7 (fun z h8 => Q (y ^^^ z) h8))) : EvI G (d + 1) mX0_run [.inr (.inr (some 83)), .inl 13, .inl a2, .inl a3] h Q := by
  have el : (h.1 83 1).toInt = (tr.length : Int) := by rw [w.2.2.2.2.2.1]; exact ti_nI (by omega)
  have K' := K _ (c8_ran (b := 13) w hl)
  refine vc_X0_run w.1 ⟨fun _ => ev_within w.1 hd (br2 (fun _ => ⟨in_of (by omega) (by omega), ⟨fun z => absurd z (by decide), fun _ => ⟨fun z => absurd z (by decide), fun _ => ⟨fun z => absurd z (by decide), fun _ => ⟨fun _ => K', fun z => absurd (by decide) z⟩⟩⟩⟩⟩) (fun z => absurd ⟨by rw [el]; simp only [Int32.reduceToInt]; omega, by rw [el]; show (tr.length : Int) ≤ 39; omega⟩ z)), fun z => absurd (show a3 ≤ 40 by rw [i_le]; exact h3) z⟩
theorem run_20 {n m : Int32} {kk : Nat} {h0 : Hp} {tr : List Int32} {a2 a3 : Int32} (hd : 1 ≤ d) (w : C8 kk n m h0 tr h) (hl : tr.length < 40) (h3 : a3.toInt ≤ 40) (K : ∀ h', C8 kk n m h0 (tr ++ [20]) h' → EvI G d mX0_above [.inr (.inr (some 83)), .inl 20, .inl 1, .inl a2, .inl a3] h' (fun y h7 => EvI G d mX0_own [.inr (.inr (some 83)), .inl 2, .inl 1, .inl a3] h7 (fun z h8 => Q (y - z) h8))) : EvI G (d + 1) mX0_run [.inr (.inr (some 83)), .inl 20, .inl a2, .inl a3] h Q := by
  have el : (h.1 83 1).toInt = (tr.length : Int) := by rw [w.2.2.2.2.2.1]; exact ti_nI (by omega)
  have K' := K _ (c8_ran (b := 20) w hl)
  refine vc_X0_run w.1 ⟨fun _ => ev_within w.1 hd (br2 (fun _ => ⟨in_of (by omega) (by omega), ⟨fun z => absurd z (by decide), fun _ => ⟨fun z => absurd z (by decide), fun _ => ⟨fun z => absurd z (by decide), fun _ => ⟨fun z => absurd z (by decide), fun _ => ⟨fun _ => K', fun z => absurd (by decide) z⟩⟩⟩⟩⟩⟩) (fun z => absurd ⟨by rw [el]; simp only [Int32.reduceToInt]; omega, by rw [el]; show (tr.length : Int) ≤ 39; omega⟩ z)), fun z => absurd (show a3 ≤ 40 by rw [i_le]; exact h3) z⟩
theorem run_30 {n m : Int32} {kk : Nat} {h0 : Hp} {tr : List Int32} {a2 a3 : Int32} (hd : 1 ≤ d) (w : C8 kk n m h0 tr h) (hl : tr.length < 40) (h3 : a3.toInt ≤ 40) (K : ∀ h', C8 kk n m h0 (tr ++ [30]) h' → EvI G d mX0_above [.inr (.inr (some 83)), .inl 30, .inl 0, .inl a2, .inl a3] h' (fun y h7 => Q (y * 3) h7)) : EvI G (d + 1) mX0_run [.inr (.inr (some 83)), .inl 30, .inl a2, .inl a3] h Q := by
  have el : (h.1 83 1).toInt = (tr.length : Int) := by rw [w.2.2.2.2.2.1]; exact ti_nI (by omega)
  have K' := K _ (c8_ran (b := 30) w hl)
  refine vc_X0_run w.1 ⟨fun _ => ev_within w.1 hd (br2 (fun _ => ⟨in_of (by omega) (by omega), ⟨fun z => absurd z (by decide), fun _ => ⟨fun z => absurd z (by decide), fun _ => ⟨fun z => absurd z (by decide), fun _ => ⟨fun z => absurd z (by decide), fun _ => ⟨fun z => absurd z (by decide), fun _ => ⟨fun _ => K', fun z => absurd (by decide) z⟩⟩⟩⟩⟩⟩⟩) (fun z => absurd ⟨by rw [el]; simp only [Int32.reduceToInt]; omega, by rw [el]; show (tr.length : Int) ≤ 39; omega⟩ z)), fun z => absurd (show a3 ≤ 40 by rw [i_le]; exact h3) z⟩
theorem run_40 {n m : Int32} {kk : Nat} {h0 : Hp} {tr : List Int32} {a2 a3 : Int32} (hd : 1 ≤ d) (w : C8 kk n m h0 tr h) (hl : tr.length < 40) (h3 : a3.toInt ≤ 40) (K : ∀ h', C8 kk n m h0 (tr ++ [40]) h' → EvI G d mX0_above [.inr (.inr (some 83)), .inl 40, .inl 2, .inl a2, .inl a3] h' (fun y h7 => Q (-y) h7)) : EvI G (d + 1) mX0_run [.inr (.inr (some 83)), .inl 40, .inl a2, .inl a3] h Q := by
  have el : (h.1 83 1).toInt = (tr.length : Int) := by rw [w.2.2.2.2.2.1]; exact ti_nI (by omega)
  have K' := K _ (c8_ran (b := 40) w hl)
  refine vc_X0_run w.1 ⟨fun _ => ev_within w.1 hd (br2 (fun _ => ⟨in_of (by omega) (by omega), ⟨fun z => absurd z (by decide), fun _ => ⟨fun z => absurd z (by decide), fun _ => ⟨fun z => absurd z (by decide), fun _ => ⟨fun z => absurd z (by decide), fun _ => ⟨fun z => absurd z (by decide), fun _ => ⟨fun z => absurd z (by decide), fun _ => ⟨fun _ => K', fun z => absurd (by decide) z⟩⟩⟩⟩⟩⟩⟩⟩) (fun z => absurd ⟨by rw [el]; simp only [Int32.reduceToInt]; omega, by rw [el]; show (tr.length : Int) ≤ 39; omega⟩ z)), fun z => absurd (show a3 ≤ 40 by rw [i_le]; exact h3) z⟩
theorem run_50 {n m : Int32} {kk : Nat} {h0 : Hp} {tr : List Int32} {a2 a3 : Int32} (hd : 1 ≤ d) (w : C8 kk n m h0 tr h) (hl : tr.length < 40) (h3 : a3.toInt ≤ 40) (K : ∀ h', C8 kk n m h0 (tr ++ [50]) h' → EvI G d mX0_above [.inr (.inr (some 83)), .inl 50, .inl 1, .inl (a2 + 1), .inl a3] h' (fun y h7 => Q y h7)) : EvI G (d + 1) mX0_run [.inr (.inr (some 83)), .inl 50, .inl a2, .inl a3] h Q := by
  have el : (h.1 83 1).toInt = (tr.length : Int) := by rw [w.2.2.2.2.2.1]; exact ti_nI (by omega)
  have K' := K _ (c8_ran (b := 50) w hl)
  refine vc_X0_run w.1 ⟨fun _ => ev_within w.1 hd (br2 (fun _ => ⟨in_of (by omega) (by omega), ⟨fun z => absurd z (by decide), fun _ => ⟨fun z => absurd z (by decide), fun _ => ⟨fun z => absurd z (by decide), fun _ => ⟨fun z => absurd z (by decide), fun _ => ⟨fun z => absurd z (by decide), fun _ => ⟨fun z => absurd z (by decide), fun _ => ⟨fun z => absurd z (by decide), fun _ => ⟨fun _ => K', fun z => absurd (by decide) z⟩⟩⟩⟩⟩⟩⟩⟩⟩) (fun z => absurd ⟨by rw [el]; simp only [Int32.reduceToInt]; omega, by rw [el]; show (tr.length : Int) ≤ 39; omega⟩ z)), fun z => absurd (show a3 ≤ 40 by rw [i_le]; exact h3) z⟩
theorem run_60 {n m : Int32} {kk : Nat} {h0 : Hp} {tr : List Int32} {a2 a3 : Int32} (hd : 1 ≤ d) (w : C8 kk n m h0 tr h) (hl : tr.length < 40) (h3 : a3.toInt ≤ 40) (K : ∀ h', C8 kk n m h0 (tr ++ [60]) h' → EvI G d mX0_above [.inr (.inr (some 83)), .inl 60, .inl 3, .inl a2, .inl a3] h' (fun y h7 => EvI G d mX0_own [.inr (.inr (some 83)), .inl 0, .inl 2, .inl a3] h7 (fun z h8 => Q (y - z) h8))) : EvI G (d + 1) mX0_run [.inr (.inr (some 83)), .inl 60, .inl a2, .inl a3] h Q := by
  have el : (h.1 83 1).toInt = (tr.length : Int) := by rw [w.2.2.2.2.2.1]; exact ti_nI (by omega)
  have K' := K _ (c8_ran (b := 60) w hl)
  refine vc_X0_run w.1 ⟨fun _ => ev_within w.1 hd (br2 (fun _ => ⟨in_of (by omega) (by omega), ⟨fun z => absurd z (by decide), fun _ => ⟨fun z => absurd z (by decide), fun _ => ⟨fun z => absurd z (by decide), fun _ => ⟨fun z => absurd z (by decide), fun _ => ⟨fun z => absurd z (by decide), fun _ => ⟨fun z => absurd z (by decide), fun _ => ⟨fun z => absurd z (by decide), fun _ => ⟨fun z => absurd z (by decide), fun _ => ⟨fun _ => K', fun z => absurd (by decide) z⟩⟩⟩⟩⟩⟩⟩⟩⟩⟩) (fun z => absurd ⟨by rw [el]; simp only [Int32.reduceToInt]; omega, by rw [el]; show (tr.length : Int) ≤ 39; omega⟩ z)), fun z => absurd (show a3 ≤ 40 by rw [i_le]; exact h3) z⟩
theorem run_70 {n m : Int32} {kk : Nat} {h0 : Hp} {tr : List Int32} {a2 a3 : Int32} (hd : 1 ≤ d) (w : C8 kk n m h0 tr h) (hl : tr.length < 40) (h3 : a3.toInt ≤ 40) (K : ∀ h', C8 kk n m h0 (tr ++ [70]) h' → EvI G d mX0_above [.inr (.inr (some 83)), .inl 70, .inl 2, .inl a2, .inl a3] h' (fun y h7 => Q (y ^^^ h7.1 83 3) h7)) : EvI G (d + 1) mX0_run [.inr (.inr (some 83)), .inl 70, .inl a2, .inl a3] h Q := by
  have el : (h.1 83 1).toInt = (tr.length : Int) := by rw [w.2.2.2.2.2.1]; exact ti_nI (by omega)
  have K' := K _ (c8_ran (b := 70) w hl)
  refine vc_X0_run w.1 ⟨fun _ => ev_within w.1 hd (br2 (fun _ => ⟨in_of (by omega) (by omega), ⟨fun z => absurd z (by decide), fun _ => ⟨fun z => absurd z (by decide), fun _ => ⟨fun z => absurd z (by decide), fun _ => ⟨fun z => absurd z (by decide), fun _ => ⟨fun z => absurd z (by decide), fun _ => ⟨fun z => absurd z (by decide), fun _ => ⟨fun z => absurd z (by decide), fun _ => ⟨fun z => absurd z (by decide), fun _ => ⟨fun z => absurd z (by decide), fun _ => ⟨fun _ => K', fun z => absurd (by decide) z⟩⟩⟩⟩⟩⟩⟩⟩⟩⟩⟩) (fun z => absurd ⟨by rw [el]; simp only [Int32.reduceToInt]; omega, by rw [el]; show (tr.length : Int) ≤ 39; omega⟩ z)), fun z => absurd (show a3 ≤ 40 by rw [i_le]; exact h3) z⟩
theorem run_71 {n m : Int32} {kk : Nat} {h0 : Hp} {tr : List Int32} {a2 a3 : Int32} (hd : 1 ≤ d) (w : C8 kk n m h0 tr h) (hl : tr.length < 40) (h3 : a3.toInt ≤ 40) (K : ∀ h', C8 kk n m h0 (tr ++ [71]) h' → EvI G d mX0_own [.inr (.inr (some 83)), .inl 1, .inl a2, .inl a3] h' (fun y h7 => EvI G d mX0_above [.inr (.inr (some 83)), .inl 71, .inl 3, .inl a2, .inl a3] h7 (fun z h8 => Q (y - z) h8))) : EvI G (d + 1) mX0_run [.inr (.inr (some 83)), .inl 71, .inl a2, .inl a3] h Q := by
  have el : (h.1 83 1).toInt = (tr.length : Int) := by rw [w.2.2.2.2.2.1]; exact ti_nI (by omega)
  have K' := K _ (c8_ran (b := 71) w hl)
  refine vc_X0_run w.1 ⟨fun _ => ev_within w.1 hd (br2 (fun _ => ⟨in_of (by omega) (by omega), ⟨fun z => absurd z (by decide), fun _ => ⟨fun z => absurd z (by decide), fun _ => ⟨fun z => absurd z (by decide), fun _ => ⟨fun z => absurd z (by decide), fun _ => ⟨fun z => absurd z (by decide), fun _ => ⟨fun z => absurd z (by decide), fun _ => ⟨fun z => absurd z (by decide), fun _ => ⟨fun z => absurd z (by decide), fun _ => ⟨fun z => absurd z (by decide), fun _ => ⟨fun z => absurd z (by decide), fun _ => ⟨fun _ => K', fun z => absurd (by decide) z⟩⟩⟩⟩⟩⟩⟩⟩⟩⟩⟩⟩) (fun z => absurd ⟨by rw [el]; simp only [Int32.reduceToInt]; omega, by rw [el]; show (tr.length : Int) ≤ 39; omega⟩ z)), fun z => absurd (show a3 ≤ 40 by rw [i_le]; exact h3) z⟩
/-- a call adds what f says, and answers it -/
def Yd (G : GT) (S : List Int32 → Hp → Prop) (D : Nat) (M : MR) (args : List MV) (f : VR) : Prop := ∀ (d : Nat) (tr : List Int32) (h : Hp) (Q : Int32 → Hp → Prop), D ≤ d → tr.length + f.2.length ≤ 40 → S tr h → (∀ h', S (tr ++ f.2) h' → Q f.1 h') → EvI G d M args h Q
theorem Yd.up {S : List Int32 → Hp → Prop} {D D' : Nat} {M : MR} {args : List MV} {f : VR} (y : Yd G S D M args f) (hD : D ≤ D') : Yd G S D' M args f := fun d tr h Q hd => y d tr h Q (Nat.le_trans hD hd)
/-- the body a kind has for an act, its own or one above -/
def rsF (act : Nat) : Nat → Nat → Int32
  | 0, _ => 0
  | f + 1, k => if BODY.getD (4 * k + act) 0 = 0 then rsF act f (if 4 ≤ k then k - 3 else 0) else BODY.getD (4 * k + act) 0
theorem nI_inj6 {a b : Nat} (ha : a < 7) (hb : b < 7) (e : nI a = nI b) : a = b := by
  have := congrArg Int32.toInt e
  rw [ti_nI (by omega), ti_nI (by omega)] at this
  omega
theorem rg_call {x dp : Int32} {act : Nat} (hR : RF h) (hd : 1 ≤ d) (ha : act ≤ 3) : ∀ (f k i : Nat), k ≤ 6 → i + f ≤ 7 → (k = 0 → 1 ≤ f) → rsF act f k ≠ 0 → EvI G d mX0_run [.inr (.inr (some 83)), .inl (rsF act f k), .inl x, .inl dp] h Q → Rg_X0_call_6 G d (nI act) x dp (nI k) (nI i) h Q := by
  intro f
  induction f with
  | zero => intro k i hk hi _ h0; exact absurd rfl h0
  | succ f ih =>
    intro k i hk hi _ h0 K
    have ei : (nI i).toInt = (i : Int) := ti_nI (by omega)
    have ek : (nI k).toInt = (k : Int) := ti_nI (by omega)
    have ep : ((nI k * 4) + nI act).toInt = ((4 * k + act : Nat) : Int) := ti_of (by push_cast; simp only [oi_add, oi_mul, oi_nat]; rw [Int32.mul_comm]; rfl) (by omega) (by omega)
    refine vc_X0_call_6 hR ⟨fun z => ?_, fun _ => ev_within hR hd (br2 (fun _ => ev_within hR hd (br2 (fun _ => ⟨in_of (by omega) (by omega), ?_⟩) (fun z => absurd ⟨by rw [ep]; simp only [Int32.reduceToInt]; omega, by rw [ep]; show _ ≤ (27 : Int); omega⟩ z))) (fun z => absurd ⟨by rw [ek]; simp only [Int32.reduceToInt]; omega, by rw [ek]; simp only [Int32.reduceToInt]; omega⟩ z))⟩
    · exfalso
      rw [i_lt, ei] at z
      simp only [Int32.reduceToInt] at z
      omega
    · rw [cl_of ep]
      refine ⟨fun z => ?_, fun z => ?_⟩
      · have er : rsF act (f + 1) k = rsF act f (if 4 ≤ k then k - 3 else 0) := by
          show (if _ then _ else _) = _
          rw [if_pos z]
        rw [er] at h0 K
        have k0 : k ≠ 0 := fun y => by
          subst y
          have : ∀ a, a < 4 → ¬ BODY.getD (4 * 0 + a) 0 = 0 := by decide
          exact this act (by omega) z
        refine ev_aboveK hR hd (by omega) (fun v v1 v2 v3 => ?_)
        have ev : v = nI (if 4 ≤ k then k - 3 else 0) := by
          refine eq_nI ?_
          split <;> omega
        rw [ev, nI_1]
        refine ih _ (i + 1) (by split <;> omega) (by omega) (fun y => ?_) h0 K
        cases f with
        | zero => exact absurd rfl h0
        | succ f => omega
      · have er : rsF act (f + 1) k = BODY.getD (4 * k + act) 0 := by
          show (if _ then _ else _) = _
          rw [if_neg z]
        rw [er] at K
        exact K
theorem y_call {S : List Int32 → Hp → Prop} (SR : ∀ tr h, S tr h → RF h) {D act k : Nat} {a b x e : Int32} {f : VR} (hD : 1 ≤ D) (ea : a = nI act) (ha : act ≤ 3) (hk : k ≤ 6) (eb : rsF act 3 k = b) (b0 : b ≠ 0) (y : Yd G S D mX0_run [.inr (.inr (some 83)), .inl b, .inl x, .inl e] f) : Yd G S (D + 1) mX0_call [.inr (.inr (some 83)), .inl (nI k), .inl a, .inl x, .inl e] f := by
  intro d tr h Q hd hl s K
  obtain ⟨d, rfl⟩ := dpos (show 1 ≤ d by omega)
  subst ea
  refine vc_X0_call (SR _ _ s) (rg_call (SR _ _ s) (by omega) ha 3 k 0 hk (by omega) (fun _ => by omega) (by rw [eb]; exact b0) ?_)
  rw [eb]
  exact y d tr h Q (by omega) hl s K
theorem y_own {K : Nat} {n m : Int32} {h0 : Hp} {D : Nat} {a x : Int32} {e : Nat} {f : VR} (y : Yd G (C8 K n m h0) D mX0_call [.inr (.inr (some 83)), .inl (nI K), .inl a, .inl x, .inl (nI (e + 1))] f) : Yd G (C8 K n m h0) (D + 1) mX0_own [.inr (.inr (some 83)), .inl a, .inl x, .inl (nI e)] f := by
  intro d tr h Q hd hl s k
  obtain ⟨d, rfl⟩ := dpos (show 1 ≤ d by omega)
  refine vc_X0_own s.1 ?_
  rw [s.2.2.1, nI_1]
  exact y d tr h Q (by omega) hl s k
theorem y_above {S : List Int32 → Hp → Prop} (SR : ∀ tr h, S tr h → RF h) {D : Nat} {a b x : Int32} {e k k' : Nat} {f : VR} (hD : 1 ≤ D) (eb : b / 10 - 1 = nI k) (hk : 1 ≤ k ∧ k ≤ 6) (ek : k' = if 4 ≤ k then k - 3 else 0) (y : Yd G S D mX0_call [.inr (.inr (some 83)), .inl (nI k'), .inl a, .inl x, .inl (nI (e + 1))] f) : Yd G S (D + 1) mX0_above [.inr (.inr (some 83)), .inl b, .inl a, .inl x, .inl (nI e)] f := by
  intro d tr h Q hd hl s K
  obtain ⟨d, rfl⟩ := dpos (show 1 ≤ d by omega)
  have et : (nI k).toInt = (k : Int) := ti_nI (by omega)
  refine vc_X0_above (SR _ _ s) ?_
  rw [eb, nI_1]
  refine ev_aboveK (SR _ _ s) (by omega) (by omega) (fun v v1 v2 v3 => ?_)
  have ev : v = nI k' := by
    refine eq_nI ?_
    subst ek
    split <;> omega
  rw [ev]
  exact y d tr h Q (by omega) hl s K
section
variable {K : Nat} {n m : Int32} {h0 : Hp}
theorem c8R : ∀ tr h, C8 K n m h0 tr h → RF h := fun _ _ w => w.1
theorem te {e N : Nat} (h : e ≤ N) (hN : N ≤ 40) : (nI e).toInt ≤ 40 := by rw [ti_nI (by omega)]; omega
theorem y10 {x : Int32} {e : Nat} (he : e ≤ 40) : Yd G (C8 K n m h0) 2 mX0_run [.inr (.inr (some 83)), .inl 10, .inl x, .inl (nI e)] (v10 n x) := by
  intro d tr h Q hd hl s k
  obtain ⟨d, rfl⟩ := dpos (show 1 ≤ d by omega)
  simp only [v10, List.length_cons, List.length_nil] at hl
  exact run_10 (by omega) s (by omega) (te he (by omega)) (fun h' w => k h' w)
theorem y12 {x : Int32} {e : Nat} (he : e ≤ 40) : Yd G (C8 K n m h0) 2 mX0_run [.inr (.inr (some 83)), .inl 12, .inl x, .inl (nI e)] (v12 m x) := by
  intro d tr h Q hd hl s k
  obtain ⟨d, rfl⟩ := dpos (show 1 ≤ d by omega)
  simp only [v12, List.length_cons, List.length_nil] at hl
  exact run_12 (by omega) s (by omega) (te he (by omega)) (fun h' w => k h' w)
theorem y30 {x : Int32} {e : Nat} (he : e ≤ 39) : Yd G (C8 K n m h0) 5 mX0_run [.inr (.inr (some 83)), .inl 30, .inl x, .inl (nI e)] (v30 n x) := by
  intro d tr h Q hd hl s k
  obtain ⟨d, rfl⟩ := dpos (show 1 ≤ d by omega)
  simp only [v30, List.length_cons] at hl
  refine run_30 (by omega) s (by omega) (te he (by omega)) (fun h' w => ?_)
  refine (y_above c8R (by omega) (k := 2) (k' := 0) (by decide) (by omega) rfl (y_call c8R (by omega) (act := 0) (by decide) (by omega) (by omega) (b := 10) (by decide) (by decide) (y10 (by omega)))) d _ h' _ (by omega) (by rw [List.length_append]; simp only [List.length_cons, List.length_nil]; omega) w (fun h2 w2 => ?_)
  rw [app1] at w2
  exact k h2 w2
theorem y40 {x : Int32} {e : Nat} (he : e ≤ 39) : Yd G (C8 K n m h0) 5 mX0_run [.inr (.inr (some 83)), .inl 40, .inl x, .inl (nI e)] (v40 m x) := by
  intro d tr h Q hd hl s k
  obtain ⟨d, rfl⟩ := dpos (show 1 ≤ d by omega)
  simp only [v40, List.length_cons] at hl
  refine run_40 (by omega) s (by omega) (te he (by omega)) (fun h' w => ?_)
  refine (y_above c8R (by omega) (k := 3) (k' := 0) (by decide) (by omega) rfl (y_call c8R (by omega) (act := 2) (by decide) (by omega) (by omega) (b := 12) (by decide) (by decide) (y12 (by omega)))) d _ h' _ (by omega) (by rw [List.length_append]; simp only [List.length_cons, List.length_nil]; omega) w (fun h2 w2 => ?_)
  rw [app1] at w2
  exact k h2 w2
theorem y70 {x : Int32} {e : Nat} (he : e ≤ 38) : Yd G (C8 K n m h0) 8 mX0_run [.inr (.inr (some 83)), .inl 70, .inl x, .inl (nI e)] (v70 n m x) := by
  intro d tr h Q hd hl s k
  obtain ⟨d, rfl⟩ := dpos (show 1 ≤ d by omega)
  simp only [v70, List.length_cons] at hl
  refine run_70 (by omega) s (by omega) (te he (by omega)) (fun h' w => ?_)
  refine (y_above c8R (by omega) (k := 6) (k' := 3) (by decide) (by omega) rfl (y_call c8R (by omega) (act := 2) (by decide) (by omega) (by omega) (b := 40) (by decide) (by decide) (y40 (by omega)))) d _ h' _ (by omega) (by rw [List.length_append]; simp only [List.length_cons, List.length_nil]; omega) w (fun h2 w2 => ?_)
  rw [app1] at w2
  have K2 := k h2 w2
  rw [w2.2.2.2.1]
  exact K2
theorem yP {x : Int32} {e k : Nat} (he : e ≤ 39) (hk : k ≤ 6) : Yd G (C8 K n m h0) 6 mX0_call [.inr (.inr (some 83)), .inl (nI k), .inl 0, .inl x, .inl (nI e)] (fP n k x) := by
  unfold fP
  by_cases c : k = 2 ∨ k = 5
  · rw [if_pos c]
    exact y_call c8R (by omega) (act := 0) (by decide) (by omega) hk (b := 30) (by rcases c with rfl | rfl <;> decide) (by decide) (y30 he)
  · rw [if_neg c]
    have : ∀ k, k < 7 → ¬ (k = 2 ∨ k = 5) → rsF 0 3 k = 10 := by decide
    exact y_call c8R (by omega) (act := 0) (by decide) (by omega) hk (b := 10) (this k (by omega) c) (by decide) ((y10 (by omega)).up (by omega))
theorem yR {x : Int32} {e k : Nat} (he : e ≤ 38) (hk : k ≤ 6) : Yd G (C8 K n m h0) 9 mX0_call [.inr (.inr (some 83)), .inl (nI k), .inl 2, .inl x, .inl (nI e)] (fR n m k x) := by
  unfold fR
  by_cases c : k = 6
  · rw [if_pos c]
    exact y_call c8R (by omega) (act := 2) (by decide) (by omega) hk (b := 70) (by subst c; decide) (by decide) (y70 he)
  · rw [if_neg c]
    by_cases c2 : k = 3
    · rw [if_pos c2]
      exact y_call c8R (by omega) (act := 2) (by decide) (by omega) hk (b := 40) (by subst c2; decide) (by decide) ((y40 (by omega)).up (by omega))
    · rw [if_neg c2]
      have : ∀ k, k < 7 → ¬ k = 6 → ¬ k = 3 → rsF 2 3 k = 12 := by decide
      exact y_call c8R (by omega) (act := 2) (by decide) (by omega) hk (b := 12) (this k (by omega) c c2) (by decide) ((y12 (by omega)).up (by omega))
theorem y11 {x : Int32} {e : Nat} (hK : K ≤ 6) (he : e ≤ 38) : Yd G (C8 K n m h0) 8 mX0_run [.inr (.inr (some 83)), .inl 11, .inl x, .inl (nI e)] (v11 n K x) := by
  intro d tr h Q hd hl s k
  obtain ⟨d, rfl⟩ := dpos (show 1 ≤ d by omega)
  simp only [v11, List.length_cons] at hl
  refine run_11 (by omega) s (by omega) (te he (by omega)) (fun h' w => ?_)
  refine (y_own (yP (by omega) hK)) d _ h' _ (by omega) (by rw [List.length_append]; simp only [List.length_cons, List.length_nil]; omega) w (fun h2 w2 => ?_)
  rw [app1] at w2
  exact k h2 w2
theorem y20 {x : Int32} {e : Nat} (hK : K ≤ 6) (he : e ≤ 37) : Yd G (C8 K n m h0) 11 mX0_run [.inr (.inr (some 83)), .inl 20, .inl x, .inl (nI e)] (v20 n m K x) := by
  intro d tr h Q hd hl s k
  obtain ⟨d, rfl⟩ := dpos (show 1 ≤ d by omega)
  simp only [v20, List.length_cons, List.length_append] at hl
  refine run_20 (by omega) s (by omega) (te he (by omega)) (fun h' w => ?_)
  refine (y_above c8R (by omega) (k := 1) (k' := 0) (by decide) (by omega) rfl (y_call c8R (by omega) (act := 1) (by decide) (by omega) (by omega) (b := 11) (by decide) (by decide) (y11 hK (by omega)))) d _ h' _ (by omega) (by rw [List.length_append]; simp only [List.length_cons, List.length_nil]; omega) w (fun h2 w2 => ?_)
  refine (y_own (yR (by omega) hK)) d _ h2 _ (by omega) (by rw [List.length_append, List.length_append]; simp only [List.length_cons, List.length_nil]; omega) w2 (fun h3 w3 => ?_)
  rw [app2] at w3
  exact k h3 w3
theorem y50 {x : Int32} {e : Nat} (hK : K ≤ 6) (he : e ≤ 36) : Yd G (C8 K n m h0) 14 mX0_run [.inr (.inr (some 83)), .inl 50, .inl x, .inl (nI e)] (v50 n m K x) := by
  intro d tr h Q hd hl s k
  obtain ⟨d, rfl⟩ := dpos (show 1 ≤ d by omega)
  simp only [v50, List.length_cons] at hl
  refine run_50 (by omega) s (by omega) (te he (by omega)) (fun h' w => ?_)
  refine (y_above c8R (by omega) (k := 4) (k' := 1) (by decide) (by omega) rfl (y_call c8R (by omega) (act := 1) (by decide) (by omega) (by omega) (b := 20) (by decide) (by decide) (y20 hK (by omega)))) d _ h' _ (by omega) (by rw [List.length_append]; simp only [List.length_cons, List.length_nil]; omega) w (fun h2 w2 => ?_)
  rw [app1] at w2
  exact k h2 w2
theorem yS {x : Int32} {e k : Nat} (hK : K ≤ 6) (he : e ≤ 36) (hk : k ≤ 6) : Yd G (C8 K n m h0) 15 mX0_call [.inr (.inr (some 83)), .inl (nI k), .inl 1, .inl x, .inl (nI e)] (fS n m K k x) := by
  unfold fS
  by_cases c : k = 4
  · rw [if_pos c]
    exact y_call c8R (by omega) (act := 1) (by decide) (by omega) hk (b := 50) (by subst c; decide) (by decide) (y50 hK he)
  · rw [if_neg c]
    by_cases c2 : k = 1
    · rw [if_pos c2]
      exact y_call c8R (by omega) (act := 1) (by decide) (by omega) hk (b := 20) (by subst c2; decide) (by decide) ((y20 hK (by omega)).up (by omega))
    · rw [if_neg c2]
      have : ∀ k, k < 7 → ¬ k = 4 → ¬ k = 1 → rsF 1 3 k = 11 := by decide
      exact y_call c8R (by omega) (act := 1) (by decide) (by omega) hk (b := 11) (this k (by omega) c c2) (by decide) ((y11 hK (by omega)).up (by omega))
theorem y13 {x : Int32} {e : Nat} (hK : K ≤ 6) (he : e ≤ 35) : Yd G (C8 K n m h0) 17 mX0_run [.inr (.inr (some 83)), .inl 13, .inl x, .inl (nI e)] (v13 n m K x) := by
  intro d tr h Q hd hl s k
  obtain ⟨d, rfl⟩ := dpos (show 1 ≤ d by omega)
  simp only [v13, List.length_cons, List.length_append] at hl
  refine run_13 (by omega) s (by omega) (te he (by omega)) (fun h' w => ?_)
  refine (y_own (yS hK (by omega) hK)) d _ h' _ (by omega) (by rw [List.length_append]; simp only [List.length_cons, List.length_nil]; omega) w (fun h2 w2 => ?_)
  refine (y_own (yR (by omega) hK)) d _ h2 _ (by omega) (by rw [List.length_append, List.length_append]; simp only [List.length_cons, List.length_nil]; omega) w2 (fun h3 w3 => ?_)
  rw [app2] at w3
  exact k h3 w3
theorem y60 {x : Int32} {e : Nat} (hK : K ≤ 6) (he : e ≤ 34) : Yd G (C8 K n m h0) 20 mX0_run [.inr (.inr (some 83)), .inl 60, .inl x, .inl (nI e)] (v60 n m K x) := by
  intro d tr h Q hd hl s k
  obtain ⟨d, rfl⟩ := dpos (show 1 ≤ d by omega)
  simp only [v60, List.length_cons, List.length_append] at hl
  refine run_60 (by omega) s (by omega) (te he (by omega)) (fun h' w => ?_)
  refine (y_above c8R (by omega) (k := 5) (k' := 2) (by decide) (by omega) rfl (y_call c8R (by omega) (act := 3) (by decide) (by omega) (by omega) (b := 13) (by decide) (by decide) (y13 hK (by omega)))) d _ h' _ (by omega) (by rw [List.length_append]; simp only [List.length_cons, List.length_nil]; omega) w (fun h2 w2 => ?_)
  refine (y_own (yP (by omega) hK)) d _ h2 _ (by omega) (by rw [List.length_append, List.length_append]; simp only [List.length_cons, List.length_nil]; omega) w2 (fun h3 w3 => ?_)
  rw [app2] at w3
  exact k h3 w3
theorem y71 {x : Int32} {e : Nat} (hK : K ≤ 6) (he : e ≤ 34) : Yd G (C8 K n m h0) 20 mX0_run [.inr (.inr (some 83)), .inl 71, .inl x, .inl (nI e)] (v71 n m K x) := by
  intro d tr h Q hd hl s k
  obtain ⟨d, rfl⟩ := dpos (show 1 ≤ d by omega)
  simp only [v71, List.length_cons, List.length_append] at hl
  refine run_71 (by omega) s (by omega) (te he (by omega)) (fun h' w => ?_)
  refine (y_own (yS hK (by omega) hK)) d _ h' _ (by omega) (by rw [List.length_append]; simp only [List.length_cons, List.length_nil]; omega) w (fun h2 w2 => ?_)
  refine (y_above c8R (by omega) (k := 6) (k' := 3) (by decide) (by omega) rfl (y_call c8R (by omega) (act := 3) (by decide) (by omega) (by omega) (b := 13) (by decide) (by decide) (y13 hK (by omega)))) d _ h2 _ (by omega) (by rw [List.length_append, List.length_append]; simp only [List.length_cons, List.length_nil]; omega) w2 (fun h3 w3 => ?_)
  rw [app2] at w3
  exact k h3 w3
theorem yT {x : Int32} {e k : Nat} (hK : K ≤ 6) (he : e ≤ 34) (hk : k ≤ 6) : Yd G (C8 K n m h0) 21 mX0_call [.inr (.inr (some 83)), .inl (nI k), .inl 3, .inl x, .inl (nI e)] (fT n m K k x) := by
  unfold fT
  by_cases c : k = 6
  · rw [if_pos c]
    exact y_call c8R (by omega) (act := 3) (by decide) (by omega) hk (b := 71) (by subst c; decide) (by decide) (y71 hK he)
  · rw [if_neg c]
    by_cases c2 : k = 5
    · rw [if_pos c2]
      exact y_call c8R (by omega) (act := 3) (by decide) (by omega) hk (b := 60) (by subst c2; decide) (by decide) ((y60 hK (by omega)).up (by omega))
    · rw [if_neg c2]
      have : ∀ k, k < 7 → ¬ k = 6 → ¬ k = 5 → rsF 3 3 k = 13 := by decide
      exact y_call c8R (by omega) (act := 3) (by decide) (by omega) hk (b := 13) (this k (by omega) c c2) (by decide) ((y13 hK (by omega)).up (by omega))
end
/-! the reference's voice -/
section
variable {K j : Nat} {h0 : Hp}
theorem m8R : ∀ tr h, M8 h0 tr h → RF h := fun _ _ w => w.1
theorem ev_aboveM {k : Nat} {a : Int32} (hR : RF h) (hd : 1 ≤ d) (ea : a = nI k) (hk : k ≤ 6) (q : Q (nI (if 4 ≤ k then k - 3 else 0)) h) : EvI G d mX12_above [.inl a] h Q := by
  obtain ⟨e, rfl⟩ := dpos (show 1 ≤ d by omega)
  subst ea
  have et : (nI k).toInt = (k : Int) := ti_nI (by omega)
  refine vc_X12_above hR ⟨fun z => ?_, fun z => ?_⟩
  · rw [i_le, et] at z
    simp only [Int32.reduceToInt] at z
    rw [if_pos (by omega)] at q
    have : nI k - 3 = nI (k - 3) := by
      rw [i_eq, ti_sub (by rw [et]; simp only [Int32.reduceToInt]; omega) (by rw [et]; simp only [Int32.reduceToInt]; omega), et, ti_nI (by omega)]
      simp only [Int32.reduceToInt]
      omega
    rw [this]
    exact q
  · rw [i_le, et] at z
    simp only [Int32.reduceToInt] at z
    rw [if_neg (by omega)] at q
    exact q
theorem ev_ownM {tr : List Int32} (w : M8 h0 tr h) (hd : 2 ≤ d) (hj : j < 4) (e1 : h0.1 94 33 = nI j) (e2 : h0.1 95 (10 + 5 * j) = nI K) (q : Q (nI K) h) : EvI G d mX12_own [.inr (.inr (some 94))] h Q := by
  obtain ⟨e, rfl⟩ := dpos (show 1 ≤ d by omega)
  refine vc_X12_own w.1 (ev_of w.1 (by omega) (j := j) (by rw [w.2.2.1 33 (by omega)]; exact e1) (w := 0) rfl (by omega) (by omega) ?_)
  rw [w.2.1 95 (by omega) (by omega), show 10 + 5 * j + 0 = 10 + 5 * j by omega, e2]
  exact q
theorem zP {n : Int32} {x : Int32} (e1 : h0.1 94 33 = n) : ∀ (k : Nat), k ≤ 6 → Yd G (M8 h0) (k + 4) mX12_poursBy [.inr (.inr (some 94)), .inl (nI k), .inl x] (fP n k x) := by
  have b0 : Yd G (M8 h0) 4 mX12_poursBy [.inr (.inr (some 94)), .inl (nI 0), .inl x] (v10 n x) := by
    intro d tr h Q hd hl s q
    obtain ⟨e, rfl⟩ := dpos (show 1 ≤ d by omega)
    simp only [v10, List.length_cons, List.length_nil] at hl
    refine vc_X12_poursBy s.1 ⟨fun _ => m8_ran s (by omega) (by omega) (fun h' w => ?_), fun z => absurd (ti_nI (by omega)) z⟩
    rw [w.2.2.1 33 (by omega), e1]
    exact q h' w
  have b2 : Yd G (M8 h0) 6 mX12_poursBy [.inr (.inr (some 94)), .inl (nI 2), .inl x] (v30 n x) := by
    intro d tr h Q hd hl s q
    obtain ⟨e, rfl⟩ := dpos (show 1 ≤ d by omega)
    simp only [v30, List.length_cons] at hl
    refine vc_X12_poursBy s.1 ⟨fun z => absurd z (by decide), fun _ => ⟨fun _ => m8_ran s (by omega) (by omega) (fun h' w => ev_aboveM w.1 (by omega) (k := 2) (by decide) (by omega) (b0 _ _ h' _ (by omega) (by rw [List.length_append]; simp only [List.length_cons, List.length_nil]; omega) w (fun h2 w2 => ?_))), fun z => absurd (by decide) z⟩⟩
    rw [app1] at w2
    exact q h2 w2
  have up : ∀ (k k' D : Nat) (f : VR), 1 ≤ D → 1 ≤ k → k ≠ 2 → k ≤ 6 → k' = (if 4 ≤ k then k - 3 else 0) → Yd G (M8 h0) D mX12_poursBy [.inr (.inr (some 94)), .inl (nI k'), .inl x] f → Yd G (M8 h0) (D + 1) mX12_poursBy [.inr (.inr (some 94)), .inl (nI k), .inl x] f := by
    intro k k' D f hD1 h1 h2 h3 ek y d tr h Q hd hl s q
    obtain ⟨e, rfl⟩ := dpos (show 1 ≤ d by omega)
    have et : (nI k).toInt = (k : Int) := ti_nI (by omega)
    refine vc_X12_poursBy s.1 ⟨fun z => by omega, fun _ => ⟨fun z => by omega, fun _ => ev_aboveM s.1 (by omega) (k := k) rfl (by omega) ?_⟩⟩
    rw [← ek]
    exact y _ tr h _ (by omega) hl s q
  intro k hk
  have hc : k = 0 ∨ k = 1 ∨ k = 2 ∨ k = 3 ∨ k = 4 ∨ k = 5 ∨ k = 6 := by omega
  rcases hc with rfl | rfl | rfl | rfl | rfl | rfl | rfl
  · exact b0
  · exact up 1 0 4 _ (by omega) (by omega) (by omega) (by omega) rfl b0
  · exact b2
  · exact (up 3 0 4 _ (by omega) (by omega) (by omega) (by omega) rfl b0).up (by omega)
  · exact (up 4 1 5 _ (by omega) (by omega) (by omega) (by omega) rfl (up 1 0 4 _ (by omega) (by omega) (by omega) (by omega) rfl b0)).up (by omega)
  · exact (up 5 2 6 _ (by omega) (by omega) (by omega) (by omega) rfl b2).up (by omega)
  · exact (up 6 3 5 _ (by omega) (by omega) (by omega) (by omega) rfl (up 3 0 4 _ (by omega) (by omega) (by omega) (by omega) rfl b0)).up (by omega)
theorem zR {m : Int32} {x : Int32} (hj : j < 4) (e1 : h0.1 94 33 = nI j) (e3 : h0.1 95 (11 + 5 * j) = m) : ∀ (k : Nat), k ≤ 6 → Yd G (M8 h0) (k + 8) mX12_restsBy [.inr (.inr (some 94)), .inl (nI k), .inl x] (fR (nI j) m k x) := by
  have b0 : Yd G (M8 h0) 4 mX12_restsBy [.inr (.inr (some 94)), .inl (nI 0), .inl x] (v12 m x) := by
    intro d tr h Q hd hl s q
    obtain ⟨e, rfl⟩ := dpos (show 1 ≤ d by omega)
    simp only [v12, List.length_cons, List.length_nil] at hl
    refine vc_X12_restsBy s.1 ⟨fun _ => m8_ran s (by omega) (by omega) (fun h' w => ?_), fun z => absurd (ti_nI (by omega)) z⟩
    refine ev_of w.1 (by omega) (j := j) (by rw [w.2.2.1 33 (by omega)]; exact e1) (w := 1) rfl (by omega) (by omega) ?_
    rw [w.2.1 95 (by omega) (by omega), show 10 + 5 * j + 1 = 11 + 5 * j by omega, e3]
    exact q h' w
  have b3 : Yd G (M8 h0) 6 mX12_restsBy [.inr (.inr (some 94)), .inl (nI 3), .inl x] (v40 m x) := by
    intro d tr h Q hd hl s q
    obtain ⟨e, rfl⟩ := dpos (show 1 ≤ d by omega)
    simp only [v40, List.length_cons] at hl
    refine vc_X12_restsBy s.1 ⟨fun z => absurd z (by decide), fun _ => ⟨fun _ => m8_ran s (by omega) (by omega) (fun h' w => ev_aboveM w.1 (by omega) (k := 3) (by decide) (by omega) (b0 _ _ h' _ (by omega) (by rw [List.length_append]; simp only [List.length_cons, List.length_nil]; omega) w (fun h2 w2 => ?_))), fun z => absurd (by decide) z⟩⟩
    rw [app1] at w2
    exact q h2 w2
  have b6 : Yd G (M8 h0) 8 mX12_restsBy [.inr (.inr (some 94)), .inl (nI 6), .inl x] (v70 (nI j) m x) := by
    intro d tr h Q hd hl s q
    obtain ⟨e, rfl⟩ := dpos (show 1 ≤ d by omega)
    simp only [v70, List.length_cons] at hl
    refine vc_X12_restsBy s.1 ⟨fun z => absurd z (by decide), fun _ => ⟨fun z => absurd z (by decide), fun _ => ⟨fun _ => m8_ran s (by omega) (by omega) (fun h' w => ev_aboveM w.1 (by omega) (k := 6) (by decide) (by omega) (b3 _ _ h' _ (by omega) (by rw [List.length_append]; simp only [List.length_cons, List.length_nil]; omega) w (fun h2 w2 => ?_))), fun z => absurd (by decide) z⟩⟩⟩
    rw [app1] at w2
    rw [w2.2.2.1 33 (by omega), e1]
    exact q h2 w2
  have up : ∀ (k k' D : Nat) (f : VR), 1 ≤ D → 1 ≤ k → k ≠ 3 → k < 6 → k' = (if 4 ≤ k then k - 3 else 0) → Yd G (M8 h0) D mX12_restsBy [.inr (.inr (some 94)), .inl (nI k'), .inl x] f → Yd G (M8 h0) (D + 1) mX12_restsBy [.inr (.inr (some 94)), .inl (nI k), .inl x] f := by
    intro k k' D f hD1 h1 h2 h3 ek y d tr h Q hd hl s q
    obtain ⟨e, rfl⟩ := dpos (show 1 ≤ d by omega)
    have et : (nI k).toInt = (k : Int) := ti_nI (by omega)
    refine vc_X12_restsBy s.1 ⟨fun z => by omega, fun _ => ⟨fun z => by omega, fun _ => ⟨fun z => by omega, fun _ => ev_aboveM s.1 (by omega) (k := k) rfl (by omega) ?_⟩⟩⟩
    rw [← ek]
    exact y _ tr h _ (by omega) hl s q
  intro k hk
  have hc : k = 0 ∨ k = 1 ∨ k = 2 ∨ k = 3 ∨ k = 4 ∨ k = 5 ∨ k = 6 := by omega
  have u1 := up 1 0 4 _ (by omega) (by omega) (by omega) (by omega) rfl b0
  have u2 := up 2 0 4 _ (by omega) (by omega) (by omega) (by omega) rfl b0
  rcases hc with rfl | rfl | rfl | rfl | rfl | rfl | rfl
  · exact b0.up (by omega)
  · exact u1.up (by omega)
  · exact u2.up (by omega)
  · exact b3.up (by omega)
  · exact (up 4 1 5 _ (by omega) (by omega) (by omega) (by omega) rfl u1).up (by omega)
  · exact (up 5 2 5 _ (by omega) (by omega) (by omega) (by omega) rfl u2).up (by omega)
  · exact b6.up (by omega)
theorem zS {m : Int32} (hj : j < 4) (hK : K ≤ 6) (e1 : h0.1 94 33 = nI j) (e2 : h0.1 95 (10 + 5 * j) = nI K) (e3 : h0.1 95 (11 + 5 * j) = m) : ∀ (k : Nat) (x : Int32), k ≤ 6 → Yd G (M8 h0) (k + 22) mX12_speaksBy [.inr (.inr (some 94)), .inl (nI k), .inl x] (fS (nI j) m K k x) := by
  have b0 : ∀ x, Yd G (M8 h0) 12 mX12_speaksBy [.inr (.inr (some 94)), .inl (nI 0), .inl x] (v11 (nI j) K x) := by
    intro x d tr h Q hd hl s q
    obtain ⟨e, rfl⟩ := dpos (show 1 ≤ d by omega)
    simp only [v11, List.length_cons, List.length_nil] at hl
    refine vc_X12_speaksBy s.1 ⟨⟨fun _ => m8_ran s (by omega) (by omega) (fun h' w => ev_ownM w (by omega) hj e1 e2 ((zP e1 K hK) _ _ h' _ (by omega) (by rw [List.length_append]; simp only [List.length_cons, List.length_nil]; omega) w (fun h2 w2 => ?_))), fun z => absurd z (by decide), fun z => absurd z (by decide), fun z => absurd z (by decide), fun z => absurd z (by decide)⟩, fun z => absurd z (by decide)⟩
    rw [app1] at w2
    exact q h2 w2
  have b1 : ∀ x, Yd G (M8 h0) 15 mX12_speaksBy [.inr (.inr (some 94)), .inl (nI 1), .inl x] (v20 (nI j) m K x) := by
    intro x d tr h Q hd hl s q
    obtain ⟨e, rfl⟩ := dpos (show 1 ≤ d by omega)
    simp only [v20, List.length_cons, List.length_append] at hl
    refine vc_X12_speaksBy s.1 ⟨⟨fun z => absurd z (by decide), fun _ => m8_ran s (by omega) (by omega) (fun h' w => ev_aboveM w.1 (by omega) (k := 1) (by decide) (by omega) ((b0 x) _ _ h' _ (by omega) (by rw [List.length_append]; simp only [List.length_cons, List.length_nil]; omega) w (fun h2 w2 => ev_ownM w2 (by omega) hj e1 e2 ((zR hj e1 e3 K hK) _ _ h2 _ (by omega) (by rw [List.length_append, List.length_append]; simp only [List.length_cons, List.length_nil]; omega) w2 (fun h3 w3 => ?_))))), fun z => absurd z (by decide), fun z => absurd z (by decide), fun z => absurd z (by decide)⟩, fun z => absurd z (by decide)⟩
    rw [app2] at w3
    exact q h3 w3
  have b4 : ∀ x, Yd G (M8 h0) 18 mX12_speaksBy [.inr (.inr (some 94)), .inl (nI 4), .inl x] (v50 (nI j) m K x) := by
    intro x d tr h Q hd hl s q
    obtain ⟨e, rfl⟩ := dpos (show 1 ≤ d by omega)
    simp only [v50, List.length_cons] at hl
    refine vc_X12_speaksBy s.1 ⟨⟨fun z => absurd z (by decide), fun z => absurd z (by decide), fun z => absurd z (by decide), fun z => absurd z (by decide), fun _ => m8_ran s (by omega) (by omega) (fun h' w => ev_aboveM w.1 (by omega) (k := 4) (by decide) (by omega) ((b1 (x + 1)) _ _ h' _ (by omega) (by rw [List.length_append]; simp only [List.length_cons, List.length_nil]; omega) w (fun h2 w2 => ?_)))⟩, fun z => absurd z (by decide)⟩
    rw [app1] at w2
    exact q h2 w2
  have up : ∀ (k k' D : Nat) (x : Int32) (f : VR), 1 ≤ D → 2 ≤ k → k ≠ 4 → k ≤ 6 → k' = (if 4 ≤ k then k - 3 else 0) → Yd G (M8 h0) D mX12_speaksBy [.inr (.inr (some 94)), .inl (nI k'), .inl x] f → Yd G (M8 h0) (D + 1) mX12_speaksBy [.inr (.inr (some 94)), .inl (nI k), .inl x] f := by
    intro k k' D x f hD1 h1 h2 h3 ek y d tr h Q hd hl s q
    obtain ⟨e, rfl⟩ := dpos (show 1 ≤ d by omega)
    have et : (nI k).toInt = (k : Int) := ti_nI (by omega)
    have go : EvI G e mX12_above [.inl (nI k)] h (fun v h1 => EvI G e mX12_speaksBy [.inr (.inr (some 94)), .inl v, .inl x] h1 (fun v h => Q v h)) := by
      refine ev_aboveM s.1 (by omega) (k := k) rfl (by omega) ?_
      rw [← ek]
      exact y _ tr h _ (by omega) hl s q
    exact vc_X12_speaksBy s.1 ⟨⟨fun z => by omega, fun z => by omega, fun _ => go, fun _ => go, fun z => by omega⟩, fun _ => go⟩
  intro k x hk
  have hc : k = 0 ∨ k = 1 ∨ k = 2 ∨ k = 3 ∨ k = 4 ∨ k = 5 ∨ k = 6 := by omega
  have u2 := up 2 0 12 x _ (by omega) (by omega) (by omega) (by omega) rfl (b0 x)
  have u3 := up 3 0 12 x _ (by omega) (by omega) (by omega) (by omega) rfl (b0 x)
  rcases hc with rfl | rfl | rfl | rfl | rfl | rfl | rfl
  · exact (b0 x).up (by omega)
  · exact (b1 x).up (by omega)
  · exact u2.up (by omega)
  · exact u3.up (by omega)
  · exact (b4 x).up (by omega)
  · exact (up 5 2 13 x _ (by omega) (by omega) (by omega) (by omega) rfl u2).up (by omega)
  · exact (up 6 3 13 x _ (by omega) (by omega) (by omega) (by omega) rfl u3).up (by omega)
theorem zT {m : Int32} {x : Int32} (hj : j < 4) (hK : K ≤ 6) (e1 : h0.1 94 33 = nI j) (e2 : h0.1 95 (10 + 5 * j) = nI K) (e3 : h0.1 95 (11 + 5 * j) = m) : ∀ (k : Nat), k ≤ 6 → Yd G (M8 h0) (k + 40) mX12_tellsBy [.inr (.inr (some 94)), .inl (nI k), .inl x] (fT (nI j) m K k x) := by
  have b0 : Yd G (M8 h0) 32 mX12_tellsBy [.inr (.inr (some 94)), .inl (nI 0), .inl x] (v13 (nI j) m K x) := by
    intro d tr h Q hd hl s q
    obtain ⟨e, rfl⟩ := dpos (show 1 ≤ d by omega)
    simp only [v13, List.length_cons, List.length_append] at hl
    refine vc_X12_tellsBy s.1 ⟨fun _ => m8_ran s (by omega) (by omega) (fun h' w => ev_ownM w (by omega) hj e1 e2 ((zS hj hK e1 e2 e3 K x hK) _ _ h' _ (by omega) (by rw [List.length_append]; simp only [List.length_cons, List.length_nil]; omega) w (fun h2 w2 => ev_ownM w2 (by omega) hj e1 e2 ((zR hj e1 e3 K hK) _ _ h2 _ (by omega) (by rw [List.length_append, List.length_append]; simp only [List.length_cons, List.length_nil]; omega) w2 (fun h3 w3 => ?_))))), fun z => absurd (ti_nI (by omega)) z⟩
    rw [app2] at w3
    exact q h3 w3
  have up : ∀ (k k' D : Nat) (f : VR), 1 ≤ D → 1 ≤ k → k < 5 → k' = (if 4 ≤ k then k - 3 else 0) → Yd G (M8 h0) D mX12_tellsBy [.inr (.inr (some 94)), .inl (nI k'), .inl x] f → Yd G (M8 h0) (D + 1) mX12_tellsBy [.inr (.inr (some 94)), .inl (nI k), .inl x] f := by
    intro k k' D f hD1 h1 h2 ek y d tr h Q hd hl s q
    obtain ⟨e, rfl⟩ := dpos (show 1 ≤ d by omega)
    have et : (nI k).toInt = (k : Int) := ti_nI (by omega)
    refine vc_X12_tellsBy s.1 ⟨fun z => by omega, fun _ => ⟨fun z => by omega, fun _ => ⟨fun z => by omega, fun _ => ev_aboveM s.1 (by omega) (k := k) rfl (by omega) ?_⟩⟩⟩
    rw [← ek]
    exact y _ tr h _ (by omega) hl s q
  have u1 := up 1 0 32 _ (by omega) (by omega) (by omega) rfl b0
  have u2 := up 2 0 32 _ (by omega) (by omega) (by omega) rfl b0
  have u3 := up 3 0 32 _ (by omega) (by omega) (by omega) rfl b0
  have b5 : Yd G (M8 h0) 36 mX12_tellsBy [.inr (.inr (some 94)), .inl (nI 5), .inl x] (v60 (nI j) m K x) := by
    intro d tr h Q hd hl s q
    obtain ⟨e, rfl⟩ := dpos (show 1 ≤ d by omega)
    simp only [v60, List.length_cons, List.length_append] at hl
    refine vc_X12_tellsBy s.1 ⟨fun z => absurd z (by decide), fun _ => ⟨fun _ => m8_ran s (by omega) (by omega) (fun h' w => ev_aboveM w.1 (by omega) (k := 5) (by decide) (by omega) (u2 _ _ h' _ (by omega) (by rw [List.length_append]; simp only [List.length_cons, List.length_nil]; omega) w (fun h2 w2 => ev_ownM w2 (by omega) hj e1 e2 ((zP e1 K hK) _ _ h2 _ (by omega) (by rw [List.length_append, List.length_append]; simp only [List.length_cons, List.length_nil]; omega) w2 (fun h3 w3 => ?_))))), fun z => absurd (by decide) z⟩⟩
    rw [app2] at w3
    exact q h3 w3
  have b6 : Yd G (M8 h0) 36 mX12_tellsBy [.inr (.inr (some 94)), .inl (nI 6), .inl x] (v71 (nI j) m K x) := by
    intro d tr h Q hd hl s q
    obtain ⟨e, rfl⟩ := dpos (show 1 ≤ d by omega)
    simp only [v71, List.length_cons, List.length_append] at hl
    refine vc_X12_tellsBy s.1 ⟨fun z => absurd z (by decide), fun _ => ⟨fun z => absurd z (by decide), fun _ => ⟨fun _ => m8_ran s (by omega) (by omega) (fun h' w => ev_ownM w (by omega) hj e1 e2 ((zS hj hK e1 e2 e3 K x hK) _ _ h' _ (by omega) (by rw [List.length_append]; simp only [List.length_cons, List.length_nil]; omega) w (fun h2 w2 => ev_aboveM w2.1 (by omega) (k := 6) (by decide) (by omega) (u3 _ _ h2 _ (by omega) (by rw [List.length_append, List.length_append]; simp only [List.length_cons, List.length_nil]; omega) w2 (fun h3 w3 => ?_))))), fun z => absurd (by decide) z⟩⟩⟩
    rw [app2] at w3
    exact q h3 w3
  intro k hk
  have hc : k = 0 ∨ k = 1 ∨ k = 2 ∨ k = 3 ∨ k = 4 ∨ k = 5 ∨ k = 6 := by omega
  rcases hc with rfl | rfl | rfl | rfl | rfl | rfl | rfl
  · exact b0.up (by omega)
  · exact u1.up (by omega)
  · exact u2.up (by omega)
  · exact u3.up (by omega)
  · exact (up 4 1 33 _ (by omega) (by omega) (by omega) rfl u1).up (by omega)
  · exact b5.up (by omega)
  · exact b6.up (by omega)
end
/-- what voice answers, and the bodies -/
def vV (n m : Int32) (K : Nat) (a : Int) (x : Int32) : VR := if a = 0 then fP n K x else if a = 1 then fS n m K K x else if a = 2 then fR n m K x else fT n m K K x
theorem lV (n m : Int32) (K : Nat) (a : Int) (x : Int32) : (vV n m K a x).2.length ≤ 21 := by
  have := lP n K x
  have := lR n m K x
  have := lS n m K K x
  have := lT n m K K x
  unfold vV
  split
  · omega
  · split
    · omega
    · split <;> omega
theorem M_voice {F : Nat → Int} {a1 a2 a3 : Int32} (eF : vM h = F) (hR : RF h) (hd : 60 ≤ d) (ok : OKF 99999 F) (k1 : ¬ ((0 ≤ a1.toInt ∧ a1.toInt < F 0) ∧ (0 ≤ a2.toInt ∧ a2.toInt ≤ 3)) → Q (er 1) (sI h 98 1 (h.1 98 1 + 1)))
    (k : ∀ (j K : Nat) (h' : Hp), a1.toInt = j → (j : Int) < F 0 → (0 ≤ a2.toInt ∧ a2.toInt ≤ 3) → (K : Int) = F (10 + 5 * j) → M8 (sI (sI h 94 32 0) 94 33 (nI j)) (vV (nI j) (h.1 95 (11 + 5 * j)) K a2.toInt a3).2 h' → Q (vV (nI j) (h.1 95 (11 + 5 * j)) K a2.toInt a3).1 h') : EvI G d mX12_voice [.inr (.inr (some 94)), .inl a1, .inl a2, .inl a3] h Q := by
  obtain ⟨e, rfl⟩ := dpos (show 1 ≤ d by omega)
  subst eF
  have o0 := ok.1
  refine vc_X12_voice hR (ev_isParty hR (by omega) (by omega) (br2 (fun c => ev_in32 hR (by omega) (br2' (fun c2 => ?_) (fun c2 => ev_finds hR (by omega) (n := 1) rfl (by omega) (k1 (fun z => c2 z.2))))) (fun c => ev_finds hR (by omega) (n := 1) rfl (by omega) (k1 (fun z => c z.1)))))
  (try simp only [Int32.reduceToInt, Int64.reduceToInt, ti_m1, tl_m1, ti_m2, tl_m2] at *)
  obtain ⟨j, ej⟩ : ∃ j : Nat, a1.toInt = j := ⟨a1.toInt.toNat, by omega⟩
  have o := ok.2.2.2.2.2.2.2.2.1 j (by omega)
  unfold OKP at o
  obtain ⟨K, eK⟩ : ∃ K : Nat, (K : Int) = vM h (10 + 5 * j) := ⟨(vM h (10 + 5 * j)).toNat, by omega⟩
  have kk := fun h' => k j K h' ej (by omega) c2 eK
  rw [eq_nI ej]
  have w0 : M8 (sI (sI h 94 32 0) 94 33 (nI j)) [] (sI (sI h 94 32 0) 94 33 (nI j)) := ⟨hR, fun a _ _ => rfl, fun k _ => rfl, by rw [sI_ne (by omega), sI_self]; rfl, fun i hi => absurd hi (by simp)⟩
  have e1 : (sI (sI h 94 32 0) 94 33 (nI j)).1 94 33 = nI j := sI_self _ _ _ _
  have e2 : (sI (sI h 94 32 0) 94 33 (nI j)).1 95 (10 + 5 * j) = nI K := by
    rw [sI_ne (by omega), sI_ne (by omega)]
    refine eq_nI ?_
    show vM h _ = _
    omega
  have e3 : (sI (sI h 94 32 0) 94 33 (nI j)).1 95 (11 + 5 * j) = h.1 95 (11 + 5 * j) := by rw [sI_ne (by omega), sI_ne (by omega)]
  have hK : K ≤ 6 := by omega
  have hl := lV (nI j) (h.1 95 (11 + 5 * j)) K a2.toInt a3
  refine ev_ownM w0 (by omega) (by omega) e1 e2 ?_
  unfold vV at kk hl
  refine ⟨fun c0 => ⟨fun c1 => ⟨fun c3 => ?_, fun c3 => ?_⟩, fun c1 => ?_⟩, fun c0 => ?_⟩
  · rw [i_eq] at c0 c1 c3
    (try simp only [Int32.reduceToInt, Int64.reduceToInt, ti_m1, tl_m1, ti_m2, tl_m2] at *)
    rw [if_neg c0, if_neg c1, if_neg c3] at kk hl
    exact zT (by omega) hK e1 e2 e3 K hK _ [] _ _ (by omega) (by simp only [List.length_nil]; omega) w0 kk
  · rw [i_eq] at c0 c1 c3
    (try simp only [Int32.reduceToInt, Int64.reduceToInt, ti_m1, tl_m1, ti_m2, tl_m2] at *)
    rw [if_neg c0, if_neg c1, if_pos c3] at kk hl
    exact zR (by omega) e1 e3 K hK _ [] _ _ (by omega) (by simp only [List.length_nil]; omega) w0 kk
  · rw [i_eq] at c0 c1
    (try simp only [Int32.reduceToInt, Int64.reduceToInt, ti_m1, tl_m1, ti_m2, tl_m2] at *)
    rw [if_neg c0, if_pos c1] at kk hl
    exact zS (by omega) hK e1 e2 e3 K _ hK _ [] _ _ (by omega) (by simp only [List.length_nil]; omega) w0 kk
  · rw [i_eq] at c0
    (try simp only [Int32.reduceToInt, Int64.reduceToInt, ti_m1, tl_m1, ti_m2, tl_m2] at *)
    rw [if_pos c0] at kk hl
    exact zP e1 K hK _ [] _ _ (by omega) (by simp only [List.length_nil]; omega) w0 kk
theorem Inv_voice {K : Nat} {n m : Int32} {tr : List Int32} {j : Nat} {h1 h2 : Hp} (I : Inv h) (hl : tr.length ≤ 40) (w1 : C8 K n m h tr h1) (w2 : M8 (sI (sI h1 94 32 0) 94 33 (nI j)) tr h2) : Inv h2 := by
  obtain ⟨i1, i2, i3, i4, i5, i6⟩ := I
  have fr : ∀ a, a ≠ 83 → a ≠ 84 → a ≠ 94 → a ≠ 113 → h2.1 a = h.1 a := fun a z1 z2 z3 z4 => by
    rw [w2.2.1 a z3 z4]
    funext t
    rw [sI_ne (by omega), sI_ne (by omega), w1.2.1 a z1 z2]
  have f94 : h2.1 94 3 = h.1 94 3 := by rw [w2.2.2.1 3 (by omega), sI_ne (by omega), sI_ne (by omega), w1.2.1 94 (by omega) (by omega)]
  have f83 : h2.1 83 = h1.1 83 := by rw [w2.2.1 83 (by omega) (by omega)]; funext t; rw [sI_ne (by omega), sI_ne (by omega)]
  have f84 : h2.1 84 = h1.1 84 := by rw [w2.2.1 84 (by omega) (by omega)]; funext t; rw [sI_ne (by omega), sI_ne (by omega)]
  have el : (h2.1 83 1).toInt = (tr.length : Int) := by rw [f83, w1.2.2.2.2.2.1]; exact ti_nI (by omega)
  refine ⟨w2.1, ?_, ⟨?_, fun z => ?_⟩, ?_, ?_, ⟨?_, ?_, fun i hi => ?_⟩⟩
  · exact ST_eq (fun a k hr => by unfold relC at hr; rw [fr a (by omega) (by omega) (by omega) (by omega)]) (fun k _ => by rw [fr 95 (by omega) (by omega) (by omega) (by omega)]) i2
  · rw [fr 0 (by omega) (by omega) (by omega) (by omega), f94]; exact i3.1
  · rw [f94] at z
    refine ST_eq (fun a k hr => ?_) (fun k _ => ?_) (i3.2 z)
    · unfold relC at hr
      show (if _ then _ else _ : Nat → Int32) k = (if _ then _ else _ : Nat → Int32) k
      rw [if_pos (by omega), if_pos (by omega), fr (a + 20) (by omega) (by omega) (by omega) (by omega)]
    · show h2.1 96 k = h.1 96 k
      rw [fr 96 (by omega) (by omega) (by omega) (by omega)]
  · intro s hs
    rw [fr 86 (by omega) (by omega) (by omega) (by omega), fr 87 (by omega) (by omega) (by omega) (by omega), fr 114 (by omega) (by omega) (by omega) (by omega), fr 115 (by omega) (by omega) (by omega) (by omega), fr 116 (by omega) (by omega) (by omega) (by omega), fr (89 + s) (by omega) (by omega) (by omega) (by omega)]
    exact i4 s hs
  · intro k k1 k2
    rw [fr 93 (by omega) (by omega) (by omega) (by omega), fr 98 (by omega) (by omega) (by omega) (by omega)]
    exact i5 k k1 k2
  · rw [f83, w1.2.2.2.2.2.1, w2.2.2.2.1]
  · omega
  · have hi' : i < tr.length := by omega
    rw [f84, w1.2.2.2.2.2.2 i hi', w2.2.2.2.2 i hi']
theorem step_voice {a1 a2 a3 : Int32} (I : Inv h) (hd : 100 ≤ d) : EvI G d mX11_voice [.inr (.inr (some 0)), .inl a1, .inl a2, .inl a3] h (fun x h1 => EvI G d mX12_voice [.inr (.inr (some 94)), .inl a1, .inl a2, .inl a3] h1 (fun y h2 => x = y ∧ Inv h2)) := by
  have hd' := hd
  have hR := I.1
  have ok := I.ok
  have n0 := I.n
  obtain ⟨e, rfl⟩ := dpos (show 1 ≤ d by omega)
  have bad : ¬ ((0 ≤ a1.toInt ∧ a1.toInt < vM h 0) ∧ (0 ≤ a2.toInt ∧ a2.toInt ≤ 3)) → EvI G e mX11_refuse [.inr (.inr (some 0)), .inl 1] h (fun x5 h4 => EvI G (e + 1) mX12_voice [.inr (.inr (some 94)), .inl a1, .inl a2, .inl a3] h4 (fun y h2 => x5 = y ∧ Inv h2)) := fun z =>
    ev_refuse hR (by omega) (n := 1) rfl (by omega) (M_voice (vM_lo (by omega)) (RF_sI hR) (by omega) ok (fun _ => ⟨rfl, Inv_err I rfl⟩) (fun j K h' e1 e2 e3 _ _ => absurd ⟨⟨by omega, by omega⟩, e3⟩ z))
  refine vc_X11_voice hR (ev_hasParty hR (by omega) (by omega) (br2 (fun c => ev_within hR (by omega) (br2' (fun c2 => ?_) (fun c2 => bad (fun z => c2 z.2)))) (fun c => bad (fun z => c (by rw [n0.1]; exact z.1)))))
  (try simp only [Int32.reduceToInt, Int64.reduceToInt, ti_m1, tl_m1, ti_m2, tl_m2] at *)
  obtain ⟨j, ej⟩ : ∃ j : Nat, a1.toInt = j := ⟨a1.toInt.toNat, by omega⟩
  have o := ok.2.2.2.2.2.2.2.2.1 j (by omega)
  unfold OKP at o
  have ip := I.p (p := j) (by omega)
  obtain ⟨K, eK⟩ : ∃ K : Nat, (K : Int) = vM h (10 + 5 * j) := ⟨(vM h (10 + 5 * j)).toNat, by omega⟩
  have e2 : h.1 2 j = nI K := by
    rw [← ip.1]
    refine eq_nI ?_
    show vM h _ = _
    omega
  have e3 : h.1 3 j = h.1 95 (11 + 5 * j) := ip.2.1.symm
  rw [cl_of ej, e2, e3]
  have hK : K ≤ 6 := by omega
  obtain ⟨e, rfl⟩ := dpos (show 1 ≤ e by omega)
  refine ⟨in_of (by omega) (by omega), in_of (by omega) (by omega), vc_X0_answer hR ?_⟩
  have w0 : C8 K a1 (h.1 95 (11 + 5 * j)) h [] (sI (sI (sI (sI h 83 2 (nI K)) 83 3 a1) 83 4 (h.1 95 (11 + 5 * j))) 83 1 0) := ⟨hR, fun a z1 z2 => by funext t; rw [sI_ne (by omega), sI_ne (by omega), sI_ne (by omega), sI_ne (by omega)], by rw [sI_ne (by omega), sI_ne (by omega), sI_ne (by omega), sI_self], by rw [sI_ne (by omega), sI_ne (by omega), sI_self], by rw [sI_ne (by omega), sI_self], by rw [sI_self]; rfl, fun i hi => absurd hi (by simp)⟩
  have hl := lV a1 (h.1 95 (11 + 5 * j)) K a2.toInt a3
  have fin : ∀ h1, C8 K a1 (h.1 95 (11 + 5 * j)) h (vV a1 (h.1 95 (11 + 5 * j)) K a2.toInt a3).2 h1 → EvI G (e + 1 + 1) mX12_voice [.inr (.inr (some 94)), .inl a1, .inl a2, .inl a3] h1 (fun y h2 => (vV a1 (h.1 95 (11 + 5 * j)) K a2.toInt a3).1 = y ∧ Inv h2) := fun h1 w1 => by
    have ev : vM h1 = vM h := by funext t; show (h1.1 95 t).toInt = (h.1 95 t).toInt; rw [w1.2.1 95 (by omega) (by omega)]
    refine M_voice ev w1.1 (by omega) ok (fun z => absurd ⟨⟨by omega, by omega⟩, c2⟩ z) (fun j' K' h' y1 y2 y3 y4 w2 => ?_)
    have ejj : j' = j := by omega
    subst ejj
    have eKK : K' = K := by omega
    subst eKK
    rw [w1.2.1 95 (by omega) (by omega), ← eq_nI ej] at w2 ⊢
    refine ⟨rfl, Inv_voice (j := j') I (by omega) w1 ?_⟩
    rw [← eq_nI ej]
    exact w2
  unfold vV at fin hl
  have hc : a2 = 0 ∨ a2 = 1 ∨ a2 = 2 ∨ a2 = 3 := by
    simp only [i_eq, Int32.reduceToInt]
    omega
  rcases hc with rfl | rfl | rfl | rfl
  · rw [if_pos (by decide)] at fin hl
    exact yP (e := 0) (by omega) hK _ [] _ _ (by omega) (by simp only [List.length_nil]; omega) w0 fin
  · rw [if_neg (by decide), if_pos (by decide)] at fin hl
    exact yS (e := 0) hK (by omega) hK _ [] _ _ (by omega) (by simp only [List.length_nil]; omega) w0 fin
  · rw [if_neg (by decide), if_neg (by decide), if_pos (by decide)] at fin hl
    exact yR (e := 0) (by omega) hK _ [] _ _ (by omega) (by simp only [List.length_nil]; omega) w0 fin
  · rw [if_neg (by decide), if_neg (by decide), if_neg (by decide)] at fin hl
    exact yT (e := 0) hK (by omega) hK _ [] _ _ (by omega) (by simp only [List.length_nil]; omega) w0 fin
end
