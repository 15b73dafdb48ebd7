/-! A SECOND of the reference -/
theorem eq_nI {x : Int32} {w : Nat} (h : x.toInt = (w : Int)) : x = nI w := by
  have := i_hi x
  rw [i_eq, ti_nI (by omega)]
  exact h
theorem vM_sI (h : Hp) (k : Nat) (v : Int32) : vM (sI h 95 k v) = upI (vM h) k v.toInt := by
  funext j
  show ((sI h 95 k v).1 95 j).toInt = if j = k then v.toInt else (h.1 95 j).toInt
  rw [sI_at]
  by_cases hj : j = k
  · rw [if_pos ⟨rfl, hj⟩, if_pos hj]
  · rw [if_neg (fun c => hj c.2), if_neg hj]
theorem vM_off {h : Hp} {a k : Nat} {v : Int32} (ha : a ≠ 95) : vM (sI h a k v) = vM h := by
  funext j
  show ((sI h a k v).1 95 j).toInt = _
  rw [sI_ne (by omega)]
theorem upI_c {F : Nat → Int} {a b : Nat} {x y : Int} (h : a ≠ b) : upI (upI F a x) b y = upI (upI F b y) a x := by
  funext j
  unfold upI
  by_cases h1 : j = a <;> by_cases h2 : j = b <;> simp [h1, h2] <;> omega
theorem drF_succ {r : Nat → Int} {n : Int} {N : Nat} {F : Nat → Int} {g : Int} (hg : g = min (F (13 + 5 * N)) (n * r N)) (g0 : 0 ≤ g) : drF r n (N + 1) F = upI (upI (drF r n N F) (13 + 5 * N) (F (13 + 5 * N) - g)) 4 (min 999999 (drF r n N F 4 + g)) := by
  funext j
  unfold upI
  by_cases h4 : j = 4
  · rw [if_pos h4, h4, drF_4, drF_4]
    show min 999999 (F 4 + (lossF r n F N + min _ _)) = _
    rw [← hg]
    omega
  · rw [if_neg h4]
    by_cases hn : j = 13 + 5 * N
    · rw [if_pos hn, hn, drF_w (by omega), ← hg]
    · rw [if_neg hn]
      by_cases hj : ∃ p, p < N ∧ j = 13 + 5 * p
      · obtain ⟨p, hp, rfl⟩ := hj
        rw [drF_w hp, drF_w (by omega)]
      · rw [drF_o h4 (fun p hp e => hj ⟨p, hp, e⟩), drF_o h4 (fun p hp e => by
          by_cases h : p < N
          · exact hj ⟨p, h, e⟩
          · exact hn (by rw [e, show p = N by omega]))]
theorem drF_0 {r : Nat → Int} {n : Int} {F : Nat → Int} (h : F 4 ≤ 999999) : drF r n 0 F = F := by
  funext j
  by_cases h4 : j = 4
  · rw [h4, drF_4]
    show min 999999 (F 4 + 0) = _
    omega
  · rw [drF_o h4 (fun p hp => by omega)]
theorem spk_in {B : Int} {F : Nat → Int} (ok : OKF B F) (h6 : F 6 ≠ 0) : 0 ≤ spk F ∧ spk F < F 0 ∧ spk F = F (30 + 5 * (F 6 - 1).toNat) ∧ (F 6 - 1).toNat < 12 ∧ ((F 6 - 1).toNat : Int) = F 6 - 1 := by
  obtain ⟨o0, o1, -, -, -, o6, -, o8, -, o10⟩ := ok
  have hw := o10 (F 6 - 1).toNat (by omega)
  have e : spk F = F (30 + 5 * (F 6 - 1).toNat) := if_neg h6
  obtain ⟨w1, w2, -⟩ := hw
  have := w2 (by omega)
  exact ⟨by rw [e]; omega, by rw [e]; omega, e, by omega, by omega⟩
theorem spk_no {F : Nat → Int} (h6 : F 6 = 0) : spk F = -1 := if_pos h6
theorem tgP0_in {p0 : List Int32} {a b c : Int32} : 0 ≤ (tgP 0 p0 a b c).toInt ∧ (tgP 0 p0 a b c).toInt ≤ 999 := by
  have e : tgP 0 p0 a b c = hd3 (if p0 = [] then a else evP p0 a b c) 0 999 := rfl
  rw [e, hd3_i (by decide)]
  show 0 ≤ max 0 (min 999 _) ∧ max 0 (min 999 _) ≤ (999 : Int)
  omega
theorem OKP_congr {F F' : Nat → Int} {p : Nat} (g : ∀ j, 10 ≤ j → j < 30 → F' j = F j) (hp : p < 4) (ok : OKP F p) : OKP F' p := by
  unfold OKP at *
  rw [g (10 + 5 * p) (by omega) (by omega), g (11 + 5 * p) (by omega) (by omega), g (12 + 5 * p) (by omega) (by omega), g (13 + 5 * p) (by omega) (by omega), g (14 + 5 * p) (by omega) (by omega)]
  exact ok
theorem OKW_congr {F F' : Nat → Int} {w : Nat} (g : ∀ j, 30 ≤ j → j < 90 → F' j = F j) (g0 : F' 0 = F 0) (g1 : F' 1 = F 1) (hw : w < 12) (ok : OKW F w) : OKW F' w := by
  unfold OKW at *
  rw [g (30 + 5 * w) (by omega) (by omega), g (31 + 5 * w) (by omega) (by omega), g (32 + 5 * w) (by omega) (by omega), g (33 + 5 * w) (by omega) (by omega), g (34 + 5 * w) (by omega) (by omega), g0, g1]
  exact ok
theorem OKF_up3 {B B' : Int} {F : Nat → Int} {v : Int} (ok : OKF B F) (hv : 0 ≤ v ∧ v ≤ B') : OKF B' (upI F 3 v) := by
  have g : ∀ j, j ≠ 3 → upI F 3 v j = F j := fun j hj => upI_n hj
  obtain ⟨q0, q1, q3, q4, q5, q6, q7, q8, q9, q10⟩ := ok
  unfold OKF
  rw [upI_s, g 0 (by omega), g 1 (by omega), g 4 (by omega), g 5 (by omega), g 6 (by omega), g 7 (by omega), g (34 + 5 * (F 6 - 1).toNat) (by omega)]
  exact ⟨q0, q1, hv, q4, q5, q6, q7, q8, fun p hp => OKP_congr (fun j _ _ => g j (by omega)) hp (q9 p hp), fun w hw => OKW_congr (fun j _ _ => g j (by omega)) (g 0 (by omega)) (g 1 (by omega)) hw (q10 w hw)⟩
section
variable {G : GT} {d : Nat} {h : Hp} {Q : Int32 → Hp → Prop} {QW : Hp → Prop}
theorem ev_speaks {B : Int} (hR : RF h) (hd : 2 ≤ d) (ok : OKF B (vM h)) (k : ∀ x : Int32, x.toInt = spk (vM h) → Q x h) : EvI G d mX12_speaks [.inr (.inr (some 94))] h Q := by
  obtain ⟨e, rfl⟩ := dpos (Nat.le_of_succ_le hd)
  have key := @spk_in B (vM h) ok
  refine vc_X12_speaks hR ⟨fun c => ?_, fun c => ?_⟩
  · have c6 : vM h 6 ≠ 0 := fun z => c ((i_eq _ _).mpr z)
    obtain ⟨k1, k2, k3, k4, k5⟩ := key c6
    have e1 : (h.1 95 6 - 1).toInt = ((vM h 6 - 1).toNat : Int) := by
      rw [k5]
      exact ti_sub (by show _ ≤ vM h 6 - 1; omega) (by show vM h 6 - 1 < _; omega)
    refine ev_its hR (by omega) (eq_nI e1) (w := 0) rfl (by omega) (by omega) (k _ ?_)
    rw [k3]
    rfl
  · have c6 : vM h 6 = 0 := (i_eq _ _).mp c
    exact k _ (by rw [spk_no c6]; rfl)
theorem ev_ends {a1 : Int32} {w : Nat} (hR : RF h) (hd : 2 ≤ d) (hw : vM h 6 = (w : Int) + 1) (hw2 : w < 12) (k : QW (sI (sI (sI h 95 (34 + 5 * w) a1) 95 6 0) 95 7 0)) : EvV G d mX12_ends [.inr (.inr (some 94)), .inl a1] h QW := by
  obtain ⟨e, rfl⟩ := dpos (Nat.le_of_succ_le hd)
  have e1 : (h.1 95 6 - 1).toInt = (w : Int) := (ti_sub (by show _ ≤ vM h 6 - 1; omega) (by show vM h 6 - 1 < _; omega)).trans (by show vM h 6 - 1 = _; omega)
  refine vc_X12_ends hR (ev_puts hR (by omega) (eq_nI e1) (w := 4) rfl (by omega) (by omega) ?_)
  rw [show 30 + 5 * w + 4 = 34 + 5 * w by omega]
  exact k
theorem ev_earOf {a1 a2 : Int32} {w : Nat} {p0 p1 : List Int32} (hR : RF h) (hd : 71 ≤ d) (T : TxM h 95 p0 p1) (h1 : a1 = nI w) (hw : w < 12) (k : ∀ h' x, MT h h' → x = tgP 0 p0 (h.1 95 (32 + 5 * w)) (h.1 95 (31 + 5 * w)) a2 → Q x h') : EvI G d mX12_earOf [.inr (.inr (some 94)), .inl a1, .inl a2] h Q := by
  obtain ⟨e, rfl⟩ := dpos (show 1 ≤ d by omega)
  refine vc_X12_earOf hR (ev_its hR (by omega) h1 (w := 2) rfl (by omega) (by omega) (ev_its hR (by omega) h1 (w := 1) rfl (by omega) (by omega) ?_))
  rw [show 30 + 5 * w + 2 = 32 + 5 * w by omega, show 30 + 5 * w + 1 = 31 + 5 * w by omega]
  exact ev_textGives hR (by omega) T (u := 0) rfl (by omega) (fun z => by omega) (fun h' m => k h' _ m rfl)
theorem TxM.keep {h h' : Hp} {p0 p1 : List Int32} (m : MS h h') (T : TxM h 95 p0 p1) : TxM h' 95 p0 p1 := by
  obtain ⟨-, -, -, -, hj⟩ := m
  unfold TxM at *
  have e1 : (fun i => h'.1 95 (112 + i)) = (fun i => h.1 95 (112 + i)) := by funext i; exact hj _ (by omega)
  have e2 : (fun i => h'.1 95 (162 + i)) = (fun i => h.1 95 (162 + i)) := by funext i; exact hj _ (by omega)
  rw [e1, e2, hj 90 (by omega), hj 91 (by omega)]
  refine ⟨T.1, T.2.1, fun i hi => ?_, T.2.2.2⟩
  rw [hj _ (by omega)]
  exact T.2.2.1 i hi
theorem vM_MT {h h' : Hp} (m : MT h h') : vM h' = vM h := by
  funext j
  show (h'.1 95 j).toInt = _
  rw [m.2]
set_option maxHeartbeats 1000000 in
theorem aSecond_loop {B : Int} {h0 : Hp} {l1 l2 : Int32} {p0 p1 : List Int32} (hd : 80 ≤ d) (ok : OKF B (vM h0)) (hB : B ≤ 1000000000) (T : TxM h0 95 p0 p1) (h5 : vM h0 5 ≠ 1) (hl1 : l1.toInt = spk (vM h0)) (hl2 : l2 = b2 (vM h0 6 = 0 ∨ ¬ vM h0 (13 + 5 * (spk (vM h0)).toNat) < rnk (vM h0 (10 + 5 * (spk (vM h0)).toNat)) (vM h0 (11 + 5 * (spk (vM h0)).toNat))))
    (k : ∀ h', MS h0 h' → vM h' = secF (earI p0) (vM h0) → QW h') : ∀ (n i : Nat) (h : Hp), i + n = (vM h0 0).toNat → MS h0 h → vM h = drF (rate (vM h0) (spk (vM h0))) 1 i (upI (vM h0) 3 (vM h0 3 + 1)) → Rg_X12_aSecond_52 G d l1 l2 (nI i) h QW := by
  have ok' := ok
  obtain ⟨o0, o1, o3, o4, o5, o6, o7, o8, o9, o10⟩ := ok
  generalize hF : vM h0 = F at *
  generalize hr : rate F (spk F) = r
  intro n
  induction n with
  | zero =>
    intro i h hi m hv
    have hR : RF h := m.1
    have d1 : 1 ≤ d := by omega
    have eN : i = (F 0).toNat := by omega
    refine vc_X12_aSecond_52 hR ⟨fun _ => ?_, fun c => ?_⟩
    rotate_left
    · exfalso
      apply c
      rw [i_le, ti_nI (by omega)]
      show vM h 0 ≤ _
      rw [hv, drF_o (by omega) (fun p hp => by omega), upI_n (by omega)]
      omega
    have v6 : vM h 6 = F 6 := by rw [hv, drF_o (by omega) (fun p hp => by omega), upI_n (by omega)]
    have v7 : vM h 7 = F 7 := by rw [hv, drF_o (by omega) (fun p hp => by omega), upI_n (by omega)]
    refine ⟨fun c => ?_, fun c => ?_⟩
    · have c6 : F 6 ≠ 0 := fun z => by
        have := (i_le _ _).mp c
        rw [hl1, spk_no z] at this
        exact absurd this (by decide)
      obtain ⟨k1, k2, k3, k4, k5⟩ := spk_in ok' c6
      have o8' := o8 c6
      have hl1' : l1 = nI (spk F).toNat := eq_nI (by rw [hl1]; omega)
      refine ⟨fun c2 => ?_, fun c2 => ?_⟩
      · have en : ¬ F (13 + 5 * (spk F).toNat) < rnk (F (10 + 5 * (spk F).toNat)) (F (11 + 5 * (spk F).toNat)) := by
          rw [hl2, b2_0] at c2
          have := Classical.not_not.mp c2
          rcases this with z | z
          · exact absurd z c6
          · exact z
        have e7 : (h.1 95 7 - 1).toInt = F 7 - 1 := by
          have := v7
          rw [ti_sub]
          · show vM h 7 - 1 = _; omega
          · show _ ≤ vM h 7 - 1; omega
          · show vM h 7 - 1 < _; omega
        have sec0 : secF (earI p0) F = (if F 7 - 1 = 0 then endF (upI (upI (drF r 1 (F 0).toNat (upI F 3 (F 3 + 1))) 7 (F 7 - 1)) (14 + 5 * (spk F).toNat) (min 99999 (F (14 + 5 * (spk F).toNat) + earI p0 (F (32 + 5 * (F 6 - 1).toNat)) (F (31 + 5 * (F 6 - 1).toNat)) (F (14 + 5 * (spk F).toNat))))) 1 else upI (drF r 1 (F 0).toNat (upI F 3 (F 3 + 1))) 7 (F 7 - 1)) := by
          unfold secF
          simp only [if_neg h5, if_neg c6, if_neg en, hr]
        refine ⟨fun c3 => ?_, fun c3 => ?_⟩
        · have c7 : ¬ F 7 - 1 = 0 := fun z => c3 ((i_eq _ _).mpr (by rw [e7, z]; rfl))
          refine k _ (m.trans (MS.s95 hR (by omega))) ?_
          rw [sec0, if_neg c7, vM_sI, e7, hv, eN]
        · have c7 : F 7 - 1 = 0 := by rw [← e7, c3]; rfl
          have mA : MS h0 (sI h 95 7 (h.1 95 7 - 1)) := m.trans (MS.s95 hR (by omega))
          have vA : vM (sI h 95 7 (h.1 95 7 - 1)) = upI (drF r 1 (F 0).toNat (upI F 3 (F 3 + 1))) 7 (F 7 - 1) := by rw [vM_sI, e7, hv, eN]
          generalize hhA : sI h 95 7 (h.1 95 7 - 1) = hA at mA vA ⊢
          have hRA : RF hA := mA.1
          have gA : ∀ j, j ≠ 3 → j ≠ 4 → j ≠ 7 → (∀ p, p < 4 → j ≠ 13 + 5 * p) → vM hA j = F j := fun j j3 j4 j7 jp => by
            rw [vA, upI_n j7, drF_o j4 (fun p hp => jp p (by omega)), upI_n j3]
          have e14 : 10 + 5 * (spk F).toNat + 4 = 14 + 5 * (spk F).toNat := by omega
          refine ev_of hRA (by omega) hl1' (w := 4) rfl (by omega) (by omega) (ev_of hRA (by omega) hl1' (w := 4) rfl (by omega) (by omega) ?_)
          rw [e14]
          have e6 : (hA.1 95 6 - 1).toInt = ((F 6 - 1).toNat : Int) := by
            have v : vM hA 6 = F 6 := gA 6 (by omega) (by omega) (by omega) (fun p hp => by omega)
            rw [ti_sub]
            · show vM hA 6 - 1 = _; omega
            · show _ ≤ vM hA 6 - 1; omega
            · show vM hA 6 - 1 < _; omega
          have x14 : vM hA (14 + 5 * (spk F).toNat) = F (14 + 5 * (spk F).toNat) := gA _ (by omega) (by omega) (by omega) (fun p hp => by omega)
          have p9 := (o9 (spk F).toNat (by omega)).2.2.2.2
          refine ev_earOf hRA (by omega) (T.keep mA) (eq_nI e6) k4 (fun hB x mB hx => ?_)
          have hxi : x.toInt = earI p0 (F (32 + 5 * (F 6 - 1).toNat)) (F (31 + 5 * (F 6 - 1).toNat)) (F (14 + 5 * (spk F).toNat)) := by
            rw [hx]
            unfold earI
            rw [← gA (32 + 5 * (F 6 - 1).toNat) (by omega) (by omega) (by omega) (fun p hp => by omega), ← gA (31 + 5 * (F 6 - 1).toNat) (by omega) (by omega) (by omega) (fun p hp => by omega), ← x14]
            show _ = (tgP 0 p0 (oI ((hA.1 95 _).toInt)) (oI ((hA.1 95 _).toInt)) (oI ((hA.1 95 _).toInt))).toInt
            rw [oi_ti, oi_ti, oi_ti]
          have xin : 0 ≤ x.toInt ∧ x.toInt ≤ 999 := by rw [hx]; exact tgP0_in
          have x14' : (hA.1 95 (14 + 5 * (spk F).toNat)).toInt = F (14 + 5 * (spk F).toNat) := x14
          have esum : (hA.1 95 (14 + 5 * (spk F).toNat) + x).toInt = F (14 + 5 * (spk F).toNat) + x.toInt := by
            rw [ti_add, x14'] <;> rw [x14'] <;> omega
          have hRB : RF hB := mB.1.1
          refine ev_heldM hRB (by omega) (by decide) ?_
          have eh : (hd3 (hA.1 95 (14 + 5 * (spk F).toNat) + x) 0 99999).toInt = min 99999 (F (14 + 5 * (spk F).toNat) + x.toInt) := by
            rw [hd3_i (by decide), esum]
            show max 0 (min 99999 _) = _
            omega
          refine ev_sets hRB (by omega) hl1' (w := 4) rfl (by omega) (by omega) ?_
          rw [e14]
          have vB : vM hB = vM hA := vM_MT mB
          have mC : MS h0 (sI hB 95 (14 + 5 * (spk F).toNat) (hd3 (hA.1 95 (14 + 5 * (spk F).toNat) + x) 0 99999)) := (mA.trans mB.1).trans (MS.s95 hRB (by omega))
          have vC := vM_sI hB (14 + 5 * (spk F).toNat) (hd3 (hA.1 95 (14 + 5 * (spk F).toNat) + x) 0 99999)
          rw [eh, vB, vA] at vC
          generalize sI hB 95 (14 + 5 * (spk F).toNat) (hd3 (hA.1 95 (14 + 5 * (spk F).toNat) + x) 0 99999) = hC at mC vC ⊢
          have vC6 : vM hC 6 = F 6 := by rw [vC, upI_n (by omega), upI_n (by omega), drF_o (by omega) (fun p hp => by omega), upI_n (by omega)]
          refine ev_ends mC.1 (by omega) (w := (F 6 - 1).toNat) (by rw [vC6]; omega) k4 (k _ ?_ ?_)
          · exact ((mC.trans (MS.s95 mC.1 (by omega))).trans (MS.s95 mC.1 (by omega))).trans (MS.s95 mC.1 (by omega))
          · rw [vM_sI, vM_sI, vM_sI, vC, sec0, if_pos c7, ← hxi]
            unfold endF
            rw [upI_n (by omega), upI_n (by omega), drF_o (by omega) (fun p hp => by omega), upI_n (by omega)]
            rfl
      · have en : F (13 + 5 * (spk F).toNat) < rnk (F (10 + 5 * (spk F).toNat)) (F (11 + 5 * (spk F).toNat)) := by
          rw [hl2, b2_0] at c2
          exact Classical.not_not.mp (fun z => c2 (Or.inr z))
        refine ev_ends hR (by omega) (w := (F 6 - 1).toNat) (by rw [v6]; omega) k4 (k _ ?_ ?_)
        · exact ((m.trans (MS.s95 hR (by omega))).trans (MS.s95 hR (by omega))).trans (MS.s95 hR (by omega))
        · rw [vM_sI, vM_sI, vM_sI, hv, eN]
          unfold secF
          simp only [if_neg h5, if_neg c6, if_pos en, hr]
          unfold endF
          rw [drF_o (by omega) (fun p hp => by omega), upI_n (by omega)]
          rfl
    · have c6 : F 6 = 0 := Classical.byContradiction (fun z => by
        obtain ⟨k1, -⟩ := spk_in ok' z
        exact c ((i_le _ _).mpr (by rw [hl1]; exact k1)))
      refine k _ m ?_
      rw [hv, eN]
      unfold secF
      simp only [if_neg h5, if_pos c6, hr]
  | succ n ih =>
    intro i h hi m hv
    have hR : RF h := m.1
    have i4 : i < 4 := by omega
    have gv : ∀ j, j ≠ 3 → j ≠ 4 → (∀ p, p < i → j ≠ 13 + 5 * p) → vM h j = F j := fun j j3 j4 jp => by rw [hv, drF_o j4 jp, upI_n j3]
    refine vc_X12_aSecond_52 hR ⟨fun c => ?_, fun _ => ?_⟩
    · exfalso
      rw [i_le, ti_nI (by omega)] at c
      have : vM h 0 ≤ (i : Int) := c
      rw [gv 0 (by omega) (by omega) (fun p hp => by omega)] at this
      omega
    have okp : OKP (vM h) i := by
      have z := o9 i i4
      unfold OKP at *
      rw [gv (10 + 5 * i) (by omega) (by omega) (fun p hp => by omega), gv (11 + 5 * i) (by omega) (by omega) (fun p hp => by omega), gv (12 + 5 * i) (by omega) (by omega) (fun p hp => by omega), gv (13 + 5 * i) (by omega) (by omega) (fun p hp => by omega), gv (14 + 5 * i) (by omega) (by omega) (fun p hp => by omega)]
      exact z
    have f4 : 0 ≤ vM h 4 ∧ vM h 4 ≤ 999999 := by
      rw [hv, drF_4, upI_n (by omega)]
      have : 0 ≤ lossF r 1 (upI F 3 (F 3 + 1)) i := lossF_nn (fun p hp => ⟨by
        rw [upI_n (by omega)]
        exact (o9 p (by omega)).2.2.2.1.1, by
        rw [← hr]
        have okq := o9 p (by omega)
        unfold rate
        have a1 := @rnk_in (F (10 + 5 * p)) (F (11 + 5 * p)) okq.2.1.1 okq.2.1.2
        have a2 := @drk_in (F (10 + 5 * p)) (F (11 + 5 * p)) okq.2.1.1 okq.2.1.2
        split <;> omega⟩)
      omega
    have w0 : vM h (13 + 5 * i) = F (13 + 5 * i) := gv _ (by omega) (by omega) (fun p hp => by omega)
    have ei : nI i + 1 = nI (i + 1) := nI_1 i
    have okq := o9 i i4
    have fin : ∀ (x : Int32), x.toInt = r i → 0 ≤ x.toInt → EvI G d mX12_loses [.inr (.inr (some 94)), .inl (nI i), .inl x] h (fun x29 h28 => EvV G d mX12_spills [.inr (.inr (some 94)), .inl x29] h28 (fun h30 => Rg_X12_aSecond_52 G d l1 l2 (nI i + 1) h30 QW)) := by
      intro x hx hx0
      refine ev_loses hR (by omega) rfl i4 hx0 okp.2.2.2.1.1 (fun g hg => ?_)
      rw [w0] at hg
      have g0 : 0 ≤ g.toInt ∧ g.toInt ≤ 999 := by
        have := okq.2.2.2.1
        omega
      have v4 : vM (sI h 95 (13 + 5 * i) (h.1 95 (13 + 5 * i) - g)) 4 = vM h 4 := by rw [vM_sI, upI_n (by omega)]
      refine ev_spills hR (by omega) (by omega) (by rw [v4]; exact f4) (fun v hv4 => ?_)
      rw [ei]
      refine ih (i + 1) _ (by omega) ((m.trans (MS.s95 hR (by omega))).trans (MS.s95 hR (by omega))) ?_
      rw [vM_sI, vM_sI, hv4, v4]
      have e13 : (h.1 95 (13 + 5 * i) - g).toInt = F (13 + 5 * i) - g.toInt := by
        have := okq.2.2.2.1
        rw [ti_sub]
        · show vM h _ - _ = _; rw [w0]
        · show _ ≤ vM h _ - _; rw [w0]; omega
        · show vM h _ - _ < _; rw [w0]; omega
      rw [e13, drF_succ (g := g.toInt) (by rw [upI_n (by omega), hg, hx]; omega) g0.1, ← hv, upI_n (by omega)]
    refine ⟨fun c => ?_, fun c => ?_⟩
    · refine ev_dripsM hR (by omega) rfl i4 okp (fun x hx => ?_)
      rw [gv (10 + 5 * i) (by omega) (by omega) (fun p hp => by omega), gv (11 + 5 * i) (by omega) (by omega) (fun p hp => by omega)] at hx
      refine fin x ?_ ?_
      · rw [hx, ← hr]
        unfold rate
        rw [if_neg]
        intro z
        apply c
        rw [i_eq, ti_nI (by omega), hl1]
        exact z
      · rw [hx]
        exact (drk_in okq.2.1.1 okq.2.1.2).1
    · refine ev_runsM hR (by omega) rfl i4 okp (fun x hx => ?_)
      rw [gv (10 + 5 * i) (by omega) (by omega) (fun p hp => by omega), gv (11 + 5 * i) (by omega) (by omega) (fun p hp => by omega)] at hx
      refine fin x ?_ ?_
      · rw [hx, ← hr]
        unfold rate
        rw [if_pos]
        rw [i_eq, ti_nI (by omega), hl1] at c
        exact c
      · rw [hx]
        have := (@rnk_in (F (10 + 5 * i)) (F (11 + 5 * i)) okq.2.1.1 okq.2.1.2).1
        omega
theorem ev_aSecond {B : Int} {p0 p1 : List Int32} (hR : RF h) (hd : 81 ≤ d) (ok : OKF B (vM h)) (hB : B ≤ 1000000000) (T : TxM h 95 p0 p1) (k : ∀ h', MS h h' → vM h' = secF (earI p0) (vM h) → QW h') : EvV G d mX12_aSecond [.inr (.inr (some 94))] h QW := by
  obtain ⟨e, rfl⟩ := dpos (show 1 ≤ d by omega)
  have ok' := ok
  obtain ⟨o0, o1, o3, o4, o5, o6, o7, o8, o9, o10⟩ := ok
  have e3 : (h.1 95 3 + 1).toInt = vM h 3 + 1 := ti_add (by show _ ≤ vM h 3 + 1; omega) (by show vM h 3 + 1 < _; omega)
  have m1 : MS h (sI h 95 3 (h.1 95 3 + 1)) := MS.s95 hR (by omega)
  have v1 : vM (sI h 95 3 (h.1 95 3 + 1)) = upI (vM h) 3 (vM h 3 + 1) := by rw [vM_sI, e3]
  refine vc_X12_aSecond hR ⟨fun c => ?_, fun c => ?_⟩
  · have h5 : vM h 5 ≠ 1 := fun z => c ((i_eq _ _).mpr z)
    have ok1 : OKF (B + 1) (vM (sI h 95 3 (h.1 95 3 + 1))) := by
      rw [v1]
      exact OKF_up3 ok' (by omega)
    have gs : spk (vM (sI h 95 3 (h.1 95 3 + 1))) = spk (vM h) := by
      rw [v1]
      unfold spk
      rw [upI_n (by omega), upI_n (by omega)]
    refine ev_speaks hR (by omega) ok1 (fun x hx => ?_)
    rw [gs] at hx
    have lp := @aSecond_loop G e QW B h
    have d0 : drF (rate (vM h) (spk (vM h))) 1 0 (upI (vM h) 3 (vM h 3 + 1)) = upI (vM h) 3 (vM h 3 + 1) := drF_0 (by rw [upI_n (by omega)]; exact o4.2)
    refine ⟨fun c2 => ?_, fun c2 => ?_⟩
    · have h6 : vM h 6 = 0 := Classical.byContradiction (fun z => by
        have := (spk_in ok' z).1
        rw [← hx] at this
        exact absurd c2 (by rw [i_lt]; show ¬ x.toInt < 0; omega))
      exact lp (l1 := x) (l2 := 1) (by omega) ok' hB T h5 hx (by rw [b2_t (Or.inl h6)]) k (vM h 0).toNat 0 _ (by omega) m1 (by rw [v1, d0])
    · have h6 : vM h 6 ≠ 0 := fun z => c2 ((i_lt _ _).mpr (by rw [hx, spk_no z]; decide))
      obtain ⟨k1, k2, k3, k4, k5⟩ := spk_in ok' h6
      have hx' : x = nI (spk (vM h)).toNat := eq_nI (by rw [hx]; omega)
      have j4 : (spk (vM h)).toNat < 4 := by omega
      have gv : ∀ j, j ≠ 3 → vM (sI h 95 3 (h.1 95 3 + 1)) j = vM h j := fun j hj => by rw [v1, upI_n hj]
      refine ev_of hR (by omega) hx' (w := 3) rfl (by omega) (by omega) (ev_runsM hR (by omega) hx' j4 (ok1.2.2.2.2.2.2.2.2.1 _ j4) (fun y hy => ?_))
      rw [gv _ (by omega), gv _ (by omega)] at hy
      have w1 : ((sI h 95 3 (h.1 95 3 + 1)).1 95 (10 + 5 * (spk (vM h)).toNat + 3)).toInt = vM h (13 + 5 * (spk (vM h)).toNat) := by
        rw [show 10 + 5 * (spk (vM h)).toNat + 3 = 13 + 5 * (spk (vM h)).toNat by omega]
        exact gv _ (by omega)
      simp only [i_lt, w1, hy]
      refine ⟨fun c3 => ?_, fun c3 => ?_⟩
      · exact lp (l1 := x) (l2 := 0) (by omega) ok' hB T h5 hx (by rw [b2_f (fun z => by rcases z with z | z; exact h6 z; exact z c3)]) k (vM h 0).toNat 0 _ (by omega) m1 (by rw [v1, d0])
      · exact lp (l1 := x) (l2 := 1) (by omega) ok' hB T h5 hx (by rw [b2_t (Or.inr c3)]) k (vM h 0).toNat 0 _ (by omega) m1 (by rw [v1, d0])
  · have h5 : vM h 5 = 1 := (i_eq _ _).mp c
    refine k _ m1 ?_
    rw [v1]
    unfold secF
    simp only [if_pos h5]
end
