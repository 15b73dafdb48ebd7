/-! a WORD is said till nothing is IN HAND; judge, explained -/
theorem til_1 {ear : Int → Int → Int → Int} {B : Int} {F : Nat → Int} (ok : OKF B F) (h6 : F 6 ≠ 0) (h5 : F 5 = 0) : 1 ≤ tilF F ∧ (tilF F = 1 → secF ear F 6 = 0) ∧ (tilF F ≠ 1 → secF ear F 6 = F 6 ∧ tilF (secF ear F) = tilF F - 1) ∧ secF ear F 5 = 0 := by
  obtain ⟨k1, k2, k3, k4, k5⟩ := spk_in ok h6
  have o := ok.2.2.2.2.2.2.2.1 h6
  have o0 := ok.1
  have o7 := ok.2.2.2.2.2.2.1
  obtain ⟨s, es⟩ : ∃ s : Nat, spk F = s := ⟨(spk F).toNat, by omega⟩
  have es' : (spk F).toNat = s := by omega
  have hs : s < 4 := by omega
  have op := ok.2.2.2.2.2.2.2.2.1 s hs
  unfold OKP at op
  have rn := @rnk_in (F (10 + 5 * s)) (F (11 + 5 * s)) op.2.1.1 op.2.1.2
  have et : tilF F = if F 7 ≤ F (13 + 5 * s) / rnk (F (10 + 5 * s)) (F (11 + 5 * s)) then F 7 else F (13 + 5 * s) / rnk (F (10 + 5 * s)) (F (11 + 5 * s)) + 1 := by
    unfold tilF
    rw [if_neg h6, es']
  have hd0 : 0 ≤ F (13 + 5 * s) / rnk (F (10 + 5 * s)) (F (11 + 5 * s)) := Int.ediv_nonneg op.2.2.2.1.1 (by omega)
  have t1 : 1 ≤ tilF F := by
    rw [et]
    split <;> omega
  -- the numbers behind the SECOND
  have dr : ∀ j, j ≠ 3 → j ≠ 4 → (∀ p, p < (F 0).toNat → j ≠ 13 + 5 * p) → drF (rate F (spk F)) 1 (F 0).toNat (upI F 3 (F 3 + 1)) j = F j := fun j h3 h4 hp => by
    rw [drF_o h4 hp, upI_n h3]
  have ers : rate F (spk F) s = rnk (F (10 + 5 * s)) (F (11 + 5 * s)) := by
    unfold rate
    rw [if_pos es.symm]
  have drw : drF (rate F (spk F)) 1 (F 0).toNat (upI F 3 (F 3 + 1)) (13 + 5 * s) = F (13 + 5 * s) - min (F (13 + 5 * s)) (rnk (F (10 + 5 * s)) (F (11 + 5 * s))) := by
    rw [drF_w (by omega), upI_n (by omega), ers, Int.one_mul]
  by_cases hW : F (13 + 5 * s) < rnk (F (10 + 5 * s)) (F (11 + 5 * s))
  · have hq : F (13 + 5 * s) / rnk (F (10 + 5 * s)) (F (11 + 5 * s)) = 0 := Int.ediv_eq_zero_of_lt op.2.2.2.1.1 hW
    have e1 : tilF F = 1 := by
      rw [et, hq, if_neg (by omega)]
      rfl
    have esec : secF ear F = endF (drF (rate F (spk F)) 1 (F 0).toNat (upI F 3 (F 3 + 1))) 2 := by
      unfold secF
      dsimp only
      rw [if_neg (by omega), if_neg h6, es', if_pos hW]
    refine ⟨t1, fun _ => by rw [esec, endF_6], fun z => absurd e1 z, ?_⟩
    rw [esec, endF_5, dr 5 (by omega) (by omega) (fun p _ => by omega)]
    exact h5
  · have hq1 : F (13 + 5 * s) / rnk (F (10 + 5 * s)) (F (11 + 5 * s)) = (F (13 + 5 * s) - rnk (F (10 + 5 * s)) (F (11 + 5 * s))) / rnk (F (10 + 5 * s)) (F (11 + 5 * s)) + 1 := by
      have := Int.add_mul_ediv_right (F (13 + 5 * s) - rnk (F (10 + 5 * s)) (F (11 + 5 * s))) 1 (show rnk (F (10 + 5 * s)) (F (11 + 5 * s)) ≠ 0 by omega)
      rw [Int.one_mul] at this
      rw [← this]
      congr 1
      omega
    have hq2 : 0 ≤ (F (13 + 5 * s) - rnk (F (10 + 5 * s)) (F (11 + 5 * s))) / rnk (F (10 + 5 * s)) (F (11 + 5 * s)) := Int.ediv_nonneg (by omega) (by omega)
    by_cases h7 : F 7 - 1 = 0
    · have e1 : tilF F = 1 := by
        rw [et, if_pos (by omega)]
        omega
      have esec : secF ear F 6 = 0 ∧ secF ear F 5 = 0 := by
        unfold secF
        dsimp only
        rw [if_neg (by omega), if_neg h6, es', if_neg hW, if_pos h7]
        refine ⟨endF_6 _ _, ?_⟩
        rw [endF_5, upI_n (by omega), upI_n (by omega), dr 5 (by omega) (by omega) (fun p _ => by omega)]
        exact h5
      exact ⟨t1, fun _ => esec.1, fun z => absurd e1 z, esec.2⟩
    · have esec : secF ear F = upI (drF (rate F (spk F)) 1 (F 0).toNat (upI F 3 (F 3 + 1))) 7 (F 7 - 1) := by
        unfold secF
        dsimp only
        rw [if_neg (by omega), if_neg h6, es', if_neg hW, if_neg h7]
      have g : ∀ j, j ≠ 3 → j ≠ 4 → j ≠ 7 → (∀ p, p < (F 0).toNat → j ≠ 13 + 5 * p) → secF ear F j = F j := fun j h3 h4 h7 hp => by
        rw [esec, upI_n h7, dr j h3 h4 hp]
      have g6 : secF ear F 6 = F 6 := g 6 (by omega) (by omega) (by omega) (fun p _ => by omega)
      have gs : spk (secF ear F) = spk F := spk_congr g6 (g _ (by omega) (by omega) (by omega) (fun p _ => by omega))
      have gt : tilF (secF ear F) = tilF F - 1 := by
        rw [et]
        unfold tilF
        rw [g6, if_neg h6, gs, es', g (10 + 5 * s) (by omega) (by omega) (by omega) (fun p _ => by omega), g (11 + 5 * s) (by omega) (by omega) (by omega) (fun p _ => by omega)]
        have e13 : secF ear F (13 + 5 * s) = F (13 + 5 * s) - rnk (F (10 + 5 * s)) (F (11 + 5 * s)) := by
          rw [esec, upI_n (by omega), drw]
          omega
        have e7 : secF ear F 7 = F 7 - 1 := by rw [esec, upI_s]
        rw [e13, e7, hq1]
        split <;> split <;> omega
      refine ⟨t1, fun z => ?_, fun _ => ⟨g6, gt⟩, ?_⟩
      · exfalso
        rw [et, hq1] at z
        split at z <;> omega
      · rw [g 5 (by omega) (by omega) (by omega) (fun p _ => by omega)]
        exact h5
/-- behind as many SECONDS nothing is IN HAND -/
theorem til_0 {ear : Int → Int → Int → Int} (he : ∀ x y z, 0 ≤ ear x y z) : ∀ (n : Nat) {B : Int} {F : Nat → Int}, OKF B F → F 6 ≠ 0 → F 5 = 0 → tilF F = n → secN ear n F 6 = 0
  | 0, B, F, ok, h6, h5, ht => by
    have := (@til_1 ear B F ok h6 h5).1
    exfalso
    have e : ((0 : Nat) : Int) = 0 := rfl
    omega
  | n + 1, B, F, ok, h6, h5, ht => by
    obtain ⟨t1, t2, t3, t5⟩ := @til_1 ear B F ok h6 h5
    show secN ear n (secF ear F) 6 = 0
    by_cases h1 : tilF F = 1
    · have : n = 0 := by omega
      subst this
      exact t2 h1
    · obtain ⟨a, b⟩ := t3 h1
      exact til_0 he n (OKF_sec he ok) (by rw [a]; exact h6) t5 (by rw [b, ht]; push_cast; omega)
section
variable {G : GT} {d : Nat} {h : Hp} {Q : Int32 → Hp → Prop} {QW : Hp → Prop}
theorem rg_goes {B : Int} {h0 : Hp} {p0 p1 : List Int32} (hd : 81 ≤ d) (ok : OKF B (vM h0)) (hB : B + 2000 ≤ 1000000000) (T : TxM h0 95 p0 p1) (n : Nat) (hn : n ≤ 1000) (k : ∀ h', MS h0 h' → vM h' = secN (earI p0) n (vM h0) → QW h') : ∀ (m i : Nat) (h : Hp), i + m = n → MS h0 h → vM h = secN (earI p0) i (vM h0) → (m = 0 → vM h 6 = 0) → (m ≠ 0 → vM h 6 ≠ 0 ∧ vM h 5 = 0 ∧ tilF (vM h) = m) → Rg_X12_goes_5 G d h QW := by
  intro m
  induction m with
  | zero =>
    intro i h hi ms hv z0 _
    have : i = n := by omega
    subst this
    have e6 : (h.1 95 6).toInt = vM h 6 := rfl
    refine vc_X12_goes_5 ms.1 ⟨fun _ => k h ms hv, fun z => ?_⟩
    exfalso
    rw [i_le, e6, z0 rfl] at z
    exact z (by decide)
  | succ m ih =>
    intro i h hi ms hv _ z1
    obtain ⟨c6, c5, ct⟩ := z1 (by omega)
    have oki : OKF (B + i) (vM h) := by rw [hv]; exact OKF_secN he_ear i ok
    have o6 := oki.2.2.2.2.2.1
    have e6 : (h.1 95 6).toInt = vM h 6 := rfl
    obtain ⟨t1, t2, t3, t5⟩ := @til_1 (earI p0) _ _ oki c6 c5
    refine vc_X12_goes_5 ms.1 ⟨fun z => ?_, fun _ => ev_aSecond ms.1 hd oki (by omega) (T.keep ms) (fun h' ms' hv' => ih (i + 1) h' (by omega) (ms.trans ms') (by rw [hv', hv, secN_succ]) (fun q => ?_) (fun q => ?_))⟩
    · exfalso
      rw [i_le, e6] at z
      have : vM h 6 ≤ 0 := z
      omega
    · rw [hv']
      exact t2 (by rw [ct, q]; rfl)
    · obtain ⟨a, b⟩ := t3 (by rw [ct]; omega)
      rw [hv']
      exact ⟨by rw [a]; exact c6, t5, by rw [b, ct]; push_cast; omega⟩
/-- a WORD comes IN HAND -/
def begF (F : Nat → Int) (w : Nat) : Nat → Int := upI (upI F 6 ((w : Int) + 1)) 7 (F (31 + 5 * w))
theorem OKF_beg {B : Int} {F : Nat → Int} {w : Nat} (ok : OKF B F) (hw : (w : Int) < F 1) (h0 : F (34 + 5 * w) = 0) : OKF B (begF F w) := OKF_67 ok hw h0
theorem beg_6 {F : Nat → Int} {w : Nat} : begF F w 6 = (w : Int) + 1 := by
  unfold begF
  rw [upI_n (by omega), upI_s]
theorem beg_5 {F : Nat → Int} {w : Nat} : begF F w 5 = F 5 := by
  unfold begF
  rw [upI_n (by omega), upI_n (by omega)]
theorem til_le {B : Int} {F : Nat → Int} (ok : OKF B F) : 0 ≤ tilF F ∧ tilF F ≤ 30 := by
  have o7 := ok.2.2.2.2.2.2.1
  refine ⟨tilF_in ok, ?_⟩
  unfold tilF
  split
  · omega
  split
  · omega
  · omega
/-- what a WORD's saying makes -/
def goF (ear : Int → Int → Int → Int) (F : Nat → Int) (w : Nat) : Nat → Int := secN ear (tilF (begF F w)).toNat (begF F w)
theorem ev_goes {B : Int} {p0 p1 : List Int32} {a1 : Int32} {w : Nat} (hR : RF h) (hd : 85 ≤ d) (ok : OKF B (vM h)) (hB : B + 2000 ≤ 1000000000) (T : TxM h 95 p0 p1) (ew : a1.toInt = w) (hw : (w : Int) < vM h 1) (h0 : vM h (34 + 5 * w) = 0) (h5 : vM h 5 = 0) (k : ∀ h', MS h h' → vM h' = goF (earI p0) (vM h) w → QW h') : EvV G d mX12_goes [.inr (.inr (some 94)), .inl a1] h QW := by
  obtain ⟨e, rfl⟩ := dpos (show 1 ≤ d by omega)
  have o1 := ok.2.1
  have e1 : (a1 + 1).toInt = (w : Int) + 1 := by rw [ti_add (by rw [ew]; simp only [Int32.reduceToInt]; omega) (by rw [ew]; simp only [Int32.reduceToInt]; omega), ew]; rfl
  refine vc_X12_goes hR (ev_begins hR (by omega) ew (by omega) ?_)
  have ev : vM (sI (sI h 95 6 (a1 + 1)) 95 7 (h.1 95 (31 + 5 * w))) = begF (vM h) w := by
    rw [vM_sI, vM_sI, e1]
    rfl
  have ms : MS h (sI (sI h 95 6 (a1 + 1)) 95 7 (h.1 95 (31 + 5 * w))) := (MS.s95 hR (by omega)).trans (MS.s95 (RF_sI hR) (by omega))
  have okb := OKF_beg ok hw h0
  have tl := til_le okb
  have t1 := (@til_1 (earI p0) _ _ okb (by rw [beg_6]; omega) (by rw [beg_5]; exact h5)).1
  refine rg_goes (n := (tilF (begF (vM h) w)).toNat) (by omega) (by rw [ev]; exact okb) hB (T.keep ms) (by omega) (fun h' m hv => k h' (ms.trans m) (by rw [hv, ev]; rfl)) (tilF (begF (vM h) w)).toNat 0 _ (by omega) (MS.refl ms.1) rfl (fun z => by exfalso; omega) (fun _ => by rw [ev]; exact ⟨by rw [beg_6]; omega, by rw [beg_5]; exact h5, by omega⟩)
end
