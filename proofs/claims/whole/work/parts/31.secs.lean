/-! what SECONDS don't see -/
def irr (k : Nat) : Prop := k = 2 ∨ k = 8 ∨ k = 9
theorem drFk {k : Nat} (hk : irr k) (r : Nat → Int) (n : Int) (N : Nat) (F : Nat → Int) (v : Int) : drF r n N (upI F k v) = upI (drF r n N F) k v := by
  unfold irr at hk
  have kl : ∀ M, lossF r n (upI F k v) M = lossF r n F M := fun M => lossF_congr (fun p _ => upI_n (by omega))
  funext j
  by_cases h3 : j = k
  · rw [h3, upI_s, drF_o (by omega) (fun p hp => by omega), upI_s]
  · rw [upI_n h3]
    unfold drF
    rw [kl, upI_n h3, upI_n (by omega : 4 ≠ k)]
theorem endFk {k : Nat} (hk : irr k) (F : Nat → Int) (v how : Int) : endF (upI F k v) how = upI (endF F how) k v := by
  unfold irr at hk
  unfold endF
  rw [upI_n (by omega : 6 ≠ k), upI_c (by omega : k ≠ 34 + 5 * (F 6 - 1).toNat), upI_c (by omega : k ≠ 6), upI_c (by omega : k ≠ 7)]
theorem spkk {k : Nat} (hk : irr k) (F : Nat → Int) (v : Int) : spk (upI F k v) = spk F := by
  unfold irr at hk
  unfold spk
  rw [upI_n (by omega), upI_n (by omega)]
theorem ratek {k : Nat} (hk : irr k) (F : Nat → Int) (v who : Int) : rate (upI F k v) who = rate F who := by
  unfold irr at hk
  funext p
  unfold rate
  rw [upI_n (by omega), upI_n (by omega)]
theorem restFk {k : Nat} (hk : irr k) (n : Int) (F : Nat → Int) (v : Int) : restF n (upI F k v) = upI (restF n F) k v := by
  have hk' := hk
  unfold irr at hk'
  unfold restF
  rw [spkk hk, ratek hk, upI_n (by omega : 0 ≠ k), drFk hk]
  split <;> rfl
theorem spokenFk {k : Nat} (hk : irr k) (ear : Int → Int → Int → Int) (sp : Int) (F : Nat → Int) (v : Int) : spokenF ear sp (upI F k v) = upI (spokenF ear sp F) k v := by
  have hk' := hk
  unfold irr at hk'
  unfold spokenF
  simp only [spkk hk, ratek hk]
  rw [upI_n (by omega : 0 ≠ k), drFk hk, upI_n (by omega : 7 ≠ k), upI_n (by omega : 13 + 5 * (spk F).toNat ≠ k), upI_n (by omega : 10 + 5 * (spk F).toNat ≠ k), upI_n (by omega : 11 + 5 * (spk F).toNat ≠ k), upI_n (by omega : 14 + 5 * (spk F).toNat ≠ k), upI_n (by omega : 6 ≠ k), upI_n (by omega : 31 + 5 * (F 6 - 1).toNat ≠ k), upI_n (by omega : 32 + 5 * (F 6 - 1).toNat ≠ k), upI_c (by omega : k ≠ 7), upI_c (by omega : k ≠ 14 + 5 * (spk F).toNat), endFk hk, endFk hk]
  split
  · rfl
  · split <;> rfl
theorem xFk {k : Nat} (hk : irr k) (ear : Int → Int → Int → Int) (n : Int) (F : Nat → Int) (v : Int) : xF ear n (upI F k v) = upI (xF ear n F) k v := by
  have hk' := hk
  unfold irr at hk'
  have et : tilF (upI F k v) = tilF F := by
    unfold tilF
    rw [spkk hk, upI_n (by omega : 6 ≠ k), upI_n (by omega : 7 ≠ k), upI_n (by omega : 13 + 5 * (spk F).toNat ≠ k), upI_n (by omega : 10 + 5 * (spk F).toNat ≠ k), upI_n (by omega : 11 + 5 * (spk F).toNat ≠ k)]
  unfold xF
  rw [et, upI_n (by omega : 5 ≠ k), spokenFk hk, restFk hk, restFk hk]
  split
  · rfl
  · split <;> rfl
theorem secFk {k : Nat} (hk : irr k) {ear : Int → Int → Int → Int} {B : Int} {F : Nat → Int} (v : Int) (ok : OKF B F) : secF ear (upI F k v) = upI (secF ear F) k v := by
  have hk' := hk
  unfold irr at hk'
  rw [secF_x (OKF_irr hk' ok), secF_x ok, xFk hk, upI_n (by omega : 3 ≠ k), upI_c (by omega : k ≠ 3)]
theorem secNk {k : Nat} (hk : irr k) {ear : Int → Int → Int → Int} (he : ∀ x y z, 0 ≤ ear x y z) (v : Int) : ∀ (n : Nat) {B : Int} {F : Nat → Int}, OKF B F → secN ear n (upI F k v) = upI (secN ear n F) k v
  | 0, _, _, _ => rfl
  | n + 1, B, F, ok => by
    show secN ear n (secF ear (upI F k v)) = upI (secN ear n (secF ear F)) k v
    rw [secFk hk v ok]
    exact secNk hk he v n (OKF_sec he ok)
/-- the same change of both, the tape's and the waiting numbers' counts too -/
theorem Inv_upB {h h' : Hp} (I : Inv h) (F' : Nat → Int) (hR : RF h') (fr : ∀ a, ¬ scr a → ¬ (1 ≤ a ∧ a ≤ 12) → a ≠ 95 → a ≠ 94 → h'.1 a = h.1 a) (g1 : h'.1 94 3 = h.1 94 3) (g2 : h'.1 94 32 = h.1 94 32) (eM : vM h' = F') (eC : ∀ j, j < 90 → vC h' 9 z0 j = F' j) (hi : ∀ j, 90 ≤ j → F' j = vM h j) (ok : OKF 99999 F') (b8 : 0 ≤ F' 8 ∧ F' 8 ≤ 50) (b9 : 0 ≤ F' 9 ∧ F' 9 ≤ 20) : Inv h' := by
  refine Inv_upA I hR fr g1 g2 (fun j h1 h2 => ?_) (fun j hj => ?_) (by rw [eM]; exact ok) (by rw [eM]; exact b8) (by rw [eM]; exact b9)
  · have := hi j h1
    rw [← eM] at this
    rw [i_eq]
    exact this
  · rw [eM, eC j hj]
theorem Inv.b89 {h : Hp} (I : Inv h) : (0 ≤ vM h 8 ∧ vM h 8 ≤ 50) ∧ (0 ≤ vM h 9 ∧ vM h 9 ≤ 20) := by
  obtain ⟨-, ⟨p0, p1, -, -, s3, s4, -⟩, -⟩ := I
  exact ⟨s3, s4⟩
/-! SECONDS on both sides -/
/-- nothing that counts is changed -/
def MZ (h h' : Hp) : Prop := RF h' ∧ (∀ a, ¬ scr a → a ≠ 94 → h'.1 a = h.1 a) ∧ h'.1 94 3 = h.1 94 3 ∧ h'.1 94 32 = h.1 94 32
theorem MZ.refl {h : Hp} (hR : RF h) : MZ h h := ⟨hR, fun _ _ _ => rfl, rfl, rfl⟩
theorem MZ.trans {h h1 h2 : Hp} (a : MZ h h1) (b : MZ h1 h2) : MZ h h2 := ⟨b.1, fun x p q => (b.2.1 x p q).trans (a.2.1 x p q), b.2.2.1.trans a.2.2.1, b.2.2.2.trans a.2.2.2⟩
theorem MZ.inv {h h' : Hp} (m : MZ h h') (I : Inv h) : Inv h' := Inv_scr I m.1 (fun a h1 h2 _ => m.2.1 a h1 h2) m.2.2.1 m.2.2.2 (by rw [m.2.1 83 (by unfold scr; omega) (by omega)])
theorem MZ.v {h h' : Hp} (m : MZ h h') : vM h' = vM h := by
  funext j
  show (h'.1 95 j).toInt = _
  rw [m.2.1 95 (by unfold scr; omega) (by omega)]
theorem MT.z {h h' : Hp} (m : MT h h') : MZ h h' := by
  refine ⟨m.1.1, fun a h1 h2 => ?_, m.1.2.2.2.1 3 (by omega), m.1.2.2.2.1 32 (by omega)⟩
  by_cases h95 : a = 95
  · rw [h95]; exact m.2
  · exact m.1.2.2.1 a h2 h95 (fun z => h1 (by unfold scr; omega))
/-- the hearing of the class, as a whole -/
theorem Inv.cf {h : Hp} (I : Inv h) : vC h 9 (vM h) = vM h := by
  funext j
  by_cases hj : j < 90
  · exact I.c hj
  · unfold vC
    rw [if_neg (by omega), if_neg (by omega), if_neg (by omega), if_neg (by omega), if_neg (by omega), if_neg (by omega), if_neg (by omega), if_neg (by omega), if_neg (by omega), if_neg (by omega), if_neg (by omega), if_neg (by omega)]
theorem vC_bg {h : Hp} {f : Nat} {b1 b2 : Nat → Int} {j : Nat} (hj : j < 90) : vC h f b1 j = vC h f b2 j := by
  unfold vC
  repeat' (first | (refine ite_congr rfl (fun _ => ?_) (fun _ => ?_)) | rfl | omega)
theorem he_ear {p0 : List Int32} : ∀ x y z, 0 ≤ earI p0 x y z := fun _ _ _ => tgP0_in.1
theorem Inv.tx {h : Hp} (I : Inv h) : ∃ p0 p1, TxM h 95 p0 p1 ∧ TxC h 13 p0 ∧ TxC h 16 p1 := by
  obtain ⟨-, ⟨p0, p1, -, -, -, -, -, -, s7, s8, s9⟩, -⟩ := I
  exact ⟨p0, p1, s7, s8, s9⟩
/-- both hearings have gone on alike -/
theorem Inv_run {h h1 h2 : Hp} {bg : Nat → Int} (I : Inv h) (c : ∀ a, ¬ scr a → ¬ (1 ≤ a ∧ a ≤ 12) → h1.1 a = h.1 a) (m : MS h1 h2) (e : ∀ j, j < 90 → vM h2 j = vC h1 9 bg j) (ok : OKF 99999 (vM h2)) (b8 : vM h2 8 = vM h 8) (b9 : vM h2 9 = vM h 9) : Inv h2 := by
  have f2 : ∀ a, a ≠ 94 → a ≠ 95 → a ≠ 99 → h2.1 a = h1.1 a := m.2.2.1
  obtain ⟨p0, p1, s1, s2, s3, s4, -⟩ := I.2.1
  refine Inv_upA I m.1 (fun a h1' h2' h3 h4 => ?_) ?_ ?_ (fun j h1' h2' => ?_) (fun j hj => ?_) ok (by rw [b8]; exact s3) (by rw [b9]; exact s4)
  · rw [f2 a h4 h3 (fun z => h1' (by unfold scr; omega)), c a h1' h2']
  · rw [m.2.2.2.1 3 (by omega), c 94 (by unfold scr; omega) (by omega)]
  · rw [m.2.2.2.1 32 (by omega), c 94 (by unfold scr; omega) (by omega)]
  · rw [m.2.2.2.2 j h1', c 95 (by unfold scr; omega) (by omega)]
  · rw [e j hj, @vC_bg h1 9 bg z0 j hj]
    exact (congrFun (vC_off (h := h1) (h' := h2) (f := 9) (bg := z0) (fun a ha => f2 a (by omega) (by omega) (by omega))) j).symm
theorem upI_lo {F : Nat → Int} {k : Nat} {v : Int} {j : Nat} (h : j ≠ k) : upI F k v j = F j := upI_n h
theorem endF_lo {F : Nat → Int} {v : Int} {j : Nat} (h6 : j ≠ 6) (h7 : j ≠ 7) (hw : j ≠ 34 + 5 * (F 6 - 1).toNat) : endF F v j = F j := by
  unfold endF
  rw [upI_n h7, upI_n h6, upI_n hw]
/-- what a SECOND doesn't touch -/
theorem secF_lo {ear : Int → Int → Int → Int} {B : Int} {F : Nat → Int} (ok : OKF B F) {j : Nat} (hj : j = 0 ∨ j = 1 ∨ j = 2 ∨ j = 8 ∨ j = 9 ∨ 90 ≤ j) : secF ear F j = F j := by
  have o0 := ok.1
  have o1 := ok.2.1
  have o6 := ok.2.2.2.2.2.1
  have d1 : ∀ (r : Nat → Int), drF r 1 (F 0).toNat (upI F 3 (F 3 + 1)) j = F j := fun r => by
    rw [drF_o (by omega) (fun p hp => by omega), upI_n (by omega)]
  have d6 : ∀ (r : Nat → Int), drF r 1 (F 0).toNat (upI F 3 (F 3 + 1)) 6 = F 6 := fun r => by
    rw [drF_o (by omega) (fun p hp => by omega), upI_n (by omega)]
  unfold secF
  dsimp only
  split
  · exact upI_n (by omega)
  split
  · exact d1 _
  · rename_i h5 h6
    obtain ⟨k1, k2, k3, k4, k5⟩ := spk_in ok h6
    split
    · rw [endF_lo (by omega) (by omega) (by rw [d6]; omega)]
      exact d1 _
    split
    · rw [endF_lo (by omega) (by omega) (by rw [upI_n (by omega), upI_n (by omega), d6]; omega), upI_n (by omega), upI_n (by omega)]
      exact d1 _
    · rw [upI_n (by omega)]
      exact d1 _
theorem OKF_3 {B B' : Int} {F : Nat → Int} (ok : OKF B F) (h : F 3 ≤ B') : OKF B' F := by
  obtain ⟨q0, q1, q3, q4, q5, q6, q7, q8, q9, q10⟩ := ok
  exact ⟨q0, q1, ⟨q3.1, h⟩, q4, q5, q6, q7, q8, q9, q10⟩
theorem secN_lo (ear : Int → Int → Int → Int) : ∀ (n : Nat) {B : Int} {F : Nat → Int}, OKF B F → (∀ x y z, 0 ≤ ear x y z) → (∀ j, j = 0 ∨ j = 1 ∨ j = 2 ∨ j = 8 ∨ j = 9 ∨ 90 ≤ j → secN ear n F j = F j) ∧ secN ear n F 3 = F 3 + n
  | 0, _, _, _, _ => ⟨fun _ _ => rfl, by show _ = _ + ((0 : Nat) : Int); simp; rfl⟩
  | n + 1, B, F, ok, he => by
    have ih := secN_lo ear n (OKF_sec he ok) he
    have e1 : ∀ j, j = 0 ∨ j = 1 ∨ j = 2 ∨ j = 8 ∨ j = 9 ∨ 90 ≤ j → secF ear F j = F j := fun j hj => secF_lo ok hj
    have e3 : secF ear F 3 = F 3 + 1 := by rw [secF_x ok, upI_s]
    refine ⟨fun j hj => ?_, ?_⟩
    · show secN ear n (secF ear F) j = F j
      rw [ih.1 j hj, e1 j hj]
    · show secN ear n (secF ear F) 3 = _
      rw [ih.2, e3]
      push_cast
      omega
section
variable {G : GT} {d : Nat} {h : Hp} {Q : Int32 → Hp → Prop} {QW : Hp → Prop}
theorem rg_seconds {B : Int} {h0 : Hp} {p0 p1 : List Int32} {l1 : Int32} {n : Nat} (hd : 81 ≤ d) (ok : OKF B (vM h0)) (hB : B + n ≤ 1000000000) (T : TxM h0 95 p0 p1) (hl : l1.toInt = n) (hn : n ≤ 1000) (k : ∀ h', MS h0 h' → vM h' = secN (earI p0) n (vM h0) → Q (h'.1 95 4) h') : ∀ (m i : Nat) (h : Hp), i + m = n → MS h0 h → vM h = secN (earI p0) i (vM h0) → Rg_X12_seconds_39 G d l1 (nI i) h Q := by
  intro m
  induction m with
  | zero =>
    intro i h hi ms hv
    have : i = n := by omega
    subst this
    refine vc_X12_seconds_39 ms.1 ⟨fun _ => k h ms hv, fun z => ?_⟩
    exfalso
    rw [i_le, hl, ti_nI (by omega)] at z
    omega
  | succ m ih =>
    intro i h hi ms hv
    refine vc_X12_seconds_39 ms.1 ⟨fun z => ?_, fun _ => ?_⟩
    · exfalso
      rw [i_le, hl, ti_nI (by omega)] at z
      omega
    · have oki : OKF (B + i) (vM h) := by rw [hv]; exact OKF_secN he_ear i ok
      refine ev_aSecond ms.1 hd oki (by omega) (T.keep ms) (fun h' ms' hv' => ?_)
      rw [nI_1]
      refine ih (i + 1) h' (by omega) (ms.trans ms') ?_
      rw [hv', hv, secN_succ]
theorem M_seconds {F : Nat → Int} {a1 : Int32} {p0 p1 : List Int32} (eF : vM h = F) (hR : RF h) (hd : 90 ≤ d) (ok : OKF 99999 F) (T : TxM h 95 p0 p1) (k1 : ¬ (1 ≤ a1.toInt ∧ a1.toInt ≤ 300) → Q (er 1) (sI h 98 1 (h.1 98 1 + 1)))
    (k3 : (1 ≤ a1.toInt ∧ a1.toInt ≤ 300) → 99999 < F 3 + a1.toInt → Q (er 3) (sI h 98 3 (h.1 98 3 + 1)))
    (k : ∀ (n : Nat) (h' : Hp), a1.toInt = n → 1 ≤ n → n ≤ 300 → F 3 + n ≤ 99999 → MS h h' → vM h' = secN (earI p0) n F → Q (h'.1 95 4) h') : EvI G d mX12_seconds [.inr (.inr (some 94)), .inl a1] h Q := by
  obtain ⟨e, rfl⟩ := dpos (show 1 ≤ d by omega)
  subst eF
  have o3 := ok.2.2.1
  have e3 : (h.1 95 3).toInt = vM h 3 := rfl
  refine vc_X12_seconds hR (ev_in32 hR (by omega) (br2' (fun c => ⟨fun c2 => ?_, fun c2 => ?_⟩) (fun c => ev_finds hR (by omega) (n := 1) rfl (by omega) (k1 c))))
  · (try simp only [Int32.reduceToInt, Int64.reduceToInt, ti_m1, tl_m1, ti_m2, tl_m2] at *)
    have e3 : (h.1 95 3).toInt = vM h 3 := rfl
    rw [i_le, ti_add (by omega) (by omega), e3] at c2
    (try simp only [Int32.reduceToInt, Int64.reduceToInt, ti_m1, tl_m1, ti_m2, tl_m2] at *)
    exact rg_seconds (n := a1.toInt.toNat) (by omega) ok (by omega) T (by omega) (by omega) (fun h' ms hv => k _ h' (by omega) (by omega) (by omega) (by omega) ms hv) a1.toInt.toNat 0 h (by omega) (MS.refl hR) rfl
  · (try simp only [Int32.reduceToInt, Int64.reduceToInt, ti_m1, tl_m1, ti_m2, tl_m2] at *)
    have e3 : (h.1 95 3).toInt = vM h 3 := rfl
    rw [i_le, ti_add (by omega) (by omega), e3] at c2
    (try simp only [Int32.reduceToInt, Int64.reduceToInt, ti_m1, tl_m1, ti_m2, tl_m2] at *)
    exact ev_finds hR (by omega) (n := 3) rfl (by omega) (k3 c (by omega))
theorem step_seconds {a1 : Int32} (I : Inv h) (hd : 100 ≤ d) : EvI G d mX11_seconds [.inr (.inr (some 0)), .inl a1] h (fun x h1 => EvI G d mX12_seconds [.inr (.inr (some 94)), .inl a1] h1 (fun y h2 => x = y ∧ Inv h2)) := by
  have hd' := hd
  have hR := I.1
  have ok := I.ok
  have o3 := ok.2.2.1
  obtain ⟨p0, p1, T, T0, T1⟩ := I.tx
  have e3 : (h.1 9 3).toInt = vM h 3 := I.c (bg := z0) (j := 3) (by omega)
  have kx : ∀ k v, TxM (sI h 93 k v) 95 p0 p1 := fun k v => TxM_eq (fun j _ _ => by rw [sI_ne (by omega)]) T
  obtain ⟨e, rfl⟩ := dpos (show 1 ≤ d by omega)
  refine vc_X11_seconds hR (ev_within hR (by omega) (br2' (fun c => ⟨fun c2 => ?_, fun c2 => ?_⟩) (fun c => ?_)))
  · (try simp only [Int32.reduceToInt, Int64.reduceToInt, ti_m1, tl_m1, ti_m2, tl_m2] at *)
    rw [i_le, ti_add (by omega) (by omega), e3] at c2
    (try simp only [Int32.reduceToInt, Int64.reduceToInt, ti_m1, tl_m1, ti_m2, tl_m2] at *)
    have okC : OKF 99999 (vC h 9 (vM h)) := by rw [I.cf]; exact ok
    refine ev_pass (bg := vM h) hR (by omega) rfl okC (by omega) (by omega) T0 (fun h1 cs hv => ?_)
    have m1 : vM h1 = vM h := by
      funext j
      show (h1.1 95 j).toInt = _
      rw [cs.2.2 95 (by omega) (by omega) (by omega) (by omega) (by omega)]
    have T' : TxM h1 95 p0 p1 := TxM_eq (fun j _ _ => by rw [cs.2.2 95 (by omega) (by omega) (by omega) (by omega) (by omega)]) T
    refine M_seconds m1 cs.1 (by omega) ok T' (fun z => absurd c z) (fun _ z => absurd z (by omega)) (fun n h2 z1 z2 z3 z4 ms hv2 => ?_)
    have ep : pasF (earI p0) a1.toInt (vC h 9 (vM h)) = secN (earI p0) n (vM h) := by rw [I.cf, z1]; exact pas_sec he_ear n ok
    rw [ep] at hv
    have slo := secN_lo (earI p0) n ok he_ear
    refine ⟨?_, ?_⟩
    · rw [i_eq]
      show (h1.1 9 4).toInt = vM h2 4
      rw [hv2, ← hv]
      rfl
    · refine Inv_run (bg := vM h) I (fun a h1' h2' => cs.2.2 a (by omega) (by omega) (by omega) (by omega) (fun z => h1' (by unfold scr; omega))) ms (fun j _ => by rw [hv2, hv]) ?_ ?_ ?_
      · rw [hv2]
        refine OKF_3 (OKF_secN he_ear n ok) ?_
        rw [slo.2]
        omega
      · rw [hv2]; exact slo.1 8 (by omega)
      · rw [hv2]; exact slo.1 9 (by omega)
  · (try simp only [Int32.reduceToInt, Int64.reduceToInt, ti_m1, tl_m1, ti_m2, tl_m2] at *)
    rw [i_le, ti_add (by omega) (by omega), e3] at c2
    (try simp only [Int32.reduceToInt, Int64.reduceToInt, ti_m1, tl_m1, ti_m2, tl_m2] at *)
    exact ev_refuse hR (by omega) (n := 3) rfl (by omega) (M_seconds (vM_lo (by omega)) (RF_sI hR) (by omega) ok (kx _ _) (fun z => absurd c z) (fun _ _ => ⟨rfl, Inv_err I rfl⟩) (fun n h2 z1 z2 z3 z4 ms hv2 => absurd z4 (by omega)))
  · (try simp only [Int32.reduceToInt, Int64.reduceToInt, ti_m1, tl_m1, ti_m2, tl_m2] at *)
    exact ev_refuse hR (by omega) (n := 1) rfl (by omega) (M_seconds (vM_lo (by omega)) (RF_sI hR) (by omega) ok (kx _ _) (fun _ => ⟨rfl, Inv_err I rfl⟩) (fun z _ => absurd z c) (fun n h2 z1 z2 z3 z4 ms hv2 => absurd (by omega) c))
/-! AHEAD: a copy of the class, the reference's numbers laid aside -/
theorem vC_eq2 {h h' : Hp} {f g : Nat} {bg : Nat → Int} (r1 : ∀ a, 1 ≤ a → a ≤ 8 → h'.1 a = h.1 a) (rf : ∀ k, 3 ≤ k → k ≤ 7 → h'.1 f k = h.1 g k) (rw1 : ∀ k, k < 4 → h'.1 (f + 1) k = h.1 (g + 1) k) (rw2 : ∀ k, k < 4 → h'.1 (f + 2) k = h.1 (g + 2) k) (rh : ∀ k, k < 12 → h'.1 (f + 3) k = h.1 (g + 3) k) : vC h' f bg = vC h g bg := by
  funext j
  unfold vC
  rw [r1 1 (by omega) (by omega), r1 2 (by omega) (by omega), r1 3 (by omega) (by omega), r1 4 (by omega) (by omega), r1 5 (by omega) (by omega), r1 6 (by omega) (by omega), r1 7 (by omega) (by omega), r1 8 (by omega) (by omega), rf 3 (by omega) (by omega), rf 4 (by omega) (by omega), rf 5 (by omega) (by omega), rf 6 (by omega) (by omega), rf 7 (by omega) (by omega)]
  refine ite_congr rfl (fun _ => rfl) (fun n0 => ?_)
  refine ite_congr rfl (fun _ => rfl) (fun n1 => ?_)
  refine ite_congr rfl (fun _ => rfl) (fun n2 => ?_)
  refine ite_congr rfl (fun _ => rfl) (fun n3 => ?_)
  refine ite_congr rfl (fun _ => rfl) (fun n4 => ?_)
  refine ite_congr rfl (fun _ => rfl) (fun n5 => ?_)
  refine ite_congr rfl (fun _ => rfl) (fun n6 => ?_)
  refine ite_congr rfl (fun _ => rfl) (fun n7 => ?_)
  refine ite_congr rfl (fun _ => rfl) (fun n8 => ?_)
  refine ite_congr rfl (fun _ => rfl) (fun n9 => ?_)
  refine ite_congr rfl (fun h30 => ?_) (fun h30 => ite_congr rfl (fun h90 => ?_) (fun _ => rfl))
  · rw [rw1 _ (by omega), rw2 _ (by omega)]
  · rw [rh _ (by omega)]
theorem ev_copyR {f g : Nat} (hR : RF h) (hd : 1 ≤ d) (hf : SH[f]? = some (.inl 2)) (hg : SH[g]? = some (.inl 2)) (hfg : f + 4 ≤ g ∨ g + 4 ≤ f) (k : ∀ h', RF h' → h'.2 = h.2 → (∀ a, a ≠ f → a ≠ f + 1 → a ≠ f + 2 → a ≠ f + 3 → h'.1 a = h.1 a) → (∀ t, 3 ≤ t → t ≤ 7 → h'.1 f t = h.1 g t) → (∀ t, t < 4 → h'.1 (f + 1) t = h.1 (g + 1) t) → (∀ t, t < 4 → h'.1 (f + 2) t = h.1 (g + 2) t) → (∀ t, t < 12 → h'.1 (f + 3) t = h.1 (g + 3) t) → QW h') : EvV G d mX2_copy [.inr (.inr (some f)), .inr (.inr (some g))] h QW := by
  obtain ⟨e, rfl⟩ := dpos (show 1 ≤ d by omega)
  have l1 := fl_lo hf
  have l2 := fl_lo hg
  refine vc_X2_copy hf hg hR ?_
  rintro h1 e1 h2 e2
  have a1 : ∀ a, a ≠ f → a ≠ f + 1 → a ≠ f + 2 → a ≠ f + 3 → h1.1 a = h.1 a := fun a b1 b2 b3 b4 => by
    rw [e1]
    funext t
    rw [sI_ne (by omega), cpI_at, if_neg (by omega), cpI_at, if_neg (by omega), cpI_at, if_neg (by omega)]
  have w1 : ∀ t, t < 4 → h1.1 (f + 1) t = h.1 (g + 1) t := fun t ht => by
    rw [e1, sI_ne (by omega), cpI_at, if_neg (by omega), cpI_at, if_neg (by omega), cpI_at, if_pos (by omega)]
    rw [show 0 + (t - 0) = t by omega]
  have w2 : ∀ t, t < 4 → h1.1 (f + 2) t = h.1 (g + 2) t := fun t ht => by
    rw [e1, sI_ne (by omega), cpI_at, if_neg (by omega), cpI_at, if_pos (by omega), cpI_at, if_neg (by omega)]
    rw [show 0 + (t - 0) = t by omega]
  have w3 : ∀ t, t < 12 → h1.1 (f + 3) t = h.1 (g + 3) t := fun t ht => by
    rw [e1, sI_ne (by omega), cpI_at, if_pos (by omega), cpI_at, if_neg (by omega), cpI_at, if_neg (by omega)]
    rw [show 0 + (t - 0) = t by omega]
  have w0 : h1.1 f 3 = h.1 g 3 := by
    rw [e1, sI_self, cpI_at, if_neg (by omega), cpI_at, if_neg (by omega), cpI_at, if_neg (by omega)]
  have hR1 : RF h1 := by rw [e1]; exact RF_sI (RF_cp (RF_cp (RF_cp hR)))
  have s1 : h1.2 = h.2 := by rw [e1]; rfl
  have hR2 : RF h2 := by rw [e2]; exact hR1
  have s2 : h2.2 = h1.2 := by rw [e2]; rfl
  have a2 : ∀ a, a ≠ f → h2.1 a = h1.1 a := fun a b1 => by
    rw [e2]
    funext t
    rw [sI_ne (by omega), sI_ne (by omega), sI_ne (by omega)]
  have g4 : h2.1 f 3 = h.1 g 3 ∧ h2.1 f 4 = h.1 g 4 ∧ h2.1 f 5 = h.1 g 5 ∧ h2.1 f 6 = h.1 g 6 := by
    rw [e2]
    refine ⟨?_, ?_, ?_, ?_⟩
    · rw [sI_ne (by omega), sI_ne (by omega), sI_ne (by omega)]; exact w0
    · rw [sI_ne (by omega), sI_ne (by omega), sI_self, a1 g (by omega) (by omega) (by omega) (by omega)]
    · rw [sI_ne (by omega), sI_self, sI_ne (by omega), a1 g (by omega) (by omega) (by omega) (by omega)]
    · rw [sI_self, sI_ne (by omega), sI_ne (by omega), a1 g (by omega) (by omega) (by omega) (by omega)]
  refine k _ (RF_sI hR2) ?_ (fun a b1 b2 b3 b4 => ?_) (fun t t1 t2 => ?_) (fun t ht => ?_) (fun t ht => ?_) (fun t ht => ?_)
  · show h2.2 = h.2
    rw [s2, s1]
  · funext t
    rw [sI_ne (by omega), a2 a b1, a1 a b1 b2 b3 b4]
  · by_cases h7 : t = 7
    · subst h7
      rw [sI_self, a2 g (by omega), a1 g (by omega) (by omega) (by omega) (by omega)]
    · rw [sI_ne (by omega)]
      rcases (show t = 3 ∨ t = 4 ∨ t = 5 ∨ t = 6 by omega) with rfl | rfl | rfl | rfl
      · exact g4.1
      · exact g4.2.1
      · exact g4.2.2.1
      · exact g4.2.2.2
  · rw [sI_ne (by omega), a2 _ (by omega)]; exact w1 t ht
  · rw [sI_ne (by omega), a2 _ (by omega)]; exact w2 t ht
  · rw [sI_ne (by omega), a2 _ (by omega)]; exact w3 t ht
theorem ev_copyF {f g : Nat} (hR : RF h) (hd : 1 ≤ d) (hf : SH[f]? = some (.inl 2)) (hg : SH[g]? = some (.inl 2)) (hfg : f + 4 ≤ g ∨ g + 4 ≤ f) (k : ∀ h', CS f h h' → (∀ bg, vC h' f bg = vC h g bg) → QW h') : EvV G d mX2_copy [.inr (.inr (some f)), .inr (.inr (some g))] h QW := by
  have l1 := fl_lo hf
  have l2 := fl_lo hg
  exact ev_copyR hR hd hf hg hfg (fun h' r0 r2 ra rf r1 r22 r3 => k h' ⟨r0, r2, fun a b1 b2 b3 b4 _ => ra a b1 b2 b3 b4⟩ (fun bg => vC_eq2 (fun a b1 b2 => ra a (by omega) (by omega) (by omega) (by omega)) rf r1 r22 r3))
theorem rg_keep {h0 : Hp} (hR : RF h0) (k : QW (cpI h0 95 0 97 0 90)) : ∀ (m i : Nat), i + m = 90 → Rg_X12_keepAside_2 G d (nI i) (cpI h0 95 0 97 0 i) QW := by
  intro m
  induction m with
  | zero =>
    intro i hi
    have : i = 90 := by omega
    subst this
    exact vc_X12_keepAside_2 (RF_cp hR) ⟨fun _ => k, fun z => absurd (by decide) z⟩
  | succ m ih =>
    intro i hi
    have ei : (nI i).toInt = (i : Int) := ti_nI (by omega)
    refine vc_X12_keepAside_2 (RF_cp hR) ⟨fun z => ?_, fun _ => ⟨in_of (by omega) (by omega), in_of (by omega) (by omega), ?_⟩⟩
    · rw [i_le, ei] at z
      exact absurd z (by show ¬ (90 : Int) ≤ _; omega)
    · rw [cl_of ei, nI_1, cpI_at, if_neg (by omega)]
      have e1 := @cpI_s h0 95 0 97 0 i (by omega)
      rw [Nat.zero_add] at e1
      rw [e1]
      exact ih (i + 1) (by omega)
theorem ev_keep (hR : RF h) (hd : 1 ≤ d) (k : QW (cpI h 95 0 97 0 90)) : EvV G d mX12_keepAside [.inr (.inr (some 94))] h QW := by
  obtain ⟨e, rfl⟩ := dpos (show 1 ≤ d by omega)
  have := rg_keep (G := G) (d := e) hR k 90 0 (by omega)
  rw [cpI_0] at this
  exact vc_X12_keepAside hR this
theorem rg_back {h0 : Hp} (hR : RF h0) (k : QW (cpI h0 97 0 95 0 90)) : ∀ (m i : Nat), i + m = 90 → Rg_X12_putBack_2 G d (nI i) (cpI h0 97 0 95 0 i) QW := by
  intro m
  induction m with
  | zero =>
    intro i hi
    have : i = 90 := by omega
    subst this
    exact vc_X12_putBack_2 (RF_cp hR) ⟨fun _ => k, fun z => absurd (by decide) z⟩
  | succ m ih =>
    intro i hi
    have ei : (nI i).toInt = (i : Int) := ti_nI (by omega)
    refine vc_X12_putBack_2 (RF_cp hR) ⟨fun z => ?_, fun _ => ⟨in_of (by omega) (by omega), in_of (by omega) (by omega), ?_⟩⟩
    · rw [i_le, ei] at z
      exact absurd z (by show ¬ (90 : Int) ≤ _; omega)
    · rw [cl_of ei, nI_1, cpI_at, if_neg (by omega)]
      have e1 := @cpI_s h0 97 0 95 0 i (by omega)
      rw [Nat.zero_add] at e1
      rw [e1]
      exact ih (i + 1) (by omega)
theorem ev_back (hR : RF h) (hd : 1 ≤ d) (k : QW (cpI h 97 0 95 0 90)) : EvV G d mX12_putBack [.inr (.inr (some 94))] h QW := by
  obtain ⟨e, rfl⟩ := dpos (show 1 ≤ d by omega)
  have := rg_back (G := G) (d := e) hR k 90 0 (by omega)
  rw [cpI_0] at this
  exact vc_X12_putBack hR this
/-- laid aside, gone on, put back -/
theorem MZ_back {h h2 : Hp} (m : MS (cpI h 95 0 97 0 90) h2) : MZ h (cpI h2 97 0 95 0 90) := by
  obtain ⟨m0, m1, m2, m3, m4⟩ := m
  refine ⟨RF_cp m0, fun a h1 h2' => ?_, ?_, ?_⟩
  · have h97 : a ≠ 97 := fun z => h1 (by unfold scr; omega)
    have h99 : a ≠ 99 := fun z => h1 (by unfold scr; omega)
    funext t
    rw [cpI_at]
    by_cases h95 : a = 95
    · subst h95
      by_cases ht : t < 90
      · rw [if_pos (by omega), m2 97 (by omega) (by omega) (by omega), cpI_at, if_pos (by omega)]
        rw [show 0 + (0 + (t - 0) - 0) = t by omega]
      · rw [if_neg (by omega), m4 t (by omega), cpI_at, if_neg (by omega)]
    · rw [if_neg (by omega), m2 a h2' h95 h99, cpI_at, if_neg (by omega)]
  · rw [cpI_at, if_neg (by omega), m3 3 (by omega), cpI_at, if_neg (by omega)]
  · rw [cpI_at, if_neg (by omega), m3 32 (by omega), cpI_at, if_neg (by omega)]
theorem TxM_cp {h : Hp} {p0 p1 : List Int32} (T : TxM h 95 p0 p1) : TxM (cpI h 95 0 97 0 90) 95 p0 p1 := TxM_eq (fun j _ _ => by rw [cpI_at, if_neg (by omega)]) T
theorem vM_cp {h : Hp} : vM (cpI h 95 0 97 0 90) = vM h := by
  funext j
  show ((cpI h 95 0 97 0 90).1 95 j).toInt = _
  rw [cpI_at, if_neg (by omega)]
end
