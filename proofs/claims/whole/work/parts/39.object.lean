/-! object, loose -/
section
variable {G : GT} {d : Nat} {h : Hp} {Q : Int32 → Hp → Prop} {QW : Hp → Prop}
theorem spk_eq {F F' : Nat → Int} (h6 : F' 6 = F 6) (hw : ∀ j, 30 ≤ j → F' j = F j) : spk F' = spk F := spk_congr h6 (hw _ (by omega))
theorem M_object {F : Nat → Int} {a1 a2 : Int32} (eF : vM h = F) (hR : RF h) (hd : 10 ≤ d) (ok : OKF 99999 F) (k1 : ¬ ((0 ≤ a1.toInt ∧ a1.toInt < F 0) ∧ (1 ≤ a2.toInt ∧ a2.toInt ≤ 99)) → Q (er 1) (sI h 98 1 (h.1 98 1 + 1)))
    (k3 : ∀ j n : Nat, a1.toInt = j → (j : Int) < F 0 → a2.toInt = n → 1 ≤ n → n ≤ 99 → (spk F < 0 ∨ spk F = j ∨ F (13 + 5 * j) < n) → Q (er 3) (sI h 98 3 (h.1 98 3 + 1)))
    (k : ∀ (j s n : Nat) (v1 v2 v3 v4 : Int32), a1.toInt = j → (j : Int) < F 0 → a2.toInt = n → 1 ≤ n → n ≤ 99 → spk F = s → (s : Int) < F 0 → s ≠ j → (n : Int) ≤ F (13 + 5 * j) → v1.toInt = F (13 + 5 * j) - n → v2.toInt = min 999999 (F 4 + n) → v3.toInt = F (13 + 5 * s) - min (F (13 + 5 * s)) (2 * n) → v4.toInt = min 999999 (v2.toInt + min (F (13 + 5 * s)) (2 * n)) → Q v3 (sI (sI (sI (sI h 95 (13 + 5 * j) v1) 95 4 v2) 95 (13 + 5 * s) v3) 95 4 v4)) : EvI G d mX12_object [.inr (.inr (some 94)), .inl a1, .inl a2] h Q := by
  obtain ⟨e, rfl⟩ := dpos (show 1 ≤ d by omega)
  subst eF
  have o0 := ok.1
  have o4 := ok.2.2.2.1
  refine vc_X12_object hR (ev_isParty hR (by omega) (by omega) (br2 (fun c => ev_in32 hR (by omega) (br2' (fun c2 => ev_speaks hR (by omega) ok (fun x hx => ?_)) (fun c2 => ev_finds hR (by omega) (n := 1) rfl (by omega) (k1 (fun z => c2 z.2))))) (fun c => ev_finds hR (by omega) (n := 1) rfl (by omega) (k1 (fun z => c z.1)))))
  (try simp only [Int32.reduceToInt, Int64.reduceToInt, ti_m1, tl_m1, ti_m2, tl_m2] at *)
  obtain ⟨j, ej⟩ : ∃ j : Nat, a1.toInt = j := ⟨a1.toInt.toNat, by omega⟩
  obtain ⟨n, en⟩ : ∃ n : Nat, a2.toInt = n := ⟨a2.toInt.toNat, by omega⟩
  have oj := ok.2.2.2.2.2.2.2.2.1 j (by omega)
  unfold OKP at oj
  have wj : (h.1 95 (13 + 5 * j)).toInt = vM h (13 + 5 * j) := rfl
  refine ⟨fun c3 => ?_, fun c3 => ⟨fun c4 => ?_, fun c4 => ev_of hR (by omega) (eq_nI ej) (w := 3) rfl (by omega) (by omega) ?_⟩⟩
  · rw [i_lt, hx] at c3
    (try simp only [Int32.reduceToInt, Int64.reduceToInt, ti_m1, tl_m1, ti_m2, tl_m2] at *)
    exact ev_finds hR (by omega) (n := 3) rfl (by omega) (k3 j n ej (by omega) en (by omega) (by omega) (Or.inl c3))
  · rw [i_eq, hx, ej] at c4
    exact ev_finds hR (by omega) (n := 3) rfl (by omega) (k3 j n ej (by omega) en (by omega) (by omega) (Or.inr (Or.inl c4)))
  · rw [i_eq, hx, ej] at c4
    rw [i_lt, hx] at c3
    rw [show 10 + 5 * j + 3 = 13 + 5 * j by omega]
    have h6 : vM h 6 ≠ 0 := fun z => c3 (by rw [spk_no z]; decide)
    obtain ⟨q1, q2, q3, q4, q5⟩ := spk_in ok h6
    obtain ⟨s, es⟩ : ∃ s : Nat, spk (vM h) = s := ⟨(spk (vM h)).toNat, by omega⟩
    have os := ok.2.2.2.2.2.2.2.2.1 s (by omega)
    unfold OKP at os
    refine ⟨fun c5 => ev_loses hR (by omega) (eq_nI ej) (by omega) (by omega) (by omega) (fun g hg => ?_), fun c5 => ev_finds hR (by omega) (n := 3) rfl (by omega) (k3 j n ej (by omega) en (by omega) (by omega) (Or.inr (Or.inr (by rw [i_le, wj] at c5; omega))))⟩
    rw [i_le, wj] at c5
    have egg : g.toInt = n := by omega
    have f4 : vM (sI h 95 (13 + 5 * j) (h.1 95 (13 + 5 * j) - g)) 4 = vM h 4 := by rw [vM_sI, upI_n (by omega)]
    refine ev_spills (RF_sI hR) (by omega) (by omega) (by rw [f4]; exact o4) (fun v2 hv2 => ?_)
    rw [f4, egg] at hv2
    have e2n : (2 * a2).toInt = 2 * (n : Int) := by rw [ti_mul (by rw [en]; simp only [Int32.reduceToInt]; omega) (by rw [en]; simp only [Int32.reduceToInt]; omega), en]; rfl
    have fs : (sI (sI h 95 (13 + 5 * j) (h.1 95 (13 + 5 * j) - g)) 95 4 v2).1 95 (13 + 5 * s) = h.1 95 (13 + 5 * s) := by rw [sI_ne (by omega), sI_ne (by omega)]
    have fsv : vM (sI (sI h 95 (13 + 5 * j) (h.1 95 (13 + 5 * j) - g)) 95 4 v2) (13 + 5 * s) = vM h (13 + 5 * s) := by
      show ((sI (sI h 95 (13 + 5 * j) (h.1 95 (13 + 5 * j) - g)) 95 4 v2).1 95 (13 + 5 * s)).toInt = _
      rw [fs]
    refine ev_loses (RF_sI (RF_sI hR)) (by omega) (eq_nI (hx.trans es)) (by omega) (by omega) (by rw [fsv]; omega) (fun g2 hg2 => ?_)
    rw [fs]
    rw [fsv, e2n] at hg2
    have f42 : vM (sI (sI (sI h 95 (13 + 5 * j) (h.1 95 (13 + 5 * j) - g)) 95 4 v2) 95 (13 + 5 * s) (h.1 95 (13 + 5 * s) - g2)) 4 = v2.toInt := by rw [vM_sI, upI_n (by omega), vM_sI, upI_s]
    refine ev_spills (RF_sI (RF_sI (RF_sI hR))) (by omega) (by omega) (by rw [f42]; omega) (fun v4 hv4 => ?_)
    rw [f42] at hv4
    refine ev_of (by repeat' (first | exact hR | apply RF_sI)) (by omega) (eq_nI (hx.trans es)) (w := 3) rfl (by omega) (by omega) ?_
    rw [show 10 + 5 * s + 3 = 13 + 5 * s by omega, sI_ne (by omega), sI_self]
    have ws : (h.1 95 (13 + 5 * s)).toInt = vM h (13 + 5 * s) := rfl
    exact k j s n _ v2 _ v4 ej (by omega) en (by omega) (by omega) es (by omega) (by omega) (by omega) (by rw [ti_sub (by omega) (by omega), wj, egg]) hv2 (by rw [ti_sub (by omega) (by omega), ws, hg2]) (by rw [hv4, hg2])
theorem step_object {a1 a2 : Int32} (I : Inv h) (hd : 100 ≤ d) : EvI G d mX11_object [.inr (.inr (some 0)), .inl a1, .inl a2] h (fun x h1 => EvI G d mX12_object [.inr (.inr (some 94)), .inl a1, .inl a2] h1 (fun y h2 => x = y ∧ Inv h2)) := by
  have hd' := hd
  have hR := I.1
  have n0 := I.n
  have ok := I.ok
  have o4 := ok.2.2.2.1
  have okC : OKF 99999 (vC h 9 (vM h)) := by rw [I.cf]; exact ok
  obtain ⟨e, rfl⟩ := dpos (show 1 ≤ d by omega)
  have bad1 : ¬ ((0 ≤ a1.toInt ∧ a1.toInt < vM h 0) ∧ (1 ≤ a2.toInt ∧ a2.toInt ≤ 99)) → EvI G (e + 1) mX12_object [.inr (.inr (some 94)), .inl a1, .inl a2] (sI h 93 1 (h.1 93 1 + 1)) (fun y h2 => er 1 = y ∧ Inv h2) := fun z =>
    M_object (vM_lo (by omega)) (RF_sI hR) (by omega) ok (fun _ => ⟨rfl, Inv_err I rfl⟩) (fun j n z1 z2 z3 z4 z5 _ => absurd ⟨⟨by omega, by omega⟩, by omega, by omega⟩ z) (fun j s n v1 v2 v3 v4 z1 z2 z3 z4 z5 _ _ _ _ _ _ _ _ => absurd ⟨⟨by omega, by omega⟩, by omega, by omega⟩ z)
  refine vc_X11_object hR (ev_hasParty hR (by omega) (by omega) (br2 (fun c => ev_within hR (by omega) (br2' (fun c2 => ev_speaker (bg := vM h) hR (by omega) rfl okC (fun x hx => ?_)) (fun c2 => ev_refuse hR (by omega) (n := 1) rfl (by omega) (bad1 (fun z => c2 z.2))))) (fun c => ev_refuse hR (by omega) (n := 1) rfl (by omega) (bad1 (fun z => c (by omega))))))
  (try simp only [Int32.reduceToInt, Int64.reduceToInt, ti_m1, tl_m1, ti_m2, tl_m2] at *)
  rw [I.cf] at hx
  obtain ⟨j, ej⟩ : ∃ j : Nat, a1.toInt = j := ⟨a1.toInt.toNat, by omega⟩
  obtain ⟨n, en⟩ : ∃ n : Nat, a2.toInt = n := ⟨a2.toInt.toNat, by omega⟩
  have oj := ok.2.2.2.2.2.2.2.2.1 j (by omega)
  unfold OKP at oj
  have ipj := I.p (p := j) (by omega)
  have wj : (h.1 10 j).toInt = vM h (13 + 5 * j) := by rw [← ipj.2.2.2.1] <;> rfl
  have bad3 : (spk (vM h) < 0 ∨ spk (vM h) = j ∨ vM h (13 + 5 * j) < n) → EvI G (e + 1) mX12_object [.inr (.inr (some 94)), .inl a1, .inl a2] (sI h 93 3 (h.1 93 3 + 1)) (fun y h2 => er 3 = y ∧ Inv h2) := fun z =>
    M_object (vM_lo (by omega)) (RF_sI hR) (by omega) ok (fun y => absurd ⟨⟨by omega, by omega⟩, by omega, by omega⟩ y) (fun j n z1 z2 z3 z4 z5 _ => ⟨rfl, Inv_err I rfl⟩) (fun j' s n' v1 v2 v3 v4 z1 z2 z3 z4 z5 z6 z7 z8 z9 _ _ _ _ => by
      have : j' = j := by omega
      subst this
      exfalso
      omega)
  refine ⟨fun c3 => ?_, fun c3 => ⟨fun c4 => ?_, fun c4 => ⟨in_of (by omega) (by omega), ?_⟩⟩⟩
  · rw [i_eq, hx, ti_m1] at c3
    exact ev_refuse hR (by omega) (n := 3) rfl (by omega) (bad3 (Or.inl (by omega)))
  · rw [i_eq, hx, ej] at c4
    exact ev_refuse hR (by omega) (n := 3) rfl (by omega) (bad3 (Or.inr (Or.inl c4)))
  · rw [i_eq, hx, ej] at c4
    rw [i_eq, hx, ti_m1] at c3
    have h6 : vM h 6 ≠ 0 := fun z => c3 (spk_no z)
    obtain ⟨q1, q2, q3, q4, q5⟩ := spk_in ok h6
    obtain ⟨s, es⟩ : ∃ s : Nat, spk (vM h) = s := ⟨(spk (vM h)).toNat, by omega⟩
    have os := ok.2.2.2.2.2.2.2.2.1 s (by omega)
    unfold OKP at os
    have ips := I.p (p := s) (by omega)
    have ws : (h.1 10 s).toInt = vM h (13 + 5 * s) := by rw [← ips.2.2.2.1] <;> rfl
    have w4 : (h.1 9 4).toInt = vM h 4 := I.c (bg := z0) (j := 4) (by omega)
    have hxs : x.toInt = s := hx.trans es
    rw [cl_of ej]
    refine ⟨fun c5 => ev_lose hR (by omega) rfl (eq_nI ej) (by omega) (fun g hg => ?_), fun c5 => ev_refuse hR (by omega) (n := 3) rfl (by omega) (bad3 (Or.inr (Or.inr (by rw [i_le, wj] at c5; omega))))⟩
    rw [i_le, wj] at c5
    have hg' : g.toInt = min (h.1 10 j).toInt a2.toInt := hg
    have egg : g.toInt = n := by omega
    show EvV G e mX2_floorGets [.inr (.inr (some 9)), .inl g] (sI h 10 j (h.1 10 j - g)) _
    refine ev_floorGets (RF_sI hR) (by omega) rfl (by omega) (by rw [sI_ne (by omega)]; omega) (fun v2 hv2 => ?_)
    rw [sI_ne (by omega), w4, egg] at hv2
    have e2n : (2 * a2).toInt = 2 * (n : Int) := by rw [ti_mul (by rw [en]; simp only [Int32.reduceToInt]; omega) (by rw [en]; simp only [Int32.reduceToInt]; omega), en]; rfl
    have fs : (sI (sI h 10 j (h.1 10 j - g)) 9 4 v2).1 10 s = h.1 10 s := by rw [sI_ne (by omega), sI_ne (by omega)]
    refine ev_lose (RF_sI (RF_sI hR)) (by omega) rfl (eq_nI hxs) (by omega) (fun g2 hg2 => ?_)
    have hg2' : g2.toInt = min ((sI (sI h 10 j (h.1 10 j - g)) 9 4 v2).1 10 s).toInt (2 * a2).toInt := hg2
    rw [fs, ws, e2n] at hg2'
    show EvV G e mX2_floorGets [.inr (.inr (some 9)), .inl g2] (sI (sI (sI h 10 j (h.1 10 j - g)) 9 4 v2) 10 s ((sI (sI h 10 j (h.1 10 j - g)) 9 4 v2).1 10 s - g2)) _
    rw [fs]
    refine ev_floorGets (RF_sI (RF_sI (RF_sI hR))) (by omega) rfl (by omega) (by rw [sI_ne (by omega), sI_self]; omega) (fun v4 hv4 => ?_)
    rw [sI_ne (by omega), sI_self, hg2'] at hv4
    refine ⟨in_of (by omega) (by omega), ?_⟩
    rw [cl_of hxs, sI_ne (by omega), sI_self]
    refine M_object (F := vM h) (by simp only [vM_lo, Nat.reduceLT]) (by repeat' (first | exact hR | apply RF_sI)) (by omega) ok (fun y => absurd ⟨⟨by omega, by omega⟩, by omega, by omega⟩ y) (fun j' n' z1 z2 z3 z4 z5 z6 => ?_) (fun j' s' n' v1' v2' v3' v4' z1 z2 z3 z4 z5 z6 z7 z8 z9 y1 y2 y3 y4 => ?_)
    · exfalso
      have : j' = j := by omega
      subst this
      omega
    · have : j' = j := by omega
      subst this
      have : s' = s := by omega
      subst this
      have : n' = n := by omega
      subst this
      have x1 : h.1 10 j' - g = v1' := by rw [i_eq, ti_sub (by omega) (by omega), wj, y1]; omega
      have x2 : v2 = v2' := by rw [i_eq, hv2, y2]
      have x3 : h.1 10 s' - g2 = v3' := by rw [i_eq, ti_sub (by omega) (by omega), ws, y3]; omega
      have x4 : v4 = v4' := by rw [i_eq, hv4, y4, x2]
      rw [x1, x2, x3, x4]
      refine ⟨rfl, ?_⟩
      refine Inv_up I (upI (upI (upI (upI (vM h) (13 + 5 * j') v1'.toInt) 4 v2'.toInt) (13 + 5 * s') v3'.toInt) 4 v4'.toInt) (by repeat' (first | exact hR | apply RF_sI)) (fun a z1 z2 z3 z4 => by unfold scr at z1; funext j; (repeat rw [sI_ne (by omega)])) (by repeat rw [sI_ne (by omega)]) (by repeat rw [sI_ne (by omega)]) (by simp (disch := omega) only [vM_sI, vM_lo, vM_hi] <;> rfl) (fun j hj => by (simp (disch := omega) only [vM_sI, vM_lo, vM_hi, c9_hi, c9_kind, c9_m, c9_size, c9_water, c9_heard, c9_whose, c9_takes, c9_worth, c9_behind, c9_how, c9_n, c9_words, c9_z, c9_bytes, c9_waits, c9_f3, c9_f4, c9_f5, c9_f7, c9_f6]); revert j hj; (repeat refine upI_on ?_); exact I.cc) (fun j hj => by simp (disch := omega) only [upI_n]) ?_ (by simp (disch := omega) only [upI_n]) (by simp (disch := omega) only [upI_n])
      refine OKF_4 (OKF_p (p := s') (OKF_4 (OKF_p (F' := upI (vM h) (13 + 5 * j') v1'.toInt) (p := j') ok (fun q hq => by rw [upI_n (by omega)]) (by omega) ?_) (by omega : 0 ≤ v2'.toInt ∧ v2'.toInt ≤ 999999)) (fun q hq => by rw [upI_n (by omega)]) (by omega) ?_) (by omega)
      · unfold OKP
        simp (disch := omega) only [upI_n, upI_s]
        omega
      · unfold OKP
        simp (disch := omega) only [upI_n, upI_s]
        omega
/-! LOOSE SECONDS -/
def zn (z : Int32) : Int32 := (z * 1103515245) + 12345
def dvz (z : Int32) : Int32 := (Int32.toUInt32 (zn z) >>> (Int32.toUInt32 8 &&& Int32.toUInt32 31)).toInt32
theorem dvz_nn (z : Int32) : 0 ≤ (dvz z).toInt := by
  unfold dvz
  generalize Int32.toUInt32 (zn z) = u
  have h1 : ((u >>> (Int32.toUInt32 8 &&& Int32.toUInt32 31)).toInt32).toInt = (u.toBitVec >>> (8 : Nat)).toInt := rfl
  have h2 : (u.toBitVec >>> (8 : Nat)).toNat < 16777216 := by
    rw [BitVec.toNat_ushiftRight, Nat.shiftRight_eq_div_pow]
    have := u.toBitVec.isLt
    omega
  rw [h1, BitVec.toInt_eq_toNat_cond, if_pos (by omega)]
  omega
/-- ahead of a LOOSE SECOND: what draws take -/
def lsG (zf df : Int32 → Int32) (F : Nat → Int) : Nat → Int :=
  let z1 := zf (oI (F 2))
  let p := (df (oI (F 2))).toInt % 4
  let n := (df z1).toInt % 6
  let G := upI F 2 (zf z1).toInt
  if p < F 0 then upI G (13 + 5 * p.toNat) (F (13 + 5 * p.toNat) - min (F (13 + 5 * p.toNat)) n) else G
def lsN (zf df : Int32 → Int32) (ear : Int → Int → Int → Int) : Nat → (Nat → Int) → (Nat → Int)
  | 0, F => F
  | n + 1, F => lsN zf df ear n (secF ear (lsG zf df F))
theorem lsN_succ {zf df : Int32 → Int32} (ear : Int → Int → Int → Int) : ∀ (n : Nat) (F : Nat → Int), lsN zf df ear (n + 1) F = secF ear (lsG zf df (lsN zf df ear n F))
  | 0, _ => rfl
  | n + 1, F => lsN_succ ear n (secF ear (lsG zf df F))
theorem OKF_lsG {zf df : Int32 → Int32} {B : Int} {F : Nat → Int} (ok : OKF B F) : OKF B (lsG zf df F) := by
  have ok2 : OKF B (upI F 2 (zf (zf (oI (F 2)))).toInt) := OKF_irr (by omega) ok
  unfold lsG
  (try dsimp only)
  split
  · rename_i hp
    have o0 := ok.1
    have p0 : 0 ≤ (df (oI (F 2))).toInt % 4 := Int.emod_nonneg _ (by decide)
    have n0 : 0 ≤ (df (zf (oI (F 2)))).toInt % 6 := Int.emod_nonneg _ (by decide)
    have o := ok.2.2.2.2.2.2.2.2.1 ((df (oI (F 2))).toInt % 4).toNat (by omega)
    have hp4 : ((df (oI (F 2))).toInt % 4).toNat < 4 := by omega
    generalize ((df (oI (F 2))).toInt % 4).toNat = p at *
    generalize (df (zf (oI (F 2)))).toInt % 6 = n at *
    refine OKF_p (p := p) ok2 (fun j hj => by rw [upI_n (by omega)]) hp4 ?_
    unfold OKP at *
    simp (disch := omega) only [upI_n, upI_s]
    omega
  · exact ok2
theorem lsG_lo {zf df : Int32 → Int32} {B : Int} {F : Nat → Int} (ok : OKF B F) {j : Nat} (hj : j = 0 ∨ j = 1 ∨ j = 3 ∨ j = 8 ∨ j = 9 ∨ 90 ≤ j) : lsG zf df F j = F j := by
  unfold lsG
  (try dsimp only)
  split
  · rename_i hp
    have o0 := ok.1
    have p0 : 0 ≤ (df (oI (F 2))).toInt % 4 := Int.emod_nonneg _ (by decide)
    rw [upI_n (by omega), upI_n (by omega)]
  · rw [upI_n (by omega)]
theorem lsN_ok {zf df : Int32 → Int32} {ear : Int → Int → Int → Int} (he : ∀ x y z, 0 ≤ ear x y z) : ∀ (n : Nat) {B : Int} {F : Nat → Int}, OKF B F → OKF (B + n) (lsN zf df ear n F) ∧ (∀ j, j = 0 ∨ j = 1 ∨ j = 8 ∨ j = 9 ∨ 90 ≤ j → lsN zf df ear n F j = F j) ∧ lsN zf df ear n F 3 = F 3 + n
  | 0, B, F, ok => by
    refine ⟨?_, fun _ _ => rfl, ?_⟩
    · show OKF (B + 0) F
      rw [Int.add_zero]; exact ok
    · show F 3 = F 3 + 0
      omega
  | n + 1, B, F, ok => by
    have okg := OKF_lsG (zf := zf) (df := df) ok
    have oks := OKF_sec he okg
    obtain ⟨i1, i2, i3⟩ := lsN_ok he n oks
    refine ⟨?_, fun j hj => ?_, ?_⟩
    · show OKF (B + ((n + 1 : Nat) : Int)) (lsN zf df ear n (secF ear (lsG zf df F)))
      rw [show B + ((n + 1 : Nat) : Int) = B + 1 + n by omega]
      exact i1
    · show lsN zf df ear n (secF ear (lsG zf df F)) j = F j
      rw [i2 j hj, secF_lo okg (by omega), lsG_lo ok (by omega)]
    · show lsN zf df ear n (secF ear (lsG zf df F)) 3 = _
      rw [i3, secF_x okg, upI_s, lsG_lo ok (by omega)]
      push_cast
      omega
theorem ev_draw (hR : RF h) (hd : 1 ≤ d) (k : Q (dvz (h.1 1 16)) (sI h 1 16 (zn (h.1 1 16)))) : EvI G d mX9_draw [.inr (.inr (some 1))] h Q := by
  obtain ⟨e, rfl⟩ := dpos (show 1 ≤ d by omega)
  exact vc_X9_draw hR k
theorem ev_drawn (hR : RF h) (hd : 1 ≤ d) (k : Q (dvz (h.1 95 2)) (sI h 95 2 (zn (h.1 95 2)))) : EvI G d mX12_drawn [.inr (.inr (some 94))] h Q := by
  obtain ⟨e, rfl⟩ := dpos (show 1 ≤ d by omega)
  exact vc_X12_drawn hR k
theorem ev_byDraws {zf df : Int32 → Int32} {B : Int} {bg : Nat → Int} (hdf : ∀ z, 0 ≤ (df z).toInt) (hdr : ∀ (G : GT) (d : Nat) (h : Hp) (Q : Int32 → Hp → Prop), RF h → 1 ≤ d → Q (df (h.1 1 16)) (sI h 1 16 (zf (h.1 1 16))) → EvI G d mX9_draw [.inr (.inr (some 1))] h Q) (hR : RF h) (hd : 3 ≤ d) (ok : OKF B (vC h 9 bg)) (k : ∀ h', RF h' → (∀ a, a ≠ 1 → a ≠ 10 → h'.1 a = h.1 a) → vC h' 9 bg = lsG zf df (vC h 9 bg) → QW h') : EvV G d mX9_loseByDraws [.inr (.inr (some 1))] h QW := by
  obtain ⟨e, rfl⟩ := dpos (show 1 ≤ d by omega)
  have o0 : 0 ≤ (h.1 1 0).toInt ∧ (h.1 1 0).toInt ≤ 4 := ok.1
  have e2 : oI (vC h 9 bg 2) = h.1 1 16 := oi_ti (h.1 1 16)
  have r4 : (df (h.1 1 16) - df (h.1 1 16) / 4 * 4).toInt = (df (h.1 1 16)).toInt % 4 := ti_rem (hdf _) (by decide)
  have r6 : (df (zf (h.1 1 16)) - df (zf (h.1 1 16)) / 6 * 6).toInt = (df (zf (h.1 1 16))).toInt % 6 := ti_rem (hdf _) (by decide)
  have p0 : 0 ≤ (df (h.1 1 16)).toInt % 4 := Int.emod_nonneg _ (by decide)
  have n0 : 0 ≤ (df (zf (h.1 1 16))).toInt % 6 := Int.emod_nonneg _ (by decide)
  have eG : vC (sI (sI h 1 16 (zf (h.1 1 16))) 1 16 (zf (zf (h.1 1 16)))) 9 bg = upI (vC h 9 bg) 2 (zf (zf (h.1 1 16))).toInt := by rw [c9_z, c9_z, upI_up]
  refine vc_X9_loseByDraws hR (hdr _ _ _ _ hR (by omega) (hdr _ _ _ _ (RF_sI hR) (by omega) ?_))
  rw [sI_self]
  refine ev_hasParty (RF_sI (RF_sI hR)) (by omega) (by rw [sI_ne (by omega), sI_ne (by omega)]; omega) (br2 (fun c => ?_) (fun c => ?_))
  · rw [r4, sI_ne (by omega), sI_ne (by omega)] at c
    have hp4 : ((df (h.1 1 16)).toInt % 4).toNat < 4 := by omega
    refine ev_lose (RF_sI (RF_sI hR)) (by omega) rfl (eq_nI (w := ((df (h.1 1 16)).toInt % 4).toNat) (by rw [r4]; omega)) hp4 (fun g hg => ?_)
    have ew : (sI (sI h 1 16 (zf (h.1 1 16))) 1 16 (zf (zf (h.1 1 16)))).1 (9 + 1) ((df (h.1 1 16)).toInt % 4).toNat = h.1 10 ((df (h.1 1 16)).toInt % 4).toNat := by rw [sI_ne (by omega), sI_ne (by omega)]
    rw [ew, r6] at hg
    rw [ew]
    have vp := (@vC_p h 9 bg _ hp4).2.2.2.1
    have vp' : vC h 9 bg (13 + 5 * ((df (h.1 1 16)).toInt % 4).toNat) = (h.1 10 ((df (h.1 1 16)).toInt % 4).toNat).toInt := vp
    have oo := ok.2.2.2.2.2.2.2.2.1 _ hp4
    unfold OKP at oo
    refine k _ (by repeat' (first | exact hR | apply RF_sI)) (fun a a1 a2 => ?_) ?_
    · rw [sI_row_ne (by omega), sI_row_ne (by omega), sI_row_ne (by omega)]
    · rw [show (9 + 1 : Nat) = 10 from rfl, c9_water hp4, eG, ti_sub (by omega) (by omega), hg, ← vp']
      unfold lsG
      dsimp only
      rw [e2, if_pos (show _ < vC h 9 bg 0 from c.2)]
  · rw [r4, sI_ne (by omega), sI_ne (by omega)] at c
    refine k _ (by repeat' (first | exact hR | apply RF_sI)) (fun a a1 a2 => ?_) ?_
    · rw [sI_row_ne (by omega), sI_row_ne (by omega)]
    · rw [eG]
      unfold lsG
      dsimp only
      rw [e2, if_neg (show ¬ _ < vC h 9 bg 0 from fun z => c ⟨p0, z⟩)]
theorem rg_looseC {zf df : Int32 → Int32} {B : Int} {bg : Nat → Int} {h0 : Hp} {p0 : List Int32} {l1 : Int32} {n : Nat} (hdf : ∀ z, 0 ≤ (df z).toInt) (hdr : ∀ (G : GT) (d : Nat) (h : Hp) (Q : Int32 → Hp → Prop), RF h → 1 ≤ d → Q (df (h.1 1 16)) (sI h 1 16 (zf (h.1 1 16))) → EvI G d mX9_draw [.inr (.inr (some 1))] h Q) (hd : 22 ≤ d) (ok : OKF B (vC h0 9 bg)) (hB : B + n ≤ 1000000000) (T : TxC h0 13 p0) (hl : l1.toInt = n) (hn : n ≤ 1000) (k : ∀ h', RF h' → (∀ a, ¬ scr a → ¬ (1 ≤ a ∧ a ≤ 12) → h'.1 a = h0.1 a) → vC h' 9 bg = lsN zf df (earI p0) n (vC h0 9 bg) → Q (h'.1 9 4) h') : ∀ (m i : Nat) (h : Hp), i + m = n → RF h → (∀ a, ¬ scr a → ¬ (1 ≤ a ∧ a ≤ 12) → h.1 a = h0.1 a) → vC h 9 bg = lsN zf df (earI p0) i (vC h0 9 bg) → Rg_X11_loose_42 G d l1 (nI i) h Q := by
  intro m
  induction m with
  | zero =>
    intro i h hi r0 r1 hv
    have : i = n := by omega
    subst this
    refine vc_X11_loose_42 r0 ⟨fun _ => k h r0 r1 hv, fun z => ?_⟩
    exfalso
    rw [i_le, hl, ti_nI (by omega)] at z
    omega
  | succ m ih =>
    intro i h hi r0 r1 hv
    have oki : OKF (B + i) (vC h 9 bg) := by rw [hv]; exact (lsN_ok he_ear i ok).1
    refine vc_X11_loose_42 r0 ⟨fun z => ?_, fun _ => ev_byDraws hdf hdr r0 (by omega) oki (fun h1 s0 s1 sv => ?_)⟩
    · exfalso
      rw [i_le, hl, ti_nI (by omega)] at z
      omega
    · have okg : OKF (B + i) (vC h1 9 bg) := by rw [sv]; exact OKF_lsG oki
      have T1 : TxC h1 13 p0 := TxC_eq (by rw [s1 13 (by omega) (by omega), r1 13 (by unfold scr; omega) (by omega)]) (fun k _ => by rw [s1 (13 + 1) (by omega) (by omega), r1 (13 + 1) (by unfold scr; omega) (by omega)]) T
      refine ev_pass s0 (by omega) rfl okg (by omega) (by decide) T1 (fun h2 cs hv2 => ?_)
      have e1 : pasF (earI p0) (Int32.toInt 1) (vC h1 9 bg) = secF (earI p0) (vC h1 9 bg) := by
        have := pas_sec he_ear (ear := earI p0) 1 okg
        rw [show (Int32.toInt 1) = ((1 : Nat) : Int) from rfl, this]
        rfl
      rw [nI_1]
      refine ih (i + 1) h2 (by omega) cs.1 (fun a z1 z2 => ?_) ?_
      · rw [cs.2.2 a (by omega) (by omega) (by omega) (by omega) (fun z => z1 (by unfold scr; omega)), s1 a (by omega) (by omega), r1 a z1 z2]
      · rw [hv2, e1, sv, hv, lsN_succ]
theorem rg_looseM {zf df : Int32 → Int32} {B : Int} {h0 : Hp} {p0 p1 : List Int32} {l1 : Int32} {n : Nat} (hdf : ∀ z, 0 ≤ (df z).toInt) (hdm : ∀ (G : GT) (d : Nat) (h : Hp) (Q : Int32 → Hp → Prop), RF h → 1 ≤ d → Q (df (h.1 95 2)) (sI h 95 2 (zf (h.1 95 2))) → EvI G d mX12_drawn [.inr (.inr (some 94))] h Q) (hd : 81 ≤ d) (ok : OKF B (vM h0)) (hB : B + n ≤ 1000000000) (T : TxM h0 95 p0 p1) (hl : l1.toInt = n) (hn : n ≤ 1000) (k : ∀ h', MS h0 h' → vM h' = lsN zf df (earI p0) n (vM h0) → Q (h'.1 95 4) h') : ∀ (m i : Nat) (h : Hp), i + m = n → MS h0 h → vM h = lsN zf df (earI p0) i (vM h0) → Rg_X12_loose_39 G d l1 (nI i) h Q := by
  intro m
  induction m with
  | zero =>
    intro i h hi ms hv
    have : i = n := by omega
    subst this
    refine vc_X12_loose_39 ms.1 ⟨fun _ => k h ms hv, fun z => ?_⟩
    exfalso
    rw [i_le, hl, ti_nI (by omega)] at z
    omega
  | succ m ih =>
    intro i h hi ms hv
    have oki : OKF (B + i) (vM h) := by rw [hv]; exact (lsN_ok he_ear i ok).1
    have o0 := oki.1
    have e2 : oI (vM h 2) = h.1 95 2 := oi_ti (h.1 95 2)
    have r4 : (df (h.1 95 2) - df (h.1 95 2) / 4 * 4).toInt = (df (h.1 95 2)).toInt % 4 := ti_rem (hdf _) (by decide)
    have r6 : (df (zf (h.1 95 2)) - df (zf (h.1 95 2)) / 6 * 6).toInt = (df (zf (h.1 95 2))).toInt % 6 := ti_rem (hdf _) (by decide)
    have q0 : 0 ≤ (df (h.1 95 2)).toInt % 4 := Int.emod_nonneg _ (by decide)
    have n0 : 0 ≤ (df (zf (h.1 95 2))).toInt % 6 := Int.emod_nonneg _ (by decide)
    have eG : vM (sI (sI h 95 2 (zf (h.1 95 2))) 95 2 (zf (zf (h.1 95 2)))) = upI (vM h) 2 (zf (zf (h.1 95 2))).toInt := by rw [vM_sI, vM_sI, upI_up]
    have eG0 : vM (sI (sI h 95 2 (zf (h.1 95 2))) 95 2 (zf (zf (h.1 95 2)))) 0 = vM h 0 := by rw [eG, upI_n (by omega)]
    have msd : MS h (sI (sI h 95 2 (zf (h.1 95 2))) 95 2 (zf (zf (h.1 95 2)))) := (MS.s95 ms.1 (by omega)).trans (MS.s95 (RF_sI ms.1) (by omega))
    have go : ∀ w : Hp, MS h w → vM w = lsG zf df (vM h) → EvV G d mX12_aSecond [.inr (.inr (some 94))] w (fun h17 => Rg_X12_loose_39 G d l1 (nI i + 1) h17 Q) := by
      intro w mw vw
      have okg : OKF (B + i) (vM w) := by rw [vw]; exact OKF_lsG oki
      refine ev_aSecond mw.1 hd okg (by omega) ((T.keep ms).keep mw) (fun h' ms' hv' => ?_)
      rw [nI_1]
      refine ih (i + 1) h' (by omega) ((ms.trans mw).trans ms') ?_
      rw [hv', vw, hv, lsN_succ]
    refine vc_X12_loose_39 ms.1 ⟨fun z => ?_, fun _ => hdm _ _ _ _ ms.1 (by omega) (hdm _ _ _ _ (RF_sI ms.1) (by omega) ?_)⟩
    · exfalso
      rw [i_le, hl, ti_nI (by omega)] at z
      omega
    · rw [sI_self]
      refine ev_isParty (RF_sI (RF_sI ms.1)) (by omega) (by rw [eG0]; exact o0) (br2 (fun c => ?_) (fun c => ?_))
      · rw [r4, eG0] at c
        have hp4 : ((df (h.1 95 2)).toInt % 4).toNat < 4 := by omega
        have oo := oki.2.2.2.2.2.2.2.2.1 _ hp4
        unfold OKP at oo
        have ew : (sI (sI h 95 2 (zf (h.1 95 2))) 95 2 (zf (zf (h.1 95 2)))).1 95 (13 + 5 * ((df (h.1 95 2)).toInt % 4).toNat) = h.1 95 (13 + 5 * ((df (h.1 95 2)).toInt % 4).toNat) := by rw [sI_ne (by omega), sI_ne (by omega)]
        have ev' : vM (sI (sI h 95 2 (zf (h.1 95 2))) 95 2 (zf (zf (h.1 95 2)))) (13 + 5 * ((df (h.1 95 2)).toInt % 4).toNat) = vM h (13 + 5 * ((df (h.1 95 2)).toInt % 4).toNat) := by rw [eG, upI_n (by omega)]
        refine ev_loses (RF_sI (RF_sI ms.1)) (by omega) (eq_nI (w := ((df (h.1 95 2)).toInt % 4).toNat) (by rw [r4]; omega)) hp4 (by rw [r6]; exact n0) (by rw [ev']; omega) (fun g hg => ?_)
        rw [ew]
        rw [ev', r6] at hg
        refine go _ (msd.trans (MS.s95 msd.1 (by omega))) ?_
        have wv : (h.1 95 (13 + 5 * ((df (h.1 95 2)).toInt % 4).toNat)).toInt = vM h (13 + 5 * ((df (h.1 95 2)).toInt % 4).toNat) := rfl
        rw [vM_sI, eG, ti_sub (by omega) (by omega), hg, wv]
        unfold lsG
        dsimp only
        rw [e2, if_pos (show _ < vM h 0 from c.2)]
      · rw [r4, eG0] at c
        refine go _ msd ?_
        rw [eG]
        unfold lsG
        dsimp only
        rw [e2, if_neg (show ¬ _ < vM h 0 from fun z => c ⟨q0, z⟩)]
theorem M_loose {zf df : Int32 → Int32} {F : Nat → Int} {a1 : Int32} {p0 p1 : List Int32} (hdf : ∀ z, 0 ≤ (df z).toInt) (hdm : ∀ (G : GT) (d : Nat) (h : Hp) (Q : Int32 → Hp → Prop), RF h → 1 ≤ d → Q (df (h.1 95 2)) (sI h 95 2 (zf (h.1 95 2))) → EvI G d mX12_drawn [.inr (.inr (some 94))] h Q) (eF : vM h = F) (hR : RF h) (hd : 90 ≤ d) (ok : OKF 99999 F) (T : TxM h 95 p0 p1) (k1 : ¬ (1 ≤ a1.toInt ∧ a1.toInt ≤ 300) → Q (er 1) (sI h 98 1 (h.1 98 1 + 1)))
    (k3 : (1 ≤ a1.toInt ∧ a1.toInt ≤ 300) → 99999 < F 3 + a1.toInt → Q (er 3) (sI h 98 3 (h.1 98 3 + 1)))
    (k : ∀ (n : Nat) (h' : Hp), a1.toInt = n → 1 ≤ n → n ≤ 300 → F 3 + n ≤ 99999 → MS h h' → vM h' = lsN zf df (earI p0) n F → Q (h'.1 95 4) h') : EvI G d mX12_loose [.inr (.inr (some 94)), .inl a1] h Q := by
  obtain ⟨e, rfl⟩ := dpos (show 1 ≤ d by omega)
  subst eF
  have o3 := ok.2.2.1
  refine vc_X12_loose hR (ev_in32 hR (by omega) (br2' (fun c => ⟨fun c2 => ?_, fun c2 => ?_⟩) (fun c => ev_finds hR (by omega) (n := 1) rfl (by omega) (k1 c))))
  · (try simp only [Int32.reduceToInt, Int64.reduceToInt, ti_m1, tl_m1, ti_m2, tl_m2] at *)
    have e3 : (h.1 95 3).toInt = vM h 3 := rfl
    rw [i_le, ti_add (by omega) (by omega), e3] at c2
    (try simp only [Int32.reduceToInt, Int64.reduceToInt, ti_m1, tl_m1, ti_m2, tl_m2] at *)
    exact rg_looseM (n := a1.toInt.toNat) hdf hdm (by omega) ok (by omega) T (by omega) (by omega) (fun h' ms hv => k _ h' (by omega) (by omega) (by omega) (by omega) ms hv) a1.toInt.toNat 0 h (by omega) (MS.refl hR) rfl
  · (try simp only [Int32.reduceToInt, Int64.reduceToInt, ti_m1, tl_m1, ti_m2, tl_m2] at *)
    have e3 : (h.1 95 3).toInt = vM h 3 := rfl
    rw [i_le, ti_add (by omega) (by omega), e3] at c2
    (try simp only [Int32.reduceToInt, Int64.reduceToInt, ti_m1, tl_m1, ti_m2, tl_m2] at *)
    exact ev_finds hR (by omega) (n := 3) rfl (by omega) (k3 c (by omega))
theorem step_loose {a1 : Int32} (I : Inv h) (hd : 100 ≤ d) : EvI G d mX11_loose [.inr (.inr (some 0)), .inl a1] h (fun x h1 => EvI G d mX12_loose [.inr (.inr (some 94)), .inl a1] h1 (fun y h2 => x = y ∧ Inv h2)) := by
  have hd' := hd
  have hR := I.1
  have ok := I.ok
  have o3 := ok.2.2.1
  obtain ⟨p0, p1, T, T0, T1⟩ := I.tx
  have e3 : (h.1 9 3).toInt = vM h 3 := I.c (bg := z0) (j := 3) (by omega)
  have kx : ∀ k v, TxM (sI h 93 k v) 95 p0 p1 := fun k v => TxM_eq (fun j _ _ => by rw [sI_ne (by omega)]) T
  obtain ⟨e, rfl⟩ := dpos (show 1 ≤ d by omega)
  refine vc_X11_loose hR (ev_within hR (by omega) (br2' (fun c => ⟨fun c2 => ?_, fun c2 => ?_⟩) (fun c => ?_)))
  · (try simp only [Int32.reduceToInt, Int64.reduceToInt, ti_m1, tl_m1, ti_m2, tl_m2] at *)
    rw [i_le, ti_add (by omega) (by omega), e3] at c2
    (try simp only [Int32.reduceToInt, Int64.reduceToInt, ti_m1, tl_m1, ti_m2, tl_m2] at *)
    have okC : OKF 99999 (vC h 9 (vM h)) := by rw [I.cf]; exact ok
    obtain ⟨n, en⟩ : ∃ n : Nat, a1.toInt = n := ⟨a1.toInt.toNat, by omega⟩
    refine rg_looseC (zf := zn) (df := dvz) (bg := vM h) (n := n) dvz_nn (fun _ _ _ _ h1 h2 k => ev_draw h1 h2 k) (by omega) okC (by omega) T0 en (by omega) (fun h1 r0 r1 hv => ?_) n 0 h (by omega) hR (fun _ _ _ => rfl) rfl
    rw [I.cf] at hv
    have l95 : h1.1 95 = h.1 95 := r1 95 (by unfold scr; omega) (by omega)
    have m1 : vM h1 = vM h := by
      funext j
      show (h1.1 95 j).toInt = _
      rw [l95]
    have T' : TxM h1 95 p0 p1 := TxM_eq (fun j _ _ => by rw [l95]) T
    refine M_loose (zf := zn) (df := dvz) dvz_nn (fun _ _ _ _ h1 h2 k => ev_drawn h1 h2 k) m1 r0 (by omega) ok T' (fun z => absurd c z) (fun _ z => absurd z (by omega)) (fun n' h2 z1 z2 z3 z4 ms hv2 => ?_)
    have : n' = n := by omega
    subst this
    obtain ⟨lo1, lo2, lo3⟩ := lsN_ok (zf := zn) (df := dvz) (@he_ear p0) n' ok
    refine ⟨?_, ?_⟩
    · rw [i_eq]
      show (h1.1 9 4).toInt = vM h2 4
      rw [hv2, ← hv]
      rfl
    · refine Inv_run (bg := vM h) I r1 ms (fun j _ => by rw [hv2, hv]) ?_ ?_ ?_
      · rw [hv2]
        exact OKF_3 lo1 (by rw [lo3]; omega)
      · rw [hv2]; exact lo2 8 (by omega)
      · rw [hv2]; exact lo2 9 (by omega)
  · (try simp only [Int32.reduceToInt, Int64.reduceToInt, ti_m1, tl_m1, ti_m2, tl_m2] at *)
    rw [i_le, ti_add (by omega) (by omega), e3] at c2
    (try simp only [Int32.reduceToInt, Int64.reduceToInt, ti_m1, tl_m1, ti_m2, tl_m2] at *)
    exact ev_refuse hR (by omega) (n := 3) rfl (by omega) (M_loose (zf := zn) (df := dvz) dvz_nn (fun _ _ _ _ h1 h2 k => ev_drawn h1 h2 k) (vM_lo (by omega)) (RF_sI hR) (by omega) ok (kx _ _) (fun z => absurd c z) (fun _ _ => ⟨rfl, Inv_err I rfl⟩) (fun n h2 z1 z2 z3 z4 ms hv2 => absurd z4 (by omega)))
  · (try simp only [Int32.reduceToInt, Int64.reduceToInt, ti_m1, tl_m1, ti_m2, tl_m2] at *)
    exact ev_refuse hR (by omega) (n := 1) rfl (by omega) (M_loose (zf := zn) (df := dvz) dvz_nn (fun _ _ _ _ h1 h2 k => ev_drawn h1 h2 k) (vM_lo (by omega)) (RF_sI hR) (by omega) ok (kx _ _) (fun _ => ⟨rfl, Inv_err I rfl⟩) (fun z _ => absurd z c) (fun n h2 z1 z2 z3 z4 ms hv2 => absurd (by omega) c))
end
