/-! judge, explained: both sides -/
section
variable {G : GT} {d : Nat} {h : Hp} {Q : Int32 → Hp → Prop} {QW : Hp → Prop}
/-- how many of a row of WORDS are SAID -/
def jdN (ear : Int → Int → Int → Int) (num : Nat → Int) : Nat → Nat → (Nat → Int) → Nat
  | 0, i, _ => i
  | m + 1, i, F => if (0 ≤ num i ∧ num i < F 1) ∧ F 6 = 0 ∧ rdy F (num i).toNat then (if goF ear F (num i).toNat (34 + 5 * (num i).toNat) = 1 then jdN ear num m (i + 1) (goF ear F (num i).toNat) else i) else i
theorem go_ok {ear : Int → Int → Int → Int} (he : ∀ x y z, 0 ≤ ear x y z) {B : Int} {F : Nat → Int} {w : Nat} (ok : OKF B F) (hw : (w : Int) < F 1) (h0 : F (34 + 5 * w) = 0) (h5 : F 5 = 0) : OKF (B + 30) (goF ear F w) ∧ goF ear F w 6 = 0 ∧ goF ear F w 1 = F 1 ∧ goF ear F w 0 = F 0 := by
  have okb := OKF_beg ok hw h0
  have tl := til_le okb
  have ok2 := OKF_secN he (tilF (begF F w)).toNat okb
  have lo := secN_lo ear (tilF (begF F w)).toNat okb he
  refine ⟨?_, til_0 he _ okb (by rw [beg_6]; omega) (by rw [beg_5]; exact h5) (by omega), ?_, ?_⟩
  · refine OKF_3 ok2 ?_
    have := ok2.2.2.1.2
    show secN ear (tilF (begF F w)).toNat (begF F w) 3 ≤ _
    omega
  · show secN ear _ (begF F w) 1 = F 1
    rw [lo.1 1 (by omega)]
    unfold begF
    rw [upI_n (by omega), upI_n (by omega)]
  · show secN ear _ (begF F w) 0 = F 0
    rw [lo.1 0 (by omega)]
    unfold begF
    rw [upI_n (by omega), upI_n (by omega)]
theorem sec_5 {ear : Int → Int → Int → Int} {B : Int} {F : Nat → Int} (ok : OKF B F) : secF ear F 5 = F 5 := by
  have o0 := ok.1
  have d5 : ∀ (r : Nat → Int), drF r 1 (F 0).toNat (upI F 3 (F 3 + 1)) 5 = F 5 := fun r => by
    rw [drF_o (by omega) (fun p hp => by omega), upI_n (by omega)]
  unfold secF
  dsimp only
  split
  · exact upI_n (by omega)
  split
  · exact d5 _
  split
  · rw [endF_5]; exact d5 _
  split
  · rw [endF_5, upI_n (by omega), upI_n (by omega)]; exact d5 _
  · rw [upI_n (by omega)]; exact d5 _
theorem go_5 {ear : Int → Int → Int → Int} (he : ∀ x y z, 0 ≤ ear x y z) : ∀ (n : Nat) {B : Int} {F : Nat → Int}, OKF B F → secN ear n F 5 = F 5
  | 0, _, _, _ => rfl
  | n + 1, B, F, ok => by
    show secN ear n (secF ear F) 5 = F 5
    rw [go_5 he n (OKF_sec he ok)]
    exact sec_5 ok
theorem rg_judgeC {bg : Nat → Int} {h0 : Hp} {p0 : List Int32} {l1 l2 : Int32} {s n : Nat} {num : Nat → Int} (hd : 30 ≤ d) (T : TxC h0 13 p0) (es : l1.toInt = s) (hs : s < 4) (el : l2.toInt = n) (hn : n ≤ 40) (hnum : ∀ i, i < n → (h0.1 (89 + s) i).toInt = num i)
    (k : ∀ h' (x : Int32) (r : Nat), CS 41 h0 h' → x.toInt = r → r = jdN (earI p0) num n 0 (vC h0 41 bg) → Q x h') : ∀ (m i : Nat) (F : Nat → Int) (h : Hp), i + m = n → CS 41 h0 h → vC h 41 bg = F → OKF (99999 + 30 * i) F → F 5 = 0 → F 1 = (h0.1 1 4).toInt → jdN (earI p0) num m i F = jdN (earI p0) num n 0 (vC h0 41 bg) → Rg_X11_judge_68 G d l1 l2 (nI i) h Q := by
  intro m
  induction m with
  | zero =>
    intro i F h hi cs hv ok h5 h1 hj
    have : i = n := by omega
    subst this
    refine vc_X11_judge_68 cs.1 ⟨fun _ => k h l2 i cs el hj, fun z => ?_⟩
    exfalso
    rw [i_le, el, ti_nI (by omega)] at z
    omega
  | succ m ih =>
    intro i F h hi cs hv ok h5 h1 hj
    have ei : (nI i).toInt = (i : Int) := ti_nI (by omega)
    have hR := cs.1
    have okv : OKF (99999 + 30 * i) (vC h 41 bg) := by rw [hv]; exact ok
    have o1 := okv.2.1
    have e14 : (h.1 1 4).toInt = F 1 := by rw [← hv]; rfl
    have er : h.1 (89 + s) i = h0.1 (89 + s) i := by rw [cs.2.2 (89 + s) (by omega) (by omega) (by omega) (by omega) (by omega)]
    have ew : (h.1 (89 + s) i).toInt = num i := by rw [er]; exact hnum i (by omega)
    have o1' : 0 ≤ F 1 ∧ F 1 ≤ 12 := ok.2.1
    have fin : jdN (earI p0) num (m + 1) i F = i → Q (nI i) h := fun z => k h (nI i) i cs ei (by rw [← z]; exact hj)
    refine vc_X11_judge_68 hR ⟨fun z => ?_, fun _ => ⟨in_of (by omega) (by omega), 89 + s, ?_, (rf88 hR hs).2, in_of (by omega) (by omega), ?_⟩⟩
    · exfalso
      rw [i_le, el, ei] at z
      omega
    · rw [cl_of es]
      exact (rf88 hR hs).1
    · rw [cl_of ei]
      refine ev_hasWord hR (by omega) (by omega) (br2 (fun c => ev_maySay hR (by omega) rfl okv (br2' (fun c2 => ?_) (fun c2 => fin ?_))) (fun c => fin ?_))
      · rw [hv, ew] at c2
        obtain ⟨w, ewn⟩ : ∃ w : Nat, num i = w := ⟨(num i).toNat, by omega⟩
        have ewn' : (num i).toNat = w := by omega
        rw [ewn'] at c2
        have c2r : rdy F w := c2.2.2
        have wF : (w : Int) < F 1 := by omega
        have eww : (h.1 (89 + s) i).toInt = w := by omega
        refine ev_begin hR (by omega) rfl (by omega) eww (by omega) ?_
        have vb : vC (sI (sI h 41 6 (h.1 (89 + s) i)) 41 7 (h.1 6 w)) 41 bg = begF F w := by
          rw [vC_flow (by omega) (by omega), vC_flow (by omega) (by omega), if_neg (show ¬ (7 : Nat) = 6 by omega), if_pos (show (6 : Nat) = 6 from rfl), hv, eww]
          have e6 : (h.1 6 w).toInt = F (31 + 5 * w) := by rw [← hv, (@vC_w h 41 bg w (by omega)).2.1]
          rw [e6]
          rfl
        have csb : CS 41 h (sI (sI h 41 6 (h.1 (89 + s) i)) 41 7 (h.1 6 w)) := (CS.s hR (by omega)).trans (CS.s (RF_sI hR) (by omega))
        have okb : OKF (99999 + 30 * i) (begF F w) := OKF_beg ok wF c2r.1
        have tl := til_le okb
        refine ev_tillEnd (bg := bg) csb.1 (by omega) rfl (by rw [vb]; exact okb) (fun x ex => ?_)
        rw [vb] at ex
        refine ev_pass (bg := bg) csb.1 (by omega) rfl (by rw [vb]; exact okb) (by omega) (by omega) ((cs.trans csb).txc rfl T) (fun h2 cs2 hv2 => ?_)
        have eg : vC h2 41 bg = goF (earI p0) F w := by
          rw [hv2, vb, ex]
          have := pas_sec (@he_ear p0) (tilF (begF F w)).toNat okb
          rw [show (((tilF (begF F w)).toNat : Nat) : Int) = tilF (begF F w) by omega] at this
          exact this
        obtain ⟨g1, g2, g3, g4⟩ := go_ok (@he_ear p0) ok wF c2r.1 h5
        have e44 : (h2.1 44 w).toInt = goF (earI p0) F w (34 + 5 * w) := by rw [← eg, (@vC_w h2 41 bg w (by omega)).2.2.2.2]
        refine ⟨in_of (by omega) (by omega), ?_⟩
        rw [cl_of eww, nI_1]
        have csf := (cs.trans csb).trans cs2
        have cond : (0 ≤ num i ∧ num i < F 1) ∧ F 6 = 0 ∧ rdy F (num i).toNat := by rw [ewn']; exact ⟨by omega, c2.1, c2r⟩
        refine ⟨fun z => ?_, fun z => ?_⟩
        · rw [i_eq, e44] at z
          simp only [Int32.reduceToInt] at z
          refine ih (i + 1) _ h2 (by omega) csf eg (by rw [show (99999 : Int) + 30 * ((i + 1 : Nat) : Int) = 99999 + 30 * i + 30 by push_cast; omega]; exact g1) ?_ (by rw [g3]; exact h1) ?_
          · show secN _ _ (begF F w) 5 = 0
            rw [go_5 (@he_ear p0) _ okb, beg_5]
            exact h5
          · rw [← hj]
            show _ = if _ then _ else _
            rw [if_pos cond, ewn', if_pos z]
        · rw [i_eq, e44] at z
          simp only [Int32.reduceToInt] at z
          refine k h2 (nI i) i csf ei ?_
          rw [← hj]
          show _ = if _ then _ else _
          rw [if_pos cond, ewn', if_neg z]
      · rw [hv, ew] at c2
        show (if _ then _ else _) = _
        rw [if_neg (fun z => c2 ⟨z.2.1, z.1, z.2.2⟩)]
      · rw [ew, e14] at c
        show (if _ then _ else _) = _
        rw [if_neg (fun z => c z.1)]
theorem rg_judgeM {h0 : Hp} {p0 p1 : List Int32} {l1 : Int32} {s n : Nat} {num : Nat → Int} {F0 : Nat → Int} (hd : 86 ≤ d) (T : TxM h0 95 p0 p1) (es : l1.toInt = s) (hs : s < 4) (el : (h0.1 115 s).toInt = n) (hn : n ≤ 40) (hnum : ∀ i, i < n → (h0.1 116 (40 * s + i)).toInt = num i)
    (k : ∀ h' (x : Int32) (r : Nat), MS (cpI h0 95 0 97 0 90) h' → x.toInt = r → r = jdN (earI p0) num n 0 F0 → EvV G d mX12_putBack [.inr (.inr (some 94))] h' (fun h12 => Q x h12)) : ∀ (m i : Nat) (F : Nat → Int) (h : Hp), i + m = n → MS (cpI h0 95 0 97 0 90) h → vM h = F → OKF (99999 + 30 * i) F → F 5 = 0 → F 6 = 0 → jdN (earI p0) num m i F = jdN (earI p0) num n 0 F0 → Rg_X12_judge_57 G d l1 (nI i) 1 h Q := by
  have frm : ∀ h, MS (cpI h0 95 0 97 0 90) h → h.1 115 = h0.1 115 ∧ h.1 116 = h0.1 116 := fun h ms => by
    constructor
    · rw [ms.2.2.1 115 (by omega) (by omega) (by omega)]; funext t; rw [cpI_at, if_neg (by omega)]
    · rw [ms.2.2.1 116 (by omega) (by omega) (by omega)]; funext t; rw [cpI_at, if_neg (by omega)]
  have stop : ∀ (h : Hp) (i : Nat), i < n → MS (cpI h0 95 0 97 0 90) h → i = jdN (earI p0) num n 0 F0 → Rg_X12_judge_57 G d l1 (nI i + 0) 0 h Q := by
    intro h i hi ms hj
    have ei : (nI i).toInt = (i : Int) := ti_nI (by omega)
    rw [show nI i + 0 = nI i by simp]
    refine vc_X12_judge_57 ms.1 ⟨in_of (by omega) (by omega), fun _ => k h (nI i) i ms ei hj, fun _ => ⟨fun _ => k h (nI i) i ms ei hj, fun z => absurd rfl z⟩⟩
  intro m
  induction m with
  | zero =>
    intro i F h hi ms hv ok h5 h6 hj
    have : i = n := by omega
    subst this
    have ei : (nI i).toInt = (i : Int) := ti_nI (by omega)
    refine vc_X12_judge_57 ms.1 ⟨in_of (by omega) (by omega), fun _ => k h (nI i) i ms ei hj, fun z => ?_⟩
    exfalso
    rw [cl_of es, (frm h ms).1, i_le, el, ei] at z
    omega
  | succ m ih =>
    intro i F h hi ms hv ok h5 h6 hj
    have ei : (nI i).toInt = (i : Int) := ti_nI (by omega)
    have hR := ms.1
    have okv : OKF (99999 + 30 * i) (vM h) := by rw [hv]; exact ok
    have o1 := okv.2.1
    have o1' : 0 ≤ F 1 ∧ F 1 ≤ 12 := ok.2.1
    have e40 : ((40 * l1) + nI i).toInt = ((40 * s + i : Nat) : Int) := ti_of (by rw [show l1 = nI s from eq_nI es]; push_cast; simp only [oi_add, oi_mul, oi_nat]; rfl) (by omega) (by omega)
    have ew : (h.1 116 (40 * s + i)).toInt = num i := by rw [(frm h ms).2]; exact hnum i (by omega)
    refine vc_X12_judge_57 hR ⟨in_of (by omega) (by omega), fun z => ?_, fun _ => ⟨fun z => absurd z (by decide), fun _ => ⟨in_of (by omega) (by omega), ?_⟩⟩⟩
    · exfalso
      rw [cl_of es, (frm h ms).1, i_le, el, ei] at z
      omega
    · rw [cl_of e40]
      have e1F : vM h 1 = F 1 := by rw [hv]
      have neg : ∀ g : Hp, MS (cpI h0 95 0 97 0 90) g → ¬ ((0 ≤ num i ∧ num i < F 1) ∧ F 6 = 0 ∧ rdy F (num i).toNat) → Rg_X12_judge_57 G d l1 (nI i + 0) 0 g Q := fun g mg z => stop g i (by omega) mg (by
        rw [← hj]
        show _ = if _ then _ else _
        rw [if_neg z])
      refine ev_isWord hR (by omega) (by omega) (br2 (fun c => ?_) (fun c => neg h ms (fun z => c ⟨by omega, by omega⟩)))
      rw [ew, e1F] at c
      obtain ⟨w, ewn⟩ : ∃ w : Nat, num i = w := ⟨(num i).toNat, by omega⟩
      have ewn' : (num i).toNat = w := by omega
      have eww : (h.1 116 (40 * s + i)).toInt = w := by omega
      have wF : (w : Int) < F 1 := by omega
      refine ev_isReady hR (by omega) okv eww (by omega) (br2 (fun c2 => ?_) (fun c2 => neg h ms (fun z => c2 (by rw [hv]; rw [ewn'] at z; exact z.2.2))))
      rw [hv] at c2
      refine ev_goes hR (by omega) okv (by omega) ((TxM_cp T).keep ms) eww (by omega) (by rw [hv]; exact c2.1) (by rw [hv]; exact h5) (fun h2 ms2 hv2 => ?_)
      rw [hv] at hv2
      obtain ⟨g1, g2, g3, g4⟩ := go_ok (@he_ear p0) ok wF c2.1 h5
      refine ev_its ms2.1 (by omega) (eq_nI eww) (w := 4) rfl (by omega) (by omega) ?_
      rw [show 30 + 5 * w + 4 = 34 + 5 * w by omega]
      have e34 : (h2.1 95 (34 + 5 * w)).toInt = goF (earI p0) F w (34 + 5 * w) := by rw [← hv2]
      have msf := ms.trans ms2
      have cond : (0 ≤ num i ∧ num i < F 1) ∧ F 6 = 0 ∧ rdy F (num i).toNat := by rw [ewn']; exact ⟨by omega, h6, c2⟩
      refine ⟨fun z => ?_, fun z => ?_⟩
      · rw [i_eq, e34] at z
        simp only [Int32.reduceToInt] at z
        refine stop h2 i (by omega) msf ?_
        rw [← hj]
        show _ = if _ then _ else _
        rw [if_pos cond, ewn', if_neg z]
      · rw [i_eq, e34] at z
        simp only [Int32.reduceToInt] at z
        rw [nI_1]
        have okb : OKF (99999 + 30 * i) (begF F w) := OKF_beg ok wF c2.1
        refine ih (i + 1) _ h2 (by omega) msf hv2 (by rw [show (99999 : Int) + 30 * ((i + 1 : Nat) : Int) = 99999 + 30 * i + 30 by push_cast; omega]; exact g1) ?_ g2 ?_
        · show secN _ _ (begF F w) 5 = 0
          rw [go_5 (@he_ear p0) _ okb, beg_5]
          exact h5
        · rw [← hj]
          show _ = if _ then _ else _
          rw [if_pos cond, ewn', if_pos z]
theorem M_judge {F : Nat → Int} {a1 : Int32} {p0 p1 : List Int32} (eF : vM h = F) (hR : RF h) (hd : 90 ≤ d) (ok : OKF 99999 F) (T : TxM h 95 p0 p1) (hn : ∀ s, s < 4 → 0 ≤ (h.1 115 s).toInt ∧ (h.1 115 s).toInt ≤ 40) (k1 : ¬ (0 ≤ a1.toInt ∧ a1.toInt ≤ 3) → Q (er 1) (sI h 98 1 (h.1 98 1 + 1))) (k2 : ∀ s : Nat, a1.toInt = s → s < 4 → h.1 114 s = 0 → Q (er 2) (sI h 98 2 (h.1 98 2 + 1)))
    (k : ∀ (s : Nat) (h' : Hp) (x : Int32), a1.toInt = s → s < 4 → h.1 114 s ≠ 0 → MZ h h' → x.toInt = (jdN (earI p0) (fun i => (h.1 116 (40 * s + i)).toInt) (h.1 115 s).toInt.toNat 0 (upI F 5 0) : Int) → Q x h') : EvI G d mX12_judge [.inr (.inr (some 94)), .inl a1] h Q := by
  obtain ⟨e, rfl⟩ := dpos (show 1 ≤ d by omega)
  subst eF
  refine vc_X12_judge hR (ev_isSheet hR (by omega) (br2' (fun c => ⟨in_of (by omega) (by omega), ?_⟩) (fun c => ev_finds hR (by omega) (n := 1) rfl (by omega) (k1 c))))
  obtain ⟨s, es⟩ : ∃ s : Nat, a1.toInt = s := ⟨a1.toInt.toNat, by omega⟩
  have hs : s < 4 := by omega
  have nn := hn s hs
  rw [cl_of es]
  refine ⟨fun c2 => ev_keep hR (by omega) ?_, fun c2 => ev_finds hR (by omega) (n := 2) rfl (by omega) (k2 s es hs c2)⟩
  have e6 : ((cpI h 95 0 97 0 90).1 95 6).toInt = vM h 6 := by rw [cpI_at, if_neg (by omega)]
  have ms0 : MS (cpI h 95 0 97 0 90) (sI (cpI h 95 0 97 0 90) 95 5 0) := MS.s95 (RF_cp hR) (by omega)
  have v0 : vM (sI (cpI h 95 0 97 0 90) 95 5 0) = upI (vM h) 5 0 := by rw [vM_sI, vM_cp]; rfl
  have ok0 : OKF 99999 (upI (vM h) 5 0) := OKF_5 ok (by omega)
  have fin : ∀ h' (x : Int32) (r : Nat), MS (cpI h 95 0 97 0 90) h' → x.toInt = r → r = jdN (earI p0) (fun i => (h.1 116 (40 * s + i)).toInt) (h.1 115 s).toInt.toNat 0 (upI (vM h) 5 0) → EvV G e mX12_putBack [.inr (.inr (some 94))] h' (fun h12 => Q x h12) := fun h' x r ms ex er => ev_back ms.1 (by omega) (k s _ x es hs c2 (MZ_back ms) (by rw [ex, er]))
  have inn : vp_in a1 4 := in_of (by omega) (by omega)
  have f115 : (sI (cpI h 95 0 97 0 90) 95 5 0).1 115 s = h.1 115 s := by rw [sI_ne (by omega), cpI_at, if_neg (by omega)]
  refine ⟨fun c3 => ?_, fun c3 => ?_⟩
  · rw [i_eq, e6] at c3
    have j0 : 0 = jdN (earI p0) (fun i => (h.1 116 (40 * s + i)).toInt) (h.1 115 s).toInt.toNat 0 (upI (vM h) 5 0) := by
      cases hq : (h.1 115 s).toInt.toNat with
      | zero => rfl
      | succ q =>
        show _ = if _ then _ else _
        rw [if_neg (fun z => c3 (by rw [← upI_n (F := vM h) (k := 5) (v := 0) (by omega : 6 ≠ 5)]; exact z.2.1))]
    refine vc_X12_judge_57 ms0.1 ⟨inn, fun _ => fin _ 0 0 ms0 rfl j0, fun _ => ⟨fun _ => fin _ 0 0 ms0 rfl j0, fun z => absurd rfl z⟩⟩
  · rw [i_eq, e6] at c3
    exact rg_judgeM (F0 := upI (vM h) 5 0) (n := (h.1 115 s).toInt.toNat) (num := fun i => (h.1 116 (40 * s + i)).toInt) (by omega) T es hs (by omega) (by omega) (fun i _ => rfl) fin (h.1 115 s).toInt.toNat 0 _ _ (by omega) ms0 v0 (OKF_3 ok0 (by have := ok0.2.2.1.2; omega)) (upI_s _ _ _) (by rw [upI_n (by omega)]; exact c3) rfl
theorem step_judge {a1 : Int32} (I : Inv h) (hd : 100 ≤ d) : EvI G d mX11_judge [.inr (.inr (some 0)), .inl a1] h (fun x h1 => EvI G d mX12_judge [.inr (.inr (some 94)), .inl a1] h1 (fun y h2 => x = y ∧ Inv h2)) := by
  have hd' := hd
  have hR := I.1
  have ok := I.ok
  have sh := I.sh
  obtain ⟨p0, p1, T, T0, T1⟩ := I.tx
  have hn : ∀ s, s < 4 → 0 ≤ (h.1 115 s).toInt ∧ (h.1 115 s).toInt ≤ 40 := fun s hs => by rw [← (sh s hs).2.1]; exact (sh s hs).2.2.2.1
  have rr : ∀ k v q, q ≠ 93 → (sI h 93 k v).1 q = h.1 q := fun k v q hq => sI_row_ne hq
  have hn' : ∀ k v s, s < 4 → 0 ≤ ((sI h 93 k v).1 115 s).toInt ∧ ((sI h 93 k v).1 115 s).toInt ≤ 40 := fun k v s hs => by rw [rr _ _ _ (by omega)]; exact hn s hs
  have kx : ∀ k v, TxM (sI h 93 k v) 95 p0 p1 := fun k v => TxM_eq (fun j _ _ => by rw [sI_ne (by omega)]) T
  obtain ⟨e, rfl⟩ := dpos (show 1 ≤ d by omega)
  refine vc_X11_judge hR (ev_has hR (by omega) (br2' (fun c => ?_) (fun c => ev_refuse hR (by omega) (n := 1) rfl (by omega) (M_judge (vM_lo (by omega)) (RF_sI hR) (by omega) ok (kx _ _) (hn' _ _) (fun _ => ⟨rfl, Inv_err I rfl⟩) (fun s z1 z2 _ => absurd ⟨by omega, by omega⟩ c) (fun s h' x z1 z2 _ _ _ => absurd ⟨by omega, by omega⟩ c)))))
  obtain ⟨s, es⟩ : ∃ s : Nat, a1.toInt = s := ⟨a1.toInt.toNat, by omega⟩
  have hs : s < 4 := by omega
  have shs := sh s hs
  have nn := hn s hs
  refine ev_isMissing hR (by omega) es hs (br2 (fun c2 => ?_) (fun c2 => ev_copyF hR (by omega) rfl rfl (by omega) (fun h1 cs1 ev1 => ⟨in_of (by omega) (by omega), ?_⟩)))
  · rw [shs.1] at c2
    refine ev_refuse hR (by omega) (n := 2) rfl (by omega) (M_judge (vM_lo (by omega)) (RF_sI hR) (by omega) ok (kx _ _) (hn' _ _) (fun z => absurd c z) (fun s z1 z2 _ => ⟨rfl, Inv_err I rfl⟩) (fun s' h' x z1 z2 z3 _ _ => ?_))
    exfalso
    rw [rr _ _ _ (by omega), show s' = s by omega] at z3
    exact z3 c2
  · rw [shs.1] at c2
    rw [cl_of es]
    have cs2 : CS 41 h1 (sI h1 41 5 0) := CS.s cs1.1 (by omega)
    have f87 : h1.1 87 s = h.1 115 s := by rw [cs1.2.2 87 (by omega) (by omega) (by omega) (by omega) (by omega)]; exact shs.2.1
    have v1 : vC (sI h1 41 5 0) 41 (vM h) = upI (vM h) 5 0 := by rw [vC_flow (by omega) (by omega), if_neg (by omega), ev1, I.cf]; rfl
    have ok0 : OKF 99999 (upI (vM h) 5 0) := OKF_5 ok (by omega)
    have csa := cs1.trans cs2
    have f89 : ∀ i, (sI h1 41 5 0).1 (89 + s) i = h.1 (89 + s) i := fun i => by rw [csa.2.2 (89 + s) (by omega) (by omega) (by omega) (by omega) (by omega)]
    rw [f87]
    refine rg_judgeC (bg := vM h) (h0 := sI h1 41 5 0) (s := s) (n := (h.1 115 s).toInt.toNat) (num := fun i => (h.1 116 (40 * s + i)).toInt) (by omega) (csa.txc rfl T0) es hs (by omega) (by omega) (fun i hi => by rw [f89, shs.2.2.2.2 i (by omega)]) (fun h2 x r cs3 ex er => ?_) (h.1 115 s).toInt.toNat 0 _ _ (by omega) (CS.refl cs2.1) v1 (OKF_3 ok0 (by have := ok0.2.2.1.2; omega)) (upI_s _ _ _) ?_ (by rw [v1])
    · have mz : MZ h h2 := (csa.trans cs3).z (by omega)
      have I2 := mz.inv I
      have f115 : h2.1 115 = h.1 115 := mz.2.1 115 (by unfold scr; omega) (by omega)
      have f116 : h2.1 116 = h.1 116 := mz.2.1 116 (by unfold scr; omega) (by omega)
      have f114 : h2.1 114 = h.1 114 := mz.2.1 114 (by unfold scr; omega) (by omega)
      refine M_judge mz.v mz.1 (by omega) ok (mz.tx T) (fun q hq => by rw [f115]; exact hn q hq) (fun z => absurd c z) (fun s' z1 z2 z3 => ?_) (fun s' h' y z1 z2 z3 m3 ey => ⟨?_, m3.inv I2⟩)
      · exfalso
        rw [f114, show s' = s by omega] at z3
        exact c2 z3
      · rw [i_eq, ey, ex, er, v1, show s' = s by omega, f115, f116]
    · rw [upI_n (by omega), csa.2.2 1 (by omega) (by omega) (by omega) (by omega) (by omega)]
      exact (I.w.1).symm
end
