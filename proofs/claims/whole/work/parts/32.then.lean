/-! then, check -/
section
variable {G : GT} {d : Nat} {h : Hp} {Q : Int32 → Hp → Prop} {QW : Hp → Prop}
/-- what AHEAD shows -/
def thn (F : Nat → Int) (j w : Nat) : Int := if w = 0 then F (13 + 5 * j) else if w = 1 then F (14 + 5 * j) else if w = 2 then F 4 else F 6 - 1
theorem rg_then {B : Int} {h0 : Hp} {p0 p1 : List Int32} {l1 l2 l3 : Int32} {n j w : Nat} (hd : 81 ≤ d) (hR0 : RF h0) (ok : OKF B (vM h0)) (hB : B + n ≤ 1000000000) (T : TxM h0 95 p0 p1) (hl : l1.toInt = n) (hn : n ≤ 1000) (hj : l2.toInt = j) (hj4 : j < 4) (hw : l3.toInt = w) (hw3 : w ≤ 3)
    (k : ∀ h' v, MZ h0 h' → v.toInt = thn (secN (earI p0) n (vM h0)) j w → Q v h') : ∀ (m i : Nat) (h : Hp), i + m = n → MS (cpI h0 95 0 97 0 90) h → vM h = secN (earI p0) i (vM h0) → Rg_X12_then_45 G d l1 l2 l3 (nI i) h Q := by
  intro m
  induction m with
  | zero =>
    intro i h hi ms hv
    have : i = n := by omega
    subst this
    have hR := ms.1
    have fin : ∀ v : Int32, v.toInt = thn (secN (earI p0) i (vM h0)) j w → Q v (cpI h 97 0 95 0 90) := fun v e => k _ v (MZ_back ms) e
    unfold thn at fin
    rw [← hv] at fin
    have okn : OKF (B + i) (vM h) := by rw [hv]; exact OKF_secN he_ear i ok
    have o6 := okn.2.2.2.2.2.1
    have o1 := okn.2.1
    have e6 : (h.1 95 6).toInt = vM h 6 := rfl
    refine vc_X12_then_45 hR ⟨fun _ => ⟨fun c => ⟨fun c2 => ⟨fun c3 => ?_, fun c3 => ?_⟩, fun c2 => ?_⟩, fun c => ?_⟩, fun z => ?_⟩
    · rw [i_eq] at c c2 c3
      (try simp only [Int32.reduceToInt, Int64.reduceToInt, ti_m1, tl_m1, ti_m2, tl_m2] at *)
      have e6 : (h.1 95 6).toInt = vM h 6 := rfl
      refine ev_back hR (by omega) (fin _ ?_)
      rw [if_neg (by omega), if_neg (by omega), if_neg (by omega), ti_sub (by rw [e6]; simp only [Int32.reduceToInt]; omega) (by rw [e6]; simp only [Int32.reduceToInt]; omega)]
      rfl
    · rw [i_eq] at c c2 c3
      (try simp only [Int32.reduceToInt, Int64.reduceToInt, ti_m1, tl_m1, ti_m2, tl_m2] at *)
      refine ev_back hR (by omega) (fin _ ?_)
      rw [if_neg (by omega), if_neg (by omega), if_pos (by omega)]
    · rw [i_eq] at c c2
      (try simp only [Int32.reduceToInt, Int64.reduceToInt, ti_m1, tl_m1, ti_m2, tl_m2] at *)
      refine ev_of hR (by omega) (eq_nI hj) (w := 4) rfl (by omega) (by omega) (ev_back hR (by omega) (fin _ ?_))
      rw [if_neg (by omega), if_pos (by omega), show 10 + 5 * j + 4 = 14 + 5 * j by omega]
    · rw [i_eq] at c
      (try simp only [Int32.reduceToInt, Int64.reduceToInt, ti_m1, tl_m1, ti_m2, tl_m2] at *)
      refine ev_of hR (by omega) (eq_nI hj) (w := 3) rfl (by omega) (by omega) (ev_back hR (by omega) (fin _ ?_))
      rw [if_pos (by omega), show 10 + 5 * j + 3 = 13 + 5 * j by omega]
    · exfalso
      rw [i_le, hl, ti_nI (by omega)] at z
      omega
  | succ m ih =>
    intro i h hi ms hv
    refine vc_X12_then_45 ms.1 ⟨fun z => ?_, fun _ => ?_⟩
    · exfalso
      rw [i_le, hl, ti_nI (by omega)] at z
      omega
    · have oki : OKF (B + i) (vM h) := by rw [hv]; exact OKF_secN he_ear i ok
      refine ev_aSecond ms.1 hd oki (by omega) ((TxM_cp T).keep ms) (fun h' ms' hv' => ?_)
      rw [nI_1]
      refine ih (i + 1) h' (by omega) (ms.trans ms') ?_
      rw [hv', hv, secN_succ]
theorem M_then {F : Nat → Int} {a1 a2 a3 : Int32} {p0 p1 : List Int32} (eF : vM h = F) (hR : RF h) (hd : 90 ≤ d) (ok : OKF 99999 F) (T : TxM h 95 p0 p1) (k1 : ¬ ((0 ≤ a1.toInt ∧ a1.toInt ≤ 300) ∧ (0 ≤ a2.toInt ∧ a2.toInt < F 0) ∧ (0 ≤ a3.toInt ∧ a3.toInt ≤ 3)) → Q (er 1) (sI h 98 1 (h.1 98 1 + 1)))
    (k : ∀ (n j w : Nat) (h' : Hp) (v : Int32), a1.toInt = n → n ≤ 300 → a2.toInt = j → (j : Int) < F 0 → j < 4 → a3.toInt = w → w ≤ 3 → MZ h h' → v.toInt = thn (secN (earI p0) n F) j w → Q v h') : EvI G d mX12_then [.inr (.inr (some 94)), .inl a1, .inl a2, .inl a3] h Q := by
  obtain ⟨e, rfl⟩ := dpos (show 1 ≤ d by omega)
  subst eF
  have o0 := ok.1
  refine vc_X12_then hR (ev_in32 hR (by omega) (br2 (fun c => ev_isParty hR (by omega) (by omega) (br2 (fun c2 => ev_in32 hR (by omega) (br2' (fun c3 => ev_keep hR (by omega) ?_) (fun c3 => ?_))) (fun c2 => ?_))) (fun c => ?_)))
  · (try simp only [Int32.reduceToInt, Int64.reduceToInt, ti_m1, tl_m1, ti_m2, tl_m2] at *)
    refine rg_then (n := a1.toInt.toNat) (j := a2.toInt.toNat) (w := a3.toInt.toNat) (by omega) hR ok (by omega) T (by omega) (by omega) (by omega) (by omega) (by omega) (by omega) (fun h' v m e => k _ _ _ h' v (by omega) (by omega) (by omega) (by omega) (by omega) (by omega) (by omega) m e) a1.toInt.toNat 0 _ (by omega) (MS.refl (RF_cp hR)) vM_cp
  · (try simp only [Int32.reduceToInt, Int64.reduceToInt, ti_m1, tl_m1, ti_m2, tl_m2] at *); exact ev_finds hR (by omega) (n := 1) rfl (by omega) (k1 (by omega))
  · (try simp only [Int32.reduceToInt, Int64.reduceToInt, ti_m1, tl_m1, ti_m2, tl_m2] at *); exact ev_finds hR (by omega) (n := 1) rfl (by omega) (k1 (by omega))
  · (try simp only [Int32.reduceToInt, Int64.reduceToInt, ti_m1, tl_m1, ti_m2, tl_m2] at *); exact ev_finds hR (by omega) (n := 1) rfl (by omega) (k1 (by omega))
theorem CS.z {h h' : Hp} {f : Nat} (hf : 41 ≤ f ∧ f ≤ 79) (m : CS f h h') : MZ h h' := by
  refine ⟨m.1, fun a h1 h2 => m.2.2 a (fun z => h1 (by unfold scr; omega)) (fun z => h1 (by unfold scr; omega)) (fun z => h1 (by unfold scr; omega)) (fun z => h1 (by unfold scr; omega)) (fun z => h1 (by unfold scr; omega)), ?_, ?_⟩
  · rw [m.2.2 94 (by omega) (by omega) (by omega) (by omega) (by omega)]
  · rw [m.2.2 94 (by omega) (by omega) (by omega) (by omega) (by omega)]
theorem MZ.tx {h h' : Hp} {p0 p1 : List Int32} (m : MZ h h') (T : TxM h 95 p0 p1) : TxM h' 95 p0 p1 := TxM_eq (fun j _ _ => by rw [m.2.1 95 (by unfold scr; omega) (by omega)]) T
theorem CS.txc {h h' : Hp} {f : Nat} {p0 : List Int32} (hf : SH[f]? = some (.inl 2)) (m : CS f h h') (T : TxC h 13 p0) : TxC h' 13 p0 := by
  have := fl_lo hf
  exact TxC_eq (by rw [m.2.2 13 (by omega) (by omega) (by omega) (by omega) (by omega)]) (fun k _ => by rw [m.2.2 (13 + 1) (by omega) (by omega) (by omega) (by omega) (by omega)]) T
theorem step_then {a1 a2 a3 : Int32} (I : Inv h) (hd : 100 ≤ d) : EvI G d mX11_then [.inr (.inr (some 0)), .inl a1, .inl a2, .inl a3] h (fun x h1 => EvI G d mX12_then [.inr (.inr (some 94)), .inl a1, .inl a2, .inl a3] h1 (fun y h2 => x = y ∧ Inv h2)) := by
  have hd' := hd
  have hR := I.1
  have ok := I.ok
  have n0 := I.n
  obtain ⟨p0, p1, T, T0, T1⟩ := I.tx
  have kx : ∀ k v, TxM (sI h 93 k v) 95 p0 p1 := fun k v => TxM_eq (fun j _ _ => by rw [sI_ne (by omega)]) T
  obtain ⟨e, rfl⟩ := dpos (show 1 ≤ d by omega)
  have bad : ¬ ((0 ≤ a1.toInt ∧ a1.toInt ≤ 300) ∧ (0 ≤ a2.toInt ∧ a2.toInt < vM h 0) ∧ (0 ≤ a3.toInt ∧ a3.toInt ≤ 3)) → EvI G (e + 1) mX12_then [.inr (.inr (some 94)), .inl a1, .inl a2, .inl a3] (sI h 93 1 (h.1 93 1 + 1)) (fun y h2 => er 1 = y ∧ Inv h2) := fun z =>
    M_then (vM_lo (by omega)) (RF_sI hR) (by omega) ok (kx _ _) (fun _ => ⟨rfl, Inv_err I rfl⟩) (fun n j w h' v z1 z2 z3 z4 z5 z6 z7 _ _ => absurd (by omega) z)
  refine vc_X11_then hR (ev_within hR (by omega) (br2 (fun c => ev_hasParty hR (by omega) (by omega) (br2 (fun c2 => ev_within hR (by omega) (br2' (fun c3 => ?_) (fun c3 => ?_))) (fun c2 => ?_))) (fun c => ?_)))
  · (try simp only [Int32.reduceToInt, Int64.reduceToInt, ti_m1, tl_m1, ti_m2, tl_m2] at *)
    refine ev_copyF hR (by omega) rfl rfl (by omega) (fun h1 cs1 ev1 => ?_)
    have okC : OKF 99999 (vC h1 41 (vM h)) := by rw [ev1, I.cf]; exact ok
    refine ev_pass cs1.1 (by omega) rfl okC (by omega) (by omega) (cs1.txc rfl T0) (fun h2 cs2 hv => ?_)
    obtain ⟨n, en⟩ : ∃ n : Nat, a1.toInt = n := ⟨a1.toInt.toNat, by omega⟩
    obtain ⟨j, ej⟩ : ∃ j : Nat, a2.toInt = j := ⟨a2.toInt.toNat, by omega⟩
    obtain ⟨w, ew⟩ : ∃ w : Nat, a3.toInt = w := ⟨a3.toInt.toNat, by omega⟩
    rw [ev1, I.cf, en, pas_sec he_ear n ok] at hv
    have mz : MZ h h2 := (cs1.z (by omega)).trans (cs2.z (by omega))
    have vp := @vC_p h2 41 (vM h) j (by omega)
    have inj : vp_in a2 4 := in_of (by omega) (by omega)
    have fin : ∀ x : Int32, x.toInt = thn (vC h2 41 (vM h)) j w → EvI G (e + 1) mX12_then [.inr (.inr (some 94)), .inl a1, .inl a2, .inl a3] h2 (fun y h2 => x = y ∧ Inv h2) := by
      intro x ex
      refine M_then mz.v mz.1 (by omega) ok (mz.tx T) (fun z => absurd (by omega) z) (fun n' j' w' h3 v z1 z2 z3 z4 z5 z6 z7 m3 e3 => ⟨?_, m3.inv (mz.inv I)⟩)
      rw [i_eq, ex, e3, hv, show n' = n by omega, show j' = j by omega, show w' = w by omega]
    unfold thn at fin
    rw [cl_of ej]
    refine ⟨⟨fun z => ⟨inj, fin _ ?_⟩, fun z => ⟨inj, fin _ ?_⟩, fun z => fin _ ?_⟩, fun z => fin _ ?_⟩
    · rw [if_pos (by omega)]; exact vp.2.2.2.1.symm
    · rw [if_neg (by omega), if_pos (by omega)]; exact vp.2.2.2.2.symm
    · rw [if_neg (by omega), if_neg (by omega), if_pos (by omega)]; rfl
    · rw [if_neg (by omega), if_neg (by omega), if_neg (by omega)]
      show _ = (h2.1 41 6).toInt + 1 - 1
      omega
  · (try simp only [Int32.reduceToInt, Int64.reduceToInt, ti_m1, tl_m1, ti_m2, tl_m2] at *); exact ev_refuse hR (by omega) (n := 1) rfl (by omega) (bad (by omega))
  · (try simp only [Int32.reduceToInt, Int64.reduceToInt, ti_m1, tl_m1, ti_m2, tl_m2] at *); exact ev_refuse hR (by omega) (n := 1) rfl (by omega) (bad (by omega))
  · (try simp only [Int32.reduceToInt, Int64.reduceToInt, ti_m1, tl_m1, ti_m2, tl_m2] at *); exact ev_refuse hR (by omega) (n := 1) rfl (by omega) (bad (by omega))
/-- the place of the first that is unlike, from i on, m more at most -/
def unl (fl num : Nat → Int) : Nat → Nat → Nat
  | 0, i => i
  | m + 1, i => if fl i = num i then unl fl num m (i + 1) else i
theorem unl_in {fl num : Nat → Int} : ∀ (m i : Nat), i ≤ unl fl num m i ∧ unl fl num m i ≤ i + m
  | 0, i => ⟨Nat.le_refl _, by show i ≤ _; omega⟩
  | m + 1, i => by
    have := @unl_in fl num m (i + 1)
    unfold unl
    split <;> omega
/-- FLOOR behind i + 1 SECONDS -/
def flo (ear : Int → Int → Int → Int) (F : Nat → Int) (i : Nat) : Int := secN ear (i + 1) F 4
theorem rg_unlike {B : Int} {bg : Nat → Int} {h0 : Hp} {p0 : List Int32} {r rn n : Nat} {l2 : Int32} {num : Nat → Int} (hd : 21 ≤ d) (ok : OKF B (vC h0 41 bg)) (hB : B + n ≤ 100000000) (T : TxC h0 13 p0) (hr : SH[r]? = some (.inr (0, rn))) (hr2 : r ≠ 15 ∧ ¬ (41 ≤ r ∧ r ≤ 44)) (hl : l2.toInt = n) (hn : n ≤ rn) (hrn : rn ≤ 100) (hnum : ∀ i, i < n → (h0.1 r i).toInt = num i)
    (k : ∀ h' x, CS 41 h0 h' → x.toInt = (if unl (flo (earI p0) (vC h0 41 bg)) num n 0 = n then -1 else (unl (flo (earI p0) (vC h0 41 bg)) num n 0 : Int)) → Q x h') : ∀ (m i : Nat) (h : Hp), i + m = n → CS 41 h0 h → vC h 41 bg = secN (earI p0) i (vC h0 41 bg) → unl (flo (earI p0) (vC h0 41 bg)) num m i = unl (flo (earI p0) (vC h0 41 bg)) num n 0 → Rg_X11_firstUnlike_16 G d r rn l2 (nI i) h Q := by
  intro m
  induction m with
  | zero =>
    intro i h hi cs hv hu
    have : i = n := by omega
    subst this
    refine vc_X11_firstUnlike_16 hr cs.1 ⟨fun _ => k h _ cs ?_, fun z => ?_⟩
    · rw [← hu]
      show _ = if i = i then _ else _
      rw [if_pos rfl, ti_m1]
    · exfalso
      rw [i_le, hl, ti_nI (by omega)] at z
      omega
  | succ m ih =>
    intro i h hi cs hv hu
    have ei : (nI i).toInt = (i : Int) := ti_nI (by omega)
    have oki : OKF (B + i) (vC h 41 bg) := by rw [hv]; exact OKF_secN he_ear i ok
    refine vc_X11_firstUnlike_16 hr cs.1 ⟨fun z => ?_, fun _ => ⟨fun z => ?_, fun _ => ?_⟩⟩
    · exfalso
      rw [i_le, hl, ei] at z
      omega
    · exfalso
      rw [i_le, ei] at z
      have : (Int32.ofNat rn).toInt = (rn : Int) := ti_nI (by omega)
      omega
    · refine ev_pass cs.1 (by omega) rfl oki (by omega) (by decide) (cs.txc rfl T) (fun h' cs' hv' => ?_)
      have e1 : pasF (earI p0) (Int32.toInt 1) (vC h 41 bg) = secN (earI p0) (i + 1) (vC h0 41 bg) := by
        have := pas_sec he_ear (ear := earI p0) 1 oki
        rw [show (Int32.toInt 1) = ((1 : Nat) : Int) from rfl, this]
        show secF (earI p0) (vC h 41 bg) = _
        rw [hv, secN_succ]
      rw [e1] at hv'
      have e4 : (h'.1 41 4).toInt = flo (earI p0) (vC h0 41 bg) i := by
        show vC h' 41 bg 4 = _
        rw [hv']
        rfl
      have er : (h'.1 r i).toInt = num i := by
        rw [(cs.trans cs').2.2 r (by omega) (by omega) (by omega) (by omega) (by omega)]
        exact hnum i (by omega)
      refine ⟨in_of (by omega) (by omega), ?_⟩
      rw [cl_of ei]
      refine ⟨fun z => ?_, fun z => ?_⟩
      · rw [i_eq, e4, er] at z
        rw [nI_1]
        refine ih (i + 1) h' (by omega) (cs.trans cs') hv' ?_
        rw [← hu]
        show _ = if _ then _ else _
        rw [if_pos z]
      · rw [i_eq, e4, er] at z
        refine k h' _ (cs.trans cs') ?_
        have e5 : unl (flo (earI p0) (vC h0 41 bg)) num n 0 = i := by
          rw [← hu]
          show (if _ then _ else _) = i
          rw [if_neg z]
        rw [e5, if_neg (by omega), ei]
theorem ev_unlike {p0 : List Int32} {r rn n : Nat} {a2 : Int32} {num : Nat → Int} (I : Inv h) (hd : 23 ≤ d) (T : TxC h 13 p0) (hr : SH[r]? = some (.inr (0, rn))) (hr2 : r ≠ 15 ∧ ¬ (41 ≤ r ∧ r ≤ 44)) (hl : a2.toInt = n) (hn : n ≤ rn) (hrn : rn ≤ 100) (hnum : ∀ i, i < n → (h.1 r i).toInt = num i)
    (k : ∀ h' x, CS 41 h h' → x.toInt = (if unl (flo (earI p0) (vM h)) num n 0 = n then -1 else (unl (flo (earI p0) (vM h)) num n 0 : Int)) → Q x h') : EvI G d mX11_firstUnlike [.inr (.inr (some 0)), .inr (.inr (some r)), .inl a2] h Q := by
  have hR := I.1
  obtain ⟨e, rfl⟩ := dpos (show 1 ≤ d by omega)
  refine vc_X11_firstUnlike hr hR (ev_copyF hR (by omega) rfl rfl (by omega) (fun h1 cs1 ev1 => ?_))
  have e0 : vC h1 41 (vM h) = vM h := by rw [ev1, I.cf]
  refine rg_unlike (bg := vM h) (B := 99999) (num := num) (by omega) (by rw [e0]; exact I.ok) (by omega) (cs1.txc rfl T) hr hr2 hl hn hrn (fun i hi => by rw [cs1.2.2 r (by omega) (by omega) (by omega) (by omega) (by omega)]; exact hnum i hi) (fun h' x cs ex => ?_) n 0 h1 (by omega) (CS.refl cs1.1) rfl rfl
  rw [e0] at ex
  exact k h' x (cs1.trans cs) ex
theorem rg_check {B : Int} {h0 : Hp} {p0 p1 : List Int32} {l1 : Int32} {n : Nat} {num : Nat → Int} (hd : 81 ≤ d) (hR0 : RF h0) (ok : OKF B (vM h0)) (hB : B + n ≤ 100000000) (T : TxM h0 95 p0 p1) (hl : l1.toInt = n) (hn : n ≤ 20) (hnum : ∀ i, i < n → (h0.1 95 (92 + i)).toInt = num i)
    (k : ∀ h' x, MZ h0 h' → x.toInt = (if unl (flo (earI p0) (vM h0)) num n 0 = n then 0 else 1 + (unl (flo (earI p0) (vM h0)) num n 0 : Int)) → Q x h') : ∀ (m i : Nat) (h : Hp), i + m = n → MS (cpI h0 95 0 97 0 90) h → vM h = secN (earI p0) i (vM h0) → unl (flo (earI p0) (vM h0)) num m i = unl (flo (earI p0) (vM h0)) num n 0 → Rg_X12_check_24 G d l1 (nI i) 1 h Q := by
  intro m
  induction m with
  | zero =>
    intro i h hi ms hv hu
    have : i = n := by omega
    subst this
    have ei : (nI i).toInt = (i : Int) := ti_nI (by omega)
    refine vc_X12_check_24 ms.1 ⟨fun _ => ev_back ms.1 (by omega) ⟨fun z => ?_, fun _ => k _ _ (MZ_back ms) ?_⟩, fun z => ?_⟩
    · exfalso
      exact z (by rw [i_eq, ei, hl])
    · rw [← hu]
      show _ = if i = i then _ else _
      rw [if_pos rfl]
      rfl
    · exfalso
      rw [i_le, hl, ei] at z
      omega
  | succ m ih =>
    intro i h hi ms hv hu
    have ei : (nI i).toInt = (i : Int) := ti_nI (by omega)
    have oki : OKF (B + i) (vM h) := by rw [hv]; exact OKF_secN he_ear i ok
    refine vc_X12_check_24 ms.1 ⟨fun z => ?_, fun _ => ⟨fun z => absurd z (by decide), fun _ => ?_⟩⟩
    · exfalso
      rw [i_le, hl, ei] at z
      omega
    · refine ev_aSecond ms.1 hd oki (by omega) ((TxM_cp T).keep ms) (fun h' ms' hv' => ?_)
      have e92 : (92 + nI i).toInt = ((92 + i : Nat) : Int) := by rw [ti_add (by rw [ei]; simp only [Int32.reduceToInt]; omega) (by rw [ei]; simp only [Int32.reduceToInt]; omega), ei]; simp only [Int32.reduceToInt]; omega
      have hv2 : vM h' = secN (earI p0) (i + 1) (vM h0) := by rw [hv', hv, secN_succ]
      have e4 : (h'.1 95 4).toInt = flo (earI p0) (vM h0) i := by
        show vM h' 4 = _
        rw [hv2]
        rfl
      have er : (h'.1 95 (92 + i)).toInt = num i := by
        rw [(ms.trans ms').2.2.2.2 (92 + i) (by omega), cpI_at, if_neg (by omega)]
        exact hnum i (by omega)
      refine ⟨in_of (by omega) (by omega), ?_⟩
      rw [cl_of e92]
      refine ⟨fun z => ?_, fun z => ?_⟩
      · rw [i_eq, e4, er] at z
        have e5 : unl (flo (earI p0) (vM h0)) num n 0 = i := by
          rw [← hu]
          show (if _ then _ else _) = i
          rw [if_neg z]
        have e20 : nI i + 0 = nI i := by simp
        rw [e20]
        have e1i : (1 + nI i).toInt = 1 + (i : Int) := by rw [ti_add (by rw [ei]; simp only [Int32.reduceToInt]; omega) (by rw [ei]; simp only [Int32.reduceToInt]; omega), ei]; rfl
        refine vc_X12_check_24 ms'.1 ⟨fun y => ?_, fun _ => ⟨fun _ => ev_back ms'.1 (by omega) ⟨fun _ => k _ _ (MZ_back (ms.trans ms')) ?_, fun y => ?_⟩, fun y => absurd rfl y⟩⟩
        · exfalso
          rw [i_le, hl, ei] at y
          omega
        · rw [e5, if_neg (by omega), e1i]
        · exfalso
          rw [i_eq, ei, hl] at y
          omega
      · rw [i_eq, e4, er] at z
        rw [nI_1]
        refine ih (i + 1) h' (by omega) (ms.trans ms') hv2 ?_
        rw [← hu]
        show _ = if _ then _ else _
        rw [if_pos z]
theorem step_check (I : Inv h) (hd : 100 ≤ d) : EvI G d mX11_check [.inr (.inr (some 0))] h (fun x h1 => EvI G d mX12_check [.inr (.inr (some 94))] h1 (fun y h2 => x = y ∧ Inv h2)) := by
  have hd' := hd
  have hR := I.1
  have ok := I.ok
  obtain ⟨p0, p1, T, T0, T1⟩ := I.tx
  obtain ⟨-, -, -, -, -, s4, s5, -⟩ := I.2.1
  have e9 : (h.1 1 15).toInt = vM h 9 := I.c (bg := z0) (j := 9) (by omega)
  obtain ⟨n, en⟩ : ∃ n : Nat, vM h 9 = n := ⟨(vM h 9).toNat, by omega⟩
  obtain ⟨e, rfl⟩ := dpos (show 1 ≤ d by omega)
  refine vc_X11_check hR (ev_unlike (n := n) (num := fun i => (h.1 20 i).toInt) I (by omega) T0 rfl (by omega) (by omega) (by omega) (by omega) (fun i _ => rfl) (fun h1 x cs ex => ?_))
  have mz := cs.z (by omega)
  have I1 := mz.inv I
  have unb := @unl_in (flo (earI p0) (vM h)) (fun i => (h.1 20 i).toInt) n 0
  generalize hu : unl (flo (earI p0) (vM h)) (fun i => (h.1 20 i).toInt) n 0 = u at ex unb
  have ex2 : u = n ∨ u ≠ n := by omega
  have I2 : Inv (sI (sI h1 1 15 0) 95 9 0) := by
    have hR1 := I1.1
    refine Inv_upB I1 (upI (vM h1) 9 (Int32.toInt 0)) (by repeat' (first | exact hR1 | apply RF_sI)) (fun a z1 z2 z3 z4 => by unfold scr at z1; funext j; (repeat rw [sI_ne (by omega)])) (by repeat rw [sI_ne (by omega)]) (by repeat rw [sI_ne (by omega)]) (by simp (disch := omega) only [vM_sI, vM_lo, vM_hi] <;> rfl) (fun j hj => by (simp (disch := omega) only [vM_sI, vM_lo, vM_hi, c9_hi, c9_kind, c9_m, c9_size, c9_water, c9_heard, c9_whose, c9_takes, c9_worth, c9_behind, c9_how, c9_n, c9_words, c9_z, c9_bytes, c9_waits, c9_f3, c9_f4, c9_f5, c9_f7, c9_f6]); revert j hj; (repeat refine upI_on ?_); exact I1.cc) (fun j hj => by simp (disch := omega) only [upI_n]) ?_ ?_ ?_
    · exact OKF_irr (by omega) I1.ok
    · rw [upI_n (by omega)]; exact I1.b89.1
    · rw [upI_s]; decide
  have fin : ∀ y : Int32, y.toInt = (if u = n then 0 else 1 + (u : Int)) → EvI G (e + 1) mX12_check [.inr (.inr (some 94))] (sI h1 1 15 0) (fun z h2 => y = z ∧ Inv h2) := by
    intro y ey
    have ms95 : (sI h1 1 15 0).1 95 9 = h.1 95 9 := by rw [sI_ne (by omega), mz.2.1 95 (by unfold scr; omega) (by omega)]
    refine vc_X12_check (RF_sI I1.1) (ev_keep (RF_sI (RF_sI I1.1)) (by omega) ?_)
    rw [ms95]
    have v9 : vM (sI (sI h1 1 15 0) 95 9 0) = upI (vM h) 9 0 := by rw [vM_sI, vM_lo (by omega), mz.v]; rfl
    have vfl : ∀ i, flo (earI p0) (upI (vM h) 9 0) i = flo (earI p0) (vM h) i := fun i => by unfold flo; rw [secNk (Or.inr (Or.inr rfl)) he_ear 0 (i + 1) ok, upI_n (by omega)]
    have e0 : unl (flo (earI p0) (vM (sI (sI h1 1 15 0) 95 9 0))) (fun i => (h.1 20 i).toInt) n 0 = u := by
      rw [v9, funext vfl]
      exact hu
    refine rg_check (B := 99999) (num := fun i => (h.1 20 i).toInt) (n := n) (by omega) (RF_sI (RF_sI I1.1)) I2.ok (by omega) (TxM_eq (fun j _ _ => by rw [sI_ne (by omega), sI_ne (by omega), mz.2.1 95 (by unfold scr; omega) (by omega)]) T) en (by omega) (fun i hi => ?_) (fun h' z m ez => ⟨?_, m.inv I2⟩) n 0 _ (by omega) (MS.refl (RF_cp (RF_sI (RF_sI I1.1)))) vM_cp rfl
    · rw [sI_ne (by omega), sI_ne (by omega), mz.2.1 95 (by unfold scr; omega) (by omega), s5 i (by omega)]
    · rw [i_eq, ey, ez, e0]
  refine ⟨fun z => fin _ ?_, fun z => fin _ ?_⟩
  · rw [i_eq, ex, ti_m1] at z
    rcases ex2 with q | q
    · rw [if_pos q] at z; omega
    · rw [if_neg q] at ex ⊢
      rw [ti_add (by rw [ex]; simp only [Int32.reduceToInt]; omega) (by rw [ex]; simp only [Int32.reduceToInt]; omega), ex]
      rfl
  · rw [i_eq, ex, ti_m1] at z
    rcases ex2 with q | q
    · rw [if_pos q]; rfl
    · rw [if_neg q] at z; omega
end
