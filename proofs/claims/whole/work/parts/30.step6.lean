/-! set, pour, say -/
section
variable {G : GT} {d : Nat} {h : Hp} {Q : Int32 → Hp → Prop} {QW : Hp → Prop}
theorem M_set {F : Nat → Int} {a1 a2 a3 : Int32} (eF : vM h = F) (hR : RF h) (hd : 10 ≤ d) (ok : OKF 99999 F) (k1 : ¬ ((0 ≤ a1.toInt ∧ a1.toInt < F 1) ∧ ((a2.toInt = 1 ∧ 1 ≤ a3.toInt ∧ a3.toInt ≤ 30) ∨ (a2.toInt = 2 ∧ 0 ≤ a3.toInt ∧ a3.toInt ≤ 99))) → Q (er 1) (sI h 98 1 (h.1 98 1 + 1)))
    (k3 : ∀ j : Nat, a1.toInt = j → (j : Int) < F 1 → ((a2.toInt = 1 ∧ 1 ≤ a3.toInt ∧ a3.toInt ≤ 30) ∨ (a2.toInt = 2 ∧ 0 ≤ a3.toInt ∧ a3.toInt ≤ 99)) → (F (34 + 5 * j) ≠ 0 ∨ F 6 = (j : Int) + 1) → Q (er 3) (sI h 98 3 (h.1 98 3 + 1)))
    (k : ∀ j w : Nat, a1.toInt = j → (j : Int) < F 1 → j < 12 → a2.toInt = w → ((w = 1 ∧ 1 ≤ a3.toInt ∧ a3.toInt ≤ 30) ∨ (w = 2 ∧ 0 ≤ a3.toInt ∧ a3.toInt ≤ 99)) → F (34 + 5 * j) = 0 → F 6 ≠ (j : Int) + 1 → Q (h.1 95 (30 + 5 * j + w)) (sI h 95 (30 + 5 * j + w) a3)) : EvI G d mX12_set [.inr (.inr (some 94)), .inl a1, .inl a2, .inl a3] h Q := by
  obtain ⟨e, rfl⟩ := dpos (show 1 ≤ d by omega)
  subst eF
  have o1 := ok.2.1
  have o6 := ok.2.2.2.2.2.1
  have e6 : (h.1 95 6).toInt = vM h 6 := rfl
  have fin : ∀ j w : Nat, a1.toInt = j → (j : Int) < vM h 1 → a2.toInt = w → ((w = 1 ∧ 1 ≤ a3.toInt ∧ a3.toInt ≤ 30) ∨ (w = 2 ∧ 0 ≤ a3.toInt ∧ a3.toInt ≤ 99)) → EvI G e mX12_its [.inr (.inr (some 94)), .inl a1, .inl 4] h (fun x17 h16 => ((¬ x17 = 0 → EvI G e mX12_finds [.inr (.inr (some 94)), .inl 3] h16 (fun x20 h19 => Q x20 h19)) ∧ (x17 = 0 → ((¬ h16.1 95 6 = (a1 + 1) → EvI G e mX12_its [.inr (.inr (some 94)), .inl a1, .inl a2] h16 (fun x23 h22 => EvV G e mX12_puts [.inr (.inr (some 94)), .inl a1, .inl a2, .inl a3] h22 (fun h24 => Q x23 h24))) ∧ (h16.1 95 6 = (a1 + 1) → EvI G e mX12_finds [.inr (.inr (some 94)), .inl 3] h16 (fun x26 h25 => Q x26 h25)))))) := by
    intro j w ej jF ew hw
    have ea : (a1 + 1).toInt = (j : Int) + 1 := by rw [ti_add (by rw [ej]; simp only [Int32.reduceToInt]; omega) (by rw [ej]; simp only [Int32.reduceToInt]; omega), ej]; rfl
    refine ev_its hR (by omega) (eq_nI ej) (w := 4) rfl (by omega) (by omega) ?_
    rw [show 30 + 5 * j + 4 = 34 + 5 * j by omega]
    refine ⟨fun c => ev_finds hR (by omega) (n := 3) rfl (by omega) (k3 j ej jF (by omega) (Or.inl ?_)), fun c => ⟨fun c2 => ev_its hR (by omega) (eq_nI ej) (eq_nI ew) (by omega) (by omega) (ev_puts hR (by omega) (eq_nI ej) (eq_nI ew) (by omega) (by omega) (k j w ej jF (by omega) ew hw ?_ ?_)), fun c2 => ev_finds hR (by omega) (n := 3) rfl (by omega) (k3 j ej jF (by omega) (Or.inr ?_))⟩⟩
    · rw [i_eq] at c; exact c
    · rw [i_eq] at c; exact c
    · rw [i_eq, ea] at c2; exact c2
    · rw [i_eq, ea] at c2; exact c2
  refine vc_X12_set hR ?_
  repeat' (first
    | (refine ev_isParty hR (by omega) (by omega) ?_)
    | (refine ev_isWord hR (by omega) (by omega) ?_)
    | (refine ev_in32 hR (by omega) ?_)
    | (refine ev_finds hR (by omega) (n := 1) rfl (by omega) ?_)
    | (refine ev_finds hR (by omega) (n := 2) rfl (by omega) ?_)
    | (refine ev_finds hR (by omega) (n := 3) rfl (by omega) ?_)
    | (refine ev_finds hR (by omega) (n := 4) rfl (by omega) ?_)
    | (refine ev_finds hR (by omega) (n := 5) rfl (by omega) ?_)
    | (refine br2 (fun _ => ?_) (fun _ => ?_))
    | (refine br2' (fun _ => ?_) (fun _ => ?_))
    | (with_reducible refine spl (fun _ => ?_) (fun _ => ?_))
    | (with_reducible refine spl' (fun _ => ?_) (fun _ => ?_)))
  all_goals try contradiction
  · rename_i c1 c2 c3 c4 c5
    rw [i_eq] at c3
    (try simp only [Int32.reduceToInt, Int64.reduceToInt, ti_m1, tl_m1, ti_m2, tl_m2] at *)
    exact fin a1.toInt.toNat 2 (by omega) (by omega) (by omega) (Or.inr ⟨rfl, by omega, by omega⟩)
  · rename_i c1 c2 c3 c4 c5
    rw [i_eq] at c3
    (try simp only [Int32.reduceToInt, Int64.reduceToInt, ti_m1, tl_m1, ti_m2, tl_m2] at *)
    exact k1 (by omega)
  · rename_i c1 c2 c3 c4 c5
    rw [i_eq] at c3
    (try simp only [Int32.reduceToInt, Int64.reduceToInt, ti_m1, tl_m1, ti_m2, tl_m2] at *)
    exact fin a1.toInt.toNat 1 (by omega) (by omega) (by omega) (Or.inl ⟨rfl, by omega, by omega⟩)
  · rename_i c1 c2 c3 c4 c5
    rw [i_eq] at c3
    (try simp only [Int32.reduceToInt, Int64.reduceToInt, ti_m1, tl_m1, ti_m2, tl_m2] at *)
    exact k1 (by omega)
  · (try simp only [Int32.reduceToInt, Int64.reduceToInt, ti_m1, tl_m1, ti_m2, tl_m2] at *); exact k1 (by omega)
  · exact k1 (by omega)
theorem step_set {a1 a2 a3 : Int32} (I : Inv h) (hd : 100 ≤ d) : EvI G d mX11_set [.inr (.inr (some 0)), .inl a1, .inl a2, .inl a3] h (fun x h1 => EvI G d mX12_set [.inr (.inr (some 94)), .inl a1, .inl a2, .inl a3] h1 (fun y h2 => x = y ∧ Inv h2)) := by
  have hd' := hd
  have hR := I.1
  have n0 := I.n
  have w0 := I.w
  have ok := I.ok
  have o6 := ok.2.2.2.2.2.1
  have e6 : (h.1 9 6).toInt + 1 = vM h 6 := I.c (bg := z0) (j := 6) (by omega)
  obtain ⟨e, rfl⟩ := dpos (show 1 ≤ d by omega)
  have bad : ¬ ((0 ≤ a1.toInt ∧ a1.toInt < vM h 1) ∧ ((a2.toInt = 1 ∧ 1 ≤ a3.toInt ∧ a3.toInt ≤ 30) ∨ (a2.toInt = 2 ∧ 0 ≤ a3.toInt ∧ a3.toInt ≤ 99))) → EvI G (e + 1) mX12_set [.inr (.inr (some 94)), .inl a1, .inl a2, .inl a3] (sI h 93 1 (h.1 93 1 + 1)) (fun y h2 => er 1 = y ∧ Inv h2) := by
    intro z
    exact M_set (vM_lo (by omega)) (RF_sI hR) (by omega) ok (fun _ => ⟨rfl, Inv_err I rfl⟩) (fun j z1 z2 z3 z4 => absurd z (by omega)) (fun j w z1 z2 z3 z4 z5 z6 z7 => absurd z (by omega))
  have bad3 : ∀ j : Nat, a1.toInt = j → (j : Int) < vM h 1 → ((a2.toInt = 1 ∧ 1 ≤ a3.toInt ∧ a3.toInt ≤ 30) ∨ (a2.toInt = 2 ∧ 0 ≤ a3.toInt ∧ a3.toInt ≤ 99)) → (vM h (34 + 5 * j) ≠ 0 ∨ vM h 6 = (j : Int) + 1) → EvI G (e + 1) mX12_set [.inr (.inr (some 94)), .inl a1, .inl a2, .inl a3] (sI h 93 3 (h.1 93 3 + 1)) (fun y h2 => er 3 = y ∧ Inv h2) := by
    intro j y1 y2 y3 y4
    refine M_set (vM_lo (by omega)) (RF_sI hR) (by omega) ok (fun z => absurd z (by omega)) (fun j z1 z2 z3 z4 => ⟨rfl, Inv_err I rfl⟩) (fun j' w z1 z2 z3 z4 z5 z6 z7 => ?_)
    have : j' = j := by omega
    subst this
    rcases y4 with y4 | y4
    · exact absurd z6 y4
    · exact absurd y4 z7
  have main : ∀ j w r : Nat, a1.toInt = j → (j : Int) < vM h 1 → a2.toInt = w → ((w = 1 ∧ r = 6 ∧ 1 ≤ a3.toInt ∧ a3.toInt ≤ 30) ∨ (w = 2 ∧ r = 7 ∧ 0 ≤ a3.toInt ∧ a3.toInt ≤ 99)) → vM h (34 + 5 * j) = 0 → vM h 6 ≠ (j : Int) + 1 → EvI G (e + 1) mX12_set [.inr (.inr (some 94)), .inl a1, .inl a2, .inl a3] (sI h r j a3) (fun y h2 => h.1 r j = y ∧ Inv h2) := by
    intro j w r y1 y2 y3 y4 y5 y6
    have j12 : j < 12 := by omega
    have iw := I.wd j12
    have o := ok.2.2.2.2.2.2.2.2.2 j j12
    refine M_set (F := vM h) (vM_lo (by omega)) (RF_sI hR) (by omega) ok (fun z => absurd z (by omega)) (fun j' z1 z2 z3 z4 => ?_) (fun j' w' z1 z2 z3 z4 z5 z6 z7 => ?_)
    · have : j' = j := by omega
      subst this
      rcases z4 with z4 | z4
      · exact absurd y5 z4
      · exact absurd z4 y6
    · have : j' = j := by omega
      subst this
      have : w' = w := by omega
      subst this
      have fin : ∀ F' : Nat → Int, F' = upI (vM h) (30 + 5 * j' + w') a3.toInt → OKF 99999 F' := by
        intro F' eF'
        refine OKF_w (w := j') ok (fun i hi1 hi2 => by rw [eF', upI_n (by omega)]) z3 (by rw [eF', upI_n (by omega)]; omega) (fun v => by rw [eF', upI_n (by omega)]; omega) (fun z => by omega) ?_
        unfold OKW at *
        rcases y4 with y4 | y4
        · rw [eF', y4.1]
          simp (disch := omega) only [upI_n, upI_s, show 30 + 5 * j' + 1 = 31 + 5 * j' by omega]
          omega
        · rw [eF', y4.1]
          simp (disch := omega) only [upI_n, upI_s, show 30 + 5 * j' + 2 = 32 + 5 * j' by omega]
          omega
      rcases y4 with ⟨rfl, rfl, -⟩ | ⟨rfl, rfl, -⟩
      · refine ⟨?_, ?_⟩
        · rw [sI_ne (by omega), show 30 + 5 * j' + 1 = 31 + 5 * j' by omega]
          exact iw.2.1.symm
        · rw [show 30 + 5 * j' + 1 = 31 + 5 * j' by omega] at fin ⊢
          refine Inv_up I (upI (vM h) (31 + 5 * j') a3.toInt) (by repeat' (first | exact hR | apply RF_sI)) (fun a z1 z2 z3 z4 => by unfold scr at z1; funext j; (repeat rw [sI_ne (by omega)])) (by repeat rw [sI_ne (by omega)]) (by repeat rw [sI_ne (by omega)]) (by simp (disch := omega) only [vM_sI, vM_lo, vM_hi] <;> rfl) (fun j hj => by (simp (disch := omega) only [vM_sI, vM_lo, vM_hi, c9_hi, c9_kind, c9_m, c9_size, c9_water, c9_heard, c9_whose, c9_takes, c9_worth, c9_behind, c9_how, c9_n, c9_words, c9_z, c9_bytes, c9_waits, c9_f3, c9_f4, c9_f5, c9_f7, c9_f6]); revert j hj; (repeat refine upI_on ?_); exact I.cc) (fun j hj => by simp (disch := omega) only [upI_n]) ?_ (by simp (disch := omega) only [upI_n]) (by simp (disch := omega) only [upI_n])
          exact fin _ rfl
      · refine ⟨?_, ?_⟩
        · rw [sI_ne (by omega), show 30 + 5 * j' + 2 = 32 + 5 * j' by omega]
          exact iw.2.2.1.symm
        · rw [show 30 + 5 * j' + 2 = 32 + 5 * j' by omega] at fin ⊢
          refine Inv_up I (upI (vM h) (32 + 5 * j') a3.toInt) (by repeat' (first | exact hR | apply RF_sI)) (fun a z1 z2 z3 z4 => by unfold scr at z1; funext j; (repeat rw [sI_ne (by omega)])) (by repeat rw [sI_ne (by omega)]) (by repeat rw [sI_ne (by omega)]) (by simp (disch := omega) only [vM_sI, vM_lo, vM_hi] <;> rfl) (fun j hj => by (simp (disch := omega) only [vM_sI, vM_lo, vM_hi, c9_hi, c9_kind, c9_m, c9_size, c9_water, c9_heard, c9_whose, c9_takes, c9_worth, c9_behind, c9_how, c9_n, c9_words, c9_z, c9_bytes, c9_waits, c9_f3, c9_f4, c9_f5, c9_f7, c9_f6]); revert j hj; (repeat refine upI_on ?_); exact I.cc) (fun j hj => by simp (disch := omega) only [upI_n]) ?_ (by simp (disch := omega) only [upI_n]) (by simp (disch := omega) only [upI_n])
          exact fin _ rfl
  have leaf : ∀ j : Nat, a1.toInt = j → (j : Int) < vM h 1 → ((a2.toInt = 1 ∧ 1 ≤ a3.toInt ∧ a3.toInt ≤ 30) ∨ (a2.toInt = 2 ∧ 0 ≤ a3.toInt ∧ a3.toInt ≤ 99)) → vp_in a1 12 ∧ Int32.toNatClampNeg a1 = j ∧ (h.1 12 j = 0 ↔ vM h (34 + 5 * j) = 0) ∧ (h.1 9 6 = a1 ↔ vM h 6 = (j : Int) + 1) := by
    intro j y1 y2 y3
    have iw := I.wd (p := j) (by omega)
    refine ⟨in_of (by omega) (by omega), cl_of y1, ?_, ?_⟩
    · rw [← iw.2.2.2.2, i_eq]
      exact Iff.rfl
    · rw [i_eq]
      omega
  refine vc_X11_set hR ?_
  repeat' (first
    | (refine ev_hasParty hR (by omega) (by omega) ?_)
    | (refine ev_hasWord hR (by omega) (by omega) ?_)
    | (refine ev_within hR (by omega) ?_)
    | (refine ev_isKm hR (by omega) ?_)
    | (refine ev_areTwo hR (by omega) (by omega) ?_)
    | (refine ev_refuse hR (by omega) (n := 1) rfl (by omega) ?_)
    | (refine ev_refuse hR (by omega) (n := 2) rfl (by omega) ?_)
    | (refine ev_refuse hR (by omega) (n := 3) rfl (by omega) ?_)
    | (refine ev_refuse hR (by omega) (n := 4) rfl (by omega) ?_)
    | (refine ev_refuse hR (by omega) (n := 5) rfl (by omega) ?_)
    | (refine br2 (fun _ => ?_) (fun _ => ?_))
    | (refine br2' (fun _ => ?_) (fun _ => ?_))
    | (with_reducible refine spl (fun _ => ?_) (fun _ => ?_))
    | (with_reducible refine spl' (fun _ => ?_) (fun _ => ?_)))
  all_goals try contradiction
  · rename_i c1 c2 c3 c4 c5
    rw [i_eq] at c3
    (try simp only [Int32.reduceToInt, Int64.reduceToInt, ti_m1, tl_m1, ti_m2, tl_m2] at *)
    obtain ⟨l1, l2, l3, l4⟩ := leaf a1.toInt.toNat (by omega) (by omega) (by omega)
    rw [l2, l3, l4]
    refine ⟨l1, fun y1 => ev_refuse hR (by omega) (n := 3) rfl (by omega) (bad3 a1.toInt.toNat (by omega) (by omega) (by omega) (Or.inl y1)), fun y1 => ⟨fun y2 => ⟨fun _ => ⟨l1, l1, main a1.toInt.toNat 2 7 (by omega) (by omega) (by omega) (Or.inr ⟨rfl, rfl, by omega, by omega⟩) y1 y2⟩, fun z => absurd z c4⟩, fun y2 => ev_refuse hR (by omega) (n := 3) rfl (by omega) (bad3 a1.toInt.toNat (by omega) (by omega) (by omega) (Or.inr y2))⟩⟩
  · rename_i c1 c2 c3 c4 c5
    rw [i_eq] at c3
    (try simp only [Int32.reduceToInt, Int64.reduceToInt, ti_m1, tl_m1, ti_m2, tl_m2] at *)
    exact bad (by omega)
  · rename_i c1 c2 c3 c4 c5
    rw [i_eq] at c3
    (try simp only [Int32.reduceToInt, Int64.reduceToInt, ti_m1, tl_m1, ti_m2, tl_m2] at *)
    obtain ⟨l1, l2, l3, l4⟩ := leaf a1.toInt.toNat (by omega) (by omega) (by omega)
    rw [l2, l3, l4]
    refine ⟨l1, fun y1 => ev_refuse hR (by omega) (n := 3) rfl (by omega) (bad3 a1.toInt.toNat (by omega) (by omega) (by omega) (Or.inl y1)), fun y1 => ⟨fun y2 => ⟨fun z => absurd c4 z, fun _ => ⟨l1, l1, main a1.toInt.toNat 1 6 (by omega) (by omega) (by omega) (Or.inl ⟨rfl, rfl, by omega, by omega⟩) y1 y2⟩⟩, fun y2 => ev_refuse hR (by omega) (n := 3) rfl (by omega) (bad3 a1.toInt.toNat (by omega) (by omega) (by omega) (Or.inr y2))⟩⟩
  · rename_i c1 c2 c3 c4 c5
    rw [i_eq] at c3
    (try simp only [Int32.reduceToInt, Int64.reduceToInt, ti_m1, tl_m1, ti_m2, tl_m2] at *)
    exact bad (by omega)
  · (try simp only [Int32.reduceToInt, Int64.reduceToInt, ti_m1, tl_m1, ti_m2, tl_m2] at *); exact bad (by omega)
  · exact bad (by omega)
theorem M_pour {F : Nat → Int} {a1 a2 a3 : Int32} (eF : vM h = F) (hR : RF h) (hd : 10 ≤ d) (ok : OKF 99999 F) (k1 : ¬ ((0 ≤ a1.toInt ∧ a1.toInt < F 0) ∧ (0 ≤ a2.toInt ∧ a2.toInt < F 0) ∧ ¬ a1.toInt = a2.toInt ∧ (1 ≤ a3.toInt ∧ a3.toInt ≤ 999)) → Q (er 1) (sI h 98 1 (h.1 98 1 + 1)))
    (k3 : ∀ i j : Nat, a1.toInt = i → (i : Int) < F 0 → a2.toInt = j → (j : Int) < F 0 → i ≠ j → (1 ≤ a3.toInt ∧ a3.toInt ≤ 999) → F (13 + 5 * i) < a3.toInt → Q (er 3) (sI h 98 3 (h.1 98 3 + 1)))
    (k4 : ∀ i j : Nat, a1.toInt = i → (i : Int) < F 0 → a2.toInt = j → (j : Int) < F 0 → i ≠ j → (1 ≤ a3.toInt ∧ a3.toInt ≤ 999) → a3.toInt ≤ F (13 + 5 * i) → F (12 + 5 * j) < F (13 + 5 * j) + a3.toInt → Q (er 4) (sI h 98 4 (h.1 98 4 + 1)))
    (k : ∀ (i j : Nat) (v w : Int32), a1.toInt = i → (i : Int) < F 0 → a2.toInt = j → (j : Int) < F 0 → i ≠ j → (1 ≤ a3.toInt ∧ a3.toInt ≤ 999) → a3.toInt ≤ F (13 + 5 * i) → F (13 + 5 * j) + a3.toInt ≤ F (12 + 5 * j) → v.toInt = F (13 + 5 * i) - a3.toInt → w.toInt = F (13 + 5 * j) + a3.toInt → Q w (sI (sI h 95 (13 + 5 * i) v) 95 (13 + 5 * j) w)) : EvI G d mX12_pour [.inr (.inr (some 94)), .inl a1, .inl a2, .inl a3] h Q := by
  obtain ⟨e, rfl⟩ := dpos (show 1 ≤ d by omega)
  subst eF
  have o1 := ok.1
  refine vc_X12_pour hR ?_
  repeat' (first
    | (refine ev_isParty hR (by omega) (by omega) ?_)
    | (refine ev_isWord hR (by omega) (by omega) ?_)
    | (refine ev_in32 hR (by omega) ?_)
    | (refine ev_finds hR (by omega) (n := 1) rfl (by omega) ?_)
    | (refine ev_finds hR (by omega) (n := 2) rfl (by omega) ?_)
    | (refine ev_finds hR (by omega) (n := 3) rfl (by omega) ?_)
    | (refine ev_finds hR (by omega) (n := 4) rfl (by omega) ?_)
    | (refine ev_finds hR (by omega) (n := 5) rfl (by omega) ?_)
    | (refine br2 (fun _ => ?_) (fun _ => ?_))
    | (refine br2' (fun _ => ?_) (fun _ => ?_))
    | (with_reducible refine spl (fun _ => ?_) (fun _ => ?_))
    | (with_reducible refine spl' (fun _ => ?_) (fun _ => ?_)))
  · rename_i c1 c2 c3
    rw [i_eq] at c3
    exact k1 (by omega)
  · rename_i c1 c2 c3 c4
    rw [i_eq] at c3
    (try simp only [Int32.reduceToInt, Int64.reduceToInt, ti_m1, tl_m1, ti_m2, tl_m2] at *)
    obtain ⟨i, ei⟩ : ∃ i : Nat, a1.toInt = i := ⟨a1.toInt.toNat, by omega⟩
    obtain ⟨j, ej⟩ : ∃ j : Nat, a2.toInt = j := ⟨a2.toInt.toNat, by omega⟩
    have oi := ok.2.2.2.2.2.2.2.2.1 i (by omega)
    have oj := ok.2.2.2.2.2.2.2.2.1 j (by omega)
    unfold OKP at oi oj
    have w1 : (h.1 95 (13 + 5 * i)).toInt = vM h (13 + 5 * i) := rfl
    have w2 : (h.1 95 (13 + 5 * j)).toInt = vM h (13 + 5 * j) := rfl
    have w3 : (h.1 95 (12 + 5 * j)).toInt = vM h (12 + 5 * j) := rfl
    have es : (h.1 95 (13 + 5 * j) + a3).toInt = vM h (13 + 5 * j) + a3.toInt := by rw [ti_add (by omega) (by omega), w2]
    refine ev_of hR (by omega) (eq_nI ei) (w := 3) rfl (by omega) (by omega) ?_
    rw [show 10 + 5 * i + 3 = 13 + 5 * i by omega]
    refine ⟨fun c => ev_of hR (by omega) (eq_nI ej) (w := 3) rfl (by omega) (by omega) (ev_of hR (by omega) (eq_nI ej) (w := 2) rfl (by omega) (by omega) ?_), fun c => ev_finds hR (by omega) (n := 3) rfl (by omega) (k3 i j ei (by omega) ej (by omega) (by omega) c4 (by rw [i_le] at c; omega))⟩
    rw [show 10 + 5 * j + 3 = 13 + 5 * j by omega, show 10 + 5 * j + 2 = 12 + 5 * j by omega]
    rw [i_le, w1] at c
    refine ⟨fun y => ev_of hR (by omega) (eq_nI ej) (w := 3) rfl (by omega) (by omega) (ev_loses hR (by omega) (eq_nI ei) (by omega) (by omega) (by omega) (fun g hg => ?_)), fun y => ev_finds hR (by omega) (n := 4) rfl (by omega) (k4 i j ei (by omega) ej (by omega) (by omega) c4 c (by rw [i_le, es, w3] at y; omega))⟩
    rw [i_le, es, w3] at y
    have eg : g = a3 := by rw [i_eq]; omega
    subst eg
    refine ev_sets (RF_sI hR) (by omega) (eq_nI ej) (w := 3) rfl (by omega) (by omega) (ev_of (RF_sI (RF_sI hR)) (by omega) (eq_nI ej) (w := 3) rfl (by omega) (by omega) ?_)
    rw [show 10 + 5 * j + 3 = 13 + 5 * j by omega, sI_self]
    exact k i j _ _ ei (by omega) ej (by omega) (by omega) c4 c y (by rw [ti_sub (by omega) (by omega), w1]) es
  · rename_i c1 c2 c3 c4
    rw [i_eq] at c3
    (try simp only [Int32.reduceToInt, Int64.reduceToInt, ti_m1, tl_m1, ti_m2, tl_m2] at *)
    exact k1 (by omega)
  · exact k1 (by omega)
  · exact k1 (by omega)
theorem step_pour {a1 a2 a3 : Int32} (I : Inv h) (hd : 100 ≤ d) : EvI G d mX11_pour [.inr (.inr (some 0)), .inl a1, .inl a2, .inl a3] h (fun x h1 => EvI G d mX12_pour [.inr (.inr (some 94)), .inl a1, .inl a2, .inl a3] h1 (fun y h2 => x = y ∧ Inv h2)) := by
  have hd' := hd
  have hR := I.1
  have n0 := I.n
  have ok := I.ok
  obtain ⟨e, rfl⟩ := dpos (show 1 ≤ d by omega)
  have bad : ¬ ((0 ≤ a1.toInt ∧ a1.toInt < vM h 0) ∧ (0 ≤ a2.toInt ∧ a2.toInt < vM h 0) ∧ ¬ a1.toInt = a2.toInt ∧ (1 ≤ a3.toInt ∧ a3.toInt ≤ 999)) → EvI G (e + 1) mX12_pour [.inr (.inr (some 94)), .inl a1, .inl a2, .inl a3] (sI h 93 1 (h.1 93 1 + 1)) (fun y h2 => er 1 = y ∧ Inv h2) := by
    intro z
    exact M_pour (vM_lo (by omega)) (RF_sI hR) (by omega) ok (fun _ => ⟨rfl, Inv_err I rfl⟩) (fun i j z1 z2 z3 z4 z5 z6 z7 => absurd z (by omega)) (fun i j z1 z2 z3 z4 z5 z6 z7 z8 => absurd z (by omega)) (fun i j v w z1 z2 z3 z4 z5 z6 z7 z8 z9 z10 => absurd z (by omega))
  refine vc_X11_pour hR ?_
  repeat' (first
    | (refine ev_hasParty hR (by omega) (by omega) ?_)
    | (refine ev_hasWord hR (by omega) (by omega) ?_)
    | (refine ev_within hR (by omega) ?_)
    | (refine ev_isKm hR (by omega) ?_)
    | (refine ev_areTwo hR (by omega) (by omega) ?_)
    | (refine ev_refuse hR (by omega) (n := 1) rfl (by omega) ?_)
    | (refine ev_refuse hR (by omega) (n := 2) rfl (by omega) ?_)
    | (refine ev_refuse hR (by omega) (n := 3) rfl (by omega) ?_)
    | (refine ev_refuse hR (by omega) (n := 4) rfl (by omega) ?_)
    | (refine ev_refuse hR (by omega) (n := 5) rfl (by omega) ?_)
    | (refine br2 (fun _ => ?_) (fun _ => ?_))
    | (refine br2' (fun _ => ?_) (fun _ => ?_))
    | (with_reducible refine spl (fun _ => ?_) (fun _ => ?_))
    | (with_reducible refine spl' (fun _ => ?_) (fun _ => ?_)))
  · rename_i c1 c2
    (try simp only [Int32.reduceToInt, Int64.reduceToInt, ti_m1, tl_m1, ti_m2, tl_m2] at *)
    obtain ⟨i, ei⟩ : ∃ i : Nat, a1.toInt = i := ⟨a1.toInt.toNat, by omega⟩
    obtain ⟨j, ej⟩ : ∃ j : Nat, a2.toInt = j := ⟨a2.toInt.toNat, by omega⟩
    have ini : vp_in a1 4 := in_of (by omega) (by omega)
    have inj : vp_in a2 4 := in_of (by omega) (by omega)
    have oi := ok.2.2.2.2.2.2.2.2.1 i (by omega)
    have oj := ok.2.2.2.2.2.2.2.2.1 j (by omega)
    unfold OKP at oi oj
    have ipi := I.p (p := i) (by omega)
    have ipj := I.p (p := j) (by omega)
    have w1 : (h.1 10 i).toInt = vM h (13 + 5 * i) := by rw [← ipi.2.2.2.1] <;> rfl
    have w2 : (h.1 10 j).toInt = vM h (13 + 5 * j) := by rw [← ipj.2.2.2.1] <;> rfl
    have w3 : (h.1 4 j).toInt = vM h (12 + 5 * j) := by rw [← ipj.2.2.1] <;> rfl
    rw [cl_of ei, cl_of ej]
    refine ⟨ini, fun c => ⟨inj, inj, fun y => ⟨ini, ini, inj, inj, ?_⟩, fun y => ?_⟩, fun c => ?_⟩
    · rw [i_le, w1] at c
      rw [i_le, ti_add (by omega) (by omega), w2, w3] at y
      rintro _ rfl
      rw [sI_self]
      refine ⟨inj, ?_⟩
      rw [sI_ne (by omega)]
      refine M_pour (F := vM h) (by simp only [vM_lo, Nat.reduceLT]) (by repeat' (first | exact hR | apply RF_sI)) (by omega) ok (fun z => absurd z (by omega)) (fun i' j' z1 z2 z3 z4 z5 z6 z7 => ?_) (fun i' j' z1 z2 z3 z4 z5 z6 z7 z8 => ?_) (fun i' j' v w z1 z2 z3 z4 z5 z6 z7 z8 z9 z10 => ?_)
      · have : i' = i := by omega
        subst this
        omega
      · have : j' = j := by omega
        subst this
        omega
      · have : i' = i := by omega
        subst this
        have : j' = j := by omega
        subst this
        have ev : h.1 10 i' - a3 = v := by rw [i_eq, ti_sub (by omega) (by omega), w1, z9]
        have ew : h.1 10 j' + a3 = w := by rw [i_eq, ti_add (by omega) (by omega), w2, z10]
        rw [ev, ew]
        refine ⟨rfl, ?_⟩
        refine Inv_up I (upI (upI (vM h) (13 + 5 * i') v.toInt) (13 + 5 * j') w.toInt) (by repeat' (first | exact hR | apply RF_sI)) (fun a z1 z2 z3 z4 => by unfold scr at z1; funext j; (repeat rw [sI_ne (by omega)])) (by repeat rw [sI_ne (by omega)]) (by repeat rw [sI_ne (by omega)]) (by simp (disch := omega) only [vM_sI, vM_lo, vM_hi] <;> rfl) (fun j hj => by (simp (disch := omega) only [vM_sI, vM_lo, vM_hi, c9_hi, c9_kind, c9_m, c9_size, c9_water, c9_heard, c9_whose, c9_takes, c9_worth, c9_behind, c9_how, c9_n, c9_words, c9_z, c9_bytes, c9_waits, c9_f3, c9_f4, c9_f5, c9_f7, c9_f6]); revert j hj; (repeat refine upI_on ?_); exact I.cc) (fun j hj => by simp (disch := omega) only [upI_n]) ?_ (by simp (disch := omega) only [upI_n]) (by simp (disch := omega) only [upI_n])
        refine OKF_p (p := j') (OKF_p (F' := upI (vM h) (13 + 5 * i') v.toInt) (p := i') ok (fun q hq => by rw [upI_n (by omega)]) (by omega) ?_) (fun q hq => by rw [upI_n (by omega)]) (by omega) ?_
        · unfold OKP
          simp (disch := omega) only [upI_n, upI_s]
          omega
        · unfold OKP
          simp (disch := omega) only [upI_n, upI_s]
          omega
    · rw [i_le, w1] at c
      rw [i_le, ti_add (by omega) (by omega), w2, w3] at y
      refine ev_refuse hR (by omega) (n := 4) rfl (by omega) (M_pour (vM_lo (by omega)) (RF_sI hR) (by omega) ok (fun z => absurd z (by omega)) (fun i' j' z1 z2 z3 z4 z5 z6 z7 => ?_) (fun i' j' z1 z2 z3 z4 z5 z6 z7 z8 => ⟨rfl, Inv_err I rfl⟩) (fun i' j' v w z1 z2 z3 z4 z5 z6 z7 z8 z9 z10 => ?_))
      · have : i' = i := by omega
        subst this
        omega
      · have : j' = j := by omega
        subst this
        omega
    · rw [i_le, w1] at c
      refine ev_refuse hR (by omega) (n := 3) rfl (by omega) (M_pour (vM_lo (by omega)) (RF_sI hR) (by omega) ok (fun z => absurd z (by omega)) (fun i' j' z1 z2 z3 z4 z5 z6 z7 => ⟨rfl, Inv_err I rfl⟩) (fun i' j' z1 z2 z3 z4 z5 z6 z7 z8 => ?_) (fun i' j' v w z1 z2 z3 z4 z5 z6 z7 z8 z9 z10 => ?_))
      · have : i' = i := by omega
        subst this
        omega
      · have : i' = i := by omega
        subst this
        omega
  · (try simp only [Int32.reduceToInt, Int64.reduceToInt, ti_m1, tl_m1, ti_m2, tl_m2] at *)
    exact bad (by omega)
  · exact bad (by omega)
/-- whether a WORD may be said now -/
abbrev rdy (F : Nat → Int) (j : Nat) : Prop := F (34 + 5 * j) = 0 ∧ (F (33 + 5 * j) < 0 ∨ F (34 + 5 * (F (33 + 5 * j)).toNat) = 1)
theorem ev_isReady {B : Int} {a1 : Int32} {j : Nat} (hR : RF h) (hd : 3 ≤ d) (ok : OKF B (vM h)) (ej : a1.toInt = j) (jF : (j : Int) < vM h 1) (k : Q (b2 (rdy (vM h) j)) h) : EvI G d mX12_isReady [.inr (.inr (some 94)), .inl a1] h Q := by
  obtain ⟨e, rfl⟩ := dpos (show 1 ≤ d by omega)
  have o1 := ok.2.1
  have o := ok.2.2.2.2.2.2.2.2.2 j (by omega)
  unfold OKW at o
  have b3 := o.2.2.2.2.2.1 jF
  have e3 : (h.1 95 (33 + 5 * j)).toInt = vM h (33 + 5 * j) := rfl
  refine vc_X12_isReady hR (ev_its hR (by omega) (eq_nI ej) (w := 3) rfl (by omega) (by omega) (ev_its hR (by omega) (eq_nI ej) (w := 4) rfl (by omega) (by omega) ?_))
  rw [show 30 + 5 * j + 3 = 33 + 5 * j by omega, show 30 + 5 * j + 4 = 34 + 5 * j by omega]
  refine ⟨fun c => ?_, fun c => ⟨fun c2 => ?_, fun c2 => ?_⟩⟩
  · rw [i_eq] at c
    rw [b2_f (fun z => c z.1)] at k
    exact k
  · rw [i_eq] at c
    rw [i_lt, e3] at c2
    rw [b2_t ⟨c, Or.inl c2⟩] at k
    exact k
  · rw [i_eq] at c
    rw [i_lt, e3] at c2
    (try simp only [Int32.reduceToInt, Int64.reduceToInt, ti_m1, tl_m1, ti_m2, tl_m2] at *)
    have e3 : (h.1 95 (33 + 5 * j)).toInt = vM h (33 + 5 * j) := rfl
    refine ev_its hR (by omega) (j := (vM h (33 + 5 * j)).toNat) (eq_nI (by omega)) (w := 4) rfl (by omega) (by omega) ?_
    rw [show 30 + 5 * (vM h (33 + 5 * j)).toNat + 4 = 34 + 5 * (vM h (33 + 5 * j)).toNat by omega]
    refine ⟨fun c3 => ?_, fun c3 => ?_⟩
    · rw [i_eq] at c3
      rw [b2_f (fun z => z.2.elim (fun y => c2 y) (fun y => c3 y))] at k
      exact k
    · rw [i_eq] at c3
      rw [b2_t ⟨c, Or.inr c3⟩] at k
      exact k
theorem ev_begins {a1 : Int32} {j : Nat} (hR : RF h) (hd : 2 ≤ d) (ej : a1.toInt = j) (j12 : j < 12) (k : QW (sI (sI h 95 6 (a1 + 1)) 95 7 (h.1 95 (31 + 5 * j)))) : EvV G d mX12_begins [.inr (.inr (some 94)), .inl a1] h QW := by
  obtain ⟨e, rfl⟩ := dpos (show 1 ≤ d by omega)
  refine vc_X12_begins hR (ev_its (RF_sI hR) (by omega) (eq_nI ej) (w := 1) rfl (by omega) (by omega) ?_)
  rw [show 30 + 5 * j + 1 = 31 + 5 * j by omega, sI_ne (by omega)]
  exact k
theorem ev_isFree {B : Int} {f : Nat} {bg : Nat → Int} {a2 : Int32} {j : Nat} (hR : RF h) (hd : 2 ≤ d) (hf : SH[f]? = some (.inl 2)) (ok : OKF B (vC h f bg)) (ej : a2.toInt = j) (jF : (j : Int) < vC h f bg 1) (k : Q (b2 (vC h f bg (33 + 5 * j) < 0 ∨ vC h f bg (34 + 5 * (vC h f bg (33 + 5 * j)).toNat) = 1)) h) : EvI G d mX9_isFree [.inr (.inr (some 1)), .inr (.inr (some f)), .inl a2] h Q := by
  obtain ⟨e, rfl⟩ := dpos (show 1 ≤ d by omega)
  have o1 : 0 ≤ (h.1 1 4).toInt ∧ (h.1 1 4).toInt ≤ 12 := ok.2.1
  have e1 : vC h f bg 1 = (h.1 1 4).toInt := rfl
  have o := ok.2.2.2.2.2.2.2.2.2 j (by omega)
  unfold OKW at o
  have b3 := o.2.2.2.2.2.1 jF
  have vw := @vC_w h f bg j (by omega)
  refine vc_X9_isFree hf hR (ev_hasWord hR (by omega) (by omega) (br2' (fun c => ⟨in_of (by omega) (by omega), ?_⟩) (fun c => absurd ⟨by omega, by omega⟩ c)))
  rw [cl_of ej]
  refine ev_hasWord hR (by omega) (by omega) (br2 (fun c => ⟨in_of (by omega) (by omega), ?_⟩) (fun c => ?_))
  · have vw2 := @vC_w h f bg (vC h f bg (33 + 5 * j)).toNat (by omega)
    rw [show Int32.toNatClampNeg (h.1 8 j) = (vC h f bg (33 + 5 * j)).toNat by rw [cl_eq, vw.2.2.2.1]]
    refine ⟨fun c2 => ?_, fun c2 => ?_⟩
    · rw [i_eq, ← vw2.2.2.2.2] at c2
      rw [b2_f (fun z => z.elim (fun y => by omega) (fun y => c2 y))] at k
      exact k
    · rw [i_eq, ← vw2.2.2.2.2] at c2
      simp only [Int32.reduceToInt] at c2
      rw [b2_t (Or.inr c2)] at k
      exact k
  · rw [b2_t (Or.inl (by omega))] at k
    exact k
theorem ev_maySay {B : Int} {f : Nat} {bg : Nat → Int} {a2 : Int32} (hR : RF h) (hd : 3 ≤ d) (hf : SH[f]? = some (.inl 2)) (ok : OKF B (vC h f bg)) (k : Q (b2 (vC h f bg 6 = 0 ∧ (0 ≤ a2.toInt ∧ a2.toInt < vC h f bg 1) ∧ rdy (vC h f bg) a2.toInt.toNat)) h) : EvI G d mX9_maySay [.inr (.inr (some 1)), .inr (.inr (some f)), .inl a2] h Q := by
  obtain ⟨e, rfl⟩ := dpos (show 1 ≤ d by omega)
  have o1 : 0 ≤ (h.1 1 4).toInt ∧ (h.1 1 4).toInt ≤ 12 := ok.2.1
  have e1 : vC h f bg 1 = (h.1 1 4).toInt := rfl
  have e6 : vC h f bg 6 = (h.1 f 6).toInt + 1 := rfl
  refine vc_X9_maySay hf hR ⟨fun c => ?_, fun c => ev_hasWord hR (by omega) (by omega) (br2 (fun c2 => ⟨in_of (by omega) (by omega), ?_⟩) (fun c2 => ?_))⟩
  · rw [i_eq, ti_m1] at c
    rw [b2_f (fun z => c (by omega))] at k
    exact k
  · rw [i_eq, ti_m1] at c
    obtain ⟨j, ej⟩ : ∃ j : Nat, a2.toInt = j := ⟨a2.toInt.toNat, by omega⟩
    have vw := @vC_w h f bg j (by omega)
    rw [ej] at k
    rw [show ((j : Int)).toNat = j by omega] at k
    rw [cl_of ej]
    refine ⟨fun c3 => ?_, fun c3 => ev_isFree hR (by omega) hf ok ej (by omega) ?_⟩
    · rw [i_eq, ← vw.2.2.2.2] at c3
      rw [b2_f (fun z => c3 z.2.2.1)] at k
      exact k
    · rw [i_eq, ← vw.2.2.2.2] at c3
      refine br2 (fun c4 => ?_) (fun c4 => ?_)
      · rw [b2_t ⟨by omega, ⟨by omega, by omega⟩, c3, c4⟩] at k
        exact k
      · rw [b2_f (fun z => c4 z.2.2.2)] at k
        exact k
  · rw [b2_f (fun z => c2 (by omega))] at k
    exact k
theorem ev_begin {f : Nat} {a2 : Int32} {j : Nat} (hR : RF h) (hd : 2 ≤ d) (hf : SH[f]? = some (.inl 2)) (h12 : (h.1 1 4).toInt ≤ 12) (ej : a2.toInt = j) (jF : (j : Int) < (h.1 1 4).toInt) (k : QW (sI (sI h f 6 a2) f 7 (h.1 6 j))) : EvV G d mX9_begin [.inr (.inr (some 1)), .inr (.inr (some f)), .inl a2] h QW := by
  obtain ⟨e, rfl⟩ := dpos (show 1 ≤ d by omega)
  have hfl := fl_lo hf
  refine vc_X9_begin hf hR (ev_hasWord hR (by omega) (by omega) (br2 (fun c => ⟨in_of (by omega) (by omega), ?_⟩) (fun c => absurd ⟨by omega, by omega⟩ c)))
  rw [cl_of ej, sI_ne (by omega)]
  exact k
theorem rdyC {h : Hp} (I : Inv h) {j : Nat} (jF : (j : Int) < vM h 1) (r : rdy (vC h 9 z0) j) : rdy (vM h) j := by
  have ok := I.ok
  have o1 := ok.2.1
  have o := ok.2.2.2.2.2.2.2.2.2 j (by omega)
  unfold OKW at o
  obtain ⟨r1, r2⟩ := r
  rw [I.cc _ (by omega)] at r1
  refine ⟨r1, ?_⟩
  rw [I.cc (33 + 5 * j) (by omega)] at r2
  rcases r2 with r2 | r2
  · exact Or.inl r2
  · rw [I.cc _ (by omega)] at r2
    exact Or.inr r2
theorem rdyM {h : Hp} (I : Inv h) {j : Nat} (j12 : j < 12) (jF : (j : Int) < vM h 1) (r : rdy (vM h) j) : rdy (vC h 9 z0) j := by
  have ok := I.ok
  have o := ok.2.2.2.2.2.2.2.2.2 j (by omega)
  unfold OKW at o
  obtain ⟨r1, r2⟩ := r
  refine ⟨by rw [I.cc _ (by omega)]; exact r1, ?_⟩
  rw [I.cc (33 + 5 * j) (by omega)]
  rcases r2 with r2 | r2
  · exact Or.inl r2
  · refine Or.inr ?_
    rw [I.cc _ (by omega)]
    exact r2
theorem M_say {F : Nat → Int} {a1 : Int32} (eF : vM h = F) (hR : RF h) (hd : 10 ≤ d) (ok : OKF 99999 F) (k1 : ¬ (0 ≤ a1.toInt ∧ a1.toInt < F 1) → Q (er 1) (sI h 98 1 (h.1 98 1 + 1)))
    (k3 : ∀ j : Nat, a1.toInt = j → (j : Int) < F 1 → ¬ (F 6 = 0 ∧ rdy F j) → Q (er 3) (sI h 98 3 (h.1 98 3 + 1)))
    (k : ∀ j : Nat, a1.toInt = j → (j : Int) < F 1 → j < 12 → F 6 = 0 → rdy F j → Q (h.1 95 (31 + 5 * j)) (sI (sI h 95 6 (a1 + 1)) 95 7 (h.1 95 (31 + 5 * j)))) : EvI G d mX12_say [.inr (.inr (some 94)), .inl a1] h Q := by
  obtain ⟨e, rfl⟩ := dpos (show 1 ≤ d by omega)
  subst eF
  have o1 := ok.2.1
  have o6 := ok.2.2.2.2.2.1
  have e6 : (h.1 95 6).toInt = vM h 6 := rfl
  refine vc_X12_say hR (ev_isWord hR (by omega) (by omega) (br2' (fun c => ⟨fun c2 => ?_, fun c2 => ?_⟩) (fun c => ?_)))
  · rw [i_lt, e6] at c2
    (try simp only [Int32.reduceToInt, Int64.reduceToInt, ti_m1, tl_m1, ti_m2, tl_m2] at *)
    exact ev_finds hR (by omega) (n := 3) rfl (by omega) (k3 a1.toInt.toNat (by omega) (by omega) (fun z => by omega))
  · rw [i_lt, e6] at c2
    (try simp only [Int32.reduceToInt, Int64.reduceToInt, ti_m1, tl_m1, ti_m2, tl_m2] at *)
    obtain ⟨j, ej⟩ : ∃ j : Nat, a1.toInt = j := ⟨a1.toInt.toNat, by omega⟩
    refine ev_isReady hR (by omega) ok ej (by omega) (br2' (fun c3 => ev_begins hR (by omega) ej (by omega) ?_) (fun c3 => ev_finds hR (by omega) (n := 3) rfl (by omega) (k3 j ej (by omega) (fun z => c3 z.2))))
    rw [sI_self]
    exact k j ej (by omega) (by omega) (by omega) c3
  · exact ev_finds hR (by omega) (n := 1) rfl (by omega) (k1 c)
theorem step_say {a1 : Int32} (I : Inv h) (hd : 100 ≤ d) : EvI G d mX11_say [.inr (.inr (some 0)), .inl a1] h (fun x h1 => EvI G d mX12_say [.inr (.inr (some 94)), .inl a1] h1 (fun y h2 => x = y ∧ Inv h2)) := by
  have hd' := hd
  have hR := I.1
  have w0 := I.w
  have ok := I.ok
  have cc := I.cc
  have okC : OKF 99999 (vC h 9 z0) := OKF_eq (fun j hj => cc j hj) ok
  obtain ⟨e, rfl⟩ := dpos (show 1 ≤ d by omega)
  refine vc_X11_say hR (ev_hasWord hR (by omega) (by omega) (br2' (fun c => ev_maySay hR (by omega) rfl okC (br2' (fun c2 => ?_) (fun c2 => ?_))) (fun c => ?_)))
  · obtain ⟨j, ej⟩ : ∃ j : Nat, a1.toInt = j := ⟨a1.toInt.toNat, by omega⟩
    have iw := I.wd (p := j) (by omega)
    rw [ej, show ((j : Int)).toNat = j by omega] at c2
    have rd : rdy (vM h) j := rdyC I (by omega) c2.2.2
    have h6 : vM h 6 = 0 := by rw [← cc 6 (by omega)]; exact c2.1
    refine ev_begin hR (by omega) rfl (by omega) ej (by omega) ⟨in_of (by omega) (by omega), ?_⟩
    rw [cl_of ej, sI_ne (by omega), sI_ne (by omega)]
    refine M_say (F := vM h) (by simp only [vM_lo, Nat.reduceLT]) (by repeat' (first | exact hR | apply RF_sI)) (by omega) ok (fun z => absurd z (by omega)) (fun j' z1 z2 z3 => ?_) (fun j' z1 z2 z3 z4 z5 => ?_)
    · have : j' = j := by omega
      subst this
      exact absurd ⟨h6, rd⟩ z3
    · have : j' = j := by omega
      subst this
      rw [sI_ne (by omega), sI_ne (by omega)]
      refine ⟨iw.2.1.symm, ?_⟩
      have e1 : (a1 + 1).toInt = (j' : Int) + 1 := by rw [ti_add (by rw [ej]; simp only [Int32.reduceToInt]; omega) (by rw [ej]; simp only [Int32.reduceToInt]; omega), ej]; rfl
      rw [iw.2.1]
      have e1' : a1.toInt + 1 = (a1 + 1).toInt := by omega
      refine Inv_up I (upI (upI (vM h) 6 (a1 + 1).toInt) 7 (h.1 6 j').toInt) (by repeat' (first | exact hR | apply RF_sI)) (fun a z1 z2 z3 z4 => by unfold scr at z1; funext j; (repeat rw [sI_ne (by omega)])) (by repeat rw [sI_ne (by omega)]) (by repeat rw [sI_ne (by omega)]) (by simp (disch := omega) only [vM_sI, vM_lo, vM_hi] <;> rfl) (fun j hj => by (simp (disch := omega) only [vM_sI, vM_lo, vM_hi, c9_hi, c9_kind, c9_m, c9_size, c9_water, c9_heard, c9_whose, c9_takes, c9_worth, c9_behind, c9_how, c9_n, c9_words, c9_z, c9_bytes, c9_waits, c9_f3, c9_f4, c9_f5, c9_f7, c9_f6, e1']); revert j hj; (repeat refine upI_on ?_); exact I.cc) (fun j hj => by simp (disch := omega) only [upI_n]) ?_ (by simp (disch := omega) only [upI_n]) (by simp (disch := omega) only [upI_n])
      rw [e1]
      have e7 : (h.1 6 j').toInt = vM h (31 + 5 * j') := by rw [← iw.2.1] <;> rfl
      rw [e7]
      exact OKF_67 ok (by omega) rd.1
  · refine ev_refuse hR (by omega) (n := 3) rfl (by omega) (M_say (vM_lo (by omega)) (RF_sI hR) (by omega) ok (fun z => absurd (by omega) z) (fun j' z1 z2 z3 => ⟨rfl, Inv_err I rfl⟩) (fun j' z1 z2 z3 z4 z5 => ?_))
    refine absurd ⟨by rw [cc 6 (by omega)]; exact z4, ⟨by omega, by rw [cc 1 (by omega)]; omega⟩, ?_⟩ c2
    rw [z1, show ((j' : Int)).toNat = j' by omega]
    exact rdyM I z3 z2 z5
  · exact ev_refuse hR (by omega) (n := 1) rfl (by omega) (M_say (vM_lo (by omega)) (RF_sI hR) (by omega) ok (fun _ => ⟨rfl, Inv_err I rfl⟩) (fun j' z1 z2 z3 => absurd c (by omega)) (fun j' z1 z2 z3 z4 z5 => absurd c (by omega)))
end
