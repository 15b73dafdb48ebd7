/-! ofParty, word -/
section
variable {G : GT} {d : Nat} {h : Hp} {Q : Int32 → Hp → Prop} {QW : Hp → Prop}
theorem M_ofParty {F : Nat → Int} {a1 a2 : Int32} (eF : vM h = F) (hR : RF h) (hd : 10 ≤ d) (ok : OKF 99999 F) (k1 : ¬ ((0 ≤ a1.toInt ∧ a1.toInt < F 0) ∧ (0 ≤ a2.toInt ∧ a2.toInt ≤ 7)) → Q (er 1) (sI h 98 1 (h.1 98 1 + 1)))
    (k : ∀ (j w : Nat) (v : Int32), a1.toInt = j → (j : Int) < F 0 → j < 4 → a2.toInt = w → w ≤ 7 → (w ≤ 4 → v.toInt = F (10 + 5 * j + w)) → (w = 5 → v.toInt = rnk (F (10 + 5 * j)) (F (11 + 5 * j))) → (w = 6 → v.toInt = drk (F (10 + 5 * j)) (F (11 + 5 * j))) → (w = 7 → v.toInt = sdG (fun w => F (30 + 5 * w)) (fun w => F (34 + 5 * w)) j (F 1).toNat) → Q v h) : EvI G d mX12_ofParty [.inr (.inr (some 94)), .inl a1, .inl a2] h Q := by
  obtain ⟨e, rfl⟩ := dpos (show 1 ≤ d by omega)
  subst eF
  have o0 := ok.1
  have o1 := ok.2.1
  refine vc_X12_ofParty hR ?_
  repeat' (first
    | (refine ev_isParty hR (by omega) (by omega) ?_)
    | (refine ev_isWord hR (by omega) (by omega) ?_)
    | (refine ev_in32 hR (by omega) ?_)
    | (refine ev_finds hR (by omega) (n := 1) rfl (by omega) ?_)
    | (refine ev_finds hR (by omega) (n := 2) rfl (by omega) ?_)
    | (refine ev_finds hR (by omega) (n := 3) rfl (by omega) ?_)
    | (refine ev_finds hR (by omega) (n := 4) rfl (by omega) ?_)
    | (refine ev_finds hR (by omega) (n := 5) rfl (by omega) ?_)
    | (refine br2 (fun _ => ?_) (fun _ => ?_))
    | (refine br2' (fun _ => ?_) (fun _ => ?_))
    | (with_reducible refine spl (fun _ => ?_) (fun _ => ?_))
    | (with_reducible refine spl' (fun _ => ?_) (fun _ => ?_)))
  · rename_i c1 c2 c3 c4 c5
    rw [i_le] at c3
    rw [i_eq] at c4 c5
    (try simp only [Int32.reduceToInt, Int64.reduceToInt, ti_m1, tl_m1, ti_m2, tl_m2] at *)
    obtain ⟨j, ej⟩ : ∃ j : Nat, a1.toInt = j := ⟨a1.toInt.toNat, by omega⟩
    obtain ⟨e', rfl⟩ := dpos (show 1 ≤ e by omega)
    refine vc_X12_saidOf hR (rg_saidM (n := (vM h 1).toNat) hR (by omega) (by omega) (by omega) (fun x hx => ?_) (vM h 1).toNat 0 (by omega) rfl rfl)
    rw [ej] at hx
    exact k j 7 x ej (by omega) (by omega) (by omega) (by omega) (by omega) (by omega) (by omega) (fun _ => hx)
  · rename_i c1 c2 c3 c4 c5
    rw [i_eq] at c5
    (try simp only [Int32.reduceToInt, Int64.reduceToInt, ti_m1, tl_m1, ti_m2, tl_m2] at *)
    obtain ⟨j, ej⟩ : ∃ j : Nat, a1.toInt = j := ⟨a1.toInt.toNat, by omega⟩
    exact ev_dripsM hR (by omega) (eq_nI ej) (by omega) (ok.2.2.2.2.2.2.2.2.1 j (by omega)) (fun x hx => k j 6 x ej (by omega) (by omega) (by omega) (by omega) (by omega) (by omega) (fun _ => hx) (by omega))
  · rename_i c1 c2 c3 c4
    rw [i_eq] at c4
    (try simp only [Int32.reduceToInt, Int64.reduceToInt, ti_m1, tl_m1, ti_m2, tl_m2] at *)
    obtain ⟨j, ej⟩ : ∃ j : Nat, a1.toInt = j := ⟨a1.toInt.toNat, by omega⟩
    exact ev_runsM hR (by omega) (eq_nI ej) (by omega) (ok.2.2.2.2.2.2.2.2.1 j (by omega)) (fun x hx => k j 5 x ej (by omega) (by omega) (by omega) (by omega) (by omega) (fun _ => hx) (by omega) (by omega))
  · rename_i c1 c2 c3
    rw [i_le] at c3
    (try simp only [Int32.reduceToInt, Int64.reduceToInt, ti_m1, tl_m1, ti_m2, tl_m2] at *)
    obtain ⟨j, ej⟩ : ∃ j : Nat, a1.toInt = j := ⟨a1.toInt.toNat, by omega⟩
    obtain ⟨w, ew⟩ : ∃ w : Nat, a2.toInt = w := ⟨a2.toInt.toNat, by omega⟩
    exact ev_of hR (by omega) (eq_nI ej) (eq_nI ew) (by omega) (by omega) (k j w _ ej (by omega) (by omega) ew (by omega) (fun _ => rfl) (by omega) (by omega) (by omega))
  · (try simp only [Int32.reduceToInt, Int64.reduceToInt, ti_m1, tl_m1, ti_m2, tl_m2] at *); exact k1 (by omega)
  · exact k1 (by omega)
theorem step_ofParty {a1 a2 : Int32} (I : Inv h) (hd : 100 ≤ d) : EvI G d mX11_ofParty [.inr (.inr (some 0)), .inl a1, .inl a2] h (fun x h1 => EvI G d mX12_ofParty [.inr (.inr (some 94)), .inl a1, .inl a2] h1 (fun y h2 => x = y ∧ Inv h2)) := by
  have hd' := hd
  have hR := I.1
  have n0 := I.n
  have w0 := I.w
  obtain ⟨e, rfl⟩ := dpos (show 1 ≤ d by omega)
  refine vc_X11_ofParty hR ?_
  repeat' (first
    | (refine ev_hasParty hR (by omega) (by omega) ?_)
    | (refine ev_hasWord hR (by omega) (by omega) ?_)
    | (refine ev_within hR (by omega) ?_)
    | (refine ev_isKm hR (by omega) ?_)
    | (refine ev_areTwo hR (by omega) (by omega) ?_)
    | (refine ev_refuse hR (by omega) (n := 1) rfl (by omega) ?_)
    | (refine ev_refuse hR (by omega) (n := 2) rfl (by omega) ?_)
    | (refine ev_refuse hR (by omega) (n := 3) rfl (by omega) ?_)
    | (refine ev_refuse hR (by omega) (n := 4) rfl (by omega) ?_)
    | (refine ev_refuse hR (by omega) (n := 5) rfl (by omega) ?_)
    | (refine br2 (fun _ => ?_) (fun _ => ?_))
    | (refine br2' (fun _ => ?_) (fun _ => ?_))
    | (with_reducible refine spl (fun _ => ?_) (fun _ => ?_))
    | (with_reducible refine spl' (fun _ => ?_) (fun _ => ?_)))
  · rename_i c1 c2
    (try simp only [Int32.reduceToInt, Int64.reduceToInt, ti_m1, tl_m1, ti_m2, tl_m2] at *)
    obtain ⟨j, ej⟩ : ∃ j : Nat, a1.toInt = j := ⟨a1.toInt.toNat, by omega⟩
    have j4 : j < 4 := by omega
    have o := I.ok.2.2.2.2.2.2.2.2.1 j j4
    unfold OKP at o
    have ip := I.p j4
    have hin : vp_in a1 4 := in_of (by omega) (by omega)
    have e2 : (h.1 2 j).toInt = vM h (10 + 5 * j) := by rw [← ip.1] <;> rfl
    have e3 : (h.1 3 j).toInt = vM h (11 + 5 * j) := by rw [← ip.2.1] <;> rfl
    have e4 : (h.1 4 j).toInt = vM h (12 + 5 * j) := by rw [← ip.2.2.1] <;> rfl
    have e10 : (h.1 10 j).toInt = vM h (13 + 5 * j) := by rw [← ip.2.2.2.1] <;> rfl
    have e11 : (h.1 11 j).toInt = vM h (14 + 5 * j) := by rw [← ip.2.2.2.2] <;> rfl
    rw [cl_of ej]
    refine ⟨⟨fun c => ⟨hin, ?_⟩, fun c => ⟨hin, ?_⟩, fun c => ⟨hin, ?_⟩, fun c => ⟨hin, ?_⟩, fun c => ⟨hin, ?_⟩, fun c => ?_, fun c => ?_⟩, fun c => ?_⟩
    · refine M_ofParty rfl hR (by omega) I.ok (fun z => absurd z (by omega)) (fun j' w v z1 z2 z3 z4 z5 u1 u2 u3 u4 => ⟨?_, I⟩)
      have : j' = j := by omega
      subst this
      rw [i_eq, e2, u1 (by omega), show w = 0 by omega, Nat.add_zero]
    · refine M_ofParty rfl hR (by omega) I.ok (fun z => absurd z (by omega)) (fun j' w v z1 z2 z3 z4 z5 u1 u2 u3 u4 => ⟨?_, I⟩)
      have : j' = j := by omega
      subst this
      rw [i_eq, e3, u1 (by omega), show 10 + 5 * j' + w = 11 + 5 * j' by omega]
    · refine M_ofParty rfl hR (by omega) I.ok (fun z => absurd z (by omega)) (fun j' w v z1 z2 z3 z4 z5 u1 u2 u3 u4 => ⟨?_, I⟩)
      have : j' = j := by omega
      subst this
      rw [i_eq, e4, u1 (by omega), show 10 + 5 * j' + w = 12 + 5 * j' by omega]
    · refine M_ofParty rfl hR (by omega) I.ok (fun z => absurd z (by omega)) (fun j' w v z1 z2 z3 z4 z5 u1 u2 u3 u4 => ⟨?_, I⟩)
      have : j' = j := by omega
      subst this
      rw [i_eq, e10, u1 (by omega), show 10 + 5 * j' + w = 13 + 5 * j' by omega]
    · refine M_ofParty rfl hR (by omega) I.ok (fun z => absurd z (by omega)) (fun j' w v z1 z2 z3 z4 z5 u1 u2 u3 u4 => ⟨?_, I⟩)
      have : j' = j := by omega
      subst this
      rw [i_eq, e11, u1 (by omega), show 10 + 5 * j' + w = 14 + 5 * j' by omega]
    · refine ev_runsC hR (by omega) (eq_nI ej) (by omega) (by omega) (by omega) (fun x hx => ?_)
      refine M_ofParty rfl hR (by omega) I.ok (fun z => absurd z (by omega)) (fun j' w v z1 z2 z3 z4 z5 u1 u2 u3 u4 => ⟨?_, I⟩)
      have : j' = j := by omega
      subst this
      rw [i_eq, u2 (by omega), hx, e2, e3]
    · refine ev_dripsC hR (by omega) (eq_nI ej) (by omega) (by omega) (by omega) (fun x hx => ?_)
      refine M_ofParty rfl hR (by omega) I.ok (fun z => absurd z (by omega)) (fun j' w v z1 z2 z3 z4 z5 u1 u2 u3 u4 => ⟨?_, I⟩)
      have : j' = j := by omega
      subst this
      rw [i_eq, u3 (by omega), hx, e2, e3]
    · obtain ⟨e', rfl⟩ := dpos (show 1 ≤ e by omega)
      refine vc_X9_saidOf hR (rg_saidC (n := (vM h 1).toNat) hR (by omega) (by omega) (fun x hx => ?_) (vM h 1).toNat 0 (by omega) rfl rfl)
      refine M_ofParty rfl hR (by omega) I.ok (fun z => absurd z (by omega)) (fun j' w v z1 z2 z3 z4 z5 u1 u2 u3 u4 => ⟨?_, I⟩)
      rw [i_eq, u4 (by omega), hx, z1]
      refine sdG_eq (fun w hw => ?_)
      have iw := I.wd (p := w) (by omega)
      refine ⟨?_, ?_⟩
      · show (h.1 5 w).toInt = _
        rw [← iw.1] <;> rfl
      · show (h.1 12 w).toInt = _
        rw [← iw.2.2.2.2] <;> rfl
  · exact M_ofParty (vM_lo (by omega)) (RF_sI hR) (by omega) I.ok (fun _ => ⟨rfl, Inv_err I rfl⟩) (fun j w v z1 z2 z3 z4 z5 _ _ _ _ => (by intros; exfalso; (try simp only [i_eq, i_lt, i_le, Int32.reduceToInt, Int64.reduceToInt, ti_m1, tl_m1, ti_m2, tl_m2] at *); omega))
  · exact M_ofParty (vM_lo (by omega)) (RF_sI hR) (by omega) I.ok (fun _ => ⟨rfl, Inv_err I rfl⟩) (fun j w v z1 z2 z3 z4 z5 _ _ _ _ => (by intros; exfalso; (try simp only [i_eq, i_lt, i_le, Int32.reduceToInt, Int64.reduceToInt, ti_m1, tl_m1, ti_m2, tl_m2] at *); omega))
theorem M_word {F : Nat → Int} {a1 a2 a3 a4 : Int32} (eF : vM h = F) (hR : RF h) (hd : 10 ≤ d) (h4 : 0 ≤ F 0 ∧ F 0 ≤ 4) (h12 : 0 ≤ F 1 ∧ F 1 ≤ 12) (k1 : ¬ ((0 ≤ a1.toInt ∧ a1.toInt < F 0) ∧ (1 ≤ a2.toInt ∧ a2.toInt ≤ 30) ∧ (0 ≤ a3.toInt ∧ a3.toInt ≤ 99) ∧ (-1 ≤ a4.toInt ∧ a4.toInt < F 1)) → Q (er 1) (sI h 98 1 (h.1 98 1 + 1)))
    (k4 : ((0 ≤ a1.toInt ∧ a1.toInt < F 0) ∧ (1 ≤ a2.toInt ∧ a2.toInt ≤ 30) ∧ (0 ≤ a3.toInt ∧ a3.toInt ≤ 99) ∧ (-1 ≤ a4.toInt ∧ a4.toInt < F 1)) → F 1 = 12 → Q (er 4) (sI h 98 4 (h.1 98 4 + 1)))
    (k : ∀ j : Nat, (0 ≤ a1.toInt ∧ a1.toInt < F 0) → (1 ≤ a2.toInt ∧ a2.toInt ≤ 30) → (0 ≤ a3.toInt ∧ a3.toInt ≤ 99) → (-1 ≤ a4.toInt ∧ a4.toInt < F 1) → F 1 = j → j < 12 → Q (nI j) (sI (sI (sI (sI (sI (sI h 95 1 (nI j + 1)) 95 (30 + 5 * j) a1) 95 (31 + 5 * j) a2) 95 (32 + 5 * j) a3) 95 (33 + 5 * j) a4) 95 (34 + 5 * j) 0)) : EvI G d mX12_word [.inr (.inr (some 94)), .inl a1, .inl a2, .inl a3, .inl a4] h Q := by
  obtain ⟨e, rfl⟩ := dpos (show 1 ≤ d by omega)
  subst eF
  have e0 : (h.1 95 1).toInt = vM h 1 := rfl
  have e1 : (h.1 95 1 - 1).toInt = vM h 1 - 1 := by rw [ti_sub (by rw [e0]; simp only [Int32.reduceToInt]; omega) (by rw [e0]; simp only [Int32.reduceToInt]; omega)]; rfl
  refine vc_X12_word hR ?_
  repeat' (first
    | (refine ev_isParty hR (by omega) (by omega) ?_)
    | (refine ev_isWord hR (by omega) (by omega) ?_)
    | (refine ev_in32 hR (by omega) ?_)
    | (refine ev_finds hR (by omega) (n := 1) rfl (by omega) ?_)
    | (refine ev_finds hR (by omega) (n := 2) rfl (by omega) ?_)
    | (refine ev_finds hR (by omega) (n := 3) rfl (by omega) ?_)
    | (refine ev_finds hR (by omega) (n := 4) rfl (by omega) ?_)
    | (refine ev_finds hR (by omega) (n := 5) rfl (by omega) ?_)
    | (refine br2 (fun _ => ?_) (fun _ => ?_))
    | (refine br2' (fun _ => ?_) (fun _ => ?_))
    | (with_reducible refine spl (fun _ => ?_) (fun _ => ?_))
    | (with_reducible refine spl' (fun _ => ?_) (fun _ => ?_)))
  · rename_i c1 c2 c3 c4 c5
    rw [l_of_i, e1] at c4
    rw [i_eq] at c5
    (try simp only [Int32.reduceToInt, Int64.reduceToInt, ti_m1, tl_m1, ti_m2, tl_m2] at *)
    have e0 : (h.1 95 1).toInt = vM h 1 := rfl
    obtain ⟨j, ej⟩ : ∃ j : Nat, vM h 1 = j := ⟨(vM h 1).toNat, by omega⟩
    have en : h.1 95 1 = nI j := eq_nI (by omega)
    refine ev_puts hR (by omega) en (w := 0) rfl (by omega) (by omega) (ev_puts hR (by omega) en (w := 1) rfl (by omega) (by omega) (ev_puts hR (by omega) en (w := 2) rfl (by omega) (by omega) (ev_puts hR (by omega) en (w := 3) rfl (by omega) (by omega) (ev_puts hR (by omega) en (w := 4) rfl (by omega) (by omega) ?_))))
    rw [en, show 30 + 5 * j + 0 = 30 + 5 * j by omega, show 30 + 5 * j + 1 = 31 + 5 * j by omega, show 30 + 5 * j + 2 = 32 + 5 * j by omega, show 30 + 5 * j + 3 = 33 + 5 * j by omega, show 30 + 5 * j + 4 = 34 + 5 * j by omega]
    exact k j c1 c2 c3 (by omega) ej (by omega)
  · rename_i c1 c2 c3 c4 c5
    rw [l_of_i, e1] at c4
    rw [i_eq] at c5
    (try simp only [Int32.reduceToInt, Int64.reduceToInt, ti_m1, tl_m1, ti_m2, tl_m2] at *)
    have e0 : (h.1 95 1).toInt = vM h 1 := rfl
    exact k4 ⟨c1, c2, c3, by omega⟩ (by omega)
  · rename_i c1 c2 c3 c4
    rw [l_of_i, e1] at c4
    (try simp only [Int32.reduceToInt, Int64.reduceToInt, ti_m1, tl_m1, ti_m2, tl_m2] at *)
    have e0 : (h.1 95 1).toInt = vM h 1 := rfl
    exact k1 (by omega)
  · (try simp only [Int32.reduceToInt, Int64.reduceToInt, ti_m1, tl_m1, ti_m2, tl_m2] at *); exact k1 (by omega)
  · (try simp only [Int32.reduceToInt, Int64.reduceToInt, ti_m1, tl_m1, ti_m2, tl_m2] at *); exact k1 (by omega)
  · exact k1 (by omega)
theorem step_word {a1 a2 a3 a4 : Int32} (I : Inv h) (hd : 100 ≤ d) : EvI G d mX11_word [.inr (.inr (some 0)), .inl a1, .inl a2, .inl a3, .inl a4] h (fun x h1 => EvI G d mX12_word [.inr (.inr (some 94)), .inl a1, .inl a2, .inl a3, .inl a4] h1 (fun y h2 => x = y ∧ Inv h2)) := by
  have hd' := hd
  have hR := I.1
  have n0 := I.n
  have w0 := I.w
  have e1 : (h.1 1 4 - 1).toInt = vM h 1 - 1 := by rw [ti_sub (by rw [w0.1]; simp only [Int32.reduceToInt]; omega) (by rw [w0.1]; simp only [Int32.reduceToInt]; omega), w0.1]; rfl
  obtain ⟨e, rfl⟩ := dpos (show 1 ≤ d by omega)
  refine vc_X11_word hR ?_
  repeat' (first
    | (refine ev_hasParty hR (by omega) (by omega) ?_)
    | (refine ev_hasWord hR (by omega) (by omega) ?_)
    | (refine ev_within hR (by omega) ?_)
    | (refine ev_isKm hR (by omega) ?_)
    | (refine ev_areTwo hR (by omega) (by omega) ?_)
    | (refine ev_refuse hR (by omega) (n := 1) rfl (by omega) ?_)
    | (refine ev_refuse hR (by omega) (n := 2) rfl (by omega) ?_)
    | (refine ev_refuse hR (by omega) (n := 3) rfl (by omega) ?_)
    | (refine ev_refuse hR (by omega) (n := 4) rfl (by omega) ?_)
    | (refine ev_refuse hR (by omega) (n := 5) rfl (by omega) ?_)
    | (refine br2 (fun _ => ?_) (fun _ => ?_))
    | (refine br2' (fun _ => ?_) (fun _ => ?_))
    | (with_reducible refine spl (fun _ => ?_) (fun _ => ?_))
    | (with_reducible refine spl' (fun _ => ?_) (fun _ => ?_)))
  · rename_i c1 c2 c3 c4 c5
    rw [e1] at c4
    rw [i_lt] at c5
    (try simp only [Int32.reduceToInt, Int64.reduceToInt, ti_m1, tl_m1, ti_m2, tl_m2] at *)
    obtain ⟨j, ej⟩ : ∃ j : Nat, vM h 1 = j := ⟨(vM h 1).toNat, by omega⟩
    have en : h.1 1 4 = nI j := eq_nI (by omega)
    obtain ⟨d, rfl⟩ := dpos (show 1 ≤ e by omega)
    refine vc_X9_addWord hR (ev_within hR (by omega) (br2' (fun _ => ?_) (by intros; exfalso; (try simp only [i_eq, i_lt, i_le, Int32.reduceToInt, Int64.reduceToInt, ti_m1, tl_m1, ti_m2, tl_m2] at *); omega)))
    have hin : vp_in (h.1 1 4) 12 := in_of (by omega) (by omega)
    have hcl : Int32.toNatClampNeg (nI j) = j := by rw [← en]; exact cl_of (by omega)
    rw [en] at hin
    rw [en, hcl]
    refine ⟨hin, hin, hin, ?_⟩
    rintro _ rfl
    refine ⟨hin, hin, ?_⟩
    refine M_word (F := vM h) (by simp only [vM_lo, Nat.reduceLT]) (by repeat' (first | exact hR | apply RF_sI)) (by omega) n0.2 w0.2 (fun z => absurd z (by omega)) (fun _ z => absurd z (by omega)) (fun j' z1 z2 z3 z4 z5 z6 => ?_)
    have ej' : j' = j := by omega
    subst ej'
    refine ⟨rfl, ?_⟩
    refine Inv_up I (upI (upI (upI (upI (upI (upI (vM h) 1 (nI j' + 1).toInt) (30 + 5 * j') a1.toInt) (31 + 5 * j') a2.toInt) (32 + 5 * j') a3.toInt) (33 + 5 * j') a4.toInt) (34 + 5 * j') (Int32.toInt 0)) (by repeat' (first | exact hR | apply RF_sI)) (fun a z1 z2 z3 z4 => by unfold scr at z1; funext j; (repeat rw [sI_ne (by omega)])) (by repeat rw [sI_ne (by omega)]) (by repeat rw [sI_ne (by omega)]) (by simp (disch := omega) only [vM_sI, vM_lo, vM_hi] <;> rfl) (fun j hj => by (simp (disch := omega) only [vM_sI, vM_lo, vM_hi, c9_hi, c9_kind, c9_m, c9_size, c9_water, c9_heard, c9_whose, c9_takes, c9_worth, c9_behind, c9_how, c9_n, c9_words, c9_z, c9_bytes, c9_waits, c9_f3, c9_f4, c9_f5, c9_f7, c9_f6]); revert j hj; (repeat refine upI_on ?_); exact I.cc) (fun j hj => by simp (disch := omega) only [upI_n]) ?_ (by simp (disch := omega) only [upI_n]) (by simp (disch := omega) only [upI_n])
    rw [ti_nI1 (by omega)]
    (try simp only [Int32.reduceToInt, Int64.reduceToInt, ti_m1, tl_m1, ti_m2, tl_m2] at *)
    have o6 := I.ok.2.2.2.2.2.1
    refine OKF_w (w := j') I.ok (fun i hi1 hi2 => by simp (disch := omega) only [upI_n]) z6 (by simp (disch := omega) only [upI_n, upI_s]; omega) (fun v => by simp (disch := omega) only [upI_n, upI_s]; omega) (fun z => by omega) ?_
    unfold OKW
    simp (disch := omega) only [upI_n, upI_s]
    omega
  · rename_i c1 c2 c3 c4 c5
    rw [e1] at c4
    exact M_word (vM_lo (by omega)) (RF_sI hR) (by omega) n0.2 w0.2 (by intros; exfalso; (try simp only [i_eq, i_lt, i_le, Int32.reduceToInt, Int64.reduceToInt, ti_m1, tl_m1, ti_m2, tl_m2] at *); omega) (fun _ _ => ⟨rfl, Inv_err I rfl⟩) (by intros; exfalso; (try simp only [i_eq, i_lt, i_le, Int32.reduceToInt, Int64.reduceToInt, ti_m1, tl_m1, ti_m2, tl_m2] at *); omega)
  · rename_i c1 c2 c3 c4
    rw [e1] at c4
    exact M_word (vM_lo (by omega)) (RF_sI hR) (by omega) n0.2 w0.2 (fun _ => ⟨rfl, Inv_err I rfl⟩) (by intros; exfalso; (try simp only [i_eq, i_lt, i_le, Int32.reduceToInt, Int64.reduceToInt, ti_m1, tl_m1, ti_m2, tl_m2] at *); omega) (by intros; exfalso; (try simp only [i_eq, i_lt, i_le, Int32.reduceToInt, Int64.reduceToInt, ti_m1, tl_m1, ti_m2, tl_m2] at *); omega)
  · exact M_word (vM_lo (by omega)) (RF_sI hR) (by omega) n0.2 w0.2 (fun _ => ⟨rfl, Inv_err I rfl⟩) (by intros; exfalso; (try simp only [i_eq, i_lt, i_le, Int32.reduceToInt, Int64.reduceToInt, ti_m1, tl_m1, ti_m2, tl_m2] at *); omega) (by intros; exfalso; (try simp only [i_eq, i_lt, i_le, Int32.reduceToInt, Int64.reduceToInt, ti_m1, tl_m1, ti_m2, tl_m2] at *); omega)
  · exact M_word (vM_lo (by omega)) (RF_sI hR) (by omega) n0.2 w0.2 (fun _ => ⟨rfl, Inv_err I rfl⟩) (by intros; exfalso; (try simp only [i_eq, i_lt, i_le, Int32.reduceToInt, Int64.reduceToInt, ti_m1, tl_m1, ti_m2, tl_m2] at *); omega) (by intros; exfalso; (try simp only [i_eq, i_lt, i_le, Int32.reduceToInt, Int64.reduceToInt, ti_m1, tl_m1, ti_m2, tl_m2] at *); omega)
  · exact M_word (vM_lo (by omega)) (RF_sI hR) (by omega) n0.2 w0.2 (fun _ => ⟨rfl, Inv_err I rfl⟩) (by intros; exfalso; (try simp only [i_eq, i_lt, i_le, Int32.reduceToInt, Int64.reduceToInt, ti_m1, tl_m1, ti_m2, tl_m2] at *); omega) (by intros; exfalso; (try simp only [i_eq, i_lt, i_le, Int32.reduceToInt, Int64.reduceToInt, ti_m1, tl_m1, ti_m2, tl_m2] at *); omega)
end
