/-! PLAIN PUBLIC METHODS, on -/
section
variable {G : GT} {d : Nat} {h : Hp} {Q : Int32 → Hp → Prop} {QW : Hp → Prop}
theorem step_seed {a1 : Int32} (I : Inv h) (hd : 100 ≤ d) : EvI G d mX11_seed [.inr (.inr (some 0)), .inl a1] h (fun x h1 => EvI G d mX12_seed [.inr (.inr (some 94)), .inl a1] h1 (fun y h2 => x = y ∧ Inv h2)) := by
  have hR := I.1
  obtain ⟨e, rfl⟩ := dpos (show 1 ≤ d by omega)
  refine vc_X11_seed hR (vc_X12_seed (RF_sI hR) ⟨?_, ?_⟩)
  · rw [sI_ne (by omega), i_eq]; exact I.c (bg := z0) (j := 2) (by omega)
  · refine Inv_up I (upI (vM h) 2 a1.toInt) (by repeat' (first | exact hR | apply RF_sI)) (fun a z1 z2 z3 z4 => by unfold scr at z1; funext j; (repeat rw [sI_ne (by omega)])) (by repeat rw [sI_ne (by omega)]) (by repeat rw [sI_ne (by omega)]) (by simp (disch := omega) only [vM_sI, vM_lo, vM_hi] <;> rfl) (fun j hj => by (simp (disch := omega) only [vM_sI, vM_lo, vM_hi, c9_hi, c9_kind, c9_m, c9_size, c9_water, c9_heard, c9_whose, c9_takes, c9_worth, c9_behind, c9_how, c9_n, c9_words, c9_z, c9_bytes, c9_waits, c9_f3, c9_f4, c9_f5, c9_f7, c9_f6]); revert j hj; (repeat refine upI_on ?_); exact I.cc) (fun j hj => by simp (disch := omega) only [upI_n]) ?_ (by simp (disch := omega) only [upI_n]) (by simp (disch := omega) only [upI_n])
    exact OKF_irr (by omega) I.ok
theorem M_told {a1 : Int32} (hR : RF h) (hd : 10 ≤ d) (k1 : ¬ (1 ≤ a1.toInt ∧ a1.toInt ≤ 5) → Q (er 1) (sI h 98 1 (h.1 98 1 + 1))) (k : ∀ j : Nat, a1.toInt = j → 1 ≤ j → j ≤ 5 → Q (h.1 98 j) h) : EvI G d mX12_told [.inr (.inr (some 94)), .inl a1] h Q := by
  obtain ⟨e, rfl⟩ := dpos (show 1 ≤ d by omega)
  refine vc_X12_told hR ?_
  repeat' (first
    | (refine ev_isParty hR (by omega) (by omega) ?_)
    | (refine ev_isWord hR (by omega) (by omega) ?_)
    | (refine ev_in32 hR (by omega) ?_)
    | (refine ev_finds hR (by omega) (n := 1) rfl (by omega) ?_)
    | (refine ev_finds hR (by omega) (n := 2) rfl (by omega) ?_)
    | (refine ev_finds hR (by omega) (n := 3) rfl (by omega) ?_)
    | (refine ev_finds hR (by omega) (n := 4) rfl (by omega) ?_)
    | (refine ev_finds hR (by omega) (n := 5) rfl (by omega) ?_)
    | (refine br2 (fun _ => ?_) (fun _ => ?_))
    | (refine br2' (fun _ => ?_) (fun _ => ?_))
    | (with_reducible refine spl (fun _ => ?_) (fun _ => ?_))
    | (with_reducible refine spl' (fun _ => ?_) (fun _ => ?_)))
  · rename_i c1
    (try simp only [Int32.reduceToInt, Int64.reduceToInt, ti_m1, tl_m1, ti_m2, tl_m2] at *)
    refine ⟨in_of (by omega) (by omega), ?_⟩
    rw [cl_eq]
    exact k _ (by omega) (by omega) (by omega)
  · exact k1 (by assumption)
theorem step_told {a1 : Int32} (I : Inv h) (hd : 100 ≤ d) : EvI G d mX11_told [.inr (.inr (some 0)), .inl a1] h (fun x h1 => EvI G d mX12_told [.inr (.inr (some 94)), .inl a1] h1 (fun y h2 => x = y ∧ Inv h2)) := by
  have hd' := hd
  have hR := I.1
  obtain ⟨e, rfl⟩ := dpos (show 1 ≤ d by omega)
  refine vc_X11_told hR ?_
  repeat' (first
    | (refine ev_hasParty hR (by omega) (by omega) ?_)
    | (refine ev_hasWord hR (by omega) (by omega) ?_)
    | (refine ev_within hR (by omega) ?_)
    | (refine ev_isKm hR (by omega) ?_)
    | (refine ev_areTwo hR (by omega) (by omega) ?_)
    | (refine ev_refuse hR (by omega) (n := 1) rfl (by omega) ?_)
    | (refine ev_refuse hR (by omega) (n := 2) rfl (by omega) ?_)
    | (refine ev_refuse hR (by omega) (n := 3) rfl (by omega) ?_)
    | (refine ev_refuse hR (by omega) (n := 4) rfl (by omega) ?_)
    | (refine ev_refuse hR (by omega) (n := 5) rfl (by omega) ?_)
    | (refine br2 (fun _ => ?_) (fun _ => ?_))
    | (refine br2' (fun _ => ?_) (fun _ => ?_))
    | (with_reducible refine spl (fun _ => ?_) (fun _ => ?_))
    | (with_reducible refine spl' (fun _ => ?_) (fun _ => ?_)))
  · rename_i c1
    (try simp only [Int32.reduceToInt, Int64.reduceToInt, ti_m1, tl_m1, ti_m2, tl_m2] at *)
    refine ⟨in_of (by omega) (by omega), ?_⟩
    refine M_told hR (by omega) (by intros; exfalso; (try simp only [i_eq, i_lt, i_le, Int32.reduceToInt, Int64.reduceToInt, ti_m1, tl_m1, ti_m2, tl_m2] at *); omega) (fun j z1 z2 z3 => ⟨?_, I⟩)
    rw [cl_of z1]
    exact I.2.2.2.2.1 j z2 z3
  · exact M_told (RF_sI hR) (by omega) (fun _ => ⟨rfl, Inv_err I rfl⟩) (by intros; exfalso; (try simp only [i_eq, i_lt, i_le, Int32.reduceToInt, Int64.reduceToInt, ti_m1, tl_m1, ti_m2, tl_m2] at *); omega)
theorem M_trace {a1 : Int32} {n : Nat} (hR : RF h) (hd : 10 ≤ d) (hn : (h.1 94 32).toInt = n) (h4 : n ≤ 40) (k1 : ¬ (0 ≤ a1.toInt ∧ a1.toInt < n) → Q (er 2) (sI h 98 2 (h.1 98 2 + 1))) (k : ∀ j : Nat, a1.toInt = j → j < n → Q (h.1 113 j) h) : EvI G d mX12_trace [.inr (.inr (some 94)), .inl a1] h Q := by
  obtain ⟨e, rfl⟩ := dpos (show 1 ≤ d by omega)
  have e1 : (h.1 94 32 - 1).toInt = (n : Int) - 1 := by
    rw [ti_sub (by rw [hn]; simp only [Int32.reduceToInt]; omega) (by rw [hn]; simp only [Int32.reduceToInt]; omega), hn]; rfl
  refine vc_X12_trace hR ?_
  repeat' (first
    | (refine ev_isParty hR (by omega) (by omega) ?_)
    | (refine ev_isWord hR (by omega) (by omega) ?_)
    | (refine ev_in32 hR (by omega) ?_)
    | (refine ev_finds hR (by omega) (n := 1) rfl (by omega) ?_)
    | (refine ev_finds hR (by omega) (n := 2) rfl (by omega) ?_)
    | (refine ev_finds hR (by omega) (n := 3) rfl (by omega) ?_)
    | (refine ev_finds hR (by omega) (n := 4) rfl (by omega) ?_)
    | (refine ev_finds hR (by omega) (n := 5) rfl (by omega) ?_)
    | (refine br2 (fun _ => ?_) (fun _ => ?_))
    | (refine br2' (fun _ => ?_) (fun _ => ?_))
    | (with_reducible refine spl (fun _ => ?_) (fun _ => ?_))
    | (with_reducible refine spl' (fun _ => ?_) (fun _ => ?_)))
  · rename_i c1
    rw [l_of_i, e1] at c1
    (try simp only [Int32.reduceToInt, Int64.reduceToInt, ti_m1, tl_m1, ti_m2, tl_m2] at *)
    refine ⟨in_of (by omega) (by omega), ?_⟩
    rw [cl_eq]
    exact k _ (by omega) (by omega)
  · rename_i c1
    rw [l_of_i, e1] at c1
    (try simp only [Int32.reduceToInt, Int64.reduceToInt, ti_m1, tl_m1, ti_m2, tl_m2] at *)
    exact k1 (by omega)
theorem step_trace {a1 : Int32} (I : Inv h) (hd : 100 ≤ d) : EvI G d mX11_trace [.inr (.inr (some 0)), .inl a1] h (fun x h1 => EvI G d mX12_trace [.inr (.inr (some 94)), .inl a1] h1 (fun y h2 => x = y ∧ Inv h2)) := by
  have hd' := hd
  have hR := I.1
  obtain ⟨i6, i7, i8⟩ := I.2.2.2.2.2
  obtain ⟨n, hn⟩ : ∃ n : Nat, (h.1 83 1).toInt = n := ⟨(h.1 83 1).toInt.toNat, by omega⟩
  have hn2 : (h.1 94 32).toInt = n := by rw [← i6]; exact hn
  have e1 : (h.1 83 1 - 1).toInt = (n : Int) - 1 := by
    rw [ti_sub (by rw [hn]; simp only [Int32.reduceToInt]; omega) (by rw [hn]; simp only [Int32.reduceToInt]; omega), hn]; rfl
  obtain ⟨e, rfl⟩ := dpos (show 1 ≤ d by omega)
  refine vc_X11_trace hR ?_
  repeat' (first
    | (refine ev_hasParty hR (by omega) (by omega) ?_)
    | (refine ev_hasWord hR (by omega) (by omega) ?_)
    | (refine ev_within hR (by omega) ?_)
    | (refine ev_isKm hR (by omega) ?_)
    | (refine ev_areTwo hR (by omega) (by omega) ?_)
    | (refine ev_refuse hR (by omega) (n := 1) rfl (by omega) ?_)
    | (refine ev_refuse hR (by omega) (n := 2) rfl (by omega) ?_)
    | (refine ev_refuse hR (by omega) (n := 3) rfl (by omega) ?_)
    | (refine ev_refuse hR (by omega) (n := 4) rfl (by omega) ?_)
    | (refine ev_refuse hR (by omega) (n := 5) rfl (by omega) ?_)
    | (refine br2 (fun _ => ?_) (fun _ => ?_))
    | (refine br2' (fun _ => ?_) (fun _ => ?_))
    | (with_reducible refine spl (fun _ => ?_) (fun _ => ?_))
    | (with_reducible refine spl' (fun _ => ?_) (fun _ => ?_)))
  · rename_i c1
    rw [e1] at c1
    (try simp only [Int32.reduceToInt, Int64.reduceToInt, ti_m1, tl_m1, ti_m2, tl_m2] at *)
    refine ⟨in_of (by omega) (by omega), ?_⟩
    refine M_trace (n := n) hR (by omega) hn2 (by omega) (fun z => absurd z (by omega)) (fun j z1 z2 => ⟨?_, I⟩)
    rw [cl_of z1]
    exact i8 j (by omega)
  · rename_i c1
    rw [e1] at c1
    (try simp only [Int32.reduceToInt, Int64.reduceToInt, ti_m1, tl_m1, ti_m2, tl_m2] at *)
    exact M_trace (n := n) (RF_sI hR) (by omega) (by rw [sI_ne (by omega)]; exact hn2) (by omega) (fun _ => ⟨rfl, Inv_err I rfl⟩) (fun j z1 z2 => absurd c1 (by omega))
theorem M_ofWord {F : Nat → Int} {a1 a2 : Int32} (eF : vM h = F) (hR : RF h) (hd : 10 ≤ d) (h4 : 0 ≤ F 1 ∧ F 1 ≤ 12) (k1 : ¬ ((0 ≤ a1.toInt ∧ a1.toInt < F 1) ∧ (0 ≤ a2.toInt ∧ a2.toInt ≤ 4)) → Q (er 1) (sI h 98 1 (h.1 98 1 + 1)))
    (k : ∀ j w : Nat, a1.toInt = j → (j : Int) < F 1 → j < 12 → a2.toInt = w → w ≤ 4 → Q (h.1 95 (30 + 5 * j + w)) h) : EvI G d mX12_ofWord [.inr (.inr (some 94)), .inl a1, .inl a2] h Q := by
  obtain ⟨e, rfl⟩ := dpos (show 1 ≤ d by omega)
  subst eF
  refine vc_X12_ofWord hR ?_
  repeat' (first
    | (refine ev_isParty hR (by omega) (by omega) ?_)
    | (refine ev_isWord hR (by omega) (by omega) ?_)
    | (refine ev_in32 hR (by omega) ?_)
    | (refine ev_finds hR (by omega) (n := 1) rfl (by omega) ?_)
    | (refine ev_finds hR (by omega) (n := 2) rfl (by omega) ?_)
    | (refine ev_finds hR (by omega) (n := 3) rfl (by omega) ?_)
    | (refine ev_finds hR (by omega) (n := 4) rfl (by omega) ?_)
    | (refine ev_finds hR (by omega) (n := 5) rfl (by omega) ?_)
    | (refine br2 (fun _ => ?_) (fun _ => ?_))
    | (refine br2' (fun _ => ?_) (fun _ => ?_))
    | (with_reducible refine spl (fun _ => ?_) (fun _ => ?_))
    | (with_reducible refine spl' (fun _ => ?_) (fun _ => ?_)))
  · rename_i c1 c2
    (try simp only [Int32.reduceToInt, Int64.reduceToInt, ti_m1, tl_m1, ti_m2, tl_m2] at *)
    obtain ⟨j, j4⟩ : ∃ j : Nat, a1.toInt = j := ⟨a1.toInt.toNat, by omega⟩
    obtain ⟨w, w4⟩ : ∃ w : Nat, a2.toInt = w := ⟨a2.toInt.toNat, by omega⟩
    exact ev_its hR (by omega) (eq_nI j4) (eq_nI w4) (by omega) (by omega) (k j w j4 (by omega) (by omega) w4 (by omega))
  · (try simp only [Int32.reduceToInt, Int64.reduceToInt, ti_m1, tl_m1, ti_m2, tl_m2] at *); exact k1 (by omega)
  · exact k1 (by omega)
theorem step_ofWord {a1 a2 : Int32} (I : Inv h) (hd : 100 ≤ d) : EvI G d mX11_ofWord [.inr (.inr (some 0)), .inl a1, .inl a2] h (fun x h1 => EvI G d mX12_ofWord [.inr (.inr (some 94)), .inl a1, .inl a2] h1 (fun y h2 => x = y ∧ Inv h2)) := by
  have hd' := hd
  have hR := I.1
  have n0 := I.w
  obtain ⟨e, rfl⟩ := dpos (show 1 ≤ d by omega)
  refine vc_X11_ofWord hR ?_
  repeat' (first
    | (refine ev_hasParty hR (by omega) (by omega) ?_)
    | (refine ev_hasWord hR (by omega) (by omega) ?_)
    | (refine ev_within hR (by omega) ?_)
    | (refine ev_isKm hR (by omega) ?_)
    | (refine ev_areTwo hR (by omega) (by omega) ?_)
    | (refine ev_refuse hR (by omega) (n := 1) rfl (by omega) ?_)
    | (refine ev_refuse hR (by omega) (n := 2) rfl (by omega) ?_)
    | (refine ev_refuse hR (by omega) (n := 3) rfl (by omega) ?_)
    | (refine ev_refuse hR (by omega) (n := 4) rfl (by omega) ?_)
    | (refine ev_refuse hR (by omega) (n := 5) rfl (by omega) ?_)
    | (refine br2 (fun _ => ?_) (fun _ => ?_))
    | (refine br2' (fun _ => ?_) (fun _ => ?_))
    | (with_reducible refine spl (fun _ => ?_) (fun _ => ?_))
    | (with_reducible refine spl' (fun _ => ?_) (fun _ => ?_)))
  · rename_i c1 c2
    (try simp only [Int32.reduceToInt, Int64.reduceToInt, ti_m1, tl_m1, ti_m2, tl_m2] at *)
    have hin : vp_in a1 12 := in_of (by omega) (by omega)
    refine ⟨⟨fun c => ⟨hin, ?_⟩, fun c => ⟨hin, ?_⟩, fun c => ⟨hin, ?_⟩, fun c => ⟨hin, ?_⟩⟩, fun c => ⟨hin, ?_⟩⟩
    all_goals
      refine M_ofWord rfl hR (by omega) n0.2 (by intros; exfalso; (try simp only [i_eq, i_lt, i_le, Int32.reduceToInt, Int64.reduceToInt, ti_m1, tl_m1, ti_m2, tl_m2] at *); omega) (fun j w z1 z2 z3 z4 z5 => ⟨?_, I⟩)
      rw [cl_of z1]
      have iw := I.wd z3
    · rw [show w = 0 by omega]; exact iw.1.symm
    · rw [show 30 + 5 * j + w = 31 + 5 * j by omega]; exact iw.2.1.symm
    · rw [show 30 + 5 * j + w = 32 + 5 * j by omega]; exact iw.2.2.1.symm
    · rw [show 30 + 5 * j + w = 33 + 5 * j by omega]; exact iw.2.2.2.1.symm
    · rw [show 30 + 5 * j + w = 34 + 5 * j by omega]; exact iw.2.2.2.2.symm
  · exact M_ofWord (vM_lo (by omega)) (RF_sI hR) (by omega) n0.2 (fun _ => ⟨rfl, Inv_err I rfl⟩) (by intros; exfalso; (try simp only [i_eq, i_lt, i_le, Int32.reduceToInt, Int64.reduceToInt, ti_m1, tl_m1, ti_m2, tl_m2] at *); omega)
  · exact M_ofWord (vM_lo (by omega)) (RF_sI hR) (by omega) n0.2 (fun _ => ⟨rfl, Inv_err I rfl⟩) (by intros; exfalso; (try simp only [i_eq, i_lt, i_le, Int32.reduceToInt, Int64.reduceToInt, ti_m1, tl_m1, ti_m2, tl_m2] at *); omega)
theorem M_stop {F : Nat → Int} (eF : vM h = F) (hR : RF h) (hd : 10 ≤ d) (h4 : 0 ≤ F 6 ∧ F 6 ≤ 12) (k1 : F 6 = 0 → Q (er 2) (sI h 98 2 (h.1 98 2 + 1)))
    (k : ∀ w : Nat, F 6 = (w : Int) + 1 → w < 12 → Q (nI w) (sI (sI (sI h 95 (34 + 5 * w) 2) 95 6 0) 95 7 0)) : EvI G d mX12_stop [.inr (.inr (some 94))] h Q := by
  obtain ⟨e, rfl⟩ := dpos (show 1 ≤ d by omega)
  subst eF
  have e0 : (h.1 95 6).toInt = vM h 6 := rfl
  refine vc_X12_stop hR ?_
  repeat' (first
    | (refine ev_isParty hR (by omega) (by omega) ?_)
    | (refine ev_isWord hR (by omega) (by omega) ?_)
    | (refine ev_in32 hR (by omega) ?_)
    | (refine ev_finds hR (by omega) (n := 1) rfl (by omega) ?_)
    | (refine ev_finds hR (by omega) (n := 2) rfl (by omega) ?_)
    | (refine ev_finds hR (by omega) (n := 3) rfl (by omega) ?_)
    | (refine ev_finds hR (by omega) (n := 4) rfl (by omega) ?_)
    | (refine ev_finds hR (by omega) (n := 5) rfl (by omega) ?_)
    | (refine br2 (fun _ => ?_) (fun _ => ?_))
    | (refine br2' (fun _ => ?_) (fun _ => ?_))
    | (with_reducible refine spl (fun _ => ?_) (fun _ => ?_))
    | (with_reducible refine spl' (fun _ => ?_) (fun _ => ?_)))
  · rename_i c1
    rw [i_eq] at c1
    (try simp only [Int32.reduceToInt, Int64.reduceToInt, ti_m1, tl_m1, ti_m2, tl_m2] at *)
    have e0 : (h.1 95 6).toInt = vM h 6 := rfl
    obtain ⟨w, w4⟩ : ∃ w : Nat, vM h 6 = (w : Int) + 1 := ⟨(vM h 6 - 1).toNat, by omega⟩
    have ew : h.1 95 6 - 1 = nI w := eq_nI (by rw [ti_sub (by rw [e0, w4]; simp only [Int32.reduceToInt]; omega) (by rw [e0, w4]; simp only [Int32.reduceToInt]; omega), e0, w4]; simp only [Int32.reduceToInt]; omega)
    refine ev_ends hR (by omega) w4 (by omega) ?_
    rw [ew]
    exact k w w4 (by omega)
  · rename_i c1
    rw [i_eq, e0] at c1
    (try simp only [Int32.reduceToInt, Int64.reduceToInt, ti_m1, tl_m1, ti_m2, tl_m2] at *)
    exact k1 (by omega)
theorem step_stop (I : Inv h) (hd : 100 ≤ d) : EvI G d mX11_stop [.inr (.inr (some 0))] h (fun x h1 => EvI G d mX12_stop [.inr (.inr (some 94))] h1 (fun y h2 => x = y ∧ Inv h2)) := by
  have hd' := hd
  have hR := I.1
  have n0 := I.w
  have ok := I.ok
  have o6 := ok.2.2.2.2.2.1
  have e6 : (h.1 9 6).toInt + 1 = vM h 6 := I.c (bg := z0) (j := 6) (by omega)
  obtain ⟨e, rfl⟩ := dpos (show 1 ≤ d by omega)
  refine vc_X11_stop hR ?_
  repeat' (first
    | (refine ev_hasParty hR (by omega) (by omega) ?_)
    | (refine ev_hasWord hR (by omega) (by omega) ?_)
    | (refine ev_within hR (by omega) ?_)
    | (refine ev_isKm hR (by omega) ?_)
    | (refine ev_areTwo hR (by omega) (by omega) ?_)
    | (refine ev_refuse hR (by omega) (n := 1) rfl (by omega) ?_)
    | (refine ev_refuse hR (by omega) (n := 2) rfl (by omega) ?_)
    | (refine ev_refuse hR (by omega) (n := 3) rfl (by omega) ?_)
    | (refine ev_refuse hR (by omega) (n := 4) rfl (by omega) ?_)
    | (refine ev_refuse hR (by omega) (n := 5) rfl (by omega) ?_)
    | (refine br2 (fun _ => ?_) (fun _ => ?_))
    | (refine br2' (fun _ => ?_) (fun _ => ?_))
    | (with_reducible refine spl (fun _ => ?_) (fun _ => ?_))
    | (with_reducible refine spl' (fun _ => ?_) (fun _ => ?_)))
  · rename_i c1
    obtain ⟨w, w4⟩ : ∃ w : Nat, (h.1 9 6).toInt = w := ⟨(h.1 9 6).toInt.toNat, by omega⟩
    refine ev_end hR (by omega) rfl (eq_nI w4) (by omega) ?_
    show EvI G (e + 1) mX12_stop [.inr (.inr (some 94))] (sI (sI (sI h 12 w 2) 9 6 (-1)) 9 7 0) (fun y h2 => h.1 9 6 = y ∧ Inv h2)
    refine M_stop (F := vM h) (by simp only [vM_lo, Nat.reduceLT]) (by repeat' (first | exact hR | apply RF_sI)) (by omega) (by omega) (fun z => absurd z (by omega)) (fun w' z1 z2 => ?_)
    have ew : w' = w := by omega
    subst ew
    refine ⟨eq_nI w4, ?_⟩
    refine Inv_up I (upI (upI (upI (vM h) (34 + 5 * w') (Int32.toInt 2)) 6 ((-1 : Int32).toInt + 1)) 7 (Int32.toInt 0)) (by repeat' (first | exact hR | apply RF_sI)) (fun a z1 z2 z3 z4 => by unfold scr at z1; funext j; (repeat rw [sI_ne (by omega)])) (by repeat rw [sI_ne (by omega)]) (by repeat rw [sI_ne (by omega)]) (by simp (disch := omega) only [vM_sI, vM_lo, vM_hi] <;> rfl) (fun j hj => by (simp (disch := omega) only [vM_sI, vM_lo, vM_hi, c9_hi, c9_kind, c9_m, c9_size, c9_water, c9_heard, c9_whose, c9_takes, c9_worth, c9_behind, c9_how, c9_n, c9_words, c9_z, c9_bytes, c9_waits, c9_f3, c9_f4, c9_f5, c9_f7, c9_f6]); revert j hj; (repeat refine upI_on ?_); exact I.cc) (fun j hj => by simp (disch := omega) only [upI_n]) ?_ (by simp (disch := omega) only [upI_n]) (by simp (disch := omega) only [upI_n])
    have := OKF_end (v := 2) ok (by omega) (by omega)
    unfold endF at this
    rw [show (vM h 6 - 1).toNat = w' by omega] at this
    exact this
  · exact M_stop (vM_lo (by omega)) (RF_sI hR) (by omega) (by omega) (fun _ => ⟨rfl, Inv_err I rfl⟩) (by intros; exfalso; (try simp only [i_eq, i_lt, i_le, Int32.reduceToInt, Int64.reduceToInt, ti_m1, tl_m1, ti_m2, tl_m2] at *); omega)
end
