/-! PLAIN PUBLIC METHODS -/
theorem ti_m1 : (-1 : Int32).toInt = -1 := rfl
theorem tl_m1 : (-1 : Int64).toInt = -1 := rfl
theorem ti_m2 : (-2 : Int32).toInt = -2 := rfl
theorem tl_m2 : (-2 : Int64).toInt = -2 := rfl
section
variable {G : GT} {d : Nat} {h : Hp} {Q : Int32 → Hp → Prop} {QW : Hp → Prop}
theorem spl {c A B : Prop} (t : c → A) (f : ¬ c → B) : (c → A) ∧ (¬ c → B) := ⟨t, f⟩
theorem spl' {c A B : Prop} (f : ¬ c → A) (t : c → B) : (¬ c → A) ∧ (c → B) := ⟨f, t⟩
theorem ev_in32 {a0 : Int32} {a1 a2 : Int64} (hR : RF h) (hd : 1 ≤ d) (k : Q (b2 (a1.toInt ≤ a0.toInt ∧ a0.toInt ≤ a2.toInt)) h) : EvI G d mX12_in [.inr (.inl (Int32.toInt64 a0)), .inr (.inl a1), .inr (.inl a2)] h Q := by
  refine ev_in hR hd ?_
  rw [l_of_i]
  exact k
theorem ev_isKm {a0 : Int32} (hR : RF h) (hd : 2 ≤ d) (k : Q (b2 (0 ≤ a0.toInt ∧ a0.toInt ≤ 69)) h) : EvI G d mX11_isKm [.inl a0] h Q := by
  obtain ⟨e, rfl⟩ := dpos (show 1 ≤ d by omega)
  exact vc_X11_isKm hR (ev_within hR (by omega) ⟨b2_nar, k⟩)
theorem ev_areTwo {a1 a2 : Int32} (hR : RF h) (hd : 2 ≤ d) (h4 : (h.1 1 0).toInt ≤ 4) (k : Q (b2 ((0 ≤ a1.toInt ∧ a1.toInt < (h.1 1 0).toInt) ∧ (0 ≤ a2.toInt ∧ a2.toInt < (h.1 1 0).toInt) ∧ ¬ a1.toInt = a2.toInt)) h) : EvI G d mX11_areTwo [.inr (.inr (some 0)), .inl a1, .inl a2] h Q := by
  obtain ⟨e, rfl⟩ := dpos (show 1 ≤ d by omega)
  refine vc_X11_areTwo hR (ev_hasParty hR (by omega) h4 (br2 (fun c => ev_hasParty hR (by omega) h4 (br2 (fun c2 => ?_) (fun c2 => ?_))) (fun c => ?_)))
  · rw [i_eq]
    refine ⟨fun c3 => ?_, fun c3 => ?_⟩
    · rw [b2_f (by omega)] at k; exact k
    · rw [b2_t (by omega)] at k; exact k
  · rw [b2_f (by omega)] at k; exact k
  · rw [b2_f (by omega)] at k; exact k
theorem ti_nI1 {j : Nat} (h : j < 1000000) : (nI j + 1).toInt = (j : Int) + 1 := by
  rw [ti_add (by rw [ti_nI (by omega)]; simp only [Int32.reduceToInt]; omega) (by rw [ti_nI (by omega)]; simp only [Int32.reduceToInt]; omega), ti_nI (by omega)]
  rfl
abbrev er (k : Int32) : Int32 := (-1000000000) - k
theorem M_thumb {a1 : Int32} (hR : RF h) (hd : 10 ≤ d) (k1 : ¬ (0 ≤ a1.toInt ∧ a1.toInt ≤ 1) → Q (er 1) (sI h 98 1 (h.1 98 1 + 1))) (k : 0 ≤ a1.toInt ∧ a1.toInt ≤ 1 → Q (h.1 95 5) (sI h 95 5 a1)) : EvI G d mX12_thumb [.inr (.inr (some 94)), .inl a1] h Q := by
  obtain ⟨e, rfl⟩ := dpos (show 1 ≤ d by omega)
  refine vc_X12_thumb hR ?_
  repeat' (first
    | (refine ev_isParty hR (by omega) (by omega) ?_)
    | (refine ev_isWord hR (by omega) (by omega) ?_)
    | (refine ev_in32 hR (by omega) ?_)
    | (refine ev_finds hR (by omega) (n := 1) rfl (by omega) ?_)
    | (refine ev_finds hR (by omega) (n := 2) rfl (by omega) ?_)
    | (refine ev_finds hR (by omega) (n := 3) rfl (by omega) ?_)
    | (refine ev_finds hR (by omega) (n := 4) rfl (by omega) ?_)
    | (refine ev_finds hR (by omega) (n := 5) rfl (by omega) ?_)
    | (refine br2 (fun _ => ?_) (fun _ => ?_))
    | (refine br2' (fun _ => ?_) (fun _ => ?_))
    | (with_reducible refine spl (fun _ => ?_) (fun _ => ?_))
    | (with_reducible refine spl' (fun _ => ?_) (fun _ => ?_)))
  · exact k (by assumption)
  · exact k1 (by assumption)
theorem step_thumb {a1 : Int32} (I : Inv h) (hd : 100 ≤ d) : EvI G d mX11_thumb [.inr (.inr (some 0)), .inl a1] h (fun x h1 => EvI G d mX12_thumb [.inr (.inr (some 94)), .inl a1] h1 (fun y h2 => x = y ∧ Inv h2)) := by
  have hd' := hd
  have hR := I.1
  obtain ⟨e, rfl⟩ := dpos (show 1 ≤ d by omega)
  refine vc_X11_thumb hR ?_
  repeat' (first
    | (refine ev_hasParty hR (by omega) (by omega) ?_)
    | (refine ev_hasWord hR (by omega) (by omega) ?_)
    | (refine ev_within hR (by omega) ?_)
    | (refine ev_isKm hR (by omega) ?_)
    | (refine ev_areTwo hR (by omega) (by omega) ?_)
    | (refine ev_refuse hR (by omega) (n := 1) rfl (by omega) ?_)
    | (refine ev_refuse hR (by omega) (n := 2) rfl (by omega) ?_)
    | (refine ev_refuse hR (by omega) (n := 3) rfl (by omega) ?_)
    | (refine ev_refuse hR (by omega) (n := 4) rfl (by omega) ?_)
    | (refine ev_refuse hR (by omega) (n := 5) rfl (by omega) ?_)
    | (refine br2 (fun _ => ?_) (fun _ => ?_))
    | (refine br2' (fun _ => ?_) (fun _ => ?_))
    | (with_reducible refine spl (fun _ => ?_) (fun _ => ?_))
    | (with_reducible refine spl' (fun _ => ?_) (fun _ => ?_)))
  · refine M_thumb (RF_sI hR) (by omega) (by intros; exfalso; (try simp only [i_eq, i_lt, i_le, Int32.reduceToInt, Int64.reduceToInt, ti_m1, tl_m1, ti_m2, tl_m2] at *); omega) (fun z => ⟨?_, ?_⟩)
    · rw [sI_ne (by omega), i_eq]; exact I.c (bg := z0) (j := 5) (by omega)
    · refine Inv_up I (upI (vM h) 5 a1.toInt) (by repeat' (first | exact hR | apply RF_sI)) (fun a z1 z2 z3 z4 => by unfold scr at z1; funext j; (repeat rw [sI_ne (by omega)])) (by repeat rw [sI_ne (by omega)]) (by repeat rw [sI_ne (by omega)]) (by simp (disch := omega) only [vM_sI, vM_lo, vM_hi]) (fun j hj => by (simp (disch := omega) only [vM_sI, vM_lo, vM_hi, c9_hi, c9_kind, c9_m, c9_size, c9_water, c9_heard, c9_whose, c9_takes, c9_worth, c9_behind, c9_how, c9_n, c9_words, c9_z, c9_bytes, c9_waits, c9_f3, c9_f4, c9_f5, c9_f7, c9_f6]); revert j hj; (repeat refine upI_on ?_); exact I.cc) (fun j hj => by simp (disch := omega) only [upI_n]) ?_ (by simp (disch := omega) only [upI_n]) (by simp (disch := omega) only [upI_n])
      exact OKF_5 I.ok z
  · exact M_thumb (RF_sI hR) (by omega) (fun _ => ⟨rfl, Inv_err I rfl⟩) (by intros; exfalso; (try simp only [i_eq, i_lt, i_le, Int32.reduceToInt, Int64.reduceToInt, ti_m1, tl_m1, ti_m2, tl_m2] at *); omega)
theorem M_party {F : Nat → Int} {a1 a2 : Int32} (eF : vM h = F) (hR : RF h) (hd : 10 ≤ d) (h4 : 0 ≤ F 0 ∧ F 0 ≤ 4) (k1 : ¬ ((0 ≤ a1.toInt ∧ a1.toInt ≤ 69) ∧ (1 ≤ a2.toInt ∧ a2.toInt ≤ 999)) → Q (er 1) (sI h 98 1 (h.1 98 1 + 1)))
    (k4 : ((0 ≤ a1.toInt ∧ a1.toInt ≤ 69) ∧ (1 ≤ a2.toInt ∧ a2.toInt ≤ 999)) → F 0 = 4 → Q (er 4) (sI h 98 4 (h.1 98 4 + 1)))
    (k : ∀ j : Nat, (0 ≤ a1.toInt ∧ a1.toInt ≤ 69) → (1 ≤ a2.toInt ∧ a2.toInt ≤ 999) → F 0 = j → j < 4 → Q (nI j) (sI (sI (sI (sI (sI (sI h 95 0 (nI j + 1)) 95 (10 + 5 * j) (a1 / 10)) 95 (11 + 5 * j) (a1 - a1 / 10 * 10)) 95 (12 + 5 * j) a2) 95 (13 + 5 * j) 0) 95 (14 + 5 * j) 0)) : EvI G d mX12_party [.inr (.inr (some 94)), .inl a1, .inl a2] h Q := by
  obtain ⟨e, rfl⟩ := dpos (show 1 ≤ d by omega)
  subst eF
  refine vc_X12_party hR ?_
  repeat' (first
    | (refine ev_isParty hR (by omega) (by omega) ?_)
    | (refine ev_isWord hR (by omega) (by omega) ?_)
    | (refine ev_in32 hR (by omega) ?_)
    | (refine ev_finds hR (by omega) (n := 1) rfl (by omega) ?_)
    | (refine ev_finds hR (by omega) (n := 2) rfl (by omega) ?_)
    | (refine ev_finds hR (by omega) (n := 3) rfl (by omega) ?_)
    | (refine ev_finds hR (by omega) (n := 4) rfl (by omega) ?_)
    | (refine ev_finds hR (by omega) (n := 5) rfl (by omega) ?_)
    | (refine br2 (fun _ => ?_) (fun _ => ?_))
    | (refine br2' (fun _ => ?_) (fun _ => ?_))
    | (with_reducible refine spl (fun _ => ?_) (fun _ => ?_))
    | (with_reducible refine spl' (fun _ => ?_) (fun _ => ?_)))
  · rename_i c1 c2 c3
    (try simp only [Int32.reduceToInt, Int64.reduceToInt, ti_m1, tl_m1, ti_m2, tl_m2] at *)
    have e0 : (h.1 95 0).toInt = vM h 0 := rfl
    obtain ⟨j, ej⟩ : ∃ j : Nat, vM h 0 = j := ⟨(vM h 0).toNat, by omega⟩
    have en : h.1 95 0 = nI j := eq_nI (by omega)
    rw [i_eq] at c3
    simp only [Int32.reduceToInt] at c3
    refine ev_sets hR (by omega) en (w := 0) rfl (by omega) (by omega) (ev_sets hR (by omega) en (w := 1) rfl (by omega) (by omega) (ev_sets hR (by omega) en (w := 2) rfl (by omega) (by omega) (ev_sets hR (by omega) en (w := 3) rfl (by omega) (by omega) (ev_sets hR (by omega) en (w := 4) rfl (by omega) (by omega) ?_))))
    rw [en, show 10 + 5 * j + 0 = 10 + 5 * j by omega, show 10 + 5 * j + 1 = 11 + 5 * j by omega, show 10 + 5 * j + 2 = 12 + 5 * j by omega, show 10 + 5 * j + 3 = 13 + 5 * j by omega, show 10 + 5 * j + 4 = 14 + 5 * j by omega]
    exact k j c1 c2 ej (by omega)
  · rename_i c1 c2 c3
    have e0 : (h.1 95 0).toInt = vM h 0 := rfl
    rw [i_eq] at c3
    (try simp only [Int32.reduceToInt, Int64.reduceToInt, ti_m1, tl_m1, ti_m2, tl_m2] at *)
    exact k4 ⟨c1, c2⟩ (by omega)
  · (try simp only [Int32.reduceToInt, Int64.reduceToInt, ti_m1, tl_m1, ti_m2, tl_m2] at *); exact k1 (by omega)
  · (try simp only [Int32.reduceToInt, Int64.reduceToInt, ti_m1, tl_m1, ti_m2, tl_m2] at *); exact k1 (by omega)
theorem step_party {a1 a2 : Int32} (I : Inv h) (hd : 100 ≤ d) : EvI G d mX11_party [.inr (.inr (some 0)), .inl a1, .inl a2] h (fun x h1 => EvI G d mX12_party [.inr (.inr (some 94)), .inl a1, .inl a2] h1 (fun y h2 => x = y ∧ Inv h2)) := by
  have hd' := hd
  have hR := I.1
  have n0 := I.n
  obtain ⟨e, rfl⟩ := dpos (show 1 ≤ d by omega)
  refine vc_X11_party hR ?_
  repeat' (first
    | (refine ev_hasParty hR (by omega) (by omega) ?_)
    | (refine ev_hasWord hR (by omega) (by omega) ?_)
    | (refine ev_within hR (by omega) ?_)
    | (refine ev_isKm hR (by omega) ?_)
    | (refine ev_areTwo hR (by omega) (by omega) ?_)
    | (refine ev_refuse hR (by omega) (n := 1) rfl (by omega) ?_)
    | (refine ev_refuse hR (by omega) (n := 2) rfl (by omega) ?_)
    | (refine ev_refuse hR (by omega) (n := 3) rfl (by omega) ?_)
    | (refine ev_refuse hR (by omega) (n := 4) rfl (by omega) ?_)
    | (refine ev_refuse hR (by omega) (n := 5) rfl (by omega) ?_)
    | (refine br2 (fun _ => ?_) (fun _ => ?_))
    | (refine br2' (fun _ => ?_) (fun _ => ?_))
    | (with_reducible refine spl (fun _ => ?_) (fun _ => ?_))
    | (with_reducible refine spl' (fun _ => ?_) (fun _ => ?_)))
  · rename_i c1 c2 c3
    rw [i_lt] at c3
    (try simp only [Int32.reduceToInt, Int64.reduceToInt, ti_m1, tl_m1, ti_m2, tl_m2] at *)
    obtain ⟨j, ej⟩ : ∃ j : Nat, vM h 0 = j := ⟨(vM h 0).toNat, by omega⟩
    have en : h.1 1 0 = nI j := eq_nI (by omega)
    have en2 : h.1 95 0 = nI j := eq_nI ej
    obtain ⟨d, rfl⟩ := dpos (show 1 ≤ e by omega)
    refine vc_X9_addParty hR (ev_within hR (by omega) (br2' (fun _ => ?_) (by intros; exfalso; (try simp only [i_eq, i_lt, i_le, Int32.reduceToInt, Int64.reduceToInt, ti_m1, tl_m1, ti_m2, tl_m2] at *); omega)))
    have hin : vp_in (h.1 1 0) 4 := in_of (by omega) (by omega)
    have hcl : Int32.toNatClampNeg (nI j) = j := by rw [← en]; exact cl_of (by omega)
    rw [en] at hin
    rw [en, hcl]
    refine ⟨hin, hin, hin, ?_⟩
    rintro _ rfl
    refine ⟨hin, hin, ?_⟩
    refine M_party (F := vM h) (by simp only [vM_lo, Nat.reduceLT]) (by repeat' (first | exact hR | apply RF_sI)) (by omega) n0.2 (by intros; exfalso; (try simp only [i_eq, i_lt, i_le, Int32.reduceToInt, Int64.reduceToInt, ti_m1, tl_m1, ti_m2, tl_m2] at *); omega) (by intros; exfalso; (try simp only [i_eq, i_lt, i_le, Int32.reduceToInt, Int64.reduceToInt, ti_m1, tl_m1, ti_m2, tl_m2] at *); omega) (fun j' z1 z2 z3 z4 => ?_)
    have ej' : j' = j := by omega
    subst ej'
    refine ⟨rfl, ?_⟩
    refine Inv_up I (upI (upI (upI (upI (upI (upI (vM h) 0 (nI j' + 1).toInt) (10 + 5 * j') (a1 / 10).toInt) (11 + 5 * j') (a1 - a1 / 10 * 10).toInt) (12 + 5 * j') a2.toInt) (13 + 5 * j') (Int32.toInt 0)) (14 + 5 * j') (Int32.toInt 0)) (by repeat' (first | exact hR | apply RF_sI)) (fun a z1 z2 z3 z4 => by unfold scr at z1; funext j; (repeat rw [sI_ne (by omega)])) (by repeat rw [sI_ne (by omega)]) (by repeat rw [sI_ne (by omega)]) (by simp (disch := omega) only [vM_sI, vM_lo, vM_hi]) (fun j hj => by (simp (disch := omega) only [vM_sI, vM_lo, vM_hi, c9_hi, c9_kind, c9_m, c9_size, c9_water, c9_heard, c9_whose, c9_takes, c9_worth, c9_behind, c9_how, c9_n, c9_words, c9_z, c9_bytes, c9_waits, c9_f3, c9_f4, c9_f5, c9_f7, c9_f6]); revert j hj; (repeat refine upI_on ?_); exact I.cc) (fun j hj => by simp (disch := omega) only [upI_n]) ?_ (by simp (disch := omega) only [upI_n]) (by simp (disch := omega) only [upI_n])
    rw [ti_nI1 (by omega), ti_div (by omega) (by decide), ti_rem (by omega) (by decide)]
    (try simp only [Int32.reduceToInt, Int64.reduceToInt, ti_m1, tl_m1, ti_m2, tl_m2] at *)
    refine OKF_p (p := j') (OKF_n (v := (j' : Int) + 1) I.ok (by omega)) (fun i hi => by simp (disch := omega) only [upI_n]) z4 ?_
    unfold OKP
    simp (disch := omega) only [upI_n, upI_s]
    omega
  · exact M_party (vM_lo (by omega)) (RF_sI hR) (by omega) n0.2 (by intros; exfalso; (try simp only [i_eq, i_lt, i_le, Int32.reduceToInt, Int64.reduceToInt, ti_m1, tl_m1, ti_m2, tl_m2] at *); omega) (fun _ _ => ⟨rfl, Inv_err I rfl⟩) (by intros; exfalso; (try simp only [i_eq, i_lt, i_le, Int32.reduceToInt, Int64.reduceToInt, ti_m1, tl_m1, ti_m2, tl_m2] at *); omega)
  · exact M_party (vM_lo (by omega)) (RF_sI hR) (by omega) n0.2 (fun _ => ⟨rfl, Inv_err I rfl⟩) (by intros; exfalso; (try simp only [i_eq, i_lt, i_le, Int32.reduceToInt, Int64.reduceToInt, ti_m1, tl_m1, ti_m2, tl_m2] at *); omega) (by intros; exfalso; (try simp only [i_eq, i_lt, i_le, Int32.reduceToInt, Int64.reduceToInt, ti_m1, tl_m1, ti_m2, tl_m2] at *); omega)
  · exact M_party (vM_lo (by omega)) (RF_sI hR) (by omega) n0.2 (fun _ => ⟨rfl, Inv_err I rfl⟩) (by intros; exfalso; (try simp only [i_eq, i_lt, i_le, Int32.reduceToInt, Int64.reduceToInt, ti_m1, tl_m1, ti_m2, tl_m2] at *); omega) (by intros; exfalso; (try simp only [i_eq, i_lt, i_le, Int32.reduceToInt, Int64.reduceToInt, ti_m1, tl_m1, ti_m2, tl_m2] at *); omega)
end
