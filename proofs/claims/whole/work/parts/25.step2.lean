/-! PLAIN PUBLIC METHODS, on -/
section
variable {G : GT} {d : Nat} {h : Hp} {Q : Int32 → Hp → Prop} {QW : Hp → Prop}
theorem M_become {F : Nat → Int} {a1 a2 : Int32} (eF : vM h = F) (hR : RF h) (hd : 10 ≤ d) (h4 : 0 ≤ F 0 ∧ F 0 ≤ 4) (k1 : ¬ ((0 ≤ a1.toInt ∧ a1.toInt < F 0) ∧ (0 ≤ a2.toInt ∧ a2.toInt ≤ 69)) → Q (er 1) (sI h 98 1 (h.1 98 1 + 1)))
    (k : ∀ j : Nat, a1.toInt = j → (j : Int) < F 0 → j < 4 → (0 ≤ a2.toInt ∧ a2.toInt ≤ 69) → Q (h.1 95 (10 + 5 * j)) (sI (sI h 95 (10 + 5 * j) (a2 / 10)) 95 (11 + 5 * j) (a2 - a2 / 10 * 10))) : EvI G d mX12_become [.inr (.inr (some 94)), .inl a1, .inl a2] h Q := by
  obtain ⟨e, rfl⟩ := dpos (show 1 ≤ d by omega)
  subst eF
  refine vc_X12_become hR ?_
  repeat' (first
    | (refine ev_isParty hR (by omega) (by omega) ?_)
    | (refine ev_isWord hR (by omega) (by omega) ?_)
    | (refine ev_in32 hR (by omega) ?_)
    | (refine ev_finds hR (by omega) (n := 1) rfl (by omega) ?_)
    | (refine ev_finds hR (by omega) (n := 2) rfl (by omega) ?_)
    | (refine ev_finds hR (by omega) (n := 3) rfl (by omega) ?_)
    | (refine ev_finds hR (by omega) (n := 4) rfl (by omega) ?_)
    | (refine ev_finds hR (by omega) (n := 5) rfl (by omega) ?_)
    | (refine br2 (fun _ => ?_) (fun _ => ?_))
    | (refine br2' (fun _ => ?_) (fun _ => ?_))
    | (with_reducible refine spl (fun _ => ?_) (fun _ => ?_))
    | (with_reducible refine spl' (fun _ => ?_) (fun _ => ?_)))
  · rename_i c1 c2
    (try simp only [Int32.reduceToInt, Int64.reduceToInt, ti_m1, tl_m1, ti_m2, tl_m2] at *)
    obtain ⟨j, ej, j4⟩ : ∃ j : Nat, a1 = nI j ∧ a1.toInt = j := ⟨a1.toInt.toNat, eq_nI (by omega), by omega⟩
    refine ev_of hR (by omega) ej (w := 0) rfl (by omega) (by omega) (ev_sets hR (by omega) ej (w := 0) rfl (by omega) (by omega) (ev_sets hR (by omega) ej (w := 1) rfl (by omega) (by omega) ?_))
    rw [show 10 + 5 * j + 0 = 10 + 5 * j by omega, show 10 + 5 * j + 1 = 11 + 5 * j by omega]
    exact k j j4 (by omega) (by omega) c2
  · (try simp only [Int32.reduceToInt, Int64.reduceToInt, ti_m1, tl_m1, ti_m2, tl_m2] at *); exact k1 (by omega)
  · (try simp only [Int32.reduceToInt, Int64.reduceToInt, ti_m1, tl_m1, ti_m2, tl_m2] at *); exact k1 (by omega)
theorem step_become {a1 a2 : Int32} (I : Inv h) (hd : 100 ≤ d) : EvI G d mX11_become [.inr (.inr (some 0)), .inl a1, .inl a2] h (fun x h1 => EvI G d mX12_become [.inr (.inr (some 94)), .inl a1, .inl a2] h1 (fun y h2 => x = y ∧ Inv h2)) := by
  have hd' := hd
  have hR := I.1
  have n0 := I.n
  obtain ⟨e, rfl⟩ := dpos (show 1 ≤ d by omega)
  refine vc_X11_become hR ?_
  repeat' (first
    | (refine ev_hasParty hR (by omega) (by omega) ?_)
    | (refine ev_hasWord hR (by omega) (by omega) ?_)
    | (refine ev_within hR (by omega) ?_)
    | (refine ev_isKm hR (by omega) ?_)
    | (refine ev_areTwo hR (by omega) (by omega) ?_)
    | (refine ev_refuse hR (by omega) (n := 1) rfl (by omega) ?_)
    | (refine ev_refuse hR (by omega) (n := 2) rfl (by omega) ?_)
    | (refine ev_refuse hR (by omega) (n := 3) rfl (by omega) ?_)
    | (refine ev_refuse hR (by omega) (n := 4) rfl (by omega) ?_)
    | (refine ev_refuse hR (by omega) (n := 5) rfl (by omega) ?_)
    | (refine br2 (fun _ => ?_) (fun _ => ?_))
    | (refine br2' (fun _ => ?_) (fun _ => ?_))
    | (with_reducible refine spl (fun _ => ?_) (fun _ => ?_))
    | (with_reducible refine spl' (fun _ => ?_) (fun _ => ?_)))
  · rename_i c1 c2
    obtain ⟨j, ej, j4⟩ : ∃ j : Nat, a1 = nI j ∧ a1.toInt = j := ⟨a1.toInt.toNat, eq_nI (by omega), by omega⟩
    have hin : vp_in a1 4 := in_of (by omega) (by omega)
    have hcl : Int32.toNatClampNeg a1 = j := cl_of (by omega)
    rw [hcl]
    refine ⟨hin, hin, hin, ?_⟩
    refine M_become (F := vM h) (by simp only [vM_lo, Nat.reduceLT]) (by repeat' (first | exact hR | apply RF_sI)) (by omega) n0.2 (by intros; exfalso; (try simp only [i_eq, i_lt, i_le, Int32.reduceToInt, Int64.reduceToInt, ti_m1, tl_m1, ti_m2, tl_m2] at *); omega) (fun j' z1 z2 z3 z4 => ?_)
    have ej' : j' = j := by omega
    subst ej'
    refine ⟨?_, ?_⟩
    · rw [sI_ne (by omega), sI_ne (by omega)]
      exact (I.p z3).1.symm
    refine Inv_up I (upI (upI (vM h) (10 + 5 * j') (a2 / 10).toInt) (11 + 5 * j') (a2 - a2 / 10 * 10).toInt) (by repeat' (first | exact hR | apply RF_sI)) (fun a z1 z2 z3 z4 => by unfold scr at z1; funext j; (repeat rw [sI_ne (by omega)])) (by repeat rw [sI_ne (by omega)]) (by repeat rw [sI_ne (by omega)]) (by simp (disch := omega) only [vM_sI, vM_lo, vM_hi]) (fun j hj => by (simp (disch := omega) only [vM_sI, vM_lo, vM_hi, c9_hi, c9_kind, c9_m, c9_size, c9_water, c9_heard, c9_whose, c9_takes, c9_worth, c9_behind, c9_how, c9_n, c9_words, c9_z, c9_bytes, c9_waits, c9_f3, c9_f4, c9_f5, c9_f7, c9_f6]); revert j hj; (repeat refine upI_on ?_); exact I.cc) (fun j hj => by simp (disch := omega) only [upI_n]) ?_ (by simp (disch := omega) only [upI_n]) (by simp (disch := omega) only [upI_n])
    rw [ti_div (by omega) (by decide), ti_rem (by omega) (by decide)]
    (try simp only [Int32.reduceToInt, Int64.reduceToInt, ti_m1, tl_m1, ti_m2, tl_m2] at *)
    have o := I.ok.2.2.2.2.2.2.2.2.1 j' z3
    refine OKF_p (p := j') I.ok (fun i hi => by simp (disch := omega) only [upI_n]) z3 ?_
    unfold OKP at *
    simp (disch := omega) only [upI_n, upI_s]
    omega
  · exact M_become (vM_lo (by omega)) (RF_sI hR) (by omega) n0.2 (fun _ => ⟨rfl, Inv_err I rfl⟩) (by intros; exfalso; (try simp only [i_eq, i_lt, i_le, Int32.reduceToInt, Int64.reduceToInt, ti_m1, tl_m1, ti_m2, tl_m2] at *); omega)
  · exact M_become (vM_lo (by omega)) (RF_sI hR) (by omega) n0.2 (fun _ => ⟨rfl, Inv_err I rfl⟩) (by intros; exfalso; (try simp only [i_eq, i_lt, i_le, Int32.reduceToInt, Int64.reduceToInt, ti_m1, tl_m1, ti_m2, tl_m2] at *); omega)
theorem M_fetch {F : Nat → Int} {a1 a2 : Int32} (eF : vM h = F) (hR : RF h) (hd : 10 ≤ d) (ok : OKF 99999 F) (k1 : ¬ ((0 ≤ a1.toInt ∧ a1.toInt < F 0) ∧ (1 ≤ a2.toInt ∧ a2.toInt ≤ 999)) → Q (er 1) (sI h 98 1 (h.1 98 1 + 1)))
    (k : ∀ (j : Nat) (v : Int32), a1.toInt = j → (j : Int) < F 0 → j < 4 → (1 ≤ a2.toInt ∧ a2.toInt ≤ 999) → v.toInt = min (F (12 + 5 * j)) (F (13 + 5 * j) + a2.toInt) → Q v (sI h 95 (13 + 5 * j) v)) : EvI G d mX12_fetch [.inr (.inr (some 94)), .inl a1, .inl a2] h Q := by
  obtain ⟨e, rfl⟩ := dpos (show 1 ≤ d by omega)
  subst eF
  have o0 := ok.1
  refine vc_X12_fetch hR ?_
  repeat' (first
    | (refine ev_isParty hR (by omega) (by omega) ?_)
    | (refine ev_isWord hR (by omega) (by omega) ?_)
    | (refine ev_in32 hR (by omega) ?_)
    | (refine ev_finds hR (by omega) (n := 1) rfl (by omega) ?_)
    | (refine ev_finds hR (by omega) (n := 2) rfl (by omega) ?_)
    | (refine ev_finds hR (by omega) (n := 3) rfl (by omega) ?_)
    | (refine ev_finds hR (by omega) (n := 4) rfl (by omega) ?_)
    | (refine ev_finds hR (by omega) (n := 5) rfl (by omega) ?_)
    | (refine br2 (fun _ => ?_) (fun _ => ?_))
    | (refine br2' (fun _ => ?_) (fun _ => ?_))
    | (with_reducible refine spl (fun _ => ?_) (fun _ => ?_))
    | (with_reducible refine spl' (fun _ => ?_) (fun _ => ?_)))
  · rename_i c1 c2
    (try simp only [Int32.reduceToInt, Int64.reduceToInt, ti_m1, tl_m1, ti_m2, tl_m2] at *)
    have j4 : a1.toInt.toNat < 4 := by omega
    have ej : a1 = nI a1.toInt.toNat := eq_nI (by omega)
    obtain ⟨p1, p2, p3, p4, p5⟩ := ok.2.2.2.2.2.2.2.2.1 _ j4
    refine ev_of hR (by omega) ej (w := 3) rfl (by omega) (by omega) (ev_of hR (by omega) ej (w := 2) rfl (by omega) (by omega) ?_)
    rw [show 10 + 5 * a1.toInt.toNat + 3 = 13 + 5 * a1.toInt.toNat by omega, show 10 + 5 * a1.toInt.toNat + 2 = 12 + 5 * a1.toInt.toNat by omega]
    have e1 : (h.1 95 (13 + 5 * a1.toInt.toNat) + a2).toInt = vM h (13 + 5 * a1.toInt.toNat) + a2.toInt := ti_add (by show _ ≤ vM h _ + _; omega) (by show vM h _ + _ < _; omega)
    have eh : (hd3 (h.1 95 (13 + 5 * a1.toInt.toNat) + a2) 0 (h.1 95 (12 + 5 * a1.toInt.toNat))).toInt = min (vM h (12 + 5 * a1.toInt.toNat)) (vM h (13 + 5 * a1.toInt.toNat) + a2.toInt) := by
      rw [hd3_i (by show 0 ≤ vM h _; omega), e1]
      show max 0 (min (vM h _) _) = _
      omega
    refine ev_heldM hR (by omega) (by show 0 ≤ vM h _; omega) (ev_sets hR (by omega) ej (w := 3) rfl (by omega) (by omega) (ev_of (RF_sI hR) (by omega) ej (w := 3) rfl (by omega) (by omega) ?_))
    rw [show 10 + 5 * a1.toInt.toNat + 3 = 13 + 5 * a1.toInt.toNat by omega, sI_self]
    exact k _ _ (by omega) (by omega) j4 c2 eh
  · (try simp only [Int32.reduceToInt, Int64.reduceToInt, ti_m1, tl_m1, ti_m2, tl_m2] at *); exact k1 (by omega)
  · exact k1 (by omega)
theorem step_fetch {a1 a2 : Int32} (I : Inv h) (hd : 100 ≤ d) : EvI G d mX11_fetch [.inr (.inr (some 0)), .inl a1, .inl a2] h (fun x h1 => EvI G d mX12_fetch [.inr (.inr (some 94)), .inl a1, .inl a2] h1 (fun y h2 => x = y ∧ Inv h2)) := by
  have hd' := hd
  have hR := I.1
  have n0 := I.n
  obtain ⟨e, rfl⟩ := dpos (show 1 ≤ d by omega)
  refine vc_X11_fetch hR ?_
  repeat' (first
    | (refine ev_hasParty hR (by omega) (by omega) ?_)
    | (refine ev_hasWord hR (by omega) (by omega) ?_)
    | (refine ev_within hR (by omega) ?_)
    | (refine ev_isKm hR (by omega) ?_)
    | (refine ev_areTwo hR (by omega) (by omega) ?_)
    | (refine ev_refuse hR (by omega) (n := 1) rfl (by omega) ?_)
    | (refine ev_refuse hR (by omega) (n := 2) rfl (by omega) ?_)
    | (refine ev_refuse hR (by omega) (n := 3) rfl (by omega) ?_)
    | (refine ev_refuse hR (by omega) (n := 4) rfl (by omega) ?_)
    | (refine ev_refuse hR (by omega) (n := 5) rfl (by omega) ?_)
    | (refine br2 (fun _ => ?_) (fun _ => ?_))
    | (refine br2' (fun _ => ?_) (fun _ => ?_))
    | (with_reducible refine spl (fun _ => ?_) (fun _ => ?_))
    | (with_reducible refine spl' (fun _ => ?_) (fun _ => ?_)))
  · rename_i c1 c2
    obtain ⟨j, ej, j4⟩ : ∃ j : Nat, a1 = nI j ∧ a1.toInt = j := ⟨a1.toInt.toNat, eq_nI (by omega), by omega⟩
    have hin : vp_in a1 4 := in_of (by omega) (by omega)
    have hcl : Int32.toNatClampNeg a1 = j := cl_of (by omega)
    rw [hcl]
    refine ⟨hin, hin, hin, ?_⟩
    rintro _ rfl
    (try simp only [Int32.reduceToInt, Int64.reduceToInt, ti_m1, tl_m1, ti_m2, tl_m2] at *)
    have j4' : j < 4 := by omega
    have o := I.ok.2.2.2.2.2.2.2.2.1 j j4'
    have ip := I.p j4'
    have o' := o
    unfold OKP at o'
    have e3 : (h.1 10 j).toInt = vM h (13 + 5 * j) := by rw [← ip.2.2.2.1] <;> rfl
    have e2 : (h.1 4 j).toInt = vM h (12 + 5 * j) := by rw [← ip.2.2.1] <;> rfl
    have e1 : (h.1 10 j + a2).toInt = vM h (13 + 5 * j) + a2.toInt := by rw [ti_add (by omega) (by omega), e3]
    have ev : (if h.1 10 j + a2 < h.1 4 j then h.1 10 j + a2 else h.1 4 j).toInt = min (vM h (12 + 5 * j)) (vM h (13 + 5 * j) + a2.toInt) := by
      simp only [i_lt]
      split <;> omega
    refine M_fetch (F := vM h) (by simp only [vM_lo, Nat.reduceLT]) (by repeat' (first | exact hR | apply RF_sI)) (by omega) I.ok (by intros; exfalso; (try simp only [i_eq, i_lt, i_le, Int32.reduceToInt, Int64.reduceToInt, ti_m1, tl_m1, ti_m2, tl_m2] at *); omega) (fun j' v z1 z2 z3 z4 z5 => ?_)
    have ej' : j' = j := by omega
    subst ej'
    have evv : (if h.1 10 j' + a2 < h.1 4 j' then h.1 10 j' + a2 else h.1 4 j') = v := by rw [i_eq, ev, z5]
    rw [evv]
    refine ⟨rfl, ?_⟩
    refine Inv_up I (upI (vM h) (13 + 5 * j') v.toInt) (by repeat' (first | exact hR | apply RF_sI)) (fun a z1 z2 z3 z4 => by unfold scr at z1; funext j; (repeat rw [sI_ne (by omega)])) (by repeat rw [sI_ne (by omega)]) (by repeat rw [sI_ne (by omega)]) (by simp (disch := omega) only [vM_sI, vM_lo, vM_hi]) (fun j hj => by (simp (disch := omega) only [vM_sI, vM_lo, vM_hi, c9_hi, c9_kind, c9_m, c9_size, c9_water, c9_heard, c9_whose, c9_takes, c9_worth, c9_behind, c9_how, c9_n, c9_words, c9_z, c9_bytes, c9_waits, c9_f3, c9_f4, c9_f5, c9_f7, c9_f6]); revert j hj; (repeat refine upI_on ?_); exact I.cc) (fun j hj => by simp (disch := omega) only [upI_n]) ?_ (by simp (disch := omega) only [upI_n]) (by simp (disch := omega) only [upI_n])
    refine OKF_p (p := j') I.ok (fun i hi => by simp (disch := omega) only [upI_n]) z3 ?_
    unfold OKP at *
    simp (disch := omega) only [upI_n, upI_s]
    omega
  · exact M_fetch (vM_lo (by omega)) (RF_sI hR) (by omega) I.ok (fun _ => ⟨rfl, Inv_err I rfl⟩) (by intros; exfalso; (try simp only [i_eq, i_lt, i_le, Int32.reduceToInt, Int64.reduceToInt, ti_m1, tl_m1, ti_m2, tl_m2] at *); omega)
  · exact M_fetch (vM_lo (by omega)) (RF_sI hR) (by omega) I.ok (fun _ => ⟨rfl, Inv_err I rfl⟩) (by intros; exfalso; (try simp only [i_eq, i_lt, i_le, Int32.reduceToInt, Int64.reduceToInt, ti_m1, tl_m1, ti_m2, tl_m2] at *); omega)
end
