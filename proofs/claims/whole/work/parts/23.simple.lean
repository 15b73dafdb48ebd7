/-! PLAIN PUBLIC METHODS -/
section
variable {G : GT} {d : Nat} {h : Hp} {Q : Int32 → Hp → Prop} {QW : Hp → Prop}
theorem ev_in32 {a0 : Int32} {a1 a2 : Int64} (hR : RF h) (hd : 1 ≤ d) (k : Q (b2 (a1.toInt ≤ a0.toInt ∧ a0.toInt ≤ a2.toInt)) h) : EvI G d mX12_in [.inr (.inl (Int32.toInt64 a0)), .inr (.inl a1), .inr (.inl a2)] h Q := by
  refine ev_in hR hd ?_
  rw [l_of_i]
  exact k
theorem ev_isKm {a0 : Int32} (hR : RF h) (hd : 2 ≤ d) (k : Q (b2 (0 ≤ a0.toInt ∧ a0.toInt ≤ 69)) h) : EvI G d mX11_isKm [.inl a0] h Q := by
  obtain ⟨e, rfl⟩ := dpos (show 1 ≤ d by omega)
  exact vc_X11_isKm hR (ev_within hR (by omega) ⟨b2_nar, k⟩)
theorem ev_areTwo {a1 a2 : Int32} (hR : RF h) (hd : 2 ≤ d) (h4 : (h.1 1 0).toInt ≤ 4) (k : Q (b2 ((0 ≤ a1.toInt ∧ a1.toInt < (h.1 1 0).toInt) ∧ (0 ≤ a2.toInt ∧ a2.toInt < (h.1 1 0).toInt) ∧ ¬ a1.toInt = a2.toInt)) h) : EvI G d mX11_areTwo [.inr (.inr (some 0)), .inl a1, .inl a2] h Q := by
  obtain ⟨e, rfl⟩ := dpos (show 1 ≤ d by omega)
  refine vc_X11_areTwo hR (ev_hasParty hR (by omega) h4 (br2 (fun c => ev_hasParty hR (by omega) h4 (br2 (fun c2 => ?_) (fun c2 => ?_))) (fun c => ?_)))
  · rw [i_eq]
    refine ⟨fun c3 => ?_, fun c3 => ?_⟩
    · rw [b2_f (by omega)] at k; exact k
    · rw [b2_t (by omega)] at k; exact k
  · rw [b2_f (by omega)] at k; exact k
  · rw [b2_f (by omega)] at k; exact k
abbrev er (k : Int32) : Int32 := (-1000000000) - k
theorem M_thumb {a1 : Int32} (hR : RF h) (hd : 10 ≤ d) (k1 : ¬ (0 ≤ a1.toInt ∧ a1.toInt ≤ 1) → Q (er 1) (sI h 98 1 (h.1 98 1 + 1))) (k : 0 ≤ a1.toInt ∧ a1.toInt ≤ 1 → Q (h.1 95 5) (sI h 95 5 a1)) : EvI G d mX12_thumb [.inr (.inr (some 94)), .inl a1] h Q := by
  obtain ⟨e, rfl⟩ := dpos (show 1 ≤ d by omega)
  refine vc_X12_thumb hR ?_
  repeat' (first
    | (refine ev_isParty hR (by omega) (by omega) ?_)
    | (refine ev_isWord hR (by omega) (by omega) ?_)
    | (refine ev_in32 hR (by omega) ?_)
    | (refine ev_finds hR (by omega) (n := 1) rfl (by omega) ?_)
    | (refine ev_finds hR (by omega) (n := 2) rfl (by omega) ?_)
    | (refine ev_finds hR (by omega) (n := 3) rfl (by omega) ?_)
    | (refine ev_finds hR (by omega) (n := 4) rfl (by omega) ?_)
    | (refine ev_finds hR (by omega) (n := 5) rfl (by omega) ?_)
    | (refine br2 (fun _ => ?_) (fun _ => ?_))
    | (refine br2' (fun _ => ?_) (fun _ => ?_)))
  · exact k (by assumption)
  · exact k1 (by assumption)
theorem M_fetch {a1 a2 : Int32} (hR : RF h) (hd : 10 ≤ d) (ok : OKF 99999 (vM h)) (k1 : ¬ ((0 ≤ a1.toInt ∧ a1.toInt < vM h 0) ∧ (1 ≤ a2.toInt ∧ a2.toInt ≤ 999)) → Q (er 1) (sI h 98 1 (h.1 98 1 + 1)))
    (k : ∀ j v, a1 = nI j → (j : Int) < vM h 0 → j < 4 → 1 ≤ a2.toInt → a2.toInt ≤ 999 → v.toInt = min (vM h (12 + 5 * j)) (vM h (13 + 5 * j) + a2.toInt) → Q v (sI h 95 (13 + 5 * j) v)) : EvI G d mX12_fetch [.inr (.inr (some 94)), .inl a1, .inl a2] h Q := by
  obtain ⟨e, rfl⟩ := dpos (show 1 ≤ d by omega)
  have o0 := ok.1
  refine vc_X12_fetch hR ?_
  repeat' (first
    | (refine ev_isParty hR (by omega) (by omega) ?_)
    | (refine ev_isWord hR (by omega) (by omega) ?_)
    | (refine ev_in32 hR (by omega) ?_)
    | (refine ev_finds hR (by omega) (n := 1) rfl (by omega) ?_)
    | (refine ev_finds hR (by omega) (n := 2) rfl (by omega) ?_)
    | (refine ev_finds hR (by omega) (n := 3) rfl (by omega) ?_)
    | (refine ev_finds hR (by omega) (n := 4) rfl (by omega) ?_)
    | (refine ev_finds hR (by omega) (n := 5) rfl (by omega) ?_)
    | (refine br2 (fun _ => ?_) (fun _ => ?_))
    | (refine br2' (fun _ => ?_) (fun _ => ?_)))
  · rename_i c1 c2
    simp only [Int32.reduceToInt, Int64.reduceToInt] at *
    have j4 : a1.toInt.toNat < 4 := by omega
    have ej : a1 = nI a1.toInt.toNat := eq_nI (by omega)
    obtain ⟨p1, p2, p3, p4, p5⟩ := ok.2.2.2.2.2.2.2.2.1 _ j4
    refine ev_of hR (by omega) ej (w := 3) rfl (by omega) (by omega) (ev_of hR (by omega) ej (w := 2) rfl (by omega) (by omega) ?_)
    rw [show 10 + 5 * a1.toInt.toNat + 3 = 13 + 5 * a1.toInt.toNat by omega, show 10 + 5 * a1.toInt.toNat + 2 = 12 + 5 * a1.toInt.toNat by omega]
    have e1 : (h.1 95 (13 + 5 * a1.toInt.toNat) + a2).toInt = vM h (13 + 5 * a1.toInt.toNat) + a2.toInt := ti_add (by show _ ≤ vM h _ + _; omega) (by show vM h _ + _ < _; omega)
    have eh : (hd3 (h.1 95 (13 + 5 * a1.toInt.toNat) + a2) 0 (h.1 95 (12 + 5 * a1.toInt.toNat))).toInt = min (vM h (12 + 5 * a1.toInt.toNat)) (vM h (13 + 5 * a1.toInt.toNat) + a2.toInt) := by
      rw [hd3_i (by show 0 ≤ vM h _; omega), e1]
      show max 0 (min (vM h _) _) = _
      omega
    refine ev_heldM hR (by omega) (by show 0 ≤ vM h _; omega) (ev_sets hR (by omega) ej (w := 3) rfl (by omega) (by omega) (ev_of (RF_sI hR) (by omega) ej (w := 3) rfl (by omega) (by omega) ?_))
    rw [show 10 + 5 * a1.toInt.toNat + 3 = 13 + 5 * a1.toInt.toNat by omega, sI_self]
    exact k _ _ ej (by omega) j4 (by omega) (by omega) eh
  · simp only [Int32.reduceToInt, Int64.reduceToInt] at *; exact k1 (by omega)
  · exact k1 (by omega)
theorem step_thumb {a1 : Int32} (I : Inv h) (hd : 100 ≤ d) : EvI G d mX11_thumb [.inr (.inr (some 0)), .inl a1] h (fun x h1 => EvI G d mX12_thumb [.inr (.inr (some 94)), .inl a1] h1 (fun y h2 => x = y ∧ Inv h2)) := by
  have hd' := hd
  have hR := I.1
  obtain ⟨e, rfl⟩ := dpos (show 1 ≤ d by omega)
  refine vc_X11_thumb hR ?_
  repeat' (first
    | (refine ev_hasParty hR (by omega) (by omega) ?_)
    | (refine ev_hasWord hR (by omega) (by omega) ?_)
    | (refine ev_within hR (by omega) ?_)
    | (refine ev_isKm hR (by omega) ?_)
    | (refine ev_areTwo hR (by omega) (by omega) ?_)
    | (refine ev_refuse hR (by omega) (n := 1) rfl (by omega) ?_)
    | (refine ev_refuse hR (by omega) (n := 2) rfl (by omega) ?_)
    | (refine ev_refuse hR (by omega) (n := 3) rfl (by omega) ?_)
    | (refine ev_refuse hR (by omega) (n := 4) rfl (by omega) ?_)
    | (refine ev_refuse hR (by omega) (n := 5) rfl (by omega) ?_)
    | (refine br2 (fun _ => ?_) (fun _ => ?_))
    | (refine br2' (fun _ => ?_) (fun _ => ?_)))
  · rename_i c1
    refine M_thumb (RF_sI hR) (by omega) (fun z => absurd c1 z) (fun z => ?_)
    have e5 : (sI h 9 5 a1).1 95 5 = h.1 95 5 := sI_ne (by omega)
    rw [e5]
    refine ⟨?_, Inv_upA I hR (fun a h1 h2 h3 h4 => ?_) ?_ ?_ (fun j h1 h2 => ?_) (fun j hj => ?_) ?_ ?_ ?_⟩
    · rw [i_eq]; exact I.c (bg := z0) (j := 5) (by omega)
    · funext j; rw [sI_ne (by omega), sI_ne (by omega)]
    · rw [sI_ne (by omega), sI_ne (by omega)]
    · rw [sI_ne (by omega), sI_ne (by omega)]
    · rw [sI_ne (by omega), sI_ne (by omega)]
    · have e1 : vM (sI (sI h 9 5 a1) 95 5 a1) = upI (vM h) 5 a1.toInt := by rw [vM_sI, vM_off (by omega)]
      have e2 : vC (sI (sI h 9 5 a1) 95 5 a1) 9 z0 = upI (vC h 9 z0) 5 a1.toInt := by
        rw [vC_off (h := sI h 9 5 a1) (fun a ha => by funext j; exact sI_ne (by omega)), vC_flow (by omega) (by omega), if_neg (by omega)]
      rw [e1, e2]
      exact upI_on (fun j hj => (I.c hj).symm) j hj
    · rw [vM_sI, vM_off (by omega)]
      sorry
    · sorry
    · sorry
  · rename_i c1
    exact M_thumb (RF_sI hR) (by omega) (fun z => ⟨rfl, Inv_err I rfl⟩) (fun z => absurd z c1)
end
