/-! best: the step -/
section
variable {G : GT} {d : Nat} {h : Hp} {Q : Int32 → Hp → Prop} {QW : Hp → Prop}
abbrev bstOk (s a1 a2 : Int) : Prop := (1 ≤ a1 ∧ a1 ≤ s) ∧ (-2 ≤ a2 ∧ a2 ≤ 4)
theorem M_best {F : Nat → Int} {a1 a2 : Int32} {p0 p1 : List Int32} (eF : vM h = F) (hR : RF h) (hd : 82 ≤ d) (ok : OKF 99999 F) (T : TxM h 95 p0 p1) {s : Int} (hs : ((1 <<< ((h.1 95 0) &&& 31)) - 1 : Int32).toInt = s) (k1 : ¬ bstOk s a1.toInt a2.toInt → Q (er 1) (sI h 98 1 (h.1 98 1 + 1)))
    (k : ∀ (h' : Hp), bstOk s a1.toInt a2.toInt → FM h (bestF F p0 a1) h' → (a2.toInt = -2 → Q (bestF F p0 a1).1 h') ∧ (a2.toInt = -1 → Q (nI (bestF F p0 a1).2.2.length) h') ∧ (∀ j : Nat, a2.toInt = j → j < (bestF F p0 a1).2.2.length → Q (nI ((bestF F p0 a1).2.2.getD j 0)) h') ∧ ((bestF F p0 a1).2.2.length ≤ a2.toInt → Q (er 2) (sI h' 98 2 (h'.1 98 2 + 1)))) : EvI G d mX12_best [.inr (.inr (some 94)), .inl a1, .inl a2] h Q := by
  obtain ⟨e, rfl⟩ := dpos (show 1 ≤ d by omega)
  subst eF
  have g2 : ((-2 : Int32)).toInt = -2 := ti_m2
  have g1 : ((-1 : Int32)).toInt = -1 := ti_m1
  refine vc_X12_best hR (ev_in hR (by omega) (br2 (fun c => ev_in32 hR (by omega) (br2' (fun c2 => ?_) (fun c2 => ev_finds hR (by omega) (n := 1) rfl (by omega) (k1 (fun z => c2 z.2))))) (fun c => ev_finds hR (by omega) (n := 1) rfl (by omega) (k1 (fun z => c ?_)))))
  · rw [l_of_i, l_of_i, hs] at c
    have c3 : -2 ≤ a2.toInt ∧ a2.toInt ≤ 4 := c2
    refine ev_findBest hR (by omega) ok T (fun h' m => ?_)
    obtain ⟨k3, k4, k5, k6⟩ := k h' ⟨c, c3⟩ m
    obtain ⟨m1, m2, m3, m4, m5, m6, m7⟩ := m
    have el : (h'.1 94 19).toInt = ((bestF (vM h) p0 a1).2.2.length : Int) := by rw [m5]; exact ti_nI (by omega)
    refine ⟨fun z => ⟨fun z2 => ⟨fun z3 => ?_, fun z3 => ?_⟩, fun z2 => ?_⟩, fun z => ?_⟩
    · rw [i_le, el] at z3
      exact ev_finds m1 (by omega) (n := 2) rfl (by omega) (k6 z3)
    · rw [i_le, el] at z3
      rw [i_eq, g2] at z
      rw [i_eq, g1] at z2
      obtain ⟨j, ej⟩ : ∃ j : Nat, a2.toInt = j := ⟨a2.toInt.toNat, by omega⟩
      refine ⟨in_of (by omega) (by omega), ?_⟩
      rw [cl_of ej, m7 j (by omega)]
      exact k5 j ej (by omega)
    · rw [i_eq, g1] at z2
      rw [m5]
      exact k4 z2
    · rw [i_eq, g2] at z
      rw [m4]
      exact k3 z
  · rw [l_of_i, l_of_i, hs]
    exact z.1
theorem step_best {a1 a2 : Int32} (I : Inv h) (hd : 100 ≤ d) : EvI G d mX11_best [.inr (.inr (some 0)), .inl a1, .inl a2] h (fun x h1 => EvI G d mX12_best [.inr (.inr (some 94)), .inl a1, .inl a2] h1 (fun y h2 => x = y ∧ Inv h2)) := by
  have hd' := hd
  have hR := I.1
  have ok := I.ok
  have n0 := I.n
  obtain ⟨p0, p1, T, T0, T1⟩ := I.tx
  have kx : ∀ k v, TxM (sI h 93 k v) 95 p0 p1 := fun k v => TxM_eq (fun j _ _ => by rw [sI_ne (by omega)]) T
  have g2 : ((-2 : Int32)).toInt = -2 := ti_m2
  have g1 : ((-1 : Int32)).toInt = -1 := ti_m1
  have e0 : h.1 1 0 = h.1 95 0 := I.e (j := 0) (by omega) rfl
  obtain ⟨s, hs⟩ : ∃ s : Int, ((1 <<< ((h.1 95 0) &&& 31)) - 1 : Int32).toInt = s := ⟨_, rfl⟩
  have okC : OKF 99999 (vC h 9 (vM h)) := by rw [I.cf]; exact ok
  obtain ⟨e, rfl⟩ := dpos (show 1 ≤ d by omega)
  have bad : ¬ bstOk s a1.toInt a2.toInt → EvI G e mX11_refuse [.inr (.inr (some 0)), .inl 1] h (fun x5 h4 => EvI G (e + 1) mX12_best [.inr (.inr (some 94)), .inl a1, .inl a2] h4 (fun y h2 => x5 = y ∧ Inv h2)) := fun z =>
    ev_refuse hR (by omega) (n := 1) rfl (by omega) (M_best (vM_lo (by omega)) (RF_sI hR) (by omega) ok (kx _ _) (s := s) (by rw [sI_ne (by omega)]; exact hs) (fun _ => ⟨rfl, Inv_err I rfl⟩) (fun h' y _ => absurd y z))
  obtain ⟨e, rfl⟩ := dpos (show 1 ≤ e by omega)
  refine vc_X11_best hR (vc_X9_sets hR ?_)
  rw [e0]
  refine ev_within hR (by omega) (br2 (fun c => ev_within hR (by omega) (br2' (fun c2 => ?_) (fun c2 => bad (fun z => c2 z.2)))) (fun c => bad (fun z => c ?_)))
  · rw [hs] at c
    have c3 : -2 ≤ a2.toInt ∧ a2.toInt ≤ 4 := c2
    have okk : bstOk s a1.toInt a2.toInt := ⟨c, c3⟩
    refine ev_find (bg := vM h) hR (by omega) okC T0 (fun h1 c4 => ?_)
    rw [I.cf] at c4
    have mz := c4.z
    have I1 := mz.inv I
    obtain ⟨m1, m2, m4, m5, m6, m7⟩ := c4
    have el : (h1.1 49 1).toInt = ((bestF (vM h) p0 a1).2.2.length : Int) := by rw [m5]; exact ti_nI (by omega)
    have h95 : h1.1 95 0 = h.1 95 0 := by rw [m2 95 (by omega) (by omega)]
    refine ⟨fun z => ⟨fun z2 => ⟨fun z3 => ?_, fun z3 => ?_⟩, fun z2 => ?_⟩, fun z => ?_⟩
    · rw [i_le, el] at z3
      refine ev_refuse m1 (by omega) (n := 2) rfl (by omega) (M_best (F := vM h) (by rw [vM_lo (by omega)]; exact mz.v) (RF_sI m1) (by omega) ok (TxM_eq (fun j _ _ => by rw [sI_ne (by omega)]) (mz.tx T)) (s := s) (by rw [sI_ne (by omega), h95]; exact hs) (fun z => absurd okk z) (fun h' _ m => ⟨fun q => ?_, fun q => ?_, fun j q q2 => ?_, fun _ => ⟨rfl, Inv_errZ I1 m.z⟩⟩))
      · omega
      · omega
      · omega
    · rw [i_le, el] at z3
      rw [i_eq, g2] at z
      rw [i_eq, g1] at z2
      obtain ⟨j, ej⟩ : ∃ j : Nat, a2.toInt = j := ⟨a2.toInt.toNat, by omega⟩
      refine ⟨in_of (by omega) (by omega), ?_⟩
      rw [cl_of ej, m7 j (by omega)]
      refine M_best mz.v m1 (by omega) ok (mz.tx T) (s := s) (by rw [h95]; exact hs) (fun z => absurd okk z) (fun h' _ m => ⟨fun q => ?_, fun q => ?_, fun j' q q2 => ⟨by rw [show j' = j by omega], m.z.inv I1⟩, fun q => ?_⟩)
      · omega
      · omega
      · omega
    · rw [i_eq, g1] at z2
      rw [m5]
      refine M_best mz.v m1 (by omega) ok (mz.tx T) (s := s) (by rw [h95]; exact hs) (fun z => absurd okk z) (fun h' _ m => ⟨fun q => ?_, fun q => ⟨rfl, m.z.inv I1⟩, fun j' q q2 => ?_, fun q => ?_⟩)
      · omega
      · omega
      · omega
    · rw [i_eq, g2] at z
      rw [m4]
      refine M_best mz.v m1 (by omega) ok (mz.tx T) (s := s) (by rw [h95]; exact hs) (fun z => absurd okk z) (fun h' _ m => ⟨fun q => ⟨rfl, m.z.inv I1⟩, fun q => ?_, fun j' q q2 => ?_, fun q => ?_⟩)
      · omega
      · omega
      · omega
  · rw [hs]
    exact z.1
end
