/-! move, feed, law -/
section
variable {G : GT} {d : Nat} {h : Hp} {Q : Int32 → Hp → Prop} {QW : Hp → Prop}
theorem ev_stand {a1 a2 a3 : Int32} {s : Nat} (hR : RF h) (hd : 3 ≤ d) (es : a1.toInt = s) (hs : s < 4) (hn : 0 ≤ (h.1 87 s).toInt ∧ (h.1 87 s).toInt ≤ 40) (k : Q (b2 (0 ≤ a2.toInt ∧ 0 ≤ a3.toInt ∧ a3.toInt ≤ (h.1 87 s).toInt - a2.toInt)) h) : EvI G d mX8_stand [.inr (.inr (some 85)), .inl a1, .inl a2, .inl a3] h Q := by
  obtain ⟨e, rfl⟩ := dpos (show 1 ≤ d by omega)
  have inn : vp_in a1 4 := in_of (by omega) (by omega)
  have hi2 := i_hi a2
  refine vc_X8_stand hR (ev_has hR (by omega) (br2 (fun _ => ⟨fun c2 => ?_, fun c2 => ⟨fun c3 => ?_, fun c3 => ⟨inn, ?_⟩⟩⟩) (fun c => absurd ⟨by omega, by omega⟩ c)))
  · rw [i_lt] at c2; (try simp only [Int32.reduceToInt, Int64.reduceToInt, ti_m1, tl_m1, ti_m2, tl_m2] at *)
    rw [b2_f (by omega)] at k; exact k
  · rw [i_lt] at c3; (try simp only [Int32.reduceToInt, Int64.reduceToInt, ti_m1, tl_m1, ti_m2, tl_m2] at *)
    rw [b2_f (by omega)] at k; exact k
  · rw [i_lt] at c2 c3; (try simp only [Int32.reduceToInt, Int64.reduceToInt, ti_m1, tl_m1, ti_m2, tl_m2] at *)
    rw [cl_of es]
    have e1 : (h.1 87 s - a2).toInt = (h.1 87 s).toInt - a2.toInt := ti_sub (by omega) (by omega)
    refine ⟨fun c4 => ?_, fun c4 => ⟨inn, fun c5 => ?_, fun c5 => ?_⟩⟩
    · rw [i_lt] at c4
      rw [b2_f (by omega)] at k; exact k
    · rw [i_lt, e1] at c5
      rw [b2_f (by omega)] at k; exact k
    · rw [i_lt, e1] at c5
      rw [b2_t (by omega)] at k; exact k
theorem rg_lift {h0 : Hp} {a1 a2 a3 a4 a5 : Int32} {s i n : Nat} (hR : RF h0) (es : a1.toInt = s) (ei : a2.toInt = i) (en : a5.toInt = n) (hs : s < 4) (hin : i + n ≤ 40) (k : Rg_X12_move_152 G d a3 a4 a5 0 (cpI h0 116 (40 * s + i) 117 0 n) Q) : ∀ (m t : Nat), t + m = n → Rg_X12_move_115 G d a1 a2 a3 a4 a5 (nI t) (cpI h0 116 (40 * s + i) 117 0 t) Q := by
  intro m
  induction m with
  | zero =>
    intro t ht
    have : t = n := by omega
    subst this
    refine vc_X12_move_115 (RF_cp hR) ⟨fun _ => k, fun z => ?_⟩
    exfalso
    rw [i_le, en, ti_nI (by omega)] at z
    omega
  | succ m ih =>
    intro t ht
    have et : (nI t).toInt = (t : Int) := ti_nI (by omega)
    have e40 : (((40 * a1) + a2) + nI t).toInt = ((40 * s + i + t : Nat) : Int) := ti_of (by rw [show a1 = nI s from eq_nI es, show a2 = nI i from eq_nI ei]; push_cast; simp only [oi_add, oi_mul, oi_nat]; rfl) (by omega) (by omega)
    refine vc_X12_move_115 (RF_cp hR) ⟨fun z => ?_, fun _ => ⟨in_of (by omega) (by omega), in_of (by omega) (by omega), ?_⟩⟩
    · exfalso
      rw [i_le, en, et] at z
      omega
    · rw [cl_of e40, cl_of et, nI_1, cpI_at, if_neg (by omega)]
      have e1 := @cpI_s h0 116 (40 * s + i) 117 0 t (by omega)
      rw [Nat.zero_add] at e1
      rw [e1]
      exact ih (t + 1) (by omega)
theorem rg_drop {h0 : Hp} {a3 a4 a5 : Int32} {s j n : Nat} (hR : RF h0) (es : a3.toInt = s) (ej : a4.toInt = j) (en : a5.toInt = n) (hs : s < 4) (hjn : j + n ≤ 40) (k : Q a5 (cpI h0 117 0 116 (40 * s + j) n)) : ∀ (m t : Nat), t + m = n → Rg_X12_move_152 G d a3 a4 a5 (nI t) (cpI h0 117 0 116 (40 * s + j) t) Q := by
  intro m
  induction m with
  | zero =>
    intro t ht
    have : t = n := by omega
    subst this
    refine vc_X12_move_152 (RF_cp hR) ⟨fun _ => k, fun z => ?_⟩
    exfalso
    rw [i_le, en, ti_nI (by omega)] at z
    omega
  | succ m ih =>
    intro t ht
    have et : (nI t).toInt = (t : Int) := ti_nI (by omega)
    have e40 : (((40 * a3) + a4) + nI t).toInt = ((40 * s + j + t : Nat) : Int) := ti_of (by rw [show a3 = nI s from eq_nI es, show a4 = nI j from eq_nI ej]; push_cast; simp only [oi_add, oi_mul, oi_nat]; rfl) (by omega) (by omega)
    refine vc_X12_move_152 (RF_cp hR) ⟨fun z => ?_, fun _ => ⟨in_of (by omega) (by omega), in_of (by omega) (by omega), ?_⟩⟩
    · exfalso
      rw [i_le, en, et] at z
      omega
    · rw [cl_of e40, cl_of et, nI_1, cpI_at, if_neg (by omega)]
      have e1 := @cpI_s h0 117 0 116 (40 * s + j) t (by omega)
      rw [Nat.zero_add] at e1
      rw [e1]
      exact ih (t + 1) (by omega)
abbrev stds (n1 n2 a2 a4 a5 : Int) : Prop := 0 ≤ a5 ∧ 0 ≤ a2 ∧ 0 ≤ a4 ∧ a5 ≤ n1 - a2 ∧ a5 ≤ n2 - a4
theorem M_move {a1 a2 a3 a4 a5 : Int32} (hR : RF h) (hd : 10 ≤ d) (hn : ∀ s, s < 4 → 0 ≤ (h.1 115 s).toInt ∧ (h.1 115 s).toInt ≤ 40) (k0 : ¬ ((0 ≤ a1.toInt ∧ a1.toInt ≤ 3) ∧ (0 ≤ a3.toInt ∧ a3.toInt ≤ 3)) → Q (er 1) (sI h 98 1 (h.1 98 1 + 1)))
    (k2 : ∀ s t : Nat, a1.toInt = s → s < 4 → a3.toInt = t → t < 4 → (h.1 114 s = 0 ∨ h.1 114 t = 0) → Q (er 2) (sI h 98 2 (h.1 98 2 + 1)))
    (k5 : ∀ s t : Nat, a1.toInt = s → s < 4 → a3.toInt = t → t < 4 → h.1 114 s ≠ 0 → h.1 114 t ≠ 0 → h.1 114 s ≠ h.1 114 t → Q (er 5) (sI h 98 5 (h.1 98 5 + 1)))
    (k1 : ∀ s t : Nat, a1.toInt = s → s < 4 → a3.toInt = t → t < 4 → h.1 114 s ≠ 0 → h.1 114 t ≠ 0 → h.1 114 s = h.1 114 t → ¬ stds (h.1 115 s).toInt (h.1 115 t).toInt a2.toInt a4.toInt a5.toInt → Q (er 1) (sI h 98 1 (h.1 98 1 + 1)))
    (k : ∀ s t : Nat, a1.toInt = s → s < 4 → a3.toInt = t → t < 4 → h.1 114 s ≠ 0 → h.1 114 t ≠ 0 → h.1 114 s = h.1 114 t → stds (h.1 115 s).toInt (h.1 115 t).toInt a2.toInt a4.toInt a5.toInt → Q a5 (cpI (cpI h 116 (40 * s + a2.toInt.toNat) 117 0 a5.toInt.toNat) 117 0 116 (40 * t + a4.toInt.toNat) a5.toInt.toNat)) : EvI G d mX12_move [.inr (.inr (some 94)), .inl a1, .inl a2, .inl a3, .inl a4, .inl a5] h Q := by
  obtain ⟨e, rfl⟩ := dpos (show 1 ≤ d by omega)
  have hi2 := i_hi a2
  have hi4 := i_hi a4
  refine vc_X12_move hR (ev_isSheet hR (by omega) (br2 (fun c => ev_isSheet hR (by omega) (br2' (fun c3 => ?_) (fun c3 => ev_finds hR (by omega) (n := 1) rfl (by omega) (k0 (fun z => c3 z.2))))) (fun c => ev_finds hR (by omega) (n := 1) rfl (by omega) (k0 (fun z => c z.1)))))
  obtain ⟨s, es⟩ : ∃ s : Nat, a1.toInt = s := ⟨a1.toInt.toNat, by omega⟩
  obtain ⟨t, et⟩ : ∃ t : Nat, a3.toInt = t := ⟨a3.toInt.toNat, by omega⟩
  have hs : s < 4 := by omega
  have ht : t < 4 := by omega
  have in1 : vp_in a1 4 := in_of (by omega) (by omega)
  have in3 : vp_in a3 4 := in_of (by omega) (by omega)
  have n1 := hn s hs
  have n2 := hn t ht
  rw [cl_of es, cl_of et]
  refine ⟨in1, fun z0 => ev_finds hR (by omega) (n := 2) rfl (by omega) (k2 s t es hs et ht (Or.inl z0)), fun z0 => ⟨in3, fun z1 => ⟨in1, in3, fun z2 => ?_, fun z2 => ev_finds hR (by omega) (n := 5) rfl (by omega) (k5 s t es hs et ht z0 z1 z2)⟩, fun z1 => ev_finds hR (by omega) (n := 2) rfl (by omega) (k2 s t es hs et ht (Or.inr z1))⟩⟩
  have bad : ¬ stds (h.1 115 s).toInt (h.1 115 t).toInt a2.toInt a4.toInt a5.toInt → EvI G e mX12_finds [.inr (.inr (some 94)), .inl 1] h (fun x h' => Q x h') := fun z => ev_finds hR (by omega) (n := 1) rfl (by omega) (k1 s t es hs et ht z0 z1 z2 z)
  refine ⟨fun c5 => bad ?_, fun c5 => ⟨fun c2 => bad ?_, fun c2 => ⟨fun c4 => bad ?_, fun c4 => ⟨in1, fun c6 => bad ?_, fun c6 => ⟨in3, fun c7 => ?_, fun c7 => bad ?_⟩⟩⟩⟩⟩
  · rw [i_lt] at c5; (try simp only [Int32.reduceToInt, Int64.reduceToInt, ti_m1, tl_m1, ti_m2, tl_m2] at *); unfold stds; omega
  · rw [i_lt] at c2; (try simp only [Int32.reduceToInt, Int64.reduceToInt, ti_m1, tl_m1, ti_m2, tl_m2] at *); unfold stds; omega
  · rw [i_lt] at c4; (try simp only [Int32.reduceToInt, Int64.reduceToInt, ti_m1, tl_m1, ti_m2, tl_m2] at *); unfold stds; omega
  · rw [i_lt] at c5 c2 c4; (try simp only [Int32.reduceToInt, Int64.reduceToInt, ti_m1, tl_m1, ti_m2, tl_m2] at *)
    rw [i_lt, ti_sub (by omega) (by omega)] at c6
    unfold stds; omega
  · rw [i_lt] at c5 c2 c4; (try simp only [Int32.reduceToInt, Int64.reduceToInt, ti_m1, tl_m1, ti_m2, tl_m2] at *)
    rw [i_lt, ti_sub (by omega) (by omega)] at c6
    rw [i_le, ti_sub (by omega) (by omega)] at c7
    have hst : stds (h.1 115 s).toInt (h.1 115 t).toInt a2.toInt a4.toInt a5.toInt := by unfold stds; omega
    have K := k s t es hs et ht z0 z1 z2 hst
    have d2 := rg_drop (G := G) (d := e) (h0 := cpI h 116 (40 * s + a2.toInt.toNat) 117 0 a5.toInt.toNat) (RF_cp hR) (a4 := a4) (a5 := a5) (j := a4.toInt.toNat) (n := a5.toInt.toNat) et (by omega) (by omega) ht (by omega) K a5.toInt.toNat 0 (by omega)
    rw [cpI_0] at d2
    have d1 := rg_lift (G := G) (d := e) (a2 := a2) (a3 := a3) (a4 := a4) (a5 := a5) (h0 := h) hR (i := a2.toInt.toNat) (n := a5.toInt.toNat) es (by omega) (by omega) hs (by omega) d2 a5.toInt.toNat 0 (by omega)
    rw [cpI_0] at d1
    exact d1
  · rw [i_lt] at c5 c2 c4; (try simp only [Int32.reduceToInt, Int64.reduceToInt, ti_m1, tl_m1, ti_m2, tl_m2] at *)
    rw [i_le, ti_sub (by omega) (by omega)] at c7
    unfold stds; omega
theorem step_move {a1 a2 a3 a4 a5 : Int32} (I : Inv h) (hd : 100 ≤ d) : EvI G d mX11_move [.inr (.inr (some 0)), .inl a1, .inl a2, .inl a3, .inl a4, .inl a5] h (fun x h1 => EvI G d mX12_move [.inr (.inr (some 94)), .inl a1, .inl a2, .inl a3, .inl a4, .inl a5] h1 (fun y h2 => x = y ∧ Inv h2)) := by
  have hd' := hd
  have hR := I.1
  have sh := I.sh
  have hn : ∀ s, s < 4 → 0 ≤ (h.1 115 s).toInt ∧ (h.1 115 s).toInt ≤ 40 := fun s hs => by rw [← (sh s hs).2.1]; exact (sh s hs).2.2.2.1
  have rr : ∀ k v q, q ≠ 93 → (sI h 93 k v).1 q = h.1 q := fun k v q hq => sI_row_ne hq
  have hn' : ∀ k v s, s < 4 → 0 ≤ ((sI h 93 k v).1 115 s).toInt ∧ ((sI h 93 k v).1 115 s).toInt ≤ 40 := fun k v s hs => by rw [rr _ _ _ (by omega)]; exact hn s hs
  obtain ⟨e, rfl⟩ := dpos (show 1 ≤ d by omega)
  have bad0 : ¬ ((0 ≤ a1.toInt ∧ a1.toInt ≤ 3) ∧ (0 ≤ a3.toInt ∧ a3.toInt ≤ 3)) → EvI G (e + 1) mX12_move [.inr (.inr (some 94)), .inl a1, .inl a2, .inl a3, .inl a4, .inl a5] (sI h 93 1 (h.1 93 1 + 1)) (fun y h2 => er 1 = y ∧ Inv h2) := fun z =>
    M_move (RF_sI hR) (by omega) (hn' _ _) (fun _ => ⟨rfl, Inv_err I rfl⟩) (fun s t _ _ _ _ _ => absurd ⟨by omega, by omega⟩ z) (fun s t _ _ _ _ _ _ _ => absurd ⟨by omega, by omega⟩ z) (fun s t _ _ _ _ _ _ _ _ => absurd ⟨by omega, by omega⟩ z) (fun s t _ _ _ _ _ _ _ _ => absurd ⟨by omega, by omega⟩ z)
  refine vc_X11_move hR (ev_has hR (by omega) (br2 (fun c => ev_has hR (by omega) (br2' (fun c3 => ?_) (fun c3 => ev_refuse hR (by omega) (n := 1) rfl (by omega) (bad0 (fun z => c3 z.2))))) (fun c => ev_refuse hR (by omega) (n := 1) rfl (by omega) (bad0 (fun z => c z.1)))))
  obtain ⟨s, es⟩ : ∃ s : Nat, a1.toInt = s := ⟨a1.toInt.toNat, by omega⟩
  obtain ⟨t, et⟩ : ∃ t : Nat, a3.toInt = t := ⟨a3.toInt.toNat, by omega⟩
  have hs : s < 4 := by omega
  have ht : t < 4 := by omega
  have in1 : vp_in a1 4 := in_of (by omega) (by omega)
  have in3 : vp_in a3 4 := in_of (by omega) (by omega)
  have hss := sh s hs
  have hst := sh t ht
  have ok13 : (0 ≤ a1.toInt ∧ a1.toInt ≤ 3) ∧ (0 ≤ a3.toInt ∧ a3.toInt ≤ 3) := ⟨c, c3⟩
  have bad2 : (h.1 114 s = 0 ∨ h.1 114 t = 0) → EvI G (e + 1) mX12_move [.inr (.inr (some 94)), .inl a1, .inl a2, .inl a3, .inl a4, .inl a5] (sI h 93 2 (h.1 93 2 + 1)) (fun y h2 => er 2 = y ∧ Inv h2) := fun z => by
    refine M_move (RF_sI hR) (by omega) (hn' _ _) (fun y => absurd ok13 y) (fun s t _ _ _ _ _ => ⟨rfl, Inv_err I rfl⟩) (fun s' t' y1 y2 y3 y4 y5 y6 y7 => ?_) (fun s' t' y1 y2 y3 y4 y5 y6 y7 y8 => ?_) (fun s' t' y1 y2 y3 y4 y5 y6 y7 y8 => ?_) <;> (exfalso; rw [rr _ _ _ (by omega), show s' = s by omega] at y5; rw [rr _ _ _ (by omega), show t' = t by omega] at y6; rcases z with z | z; exact y5 z; exact y6 z)
  refine ev_isMissing hR (by omega) es hs (br2' (fun c4 => ev_refuse hR (by omega) (n := 2) rfl (by omega) (bad2 (Or.inl (by rw [← hss.1]; exact c4)))) (fun c4 => ev_isMissing hR (by omega) et ht (br2 (fun c5 => ev_refuse hR (by omega) (n := 2) rfl (by omega) (bad2 (Or.inr (by rw [← hst.1]; exact c5)))) (fun c5 => ⟨in1, in3, ?_⟩))))
  rw [cl_of es, cl_of et]
  have b1 : h.1 114 s ≠ 0 := by rw [← hss.1]; exact c4
  have b2' : h.1 114 t ≠ 0 := by rw [← hst.1]; exact c5
  refine ⟨fun c6 => ?_, fun c6 => ?_⟩
  · rw [hss.1, hst.1] at c6
    have bad1 : ¬ stds (h.1 115 s).toInt (h.1 115 t).toInt a2.toInt a4.toInt a5.toInt → EvI G (e + 1) mX12_move [.inr (.inr (some 94)), .inl a1, .inl a2, .inl a3, .inl a4, .inl a5] (sI h 93 1 (h.1 93 1 + 1)) (fun y h2 => er 1 = y ∧ Inv h2) := fun z => by
      refine M_move (RF_sI hR) (by omega) (hn' _ _) (fun y => absurd ok13 y) (fun s' t' y1 y2 y3 y4 y5 => ?_) (fun s' t' y1 y2 y3 y4 y5 y6 y7 => ?_) (fun s t _ _ _ _ _ _ _ _ => ⟨rfl, Inv_err I rfl⟩) (fun s' t' y1 y2 y3 y4 y5 y6 y7 y8 => ?_)
      · exfalso
        rw [rr _ _ _ (by omega), show s' = s by omega, show t' = t by omega] at y5
        rcases y5 with y5 | y5
        · exact b1 y5
        · exact b2' y5
      · exfalso
        rw [rr _ _ _ (by omega), show s' = s by omega, show t' = t by omega] at y7
        exact y7 c6
      · exfalso
        rw [rr _ _ _ (by omega), show s' = s by omega, show t' = t by omega] at y8
        exact z y8
    refine ev_stand hR (by omega) es hs hss.2.2.2.1 (br2 (fun c7 => ev_stand hR (by omega) et ht hst.2.2.2.1 (br2' (fun c8 => ?_) (fun c8 => ev_refuse hR (by omega) (n := 1) rfl (by omega) (bad1 (fun z => c8 ?_))))) (fun c7 => ev_refuse hR (by omega) (n := 1) rfl (by omega) (bad1 (fun z => c7 ?_))))
    · rw [hss.2.1] at c7
      rw [hst.2.1] at c8
      have nn1 := hn s hs
      have nn2 := hn t ht
      have st : stds (h.1 115 s).toInt (h.1 115 t).toInt a2.toInt a4.toInt a5.toInt := by unfold stds; omega
      have l2 : ¬ a2 < 0 := by rw [i_lt]; show ¬ _ < (0 : Int); omega
      have l4 : ¬ a4 < 0 := by rw [i_lt]; show ¬ _ < (0 : Int); omega
      have l5 : ¬ a5 < 0 := by rw [i_lt]; show ¬ _ < (0 : Int); omega
      refine ⟨in1, 89 + s, (rf88 hR hs).1, (rf88 hR hs).2, in3, 89 + t, (rf88 hR ht).1, (rf88 hR ht).2, l2, l4, l5, by rw [cl_eq, cl_eq]; omega, by rw [cl_eq, cl_eq]; omega, ?_⟩
      rw [cl_eq, cl_eq, cl_eq]
      obtain ⟨i, ei⟩ : ∃ i : Nat, a2.toInt = i := ⟨a2.toInt.toNat, by omega⟩
      obtain ⟨j, ej⟩ : ∃ j : Nat, a4.toInt = j := ⟨a4.toInt.toNat, by omega⟩
      obtain ⟨n, en⟩ : ∃ n : Nat, a5.toInt = n := ⟨a5.toInt.toNat, by omega⟩
      have ei' : a2.toInt.toNat = i := by omega
      have ej' : a4.toInt.toNat = j := by omega
      have en' : a5.toInt.toNat = n := by omega
      rw [ei', ej', en']
      have cr : ∀ q, q ≠ 89 + t → (cpI h (89 + s) i (89 + t) j n).1 q = h.1 q := fun q hq => by funext z; rw [cpI_at, if_neg (by omega)]
      refine M_move (RF_cp hR) (by omega) (fun q hq => by rw [cr 115 (by omega)]; exact hn q hq) (fun y => absurd ok13 y) (fun s' t' y1 y2 y3 y4 y5 => ?_) (fun s' t' y1 y2 y3 y4 y5 y6 y7 => ?_) (fun s' t' y1 y2 y3 y4 y5 y6 y7 y8 => ?_) (fun s' t' y1 y2 y3 y4 y5 y6 y7 y8 => ⟨rfl, ?_⟩)
      · exfalso
        rw [cr _ (by omega), show s' = s by omega, show t' = t by omega] at y5
        rcases y5 with y5 | y5
        · exact b1 y5
        · exact b2' y5
      · exfalso
        rw [cr _ (by omega), show s' = s by omega, show t' = t by omega] at y7
        exact y7 c6
      · exfalso
        rw [cr _ (by omega), show s' = s by omega, show t' = t by omega] at y8
        exact y8 st
      · have : s' = s := by omega
        subst this
        have : t' = t := by omega
        subst this
        rw [ei', ej', en']
        have f1 : ∀ q, q ≠ 116 → q ≠ 117 → q ≠ 89 + t' → (cpI (cpI (cpI h (89 + s') i (89 + t') j n) 116 (40 * s' + i) 117 0 n) 117 0 116 (40 * t' + j) n).1 q = h.1 q := fun q h1 h2 h3 => by
          funext z
          rw [cpI_at, if_neg (by omega), cpI_at, if_neg (by omega), cpI_at, if_neg (by omega)]
        refine Inv_sheet I (RF_cp (RF_cp (RF_cp hR))) (fun a z1 z2 z3 => f1 a (by omega) (fun z => z1 (by unfold scr; omega)) (by omega)) (fun q hq => ?_)
        have shq := sh q hq
        rw [f1 86 (by omega) (by omega) (by omega), f1 87 (by omega) (by omega) (by omega), f1 114 (by omega) (by omega) (by omega), f1 115 (by omega) (by omega) (by omega)]
        refine ⟨shq.1, shq.2.1, shq.2.2.1, shq.2.2.2.1, fun k hk => ?_⟩
        by_cases hc : q = t' ∧ j ≤ k ∧ k < j + n
        · obtain ⟨rfl, hk1, hk2⟩ := hc
          rw [cpI_at, if_neg (by omega), cpI_at, if_neg (by omega), cpI_at, if_pos (by omega), cpI_at, if_pos (by omega), cpI_at, if_pos (by omega), cpI_at, if_neg (by omega)]
          rw [hss.2.2.2.2 (i + (k - j)) (by omega)]
          refine congrArg (h.1 116) ?_
          omega
        · rw [cpI_at, if_neg (by omega), cpI_at, if_neg (by omega), cpI_at, if_neg (by omega), cpI_at, if_neg (by omega), cpI_at, if_neg (by omega), cpI_at, if_neg (by omega)]
          exact shq.2.2.2.2 k hk
    · rw [hst.2.1]
      unfold stds at z
      omega
    · rw [hss.2.1]
      unfold stds at z
      omega
  · rw [hss.1, hst.1] at c6
    refine ev_refuse hR (by omega) (n := 5) rfl (by omega) (M_move (RF_sI hR) (by omega) (hn' _ _) (fun y => absurd ok13 y) (fun s' t' y1 y2 y3 y4 y5 => ?_) (fun s t _ _ _ _ _ _ _ => ⟨rfl, Inv_err I rfl⟩) (fun s' t' y1 y2 y3 y4 y5 y6 y7 y8 => ?_) (fun s' t' y1 y2 y3 y4 y5 y6 y7 y8 => ?_))
    · exfalso
      rw [rr _ _ _ (by omega), show s' = s by omega, show t' = t by omega] at y5
      rcases y5 with y5 | y5
      · exact b1 y5
      · exact b2' y5
    · exfalso
      rw [rr _ _ _ (by omega), show s' = s by omega, show t' = t by omega] at y7
      exact c6 y7
    · exfalso
      rw [rr _ _ _ (by omega), show s' = s by omega, show t' = t by omega] at y7
      exact c6 y7
theorem step_law {a1 a2 a3 a4 : Int32} (I : Inv h) (hd : 100 ≤ d) : EvI G d mX11_law [.inr (.inr (some 0)), .inl a1, .inl a2, .inl a3, .inl a4] h (fun x h1 => EvI G d mX12_law [.inr (.inr (some 94)), .inl a1, .inl a2, .inl a3, .inl a4] h1 (fun y h2 => x = y ∧ Inv h2)) := by
  have hd' := hd
  have hR := I.1
  obtain ⟨p0, p1, T, T0, T1⟩ := I.tx
  obtain ⟨e, rfl⟩ := dpos (show 1 ≤ d by omega)
  have bad : ¬ ((0 ≤ a1.toInt ∧ a1.toInt ≤ 1) ∧ (a1.toInt = 1 → 0 ≤ a2.toInt ∧ a2.toInt ≤ 999)) → EvI G (e + 1) mX12_law [.inr (.inr (some 94)), .inl a1, .inl a2, .inl a3, .inl a4] (sI h 93 1 (h.1 93 1 + 1)) (fun y h2 => er 1 = y ∧ Inv h2) := by
    intro z
    refine vc_X12_law (RF_sI hR) (ev_in32 (RF_sI hR) (by omega) (br2 (fun c => ⟨fun c1 => ?_, fun c1 => ev_in32 (RF_sI hR) (by omega) (br2' (fun c2 => ?_) (fun c2 => ev_finds (RF_sI hR) (by omega) (n := 1) rfl (by omega) ⟨rfl, Inv_err I rfl⟩))⟩) (fun c => ev_finds (RF_sI hR) (by omega) (n := 1) rfl (by omega) ⟨rfl, Inv_err I rfl⟩)))
    · exfalso
      rw [i_eq] at c1
      (try simp only [Int32.reduceToInt, Int64.reduceToInt, ti_m1, tl_m1, ti_m2, tl_m2] at *)
      exact z ⟨c, fun y => absurd y c1⟩
    · exfalso
      (try simp only [Int32.reduceToInt, Int64.reduceToInt, ti_m1, tl_m1, ti_m2, tl_m2] at *)
      exact z ⟨c, fun _ => c2⟩
  have fin : ∀ (u : Nat) (h1 : Hp), a1.toInt = u → u < 2 → (u = 1 → 0 ≤ a2.toInt ∧ a2.toInt ≤ 999) → MZ h h1 → EvI G (e + 1) mX12_law [.inr (.inr (some 94)), .inl a1, .inl a2, .inl a3, .inl a4] h1 (fun y h2 => tgP u (if u = 0 then p0 else p1) a2 a3 a4 = y ∧ Inv h2) := by
    intro u h1 eu hu h2 mz
    have T' := mz.tx T
    have go : EvI G e mX12_textGives [.inr (.inr (some 94)), .inl a1, .inl a2, .inl a3, .inl a4] h1 (fun x8 h7 => tgP u (if u = 0 then p0 else p1) a2 a3 a4 = x8 ∧ Inv h7) :=
      ev_textGives mz.1 (by omega) T' (eq_nI eu) hu (fun z => (h2 z).1) (fun h' m => ⟨rfl, (m.z).inv (mz.inv I)⟩)
    refine vc_X12_law mz.1 (ev_in32 mz.1 (by omega) (br2 (fun c => ⟨fun _ => go, fun c1 => ev_in32 mz.1 (by omega) (br2' (fun _ => go) (fun c2 => ?_))⟩) (fun c => ?_)))
    · exfalso
      rw [i_eq] at c1
      (try simp only [Int32.reduceToInt, Int64.reduceToInt, ti_m1, tl_m1, ti_m2, tl_m2] at *)
      exact c2 (h2 (by omega))
    · exfalso
      (try simp only [Int32.reduceToInt, Int64.reduceToInt, ti_m1, tl_m1, ti_m2, tl_m2] at *)
      omega
  refine vc_X11_law hR (ev_within hR (by omega) (br2 (fun c => ⟨fun c1 => ⟨fun c0 => ?_, fun c0 => ?_⟩, fun c1 => ev_within hR (by omega) (br2' (fun c2 => ⟨fun c0 => ?_, fun c0 => ?_⟩) (fun c2 => ?_))⟩) (fun c => ?_)))
  · exfalso
    rw [i_eq] at c0 c1
    (try simp only [Int32.reduceToInt, Int64.reduceToInt, ti_m1, tl_m1, ti_m2, tl_m2] at *)
    omega
  · rw [i_eq] at c0 c1
    (try simp only [Int32.reduceToInt, Int64.reduceToInt, ti_m1, tl_m1, ti_m2, tl_m2] at *)
    refine ev_earBy hR (by omega) T0 (fun h1 m => ?_)
    have := fin 0 h1 (by omega) (by omega) (fun z => by omega) ⟨m.1, fun a z1 z2 => m.2.2 a (fun z => z1 (by unfold scr; omega)), by rw [m.2.2 94 (by omega)], by rw [m.2.2 94 (by omega)]⟩
    rw [if_pos rfl] at this
    exact this
  · rw [i_eq] at c1
    (try simp only [Int32.reduceToInt, Int64.reduceToInt, ti_m1, tl_m1, ti_m2, tl_m2] at *)
    refine ev_spillBy hR (by omega) (by omega) T1 (fun h1 m => ?_)
    have := fin 1 h1 (by omega) (by omega) (fun z => c2) ⟨m.1, fun a z1 z2 => m.2.2 a (fun z => z1 (by unfold scr; omega)), by rw [m.2.2 94 (by omega)], by rw [m.2.2 94 (by omega)]⟩
    rw [if_neg (by omega)] at this
    exact this
  · exfalso
    rw [i_eq] at c0 c1
    (try simp only [Int32.reduceToInt, Int64.reduceToInt, ti_m1, tl_m1, ti_m2, tl_m2] at *)
    omega
  · rw [i_eq] at c1
    (try simp only [Int32.reduceToInt, Int64.reduceToInt, ti_m1, tl_m1, ti_m2, tl_m2] at *)
    exact ev_refuse hR (by omega) (n := 1) rfl (by omega) (bad (fun z => c2 (z.2 c1)))
  · (try simp only [Int32.reduceToInt, Int64.reduceToInt, ti_m1, tl_m1, ti_m2, tl_m2] at *)
    exact ev_refuse hR (by omega) (n := 1) rfl (by omega) (bad (fun z => c z.1))
end
