/-! text -/
section
variable {G : GT} {d : Nat} {h : Hp} {Q : Int32 → Hp → Prop} {QW : Hp → Prop}
theorem M_text {a1 : Int32} {u n i' : Nat} {ok : Bool} {p : List Int32} {B : Nat → Int32} (hR : RF h) (hd : 60 ≤ d) (eu : a1.toInt = u) (hu : u < 2) (en : vM h 8 = n) (hn : n ≤ 50) (hB : ∀ j, j < n → h.1 95 (212 + j) = B j) (D : Der (byt B n) u 0 0 0 [] ok i' p)
    (kg : ok = true → i' = n → ∀ h', RF h' → (∀ a, a ≠ 94 → a ≠ 95 → a ≠ 99 → h'.1 a = h.1 a) → h'.1 94 3 = h.1 94 3 → h'.1 94 32 = h.1 94 32 → (∀ t, h'.1 95 t = if 112 + 50 * u ≤ t ∧ t < 112 + 50 * u + n then B (t - (112 + 50 * u)) else if t = 90 + u then nI n else if t = 8 then 0 else h.1 95 t) → Q 1 h')
    (kb : (ok = false ∨ i' ≠ n) → ∀ h', RF h' → (∀ a, a ≠ 94 → a ≠ 95 → a ≠ 99 → h'.1 a = h.1 a) → h'.1 94 3 = h.1 94 3 → h'.1 94 32 = h.1 94 32 → (∀ t, h'.1 95 t = if t = 8 then 0 else h.1 95 t) → Q ((-10) - nI i') h') : EvI G d mX12_text [.inr (.inr (some 94)), .inl a1] h Q := by
  obtain ⟨e, rfl⟩ := dpos (show 1 ≤ d by omega)
  have e8 : (h.1 95 8).toInt = n := en
  refine vc_X12_text hR (ev_in32 hR (by omega) (br2' (fun _ => ?_) (fun c => ?_)))
  · refine ev_worked (base := 212) (n := n) (u := u) (B := B) (RF_sI hR) (by omega) (by omega) hn hu rfl (eq_nI e8) (eq_nI eu) (fun j hj => by rw [sI_ne (by omega)]; exact hB j hj) D (fun z1 z2 h4 m m8 => ?_) (fun z h4 v m F => ?_)
    · have f : ∀ a, a ≠ 94 → a ≠ 95 → a ≠ 99 → h4.1 a = h.1 a := fun a a1 a2 a3 => by rw [m.1.2.2.1 a a1 a2 a3, sI_row_ne a2]
      have g3 : h4.1 94 3 = h.1 94 3 := by rw [m.1.2.2.2.1 3 (by omega), sI_ne (by omega)]
      have g32 : h4.1 94 32 = h.1 94 32 := by rw [m.1.2.2.2.1 32 (by omega), sI_ne (by omega)]
      have r95 : ∀ t, h4.1 95 t = if t = 8 then 0 else h.1 95 t := fun t => by
        rw [m.2]
        by_cases ht : t = 8
        · rw [if_pos ht, ht, sI_self]
        · rw [if_neg ht, sI_ne (by omega)]
      have e90 : (90 + a1).toInt = ((90 + u : Nat) : Int) := by rw [ti_add (by rw [eu]; simp only [Int32.reduceToInt]; omega) (by rw [eu]; simp only [Int32.reduceToInt]; omega), eu]; simp only [Int32.reduceToInt]; omega
      refine ⟨fun _ => ⟨in_of (by omega) (by omega), ?_⟩, fun z => ?_⟩
      · rw [cl_of e90, eq_nI e8]
        have rt := rg_text (G := G) (d := e) (Q := Q) (h0 := sI h4 95 (90 + u) (nI n)) (l2 := nI n) (n := n) (RF_sI m.1.1) eu hu (ti_nI (by omega)) hn ?_ n 0 (by omega)
        · rw [cpI_0] at rt
          exact rt
        · refine kg z1 z2 _ (RF_cp (RF_sI m.1.1)) (fun a a1 a2 a3 => ?_) ?_ ?_ (fun t => ?_)
          · funext q
            rw [cpI_at, if_neg (by omega), sI_ne (by omega), f a a1 a2 a3]
          · rw [cpI_at, if_neg (by omega), sI_ne (by omega), g3]
          · rw [cpI_at, if_neg (by omega), sI_ne (by omega), g32]
          · rw [cpI_at]
            by_cases ht : 112 + 50 * u ≤ t ∧ t < 112 + 50 * u + n
            · rw [if_pos ⟨rfl, ht⟩, if_pos ht, sI_ne (by omega), r95, if_neg (by omega)]
              exact hB _ (by omega)
            · rw [if_neg (by omega), if_neg ht]
              by_cases h90 : t = 90 + u
              · rw [if_pos h90, h90, sI_self]
              · rw [if_neg h90, sI_ne (by omega), r95]
      · exfalso
        rw [m8] at z
        exact z (by decide)
    · have f : ∀ a, a ≠ 94 → a ≠ 95 → a ≠ 99 → h4.1 a = h.1 a := fun a a1 a2 a3 => by rw [m.1.2.2.1 a a1 a2 a3, sI_row_ne a2]
      have g3 : h4.1 94 3 = h.1 94 3 := by rw [m.1.2.2.2.1 3 (by omega), sI_ne (by omega)]
      have g32 : h4.1 94 32 = h.1 94 32 := by rw [m.1.2.2.2.1 32 (by omega), sI_ne (by omega)]
      have r95 : ∀ t, h4.1 95 t = if t = 8 then 0 else h.1 95 t := fun t => by
        rw [m.2]
        by_cases ht : t = 8
        · rw [if_pos ht, ht, sI_self]
        · rw [if_neg ht, sI_ne (by omega)]
      refine ⟨fun y => ?_, fun _ => ?_⟩
      · exfalso
        have := F.nn
        rw [i_le] at this
        rw [i_lt] at y
        omega
      · rw [F.2.2]
        exact kb z h4 m.1.1 f g3 g32 r95
  · exfalso
    (try simp only [Int32.reduceToInt, Int64.reduceToInt, ti_m1, tl_m1, ti_m2, tl_m2] at *)
    omega
theorem step_text {a1 : Int32} (I : Inv h) (hd : 100 ≤ d) : EvI G d mX11_text [.inr (.inr (some 0)), .inl a1] h (fun x h1 => EvI G d mX12_text [.inr (.inr (some 94)), .inl a1] h1 (fun y h2 => x = y ∧ Inv h2)) := by
  have hd' := hd
  have hR := I.1
  have b8 := I.b89.1
  have cc := I.cc
  have e8 : (h.1 1 13).toInt = vM h 8 := I.c (bg := z0) (j := 8) (by omega)
  obtain ⟨n, en⟩ : ∃ n : Nat, vM h 8 = n := ⟨(vM h 8).toNat, by omega⟩
  obtain ⟨e, rfl⟩ := dpos (show 1 ≤ d by omega)
  refine vc_X11_text hR (ev_within hR (by omega) (br2' (fun c => ?_) (fun c => ?_)))
  · (try simp only [Int32.reduceToInt, Int64.reduceToInt, ti_m1, tl_m1, ti_m2, tl_m2] at *)
    obtain ⟨u, eu⟩ : ∃ u : Nat, a1.toInt = u := ⟨a1.toInt.toNat, by omega⟩
    have hu : u < 2 := by omega
    obtain ⟨q0, q1, t1, t2, t3, t4, t5, t6, t7, t8, t9⟩ := I.2.1
    refine ev_read (B := fun j => h.1 19 j) (n := n) (u := u) hR (by omega) (by omega) hu (fun j hj => (t6 j (by omega)).2) (eq_nI (by omega)) (eq_nI eu) (fun j _ => rfl) (fun ok i' p h4 D hR4 fr C => ?_)
    have ci := C.2.2.2.2.2.2.2.2.1
    have cp := C.2.2.2.2.2.2.2.2.2
    have fr4 : ∀ a, ¬ (45 ≤ a ∧ a ≤ 47) → h4.1 a = h.1 a := fun a ha => fr a (by omega) (by omega) (by omega)
    have bytes : ∀ w : Hp, w.1 95 = h.1 95 → ∀ j, j < n → w.1 95 (212 + j) = h.1 19 j := fun w hw j hj => by rw [hw]; exact (t6 j (by omega)).1
    -- what is the same in both ends
    have common : ∀ h2 : Hp, RF h2 → (∀ a, ¬ scr a → a ≠ 1 → a ≠ 13 → a ≠ 14 → a ≠ 16 → a ≠ 17 → a ≠ 94 → a ≠ 95 → h2.1 a = h.1 a) → (∀ t, t ≠ 13 → h2.1 1 t = h.1 1 t) → h2.1 1 13 = 0 → h2.1 94 3 = h.1 94 3 → h2.1 94 32 = h.1 94 32 → (∀ t, t < 90 → h2.1 95 t = if t = 8 then 0 else h.1 95 t) → (∀ t, (92 ≤ t ∧ t < 112) ∨ 212 ≤ t → h2.1 95 t = h.1 95 t) → (∃ r0 r1, TxM h2 95 r0 r1 ∧ TxC h2 13 r0 ∧ TxC h2 16 r1) → Inv h2 := by
      intro h2 s0 f f1 f13 g3 g32 r90 r92 tx
      have f' : ∀ a, (2 ≤ a ∧ a ≤ 12) ∨ a = 19 ∨ a = 20 → h2.1 a = h.1 a := fun a ha => f a (by unfold scr; omega) (by omega) (by omega) (by omega) (by omega) (by omega) (by omega) (by omega)
      refine Inv_now I s0 (fun a z1 z2 z3 z4 => f a z1 (by omega) (by omega) (by omega) (by omega) (by omega) z4 z3) g3 g32 ?_
      have v1 : ∀ j, j < 90 → vM h2 j = upI (vM h) 8 0 j := fun j hj => by
        show (h2.1 95 j).toInt = _
        rw [r90 j hj]
        unfold upI
        by_cases hj8 : j = 8
        · rw [if_pos hj8, if_pos hj8]; rfl
        · rw [if_neg hj8, if_neg hj8]
      have v2 : ∀ j, j < 90 → vC h2 9 z0 j = upI (vC h 9 z0) 8 0 j := fun j hj => by
        have ea : vC h2 9 z0 = vC (sI h 1 13 0) 9 z0 := vC_eq (fun k hk => by
          by_cases hk13 : k = 13
          · rw [hk13, sI_self]; exact f13
          · rw [sI_ne (by omega)]; exact f1 k hk13) (fun a k h1' h2' h3 => by rw [sI_ne (by omega), f' a (by omega)]) (fun a k h1' h2' h3 => by rw [sI_ne (by omega), f' a (by omega)]) (fun k h1' h2' => by rw [sI_ne (by omega), f' 9 (by omega)]) (fun a k h1' h2' => by rw [sI_ne (by omega), f' a (by omega)]) (fun k h1' => by rw [sI_ne (by omega), f' (9 + 3) (by omega)])
        rw [ea, c9_bytes]
        rfl
      obtain ⟨r0, r1, x1, x2, x3⟩ := tx
      refine ⟨r0, r1, fun i hi => ?_, OKF_eq v1 (OKF_irr (by omega) t2), ?_, ?_, fun i hi => ?_, fun i hi => ?_, x1, x2, x3⟩
      · rw [v1 i hi, v2 i hi]
        exact (upI_on cc i hi).symm
      · rw [v1 8 (by omega), upI_s]; omega
      · rw [v1 9 (by omega), upI_n (by omega)]; exact t4
      · rw [r92 _ (by omega), f' 20 (by omega)]; exact t5 i hi
      · rw [r92 _ (by omega), f' 19 (by omega)]; exact t6 i hi
    by_cases hg : ok = true ∧ i' = n
    · rw [if_pos hg]
      obtain ⟨rfl, rfl⟩ := hg
      have pne := der_wf2 (by omega) hu D
      have npos : 0 < i' := by
        have : 0 < p.length := List.length_pos_iff.mpr pne
        omega
      have fin : ∀ (t : Nat) (h8 : Hp), ((u = 0 ∧ t = 13) ∨ (u = 1 ∧ t = 16)) → RF h8 → (∀ q, q ≠ t → q ≠ t + 1 → h8.1 q = (sI h4 1 13 0).1 q) → h8.1 t 2 = (sI h4 1 13 0).1 46 2 → (∀ q, q < 50 → h8.1 (t + 1) q = (sI h4 1 13 0).1 47 q) → EvI G (e + 1) mX12_text [.inr (.inr (some 94)), .inl a1] h8 (fun y h2 => 1 = y ∧ Inv h2) := by
        intro t h8 ht r0 r1 r2 r3
        have low : ∀ a, a ≠ t → a ≠ t + 1 → a ≠ 1 → ¬ (45 ≤ a ∧ a ≤ 47) → h8.1 a = h.1 a := fun a a1 a2 a3 a4 => by rw [r1 a a1 a2, sI_row_ne a3, fr4 a a4]
        have l95 : h8.1 95 = h.1 95 := low 95 (by omega) (by omega) (by omega) (by omega)
        have v8 : vM h8 8 = i' := by
          show (h8.1 95 8).toInt = _
          rw [l95]; exact en
        have c6 : (sI h4 1 13 0).1 46 2 = nI p.length := by rw [sI_ne (by omega)]; exact C.2.2.2.2.2.2.1
        have c7 : ∀ j, j < p.length → (sI h4 1 13 0).1 47 j = p.getD j 0 := fun j hj => by rw [sI_ne (by omega)]; exact C.2.2.2.2.2.2.2.1 j hj
        refine M_text r0 (by omega) eu hu v8 (by omega) (bytes h8 l95) D (fun _ _ h2 s0 sf sg3 sg32 s95 => ⟨rfl, ?_⟩) (fun z => ?_)
        · rw [l95] at s95
          have f2 : ∀ a, a ≠ t → a ≠ t + 1 → a ≠ 1 → ¬ (45 ≤ a ∧ a ≤ 47) → a ≠ 94 → a ≠ 95 → a ≠ 99 → h2.1 a = h.1 a := fun a a1 a2 a3 a4 a5 a6 a7 => by rw [sf a a5 a6 a7, low a a1 a2 a3 a4]
          have tx2 : TxC h2 t p := by
            refine ⟨?_, ⟨by omega, der_wf (by omega) hu D⟩, fun i hi => ?_⟩
            · rw [sf t (by omega) (by omega) (by omega), r2, c6, ti_nI (by omega)]
            · rw [sf (t + 1) (by omega) (by omega) (by omega), r3 i (by omega)]
              exact c7 i hi
          have tb : ∀ B' : Nat → Int32, (∀ j, j < i' → B' j = h.1 19 j) → TxB B' i' u p := fun B' hB' => TxB_eq hB' (Or.inr ⟨npos, pne, D⟩)
          refine common h2 s0 (fun a z1 z2 z3 z4 z5 z6 z7 z8 => f2 a (by omega) (by omega) z2 (fun z => z1 (by unfold scr; omega)) z7 z8 (fun z => z1 (by unfold scr; omega))) (fun q hq => ?_) ?_ ?_ ?_ (fun q hq => ?_) (fun q hq => ?_) ?_
          · rw [sf 1 (by omega) (by omega) (by omega), r1 1 (by omega) (by omega), sI_ne (by omega), fr4 1 (by omega)]
          · rw [sf 1 (by omega) (by omega) (by omega), r1 1 (by omega) (by omega), sI_self]
          · rw [sg3, low 94 (by omega) (by omega) (by omega) (by omega)]
          · rw [sg32, low 94 (by omega) (by omega) (by omega) (by omega)]
          · rw [s95, if_neg (by omega), if_neg (by omega)]
          · rw [s95, if_neg (by omega), if_neg (by omega), if_neg (by omega)]
          · obtain ⟨m1, m2, m3, m4, m5⟩ := t7
            have bnd : ∀ j, j < 100 → 0 ≤ (h2.1 95 (112 + j)).toInt ∧ (h2.1 95 (112 + j)).toInt ≤ 255 := fun j hj => by
              rw [s95]
              by_cases hc : 112 + 50 * u ≤ 112 + j ∧ 112 + j < 112 + 50 * u + i'
              · rw [if_pos hc]
                exact (t6 _ (by omega)).2
              · rw [if_neg hc, if_neg (by omega), if_neg (by omega)]
                exact m3 j hj
            have eni : (nI i').toInt = (i' : Int) := ti_nI (by omega)
            rcases ht with ⟨rfl, rfl⟩ | ⟨rfl, rfl⟩
            · have h90 : h2.1 95 90 = nI i' := by rw [s95, if_neg (by omega), if_pos (by omega)]
              have h91 : h2.1 95 91 = h.1 95 91 := by rw [s95, if_neg (by omega), if_neg (by omega), if_neg (by omega)]
              refine ⟨p, q1, ⟨?_, ?_, bnd, ?_, ?_⟩, tx2, TxC_eq (by rw [f2 16 (by omega) (by omega) (by omega) (by omega) (by omega) (by omega) (by omega)]) (fun k _ => by rw [f2 (16 + 1) (by omega) (by omega) (by omega) (by omega) (by omega) (by omega) (by omega)]) t9⟩
              · rw [h90, eni]; omega
              · rw [h91]; exact m2
              · rw [h90, eni, show ((i' : Int)).toNat = i' by omega]
                refine tb _ (fun j hj => ?_)
                rw [s95, if_pos (by omega)]
                show h.1 19 _ = h.1 19 j
                refine congrArg (h.1 19) ?_
                omega
              · rw [h91]
                refine TxB_eq (fun j hj => ?_) m5
                rw [s95, if_neg (by omega), if_neg (by omega), if_neg (by omega)]
            · have h90 : h2.1 95 90 = h.1 95 90 := by rw [s95, if_neg (by omega), if_neg (by omega), if_neg (by omega)]
              have h91 : h2.1 95 91 = nI i' := by rw [s95, if_neg (by omega), if_pos (by omega)]
              refine ⟨q0, p, ⟨?_, ?_, bnd, ?_, ?_⟩, TxC_eq (by rw [f2 13 (by omega) (by omega) (by omega) (by omega) (by omega) (by omega) (by omega)]) (fun k _ => by rw [f2 (13 + 1) (by omega) (by omega) (by omega) (by omega) (by omega) (by omega) (by omega)]) t8, tx2⟩
              · rw [h90]; exact m1
              · rw [h91, eni]; omega
              · rw [h90]
                refine TxB_eq (fun j hj => ?_) m4
                rw [s95, if_neg (by omega), if_neg (by omega), if_neg (by omega)]
              · rw [h91, eni, show ((i' : Int)).toNat = i' by omega]
                refine tb _ (fun j hj => ?_)
                rw [s95, if_pos (by omega)]
                show h.1 19 _ = h.1 19 j
                refine congrArg (h.1 19) ?_
                omega
        · exfalso
          rcases z with z | z
          · exact Bool.noConfusion z
          · exact z rfl
      refine ⟨fun _ => ⟨fun z => ?_, fun z => ?_⟩, fun z => absurd rfl z⟩
      · rw [i_eq] at z
        (try simp only [Int32.reduceToInt, Int64.reduceToInt, ti_m1, tl_m1, ti_m2, tl_m2] at *)
        exact ev_copyT (RF_sI hR4) (by omega) rfl rfl (by omega) (fun h8 r0 _ r1 r2 r3 => fin 16 h8 (Or.inr ⟨by omega, rfl⟩) r0 r1 r2 r3)
      · rw [i_eq] at z
        (try simp only [Int32.reduceToInt, Int64.reduceToInt, ti_m1, tl_m1, ti_m2, tl_m2] at *)
        exact ev_copyT (RF_sI hR4) (by omega) rfl rfl (by omega) (fun h8 r0 _ r1 r2 r3 => fin 13 h8 (Or.inl ⟨by omega, rfl⟩) r0 r1 r2 r3)
    · rw [if_neg hg]
      have eni : (nI i').toInt = (i' : Int) := ti_nI (by omega)
      refine ⟨fun z => ?_, fun _ => ?_⟩
      · exfalso
        rw [i_eq, eni, ti_m1] at z
        omega
      · have low : ∀ a, a ≠ 1 → ¬ (45 ≤ a ∧ a ≤ 47) → (sI h4 1 13 0).1 a = h.1 a := fun a a1 a2 => by rw [sI_row_ne a1, fr4 a a2]
        have l95 : (sI h4 1 13 0).1 95 = h.1 95 := low 95 (by omega) (by omega)
        have v8 : vM (sI h4 1 13 0) 8 = n := by
          show ((sI h4 1 13 0).1 95 8).toInt = _
          rw [l95]; exact en
        refine M_text (RF_sI hR4) (by omega) eu hu v8 (by omega) (bytes _ l95) D (fun z1 z2 => absurd ⟨z1, z2⟩ hg) (fun _ h2 s0 sf sg3 sg32 s95 => ⟨rfl, ?_⟩)
        rw [l95] at s95
        have f2 : ∀ a, a ≠ 1 → ¬ (45 ≤ a ∧ a ≤ 47) → a ≠ 94 → a ≠ 95 → a ≠ 99 → h2.1 a = h.1 a := fun a a3 a4 a5 a6 a7 => by rw [sf a a5 a6 a7, low a a3 a4]
        refine common h2 s0 (fun a z1 z2 z3 z4 z5 z6 z7 z8 => f2 a z2 (fun z => z1 (by unfold scr; omega)) z7 z8 (fun z => z1 (by unfold scr; omega))) (fun q hq => ?_) ?_ ?_ ?_ (fun q hq => s95 q) (fun q hq => ?_) ⟨q0, q1, TxM_eq2 (fun j hj => by rw [s95, if_neg (by omega)]) t7, TxC_eq (by rw [f2 13 (by omega) (by omega) (by omega) (by omega) (by omega)]) (fun k _ => by rw [f2 (13 + 1) (by omega) (by omega) (by omega) (by omega) (by omega)]) t8, TxC_eq (by rw [f2 16 (by omega) (by omega) (by omega) (by omega) (by omega)]) (fun k _ => by rw [f2 (16 + 1) (by omega) (by omega) (by omega) (by omega) (by omega)]) t9⟩
        · rw [sf 1 (by omega) (by omega) (by omega), sI_ne (by omega), fr4 1 (by omega)]
        · rw [sf 1 (by omega) (by omega) (by omega), sI_self]
        · rw [sg3, low 94 (by omega) (by omega)]
        · rw [sg32, low 94 (by omega) (by omega)]
        · rw [s95, if_neg (by omega)]
  · refine ev_refuse hR (by omega) (n := 1) rfl (by omega) (vc_X12_text (RF_sI hR) (ev_in32 (RF_sI hR) (by omega) (br2' (fun c2 => ?_) (fun _ => ev_finds (RF_sI hR) (by omega) (n := 1) rfl (by omega) ⟨rfl, Inv_err I rfl⟩))))
    exfalso
    (try simp only [Int32.reduceToInt, Int64.reduceToInt, ti_m1, tl_m1, ti_m2, tl_m2] at *)
    omega
end
