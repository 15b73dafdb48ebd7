/-! restore -/
section
variable {G : GT} {d : Nat} {h : Hp} {Q : Int32 → Hp → Prop} {QW : Hp → Prop}
theorem ev_fromKept (hR : RF h) (hd : 2 ≤ d) (k : ∀ h', RF h' → (∀ a, ¬ (1 ≤ a ∧ a ≤ 20) → h'.1 a = h.1 a) → (∀ a j, relC a j → h'.1 a j = h.1 (a + 20) j) → QW h') : EvV G d mX9_copy [.inr (.inr (some 1)), .inr (.inr (some 21))] h QW := by
  obtain ⟨e, rfl⟩ := dpos (show 1 ≤ d by omega)
  refine vc_X9_copya hR ?_
  rintro h1 e1
  have hR1 : RF h1 := by rw [e1]; repeat' (first | exact hR | apply RF_sI | apply RF_cp)
  have n1 : ∀ a, ¬ (1 ≤ a ∧ a ≤ 8) → h1.1 a = h.1 a := fun a ha => by
    rw [e1]
    rw [cp_ne (by omega), cp_ne (by omega), cp_ne (by omega), cp_ne (by omega), sI_row_ne (by omega), cp_ne (by omega), cp_ne (by omega), cp_ne (by omega), sI_row_ne (by omega)]
  have a0 : h1.1 1 0 = h.1 21 0 := by
    rw [e1]
    rw [cp_ne (by omega), cp_ne (by omega), cp_ne (by omega), cp_ne (by omega), sI_ne (by omega), cp_ne (by omega), cp_ne (by omega), cp_ne (by omega), sI_self]
  have a4 : h1.1 1 4 = h.1 21 4 := by
    rw [e1]
    rw [cp_ne (by omega), cp_ne (by omega), cp_ne (by omega), cp_ne (by omega), sI_self]
  have r2 : ∀ t, t < 4 → h1.1 2 t = h.1 22 t := fun t ht => by
    rw [e1]
    rw [cp_ne (by omega), cp_ne (by omega), cp_ne (by omega), cp_ne (by omega), sI_row_ne (by omega), cp_ne (by omega), cp_ne (by omega), cp_lt ht, sI_row_ne (by omega)]
  have r3 : ∀ t, t < 4 → h1.1 3 t = h.1 23 t := fun t ht => by
    rw [e1]
    rw [cp_ne (by omega), cp_ne (by omega), cp_ne (by omega), cp_ne (by omega), sI_row_ne (by omega), cp_ne (by omega), cp_lt ht, cp_ne (by omega), sI_row_ne (by omega)]
  have r4 : ∀ t, t < 4 → h1.1 4 t = h.1 24 t := fun t ht => by
    rw [e1]
    rw [cp_ne (by omega), cp_ne (by omega), cp_ne (by omega), cp_ne (by omega), sI_row_ne (by omega), cp_lt ht, cp_ne (by omega), cp_ne (by omega), sI_row_ne (by omega)]
  have r5 : ∀ t, t < 12 → h1.1 5 t = h.1 25 t := fun t ht => by
    rw [e1]
    rw [cp_ne (by omega), cp_ne (by omega), cp_ne (by omega), cp_lt ht, sI_row_ne (by omega), cp_ne (by omega), cp_ne (by omega), cp_ne (by omega), sI_row_ne (by omega)]
  have r6 : ∀ t, t < 12 → h1.1 6 t = h.1 26 t := fun t ht => by
    rw [e1]
    rw [cp_ne (by omega), cp_ne (by omega), cp_lt ht, cp_ne (by omega), sI_row_ne (by omega), cp_ne (by omega), cp_ne (by omega), cp_ne (by omega), sI_row_ne (by omega)]
  have r7 : ∀ t, t < 12 → h1.1 7 t = h.1 27 t := fun t ht => by
    rw [e1]
    rw [cp_ne (by omega), cp_lt ht, cp_ne (by omega), cp_ne (by omega), sI_row_ne (by omega), cp_ne (by omega), cp_ne (by omega), cp_ne (by omega), sI_row_ne (by omega)]
  have r8 : ∀ t, t < 12 → h1.1 8 t = h.1 28 t := fun t ht => by
    rw [e1]
    rw [cp_lt ht, cp_ne (by omega), cp_ne (by omega), cp_ne (by omega), sI_row_ne (by omega), cp_ne (by omega), cp_ne (by omega), cp_ne (by omega), sI_row_ne (by omega)]
  clear e1
  refine ev_copyR hR1 (by omega) rfl rfl (by omega) (fun h2 hR2 _ n2 f2 f21 f22 f23 => ?_)
  refine ev_copyT hR2 (by omega) rfl rfl (by omega) (fun h3 hR3 _ n3 t3 t31 => ?_)
  refine ev_copyT hR3 (by omega) rfl rfl (by omega) (fun h4 hR4 _ n4 t4 t41 => ?_)
  have hig : ∀ a, 21 ≤ a → h4.1 a = h.1 a := fun a ha => by
    rw [n4 a (by omega) (by omega), n3 a (by omega) (by omega), n2 a (by omega) (by omega) (by omega) (by omega), n1 a (by omega)]
  refine k _ (by repeat' (first | exact hR4 | apply RF_sI | apply RF_cp)) (fun a ha => ?_) (fun a j hj => ?_)
  · rw [sI_row_ne (by omega), sI_row_ne (by omega), cp_ne (by omega), sI_row_ne (by omega), cp_ne (by omega), n4 a (by omega) (by omega), n3 a (by omega) (by omega), n2 a (by omega) (by omega) (by omega) (by omega), n1 a (by omega)]
  · have b1 : h4.1 1 = h1.1 1 := by rw [n4 1 (by omega) (by omega), n3 1 (by omega) (by omega), n2 1 (by omega) (by omega) (by omega) (by omega)]
    have bx : ∀ a, 2 ≤ a → a ≤ 8 → h4.1 a = h1.1 a := fun a z1 z2 => by rw [n4 a (by omega) (by omega), n3 a (by omega) (by omega), n2 a (by omega) (by omega) (by omega) (by omega)]
    have by' : ∀ a, 9 ≤ a → a ≤ 12 → h4.1 a = h2.1 a := fun a z1 z2 => by rw [n4 a (by omega) (by omega), n3 a (by omega) (by omega)]
    have l1 : ∀ a, 21 ≤ a → h1.1 a = h.1 a := fun a z => n1 a (by omega)
    have l2 : ∀ a, 21 ≤ a → h2.1 a = h.1 a := fun a z => by rw [n2 a (by omega) (by omega) (by omega) (by omega), l1 a z]
    have l3 : ∀ a, 21 ≤ a → h3.1 a = h.1 a := fun a z => by rw [n3 a (by omega) (by omega), l2 a z]
    have up : ∀ a, a ≠ 1 → a ≠ 19 → a ≠ 20 → (sI (sI (cpI (sI (cpI h4 39 0 19 0 50) 1 13 (h4.1 21 13)) 40 0 20 0 20) 1 15 (h4.1 21 15)) 1 16 (h4.1 21 16)).1 a = h4.1 a := fun a z1 z2 z3 => by
      rw [sI_row_ne (by omega), sI_row_ne (by omega), cp_ne (by omega), sI_row_ne (by omega), cp_ne (by omega)]
    unfold relC at hj
    rcases hj with ⟨rfl, hk⟩ | ⟨z1, z2, z3⟩ | ⟨z1, z2, z3⟩ | ⟨rfl, z1, z2⟩ | ⟨z1, z2⟩ | ⟨rfl, z1⟩ | ⟨z1, rfl⟩ | ⟨z1, z2⟩ | ⟨rfl, z1⟩
    · rcases hk with rfl | rfl | rfl | rfl | rfl
      · rw [sI_ne (by omega), sI_ne (by omega), cp_ne (by omega), sI_ne (by omega), cp_ne (by omega), b1, a0]
      · rw [sI_ne (by omega), sI_ne (by omega), cp_ne (by omega), sI_ne (by omega), cp_ne (by omega), b1, a4]
      · rw [sI_ne (by omega), sI_ne (by omega), cp_ne (by omega), sI_self, hig 21 (by omega)]
      · rw [sI_ne (by omega), sI_self, hig 21 (by omega)]
      · rw [sI_self, hig 21 (by omega)]
    · rw [up a (by omega) (by omega) (by omega), bx _ (by omega) (by omega)]
      rcases (show a = 2 ∨ a = 3 ∨ a = 4 by omega) with rfl | rfl | rfl
      · exact r2 j z3
      · exact r3 j z3
      · exact r4 j z3
    · rw [up a (by omega) (by omega) (by omega), bx _ (by omega) (by omega)]
      rcases (show a = 5 ∨ a = 6 ∨ a = 7 ∨ a = 8 by omega) with rfl | rfl | rfl | rfl
      · exact r5 j z3
      · exact r6 j z3
      · exact r7 j z3
      · exact r8 j z3
    · rw [up 9 (by omega) (by omega) (by omega), by' _ (by omega) (by omega)]
      exact (f2 j z1 z2).trans (by rw [l1 29 (by omega)])
    · rw [up a (by omega) (by omega) (by omega), by' _ (by omega) (by omega)]
      rcases z1 with rfl | rfl
      · exact (f21 j z2).trans (by rw [l1 (29 + 1) (by omega)])
      · exact (f22 j z2).trans (by rw [l1 (29 + 2) (by omega)])
    · rw [up 12 (by omega) (by omega) (by omega), by' _ (by omega) (by omega)]
      exact (f23 j z1).trans (by rw [l1 (29 + 3) (by omega)])
    · rw [up a (by omega) (by omega) (by omega)]
      rcases z1 with rfl | rfl
      · rw [n4 13 (by omega) (by omega)]
        exact t3.trans (by rw [l2 33 (by omega)])
      · exact t4.trans (by rw [l3 36 (by omega)])
    · rcases z1 with rfl | rfl | rfl
      · rw [up 14 (by omega) (by omega) (by omega), n4 14 (by omega) (by omega)]
        exact (t31 j z2).trans (by rw [l2 (33 + 1) (by omega)])
      · rw [up 17 (by omega) (by omega) (by omega)]
        exact (t41 j z2).trans (by rw [l3 (36 + 1) (by omega)])
      · rw [sI_row_ne (by omega), sI_row_ne (by omega), cp_ne (by omega), sI_row_ne (by omega), cp_lt z2, hig 39 (by omega)]
    · rw [sI_row_ne (by omega), sI_row_ne (by omega), cp_lt z1, sI_row_ne (by omega), cp_ne (by omega), hig 40 (by omega)]
theorem rg_restore {h0 : Hp} (hR : RF h0) (k : Q ((cpI h0 96 0 95 0 264).1 95 3) (cpI h0 96 0 95 0 264)) : ∀ (m i : Nat), i + m = 264 → Rg_X12_restore_15 G d (nI i) (cpI h0 96 0 95 0 i) Q := by
  intro m
  induction m with
  | zero =>
    intro i hi
    have : i = 264 := by omega
    subst this
    exact vc_X12_restore_15 (RF_cp hR) ⟨fun _ => k, fun z => absurd (by decide) z⟩
  | succ m ih =>
    intro i hi
    have ei : (nI i).toInt = (i : Int) := ti_nI (by omega)
    refine vc_X12_restore_15 (RF_cp hR) ⟨fun z => ?_, fun _ => ⟨in_of (by omega) (by omega), in_of (by omega) (by omega), ?_⟩⟩
    · rw [i_le, ei] at z
      exact absurd z (by show ¬ (264 : Int) ≤ _; omega)
    · rw [cl_of ei, nI_1, cp_ne (by omega)]
      have e1 := @cpI_s h0 96 0 95 0 i (by omega)
      rw [Nat.zero_add] at e1
      rw [e1]
      exact ih (i + 1) (by omega)
theorem step_restore (I : Inv h) (hd : 100 ≤ d) : EvI G d mX11_restore [.inr (.inr (some 0))] h (fun x h1 => EvI G d mX12_restore [.inr (.inr (some 94))] h1 (fun y h2 => x = y ∧ Inv h2)) := by
  have hd' := hd
  have hR := I.1
  have I0 := I
  obtain ⟨-, i1, ⟨i2, i3⟩, i4, i5, i6, i7, i8⟩ := I
  obtain ⟨e, rfl⟩ := dpos (show 1 ≤ d by omega)
  refine vc_X11_restore hR ⟨fun c => ev_fromKept hR (by omega) (fun h1 hR1 n1 r1 => ?_), fun c => ?_⟩
  · have S := i3 (by rw [← i2]; exact c)
    have e3 : h1.1 94 3 = h.1 94 3 := by rw [n1 94 (by omega)]
    refine vc_X12_restore hR1 ⟨fun _ => ?_, fun z => ?_⟩
    · have fin : ∀ w : Hp, w = cpI h1 96 0 95 0 264 → h1.1 9 3 = w.1 95 3 ∧ Inv w := by
        intro w ew
        have hRw : RF w := by rw [ew]; exact RF_cp hR1
        have f : ∀ a, a ≠ 95 → w.1 a = h1.1 a := fun a z1 => by rw [ew]; exact cp_ne z1
        have f95 : ∀ t, t < 264 → w.1 95 t = h.1 96 t := fun t ht => by rw [ew, cp_lt ht, n1 96 (by omega)]
        have Sw : ST w := by
          refine ST_eq (fun a j hj => ?_) (fun j hj => ?_) S
          · have := relC_in hj
            rw [f a (by omega), r1 a j hj, shf_lo (by omega)]
          · rw [f95 j hj, shf_95]
        have hi : ∀ a, ¬ (1 ≤ a ∧ a ≤ 20) → a ≠ 95 → w.1 a = h.1 a := fun a z1 z2 => by rw [f a z2, n1 a z1]
        have Iw : Inv w := Inv_now I0 hRw (fun a z1 z2 z3 z4 => hi a z2 z3) (by rw [hi 94 (by omega) (by omega)]) (by rw [hi 94 (by omega) (by omega)]) Sw
        refine ⟨?_, Iw⟩
        rw [← f 9 (by omega)]
        exact Iw.e (j := 3) (by omega) rfl
      have := rg_restore (G := G) (d := e) (h0 := h1) (Q := fun y h2 => h1.1 9 3 = y ∧ Inv h2) hR1 (fin _ rfl) 264 0 (by omega)
      rw [cpI_0] at this
      exact this
    · rw [e3, ← i2] at z
      exact absurd z c
  · refine ev_refuse hR (by omega) (n := 2) rfl (by omega) (vc_X12_restore (RF_sI hR) ⟨fun z => ?_, fun _ => ev_finds (RF_sI hR) (by omega) (n := 2) rfl (by omega) ⟨rfl, Inv_err I0 rfl⟩⟩)
    rw [sI_ne (by omega), ← i2] at z
    exact absurd c z
end
