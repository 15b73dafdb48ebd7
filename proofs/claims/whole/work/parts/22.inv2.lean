/-! UPDATES of what both hold -/
theorem vC_kind {h : Hp} {f : Nat} {bg : Nat → Int} {p : Nat} {v : Int32} (hf : 9 ≤ f) (hp : p < 4) : vC (sI h 2 p v) f bg = upI (vC h f bg) (10 + 5 * p) v.toInt := by
  funext j
  by_cases hj : j = 10 + 5 * p
  · subst hj
    rw [upI_s, (vC_p hp).1, sI_self]
  · rw [upI_n hj]
    unfold vC
    repeat' (first | (refine ite_congr rfl (fun _ => ?_) (fun _ => ?_)) | (rw [sI_ne (by omega)]) | rfl)
theorem vC_m {h : Hp} {f : Nat} {bg : Nat → Int} {p : Nat} {v : Int32} (hf : 9 ≤ f) (hp : p < 4) : vC (sI h 3 p v) f bg = upI (vC h f bg) (11 + 5 * p) v.toInt := by
  funext j
  by_cases hj : j = 11 + 5 * p
  · subst hj
    rw [upI_s, (vC_p hp).2.1, sI_self]
  · rw [upI_n hj]
    unfold vC
    repeat' (first | (refine ite_congr rfl (fun _ => ?_) (fun _ => ?_)) | (rw [sI_ne (by omega)]) | rfl)
theorem vC_size {h : Hp} {f : Nat} {bg : Nat → Int} {p : Nat} {v : Int32} (hf : 9 ≤ f) (hp : p < 4) : vC (sI h 4 p v) f bg = upI (vC h f bg) (12 + 5 * p) v.toInt := by
  funext j
  by_cases hj : j = 12 + 5 * p
  · subst hj
    rw [upI_s, (vC_p hp).2.2.1, sI_self]
  · rw [upI_n hj]
    unfold vC
    repeat' (first | (refine ite_congr rfl (fun _ => ?_) (fun _ => ?_)) | (rw [sI_ne (by omega)]) | rfl)
theorem vC_whose {h : Hp} {f : Nat} {bg : Nat → Int} {p : Nat} {v : Int32} (hf : 9 ≤ f) (hp : p < 12) : vC (sI h 5 p v) f bg = upI (vC h f bg) (30 + 5 * p) v.toInt := by
  funext j
  by_cases hj : j = 30 + 5 * p
  · subst hj
    rw [upI_s, (vC_w hp).1, sI_self]
  · rw [upI_n hj]
    unfold vC
    repeat' (first | (refine ite_congr rfl (fun _ => ?_) (fun _ => ?_)) | (rw [sI_ne (by omega)]) | rfl)
theorem vC_takes {h : Hp} {f : Nat} {bg : Nat → Int} {p : Nat} {v : Int32} (hf : 9 ≤ f) (hp : p < 12) : vC (sI h 6 p v) f bg = upI (vC h f bg) (31 + 5 * p) v.toInt := by
  funext j
  by_cases hj : j = 31 + 5 * p
  · subst hj
    rw [upI_s, (vC_w hp).2.1, sI_self]
  · rw [upI_n hj]
    unfold vC
    repeat' (first | (refine ite_congr rfl (fun _ => ?_) (fun _ => ?_)) | (rw [sI_ne (by omega)]) | rfl)
theorem vC_worth {h : Hp} {f : Nat} {bg : Nat → Int} {p : Nat} {v : Int32} (hf : 9 ≤ f) (hp : p < 12) : vC (sI h 7 p v) f bg = upI (vC h f bg) (32 + 5 * p) v.toInt := by
  funext j
  by_cases hj : j = 32 + 5 * p
  · subst hj
    rw [upI_s, (vC_w hp).2.2.1, sI_self]
  · rw [upI_n hj]
    unfold vC
    repeat' (first | (refine ite_congr rfl (fun _ => ?_) (fun _ => ?_)) | (rw [sI_ne (by omega)]) | rfl)
theorem vC_behind {h : Hp} {f : Nat} {bg : Nat → Int} {p : Nat} {v : Int32} (hf : 9 ≤ f) (hp : p < 12) : vC (sI h 8 p v) f bg = upI (vC h f bg) (33 + 5 * p) v.toInt := by
  funext j
  by_cases hj : j = 33 + 5 * p
  · subst hj
    rw [upI_s, (vC_w hp).2.2.2.1, sI_self]
  · rw [upI_n hj]
    unfold vC
    repeat' (first | (refine ite_congr rfl (fun _ => ?_) (fun _ => ?_)) | (rw [sI_ne (by omega)]) | rfl)
theorem vC_n {h : Hp} {f : Nat} {bg : Nat → Int} {v : Int32} (hf : 9 ≤ f) : vC (sI h 1 0 v) f bg = upI (vC h f bg) 0 v.toInt := by
  funext j
  by_cases hj : j = 0
  · subst hj
    rw [upI_s]
    show ((sI h 1 0 v).1 1 0).toInt = _
    rw [sI_self]
  · rw [upI_n hj]
    unfold vC
    repeat' (first | (refine ite_congr rfl (fun _ => ?_) (fun _ => ?_)) | (rw [sI_ne (by omega)]) | rfl)
theorem vC_words {h : Hp} {f : Nat} {bg : Nat → Int} {v : Int32} (hf : 9 ≤ f) : vC (sI h 1 4 v) f bg = upI (vC h f bg) 1 v.toInt := by
  funext j
  by_cases hj : j = 1
  · subst hj
    rw [upI_s]
    show ((sI h 1 4 v).1 1 4).toInt = _
    rw [sI_self]
  · rw [upI_n hj]
    unfold vC
    repeat' (first | (refine ite_congr rfl (fun _ => ?_) (fun _ => ?_)) | (rw [sI_ne (by omega)]) | rfl)
theorem vC_z {h : Hp} {f : Nat} {bg : Nat → Int} {v : Int32} (hf : 9 ≤ f) : vC (sI h 1 16 v) f bg = upI (vC h f bg) 2 v.toInt := by
  funext j
  by_cases hj : j = 2
  · subst hj
    rw [upI_s]
    show ((sI h 1 16 v).1 1 16).toInt = _
    rw [sI_self]
  · rw [upI_n hj]
    unfold vC
    repeat' (first | (refine ite_congr rfl (fun _ => ?_) (fun _ => ?_)) | (rw [sI_ne (by omega)]) | rfl)
theorem vC_bytes {h : Hp} {f : Nat} {bg : Nat → Int} {v : Int32} (hf : 9 ≤ f) : vC (sI h 1 13 v) f bg = upI (vC h f bg) 8 v.toInt := by
  funext j
  by_cases hj : j = 8
  · subst hj
    rw [upI_s]
    show ((sI h 1 13 v).1 1 13).toInt = _
    rw [sI_self]
  · rw [upI_n hj]
    unfold vC
    repeat' (first | (refine ite_congr rfl (fun _ => ?_) (fun _ => ?_)) | (rw [sI_ne (by omega)]) | rfl)
theorem vC_waits {h : Hp} {f : Nat} {bg : Nat → Int} {v : Int32} (hf : 9 ≤ f) : vC (sI h 1 15 v) f bg = upI (vC h f bg) 9 v.toInt := by
  funext j
  by_cases hj : j = 9
  · subst hj
    rw [upI_s]
    show ((sI h 1 15 v).1 1 15).toInt = _
    rw [sI_self]
  · rw [upI_n hj]
    unfold vC
    repeat' (first | (refine ite_congr rfl (fun _ => ?_) (fun _ => ?_)) | (rw [sI_ne (by omega)]) | rfl)
def scr (a : Nat) : Prop := a = 15 ∨ a = 18 ∨ a = 35 ∨ a = 38 ∨ (41 ≤ a ∧ a ≤ 82) ∨ a = 97 ∨ (99 ≤ a ∧ a ≤ 112) ∨ a = 117
theorem relC_in {a k : Nat} (h : relC a k) : 1 ≤ a ∧ a ≤ 20 ∧ a ≠ 15 ∧ a ≠ 18 := by
  unfold relC at h
  omega
theorem SHT_eq {h h' : Hp} (g : ∀ a, (a = 86 ∨ a = 87 ∨ (89 ≤ a ∧ a ≤ 92) ∨ (114 ≤ a ∧ a ≤ 116)) → h'.1 a = h.1 a) (S : SHT h) : SHT h' := by
  intro s hs
  rw [g 86 (by omega), g 87 (by omega), g 114 (by omega), g 115 (by omega), g 116 (by omega), g (89 + s) (by omega)]
  exact S s hs
theorem shf_95 (h : Hp) : (shf h).1 95 = h.1 96 := by
  show (if 1 ≤ 95 ∧ 95 ≤ 20 then h.1 (95 + 20) else if 95 = 95 then h.1 96 else h.1 95) = _
  rw [if_neg (by decide), if_pos rfl]
theorem shf_lo {h : Hp} {a : Nat} (ha : 1 ≤ a ∧ a ≤ 20) : (shf h).1 a = h.1 (a + 20) := if_pos ha
theorem shf_eq {h h' : Hp} (g : ∀ a, (21 ≤ a ∧ a ≤ 40 ∧ a ≠ 35 ∧ a ≠ 38) ∨ a = 96 → h'.1 a = h.1 a) (S : ST (shf h)) : ST (shf h') := by
  refine ST_eq (fun a k hk => ?_) (fun j hj => ?_) S
  · have := relC_in hk
    rw [shf_lo (by omega), shf_lo (by omega), g (a + 20) (by omega)]
  · rw [shf_95, shf_95, g 96 (by omega)]
/-- nothing that counts has changed -/
theorem Inv_scr {h h' : Hp} (I : Inv h) (hR : RF h') (fr : ∀ a, ¬ scr a → a ≠ 94 → a ≠ 83 → h'.1 a = h.1 a) (g1 : h'.1 94 3 = h.1 94 3) (g2 : h'.1 94 32 = h.1 94 32) (g3 : h'.1 83 1 = h.1 83 1) : Inv h' := by
  have fr' : ∀ a, (1 ≤ a ∧ a ≤ 40 ∧ a ≠ 15 ∧ a ≠ 18 ∧ a ≠ 35 ∧ a ≠ 38) ∨ a = 0 ∨ (84 ≤ a ∧ a ≤ 93) ∨ a = 95 ∨ a = 96 ∨ a = 98 ∨ (113 ≤ a ∧ a ≤ 116) → h'.1 a = h.1 a := fun a ha => fr a (by unfold scr; omega) (by omega) (by omega)
  obtain ⟨-, i1, ⟨i2, i3⟩, i4, i5, i6, i7, i8⟩ := I
  refine ⟨hR, ST_eq (fun a k hk => ?_) (fun j _ => ?_) i1, ⟨?_, fun z => ?_⟩, SHT_eq (fun a ha => fr' a (by omega)) i4, fun k k1 k2 => ?_, ?_, ?_, fun i hi => ?_⟩
  · have := relC_in hk
    rw [fr' a (by omega)]
  · rw [fr' 95 (by omega)]
  · rw [fr' 0 (by omega), g1]; exact i2
  · rw [g1] at z
    exact shf_eq (fun a ha => fr' a (by omega)) (i3 z)
  · rw [fr' 93 (by omega), fr' 98 (by omega)]; exact i5 k k1 k2
  · rw [g3, g2]; exact i6
  · rw [g3]; exact i7
  · rw [g3] at hi
    rw [fr' 84 (by omega), fr' 113 (by omega)]; exact i8 i hi
theorem ST_upA {h h' : Hp} (S : ST h) (c : ∀ a, 13 ≤ a → a ≤ 20 → a ≠ 15 → a ≠ 18 → h'.1 a = h.1 a) (m : ∀ j, 90 ≤ j → j < 264 → h'.1 95 j = h.1 95 j) (ev : ∀ j, j < 90 → vM h' j = vC h' 9 z0 j) (ok : OKF 99999 (vM h')) (b8 : 0 ≤ vM h' 8 ∧ vM h' 8 ≤ 50) (b9 : 0 ≤ vM h' 9 ∧ vM h' 9 ≤ 20) : ST h' := by
  obtain ⟨p0, p1, s1, s2, s3, s4, s5, s6, s7, s8, s9⟩ := S
  refine ⟨p0, p1, ev, ok, b8, b9, fun i hi => ?_, fun i hi => ?_, TxM_eq (fun j h1 h2 => m j h1 (by omega)) s7, TxC_eq (by rw [c 13 (by omega) (by omega) (by omega) (by omega)]) (fun k _ => by rw [c 14 (by omega) (by omega) (by omega) (by omega)]) s8, TxC_eq (by rw [c 16 (by omega) (by omega) (by omega) (by omega)]) (fun k _ => by rw [c 17 (by omega) (by omega) (by omega) (by omega)]) s9⟩
  · rw [m _ (by omega) (by omega), c 20 (by omega) (by omega) (by omega) (by omega)]; exact s5 i hi
  · rw [m _ (by omega) (by omega), c 19 (by omega) (by omega) (by omega) (by omega)]; exact s6 i hi
/-- what is now has changed, but for texts, the tape and what waits -/
theorem Inv_upA {h h' : Hp} (I : Inv h) (hR : RF h') (fr : ∀ a, ¬ scr a → ¬ (1 ≤ a ∧ a ≤ 12) → a ≠ 95 → a ≠ 94 → h'.1 a = h.1 a) (g1 : h'.1 94 3 = h.1 94 3) (g2 : h'.1 94 32 = h.1 94 32) (m : ∀ j, 90 ≤ j → j < 264 → h'.1 95 j = h.1 95 j) (ev : ∀ j, j < 90 → vM h' j = vC h' 9 z0 j) (ok : OKF 99999 (vM h')) (b8 : 0 ≤ vM h' 8 ∧ vM h' 8 ≤ 50) (b9 : 0 ≤ vM h' 9 ∧ vM h' 9 ≤ 20) : Inv h' := by
  have fr' : ∀ a, (13 ≤ a ∧ a ≤ 40 ∧ a ≠ 15 ∧ a ≠ 18 ∧ a ≠ 35 ∧ a ≠ 38) ∨ a = 0 ∨ (83 ≤ a ∧ a ≤ 93) ∨ a = 96 ∨ a = 98 ∨ (113 ≤ a ∧ a ≤ 116) → h'.1 a = h.1 a := fun a ha => fr a (by unfold scr; omega) (by omega) (by omega) (by omega)
  obtain ⟨-, i1, ⟨i2, i3⟩, i4, i5, i6, i7, i8⟩ := I
  refine ⟨hR, ST_upA i1 (fun a _ _ _ _ => fr' a (by omega)) m ev ok b8 b9, ⟨?_, fun z => ?_⟩, SHT_eq (fun a ha => fr' a (by omega)) i4, fun k k1 k2 => ?_, ?_, ?_, fun i hi => ?_⟩
  · rw [fr' 0 (by omega), g1]; exact i2
  · rw [g1] at z
    exact shf_eq (fun a ha => fr' a (by omega)) (i3 z)
  · rw [fr' 93 (by omega), fr' 98 (by omega)]; exact i5 k k1 k2
  · rw [fr' 83 (by omega), g2]; exact i6
  · rw [fr' 83 (by omega)]; exact i7
  · rw [fr' 83 (by omega)] at hi
    rw [fr' 84 (by omega), fr' 113 (by omega)]; exact i8 i hi
theorem Inv_err {h : Hp} {k : Nat} {v : Int32} (I : Inv h) (hv : v = h.1 93 k + 1) : Inv (sI (sI h 93 k v) 98 k ((sI h 93 k v).1 98 k + 1)) := by
  have e98 : (sI h 93 k v).1 98 k = h.1 98 k := sI_ne (by omega)
  rw [e98]
  have fr : ∀ a, a ≠ 93 → a ≠ 98 → (sI (sI h 93 k v) 98 k (h.1 98 k + 1)).1 a = h.1 a := fun a h1 h2 => by
    funext j
    rw [sI_ne (by omega), sI_ne (by omega)]
  obtain ⟨i0, i1, ⟨i2, i3⟩, i4, i5, i6, i7, i8⟩ := I
  refine ⟨i0, ST_eq (fun a j hj => ?_) (fun j _ => ?_) i1, ⟨?_, fun z => ?_⟩, SHT_eq (fun a ha => fr a (by omega) (by omega)) i4, fun j k1 k2 => ?_, ?_, ?_, fun i hi => ?_⟩
  · have := relC_in hj
    rw [fr a (by omega) (by omega)]
  · rw [fr 95 (by omega) (by omega)]
  · rw [fr 0 (by omega) (by omega), fr 94 (by omega) (by omega)]; exact i2
  · rw [fr 94 (by omega) (by omega)] at z
    exact shf_eq (fun a ha => fr a (by omega) (by omega)) (i3 z)
  · by_cases hjk : j = k
    · subst hjk
      rw [sI_ne (by omega), sI_self, sI_self, hv, i5 j k1 k2]
    · rw [sI_ne (by omega), sI_ne (by omega), sI_ne (by omega), sI_ne (by omega)]
      exact i5 j k1 k2
  · rw [fr 83 (by omega) (by omega), fr 94 (by omega) (by omega)]; exact i6
  · rw [fr 83 (by omega) (by omega)]; exact i7
  · rw [fr 83 (by omega) (by omega)] at hi
    rw [fr 84 (by omega) (by omega), fr 113 (by omega) (by omega)]; exact i8 i hi
/-- what the reference's numbers say, read off the class's -/
theorem Inv.c {h : Hp} (I : Inv h) {bg : Nat → Int} {j : Nat} (hj : j < 90) : vC h 9 bg j = vM h j := by
  obtain ⟨-, ⟨p0, p1, s1, -⟩, -⟩ := I
  rw [s1 j hj]
  unfold vC
  repeat' (first | (refine ite_congr rfl (fun _ => ?_) (fun _ => ?_)) | rfl | omega)
theorem Inv.ok {h : Hp} (I : Inv h) : OKF 99999 (vM h) := by
  obtain ⟨-, ⟨p0, p1, -, s2, -⟩, -⟩ := I
  exact s2
theorem Inv.n {h : Hp} (I : Inv h) : (h.1 1 0).toInt = vM h 0 ∧ 0 ≤ vM h 0 ∧ vM h 0 ≤ 4 := ⟨I.c (bg := z0) (j := 0) (by omega), I.ok.1.1, I.ok.1.2⟩
theorem Inv.w {h : Hp} (I : Inv h) : (h.1 1 4).toInt = vM h 1 ∧ 0 ≤ vM h 1 ∧ vM h 1 ≤ 12 := ⟨I.c (bg := z0) (j := 1) (by omega), I.ok.2.1.1, I.ok.2.1.2⟩
theorem Inv.p {h : Hp} (I : Inv h) {p : Nat} (hp : p < 4) : h.1 95 (10 + 5 * p) = h.1 2 p ∧ h.1 95 (11 + 5 * p) = h.1 3 p ∧ h.1 95 (12 + 5 * p) = h.1 4 p ∧ h.1 95 (13 + 5 * p) = h.1 10 p ∧ h.1 95 (14 + 5 * p) = h.1 11 p := by
  obtain ⟨a, b, c, e, f⟩ := @vC_p h 9 z0 p hp
  refine ⟨?_, ?_, ?_, ?_, ?_⟩
  · rw [i_eq, ← a]; exact (I.c (by omega)).symm
  · rw [i_eq, ← b]; exact (I.c (by omega)).symm
  · rw [i_eq, ← c]; exact (I.c (by omega)).symm
  · rw [i_eq]; rw [show (10 : Nat) = 9 + 1 from rfl]; rw [← e]; exact (I.c (by omega)).symm
  · rw [i_eq]; rw [show (11 : Nat) = 9 + 2 from rfl]; rw [← f]; exact (I.c (by omega)).symm
theorem Inv.wd {h : Hp} (I : Inv h) {p : Nat} (hp : p < 12) : h.1 95 (30 + 5 * p) = h.1 5 p ∧ h.1 95 (31 + 5 * p) = h.1 6 p ∧ h.1 95 (32 + 5 * p) = h.1 7 p ∧ h.1 95 (33 + 5 * p) = h.1 8 p ∧ h.1 95 (34 + 5 * p) = h.1 12 p := by
  obtain ⟨a, b, c, e, f⟩ := @vC_w h 9 z0 p hp
  refine ⟨?_, ?_, ?_, ?_, ?_⟩
  · rw [i_eq, ← a]; exact (I.c (by omega)).symm
  · rw [i_eq, ← b]; exact (I.c (by omega)).symm
  · rw [i_eq, ← c]; exact (I.c (by omega)).symm
  · rw [i_eq, ← e]; exact (I.c (by omega)).symm
  · rw [i_eq]; rw [show (12 : Nat) = 9 + 3 from rfl]; rw [← f]; exact (I.c (by omega)).symm
theorem upI_on {F G : Nat → Int} {k : Nat} {v : Int} (h : ∀ j, j < 90 → F j = G j) : ∀ j, j < 90 → upI F k v j = upI G k v j := fun j hj => by
  unfold upI
  by_cases hk : j = k
  · rw [if_pos hk, if_pos hk]
  · rw [if_neg hk, if_neg hk, h j hj]
