/-! UPDATES, to rewrite with -/
theorem vM_lo {h : Hp} {a k : Nat} {v : Int32} (ha : a < 95) : vM (sI h a k v) = vM h := vM_off (by omega)
theorem vM_hi {h : Hp} {a k : Nat} {v : Int32} (ha : 95 < a) : vM (sI h a k v) = vM h := vM_off (by omega)
theorem c9_hi {h : Hp} {a k : Nat} {v : Int32} {bg : Nat → Int} (ha : 13 ≤ a) : vC (sI h a k v) 9 bg = vC h 9 bg := vC_off (fun b hb => by funext j; exact sI_ne (by omega))
theorem c9_kind {h : Hp} {bg : Nat → Int} {p : Nat} {v : Int32} (hp : p < 4) : vC (sI h 2 p v) 9 bg = upI (vC h 9 bg) (10 + 5 * p) v.toInt := vC_kind (by omega) hp
theorem c9_m {h : Hp} {bg : Nat → Int} {p : Nat} {v : Int32} (hp : p < 4) : vC (sI h 3 p v) 9 bg = upI (vC h 9 bg) (11 + 5 * p) v.toInt := vC_m (by omega) hp
theorem c9_size {h : Hp} {bg : Nat → Int} {p : Nat} {v : Int32} (hp : p < 4) : vC (sI h 4 p v) 9 bg = upI (vC h 9 bg) (12 + 5 * p) v.toInt := vC_size (by omega) hp
theorem c9_water {h : Hp} {bg : Nat → Int} {p : Nat} {v : Int32} (hp : p < 4) : vC (sI h 10 p v) 9 bg = upI (vC h 9 bg) (13 + 5 * p) v.toInt := vC_water (by omega) hp
theorem c9_heard {h : Hp} {bg : Nat → Int} {p : Nat} {v : Int32} (hp : p < 4) : vC (sI h 11 p v) 9 bg = upI (vC h 9 bg) (14 + 5 * p) v.toInt := vC_heard (by omega) hp
theorem c9_whose {h : Hp} {bg : Nat → Int} {p : Nat} {v : Int32} (hp : p < 12) : vC (sI h 5 p v) 9 bg = upI (vC h 9 bg) (30 + 5 * p) v.toInt := vC_whose (by omega) hp
theorem c9_takes {h : Hp} {bg : Nat → Int} {p : Nat} {v : Int32} (hp : p < 12) : vC (sI h 6 p v) 9 bg = upI (vC h 9 bg) (31 + 5 * p) v.toInt := vC_takes (by omega) hp
theorem c9_worth {h : Hp} {bg : Nat → Int} {p : Nat} {v : Int32} (hp : p < 12) : vC (sI h 7 p v) 9 bg = upI (vC h 9 bg) (32 + 5 * p) v.toInt := vC_worth (by omega) hp
theorem c9_behind {h : Hp} {bg : Nat → Int} {p : Nat} {v : Int32} (hp : p < 12) : vC (sI h 8 p v) 9 bg = upI (vC h 9 bg) (33 + 5 * p) v.toInt := vC_behind (by omega) hp
theorem c9_how {h : Hp} {bg : Nat → Int} {p : Nat} {v : Int32} (hp : p < 12) : vC (sI h 12 p v) 9 bg = upI (vC h 9 bg) (34 + 5 * p) v.toInt := vC_how (by omega) hp
theorem c9_n {h : Hp} {bg : Nat → Int} {v : Int32} : vC (sI h 1 0 v) 9 bg = upI (vC h 9 bg) 0 v.toInt := vC_n (by omega)
theorem c9_words {h : Hp} {bg : Nat → Int} {v : Int32} : vC (sI h 1 4 v) 9 bg = upI (vC h 9 bg) 1 v.toInt := vC_words (by omega)
theorem c9_z {h : Hp} {bg : Nat → Int} {v : Int32} : vC (sI h 1 16 v) 9 bg = upI (vC h 9 bg) 2 v.toInt := vC_z (by omega)
theorem c9_bytes {h : Hp} {bg : Nat → Int} {v : Int32} : vC (sI h 1 13 v) 9 bg = upI (vC h 9 bg) 8 v.toInt := vC_bytes (by omega)
theorem c9_waits {h : Hp} {bg : Nat → Int} {v : Int32} : vC (sI h 1 15 v) 9 bg = upI (vC h 9 bg) 9 v.toInt := vC_waits (by omega)
theorem c9_f3 {h : Hp} {bg : Nat → Int} {v : Int32} : vC (sI h 9 3 v) 9 bg = upI (vC h 9 bg) 3 v.toInt := by rw [vC_flow (by omega) (by omega), if_neg (by omega)]
theorem c9_f4 {h : Hp} {bg : Nat → Int} {v : Int32} : vC (sI h 9 4 v) 9 bg = upI (vC h 9 bg) 4 v.toInt := by rw [vC_flow (by omega) (by omega), if_neg (by omega)]
theorem c9_f5 {h : Hp} {bg : Nat → Int} {v : Int32} : vC (sI h 9 5 v) 9 bg = upI (vC h 9 bg) 5 v.toInt := by rw [vC_flow (by omega) (by omega), if_neg (by omega)]
theorem c9_f7 {h : Hp} {bg : Nat → Int} {v : Int32} : vC (sI h 9 7 v) 9 bg = upI (vC h 9 bg) 7 v.toInt := by rw [vC_flow (by omega) (by omega), if_neg (by omega)]
theorem c9_f6 {h : Hp} {bg : Nat → Int} {v : Int32} : vC (sI h 9 6 v) 9 bg = upI (vC h 9 bg) 6 (v.toInt + 1) := by rw [vC_flow (by omega) (by omega), if_pos rfl]
theorem OKF_irr {B v : Int} {F : Nat → Int} {k : Nat} (hk : k = 2 ∨ k = 8 ∨ k = 9) (ok : OKF B F) : OKF B (upI F k v) := by
  have g : ∀ j, j ≠ k → upI F k v j = F j := fun j hj => upI_n hj
  obtain ⟨q0, q1, q3, q4, q5, q6, q7, q8, q9, q10⟩ := ok
  unfold OKF
  rw [g 0 (by omega), g 1 (by omega), g 3 (by omega), g 4 (by omega), g 5 (by omega), g 6 (by omega), g 7 (by omega)]
  exact ⟨q0, q1, q3, q4, q5, q6, q7, fun z => ⟨(q8 z).1, by rw [g _ (by omega)]; exact (q8 z).2⟩, fun p hp => OKP_congr (fun j _ _ => g j (by omega)) hp (q9 p hp), fun w hw => OKW_congr (fun j _ _ => g j (by omega)) (g 0 (by omega)) (g 1 (by omega)) hw (q10 w hw)⟩
theorem OKF_5 {B v : Int} {F : Nat → Int} (ok : OKF B F) (hv : 0 ≤ v ∧ v ≤ 1) : OKF B (upI F 5 v) := by
  have g : ∀ j, j ≠ 5 → upI F 5 v j = F j := fun j hj => upI_n hj
  obtain ⟨q0, q1, q3, q4, q5, q6, q7, q8, q9, q10⟩ := ok
  unfold OKF
  rw [g 0 (by omega), g 1 (by omega), g 3 (by omega), g 4 (by omega), upI_s, g 6 (by omega), g 7 (by omega)]
  exact ⟨q0, q1, q3, q4, hv, q6, q7, fun z => ⟨(q8 z).1, by rw [g _ (by omega)]; exact (q8 z).2⟩, fun p hp => OKP_congr (fun j _ _ => g j (by omega)) hp (q9 p hp), fun w hw => OKW_congr (fun j _ _ => g j (by omega)) (g 0 (by omega)) (g 1 (by omega)) hw (q10 w hw)⟩
theorem OKF_4 {B v : Int} {F : Nat → Int} (ok : OKF B F) (hv : 0 ≤ v ∧ v ≤ 999999) : OKF B (upI F 4 v) := by
  have g : ∀ j, j ≠ 4 → upI F 4 v j = F j := fun j hj => upI_n hj
  obtain ⟨q0, q1, q3, q4, q5, q6, q7, q8, q9, q10⟩ := ok
  unfold OKF
  rw [g 0 (by omega), g 1 (by omega), g 3 (by omega), upI_s, g 5 (by omega), g 6 (by omega), g 7 (by omega)]
  exact ⟨q0, q1, q3, hv, q5, q6, q7, fun z => ⟨(q8 z).1, by rw [g _ (by omega)]; exact (q8 z).2⟩, fun p hp => OKP_congr (fun j _ _ => g j (by omega)) hp (q9 p hp), fun w hw => OKW_congr (fun j _ _ => g j (by omega)) (g 0 (by omega)) (g 1 (by omega)) hw (q10 w hw)⟩
theorem OKF_67 {B : Int} {F : Nat → Int} {w : Nat} (ok : OKF B F) (hw : (w : Int) < F 1) (h0 : F (34 + 5 * w) = 0) : OKF B (upI (upI F 6 ((w : Int) + 1)) 7 (F (31 + 5 * w))) := by
  have g : ∀ j, j ≠ 6 → j ≠ 7 → upI (upI F 6 ((w : Int) + 1)) 7 (F (31 + 5 * w)) j = F j := fun j h1 h2 => by rw [upI_n h2, upI_n h1]
  obtain ⟨q0, q1, q3, q4, q5, q6, q7, q8, q9, q10⟩ := ok
  have W := q10 w (by omega)
  unfold OKF
  rw [g 0 (by omega) (by omega), g 1 (by omega) (by omega), g 3 (by omega) (by omega), g 4 (by omega) (by omega), g 5 (by omega) (by omega), upI_s, upI_n (by omega : 6 ≠ 7), upI_s]
  refine ⟨q0, q1, q3, q4, q5, by omega, W.2.2.1, fun z => ⟨(W.2.1 hw).2, ?_⟩, fun p hp => OKP_congr (fun j _ _ => g j (by omega) (by omega)) hp (q9 p hp), fun v hv => OKW_congr (fun j _ _ => g j (by omega) (by omega)) (g 0 (by omega) (by omega)) (g 1 (by omega) (by omega)) hv (q10 v hv)⟩
  rw [g _ (by omega) (by omega), show ((w : Int) + 1 - 1).toNat = w by omega]
  exact h0
/-- a PARTY's numbers change -/
theorem OKF_p {B : Int} {F F' : Nat → Int} {p : Nat} (ok : OKF B F) (g : ∀ j, ¬ (10 + 5 * p ≤ j ∧ j < 15 + 5 * p) → F' j = F j) (hp : p < 4) (okp : OKP F' p) : OKF B F' := by
  obtain ⟨q0, q1, q3, q4, q5, q6, q7, q8, q9, q10⟩ := ok
  unfold OKF
  rw [g 0 (by omega), g 1 (by omega), g 3 (by omega), g 4 (by omega), g 5 (by omega), g 6 (by omega), g 7 (by omega)]
  refine ⟨q0, q1, q3, q4, q5, q6, q7, fun z => ⟨(q8 z).1, by rw [g _ (by omega)]; exact (q8 z).2⟩, fun q hq => ?_, fun w hw => OKW_congr (fun j _ _ => g j (by omega)) (g 0 (by omega)) (g 1 (by omega)) hw (q10 w hw)⟩
  by_cases h : q = p
  · rw [h]; exact okp
  · have a := q9 q hq
    unfold OKP at *
    rw [g (10 + 5 * q) (by omega), g (11 + 5 * q) (by omega), g (12 + 5 * q) (by omega), g (13 + 5 * q) (by omega), g (14 + 5 * q) (by omega)]
    exact a
theorem OKF_n {B v : Int} {F : Nat → Int} (ok : OKF B F) (hv : F 0 ≤ v ∧ v ≤ 4) : OKF B (upI F 0 v) := by
  have g : ∀ j, j ≠ 0 → upI F 0 v j = F j := fun j hj => upI_n hj
  obtain ⟨q0, q1, q3, q4, q5, q6, q7, q8, q9, q10⟩ := ok
  unfold OKF
  rw [upI_s, g 1 (by omega), g 3 (by omega), g 4 (by omega), g 5 (by omega), g 6 (by omega), g 7 (by omega)]
  refine ⟨by omega, q1, q3, q4, q5, q6, q7, fun z => ⟨(q8 z).1, by rw [g _ (by omega)]; exact (q8 z).2⟩, fun p hp => OKP_congr (fun j _ _ => g j (by omega)) hp (q9 p hp), fun w hw => ?_⟩
  have a := q10 w hw
  unfold OKW at *
  rw [g (30 + 5 * w) (by omega), g (31 + 5 * w) (by omega), g (32 + 5 * w) (by omega), g (33 + 5 * w) (by omega), g (34 + 5 * w) (by omega), upI_s, g 1 (by omega)]
  exact ⟨a.1, fun z => ⟨by have := (a.2.1 z).1; omega, (a.2.1 z).2⟩, a.2.2⟩
/-- a WORD's numbers change; there may be one WORD more -/
theorem OKF_w {B : Int} {F F' : Nat → Int} {w : Nat} (ok : OKF B F) (g : ∀ j, j ≠ 1 → ¬ (30 + 5 * w ≤ j ∧ j < 35 + 5 * w) → F' j = F j) (hw : w < 12) (h1 : F 1 ≤ F' 1 ∧ F' 1 ≤ 12) (hh : ∀ v : Nat, (v : Int) < F' 1 → v ≠ w → (v : Int) < F 1) (h6 : F 6 ≠ 0 → (F 6 - 1).toNat ≠ w) (okw : OKW F' w) : OKF B F' := by
  obtain ⟨q0, q1, q3, q4, q5, q6, q7, q8, q9, q10⟩ := ok
  unfold OKF
  rw [g 0 (by omega) (by omega), g 3 (by omega) (by omega), g 4 (by omega) (by omega), g 5 (by omega) (by omega), g 6 (by omega) (by omega), g 7 (by omega) (by omega)]
  refine ⟨q0, by omega, q3, q4, q5, by omega, q7, fun z => ⟨(q8 z).1, by have := h6 z; rw [g _ (by omega) (by omega)]; exact (q8 z).2⟩, fun q hq => OKP_congr (fun j _ _ => g j (by omega) (by omega)) hq (q9 q hq), fun v hv => ?_⟩
  by_cases h : v = w
  · rw [h]; exact okw
  · have a := q10 v hv
    have b := fun z => hh v z h
    unfold OKW at *
    rw [g (30 + 5 * v) (by omega) (by omega), g (31 + 5 * v) (by omega) (by omega), g (32 + 5 * v) (by omega) (by omega), g (33 + 5 * v) (by omega) (by omega), g (34 + 5 * v) (by omega) (by omega), g 0 (by omega) (by omega)]
    exact ⟨a.1, fun z => a.2.1 (b z), a.2.2.1, a.2.2.2.1, a.2.2.2.2.1, fun z => a.2.2.2.2.2.1 (b z), a.2.2.2.2.2.2⟩
/-- the same change of both -/
theorem Inv_up {h h' : Hp} (I : Inv h) (F' : Nat → Int) (hR : RF h') (fr : ∀ a, ¬ scr a → ¬ (1 ≤ a ∧ a ≤ 12) → a ≠ 95 → a ≠ 94 → h'.1 a = h.1 a) (g1 : h'.1 94 3 = h.1 94 3) (g2 : h'.1 94 32 = h.1 94 32) (eM : vM h' = F') (eC : ∀ j, j < 90 → vC h' 9 z0 j = F' j) (hi : ∀ j, 90 ≤ j → F' j = vM h j) (ok : OKF 99999 F') (b8 : F' 8 = vM h 8) (b9 : F' 9 = vM h 9) : Inv h' := by
  obtain ⟨p0, p1, s1, s2, s3, s4, -⟩ := I.2.1
  refine Inv_upA I hR fr g1 g2 (fun j h1 h2 => ?_) (fun j hj => ?_) (by rw [eM]; exact ok) (by rw [eM, b8]; exact s3) (by rw [eM, b9]; exact s4)
  · have := hi j h1
    rw [← eM] at this
    rw [i_eq]
    exact this
  · rw [eM, eC j hj]
theorem Inv.cc {h : Hp} (I : Inv h) : ∀ j, j < 90 → vC h 9 z0 j = vM h j := fun j hj => I.c hj
