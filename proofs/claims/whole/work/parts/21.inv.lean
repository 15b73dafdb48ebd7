/-! CLASS AND REFERENCE SIDE BY SIDE -/
def z0 : Nat → Int := fun _ => 0
/-- what counts of the class's State at 1 -/
def relC (a k : Nat) : Prop := (a = 1 ∧ (k = 0 ∨ k = 4 ∨ k = 13 ∨ k = 15 ∨ k = 16)) ∨ (2 ≤ a ∧ a ≤ 4 ∧ k < 4) ∨ (5 ≤ a ∧ a ≤ 8 ∧ k < 12) ∨ (a = 9 ∧ 3 ≤ k ∧ k ≤ 7) ∨ ((a = 10 ∨ a = 11) ∧ k < 4) ∨ (a = 12 ∧ k < 12) ∨ ((a = 13 ∨ a = 16) ∧ k = 2) ∨ ((a = 14 ∨ a = 17 ∨ a = 19) ∧ k < 50) ∨ (a = 20 ∧ k < 20)
def ST (h : Hp) : Prop := ∃ p0 p1 : List Int32, (∀ j, j < 90 → vM h j = vC h 9 z0 j) ∧ OKF 99999 (vM h) ∧ (0 ≤ vM h 8 ∧ vM h 8 ≤ 50) ∧ (0 ≤ vM h 9 ∧ vM h 9 ≤ 20) ∧ (∀ i, i < 20 → h.1 95 (92 + i) = h.1 20 i) ∧ (∀ i, i < 50 → h.1 95 (212 + i) = h.1 19 i ∧ 0 ≤ (h.1 19 i).toInt ∧ (h.1 19 i).toInt ≤ 255) ∧ TxM h 95 p0 p1 ∧ TxC h 13 p0 ∧ TxC h 16 p1
/-- the image in the place of what is now -/
def shf (h : Hp) : Hp := (fun a => if 1 ≤ a ∧ a ≤ 20 then h.1 (a + 20) else if a = 95 then h.1 96 else h.1 a, h.2)
def SHT (h : Hp) : Prop := (∀ s, s < 4 → h.1 86 s = h.1 114 s ∧ h.1 87 s = h.1 115 s ∧ ((h.1 86 s).toInt = 0 ∨ (h.1 86 s).toInt = 8 ∨ (h.1 86 s).toInt = 16 ∨ (h.1 86 s).toInt = 32) ∧ (0 ≤ (h.1 87 s).toInt ∧ (h.1 87 s).toInt ≤ 40) ∧ ∀ k, k < 40 → h.1 (89 + s) k = h.1 116 (40 * s + k))
def Inv (h : Hp) : Prop := RF h ∧ ST h ∧ (h.1 0 2 = h.1 94 3 ∧ (h.1 94 3 ≠ 0 → ST (shf h))) ∧ SHT h ∧ (∀ k, 1 ≤ k → k ≤ 5 → h.1 93 k = h.1 98 k) ∧ (h.1 83 1 = h.1 94 32 ∧ (0 ≤ (h.1 83 1).toInt ∧ (h.1 83 1).toInt ≤ 40) ∧ ∀ i, i < (h.1 83 1).toInt.toNat → h.1 84 i = h.1 113 i)
theorem vC_eq {h h' : Hp} {f : Nat} {bg : Nat → Int} (r1 : ∀ k, (k = 0 ∨ k = 4 ∨ k = 13 ∨ k = 15 ∨ k = 16) → h'.1 1 k = h.1 1 k) (r2 : ∀ a k, 2 ≤ a → a ≤ 4 → k < 4 → h'.1 a k = h.1 a k) (r5 : ∀ a k, 5 ≤ a → a ≤ 8 → k < 12 → h'.1 a k = h.1 a k) (rf : ∀ k, 3 ≤ k → k ≤ 7 → h'.1 f k = h.1 f k) (rw' : ∀ a k, (a = f + 1 ∨ a = f + 2) → k < 4 → h'.1 a k = h.1 a k) (rh : ∀ k, k < 12 → h'.1 (f + 3) k = h.1 (f + 3) k) : vC h' f bg = vC h f bg := by
  funext j
  unfold vC
  rw [r1 0 (by omega), r1 4 (by omega), r1 16 (by omega), r1 13 (by omega), r1 15 (by omega), rf 3 (by omega) (by omega), rf 4 (by omega) (by omega), rf 5 (by omega) (by omega), rf 6 (by omega) (by omega), rf 7 (by omega) (by omega)]
  refine ite_congr rfl (fun _ => rfl) (fun n0 => ?_)
  refine ite_congr rfl (fun _ => rfl) (fun n1 => ?_)
  refine ite_congr rfl (fun _ => rfl) (fun n2 => ?_)
  refine ite_congr rfl (fun _ => rfl) (fun n3 => ?_)
  refine ite_congr rfl (fun _ => rfl) (fun n4 => ?_)
  refine ite_congr rfl (fun _ => rfl) (fun n5 => ?_)
  refine ite_congr rfl (fun _ => rfl) (fun n6 => ?_)
  refine ite_congr rfl (fun _ => rfl) (fun n7 => ?_)
  refine ite_congr rfl (fun _ => rfl) (fun n8 => ?_)
  refine ite_congr rfl (fun _ => rfl) (fun n9 => ?_)
  refine ite_congr rfl (fun h30 => ?_) (fun h30 => ite_congr rfl (fun h90 => ?_) (fun _ => rfl))
  · have p4 : (j - 10) / 5 < 4 := by omega
    rw [r2 2 _ (by omega) (by omega) p4, r2 3 _ (by omega) (by omega) p4, r2 4 _ (by omega) (by omega) p4, rw' (f + 1) _ (by omega) p4, rw' (f + 2) _ (by omega) p4]
  · have p12 : (j - 30) / 5 < 12 := by omega
    rw [r5 5 _ (by omega) (by omega) p12, r5 6 _ (by omega) (by omega) p12, r5 7 _ (by omega) (by omega) p12, r5 8 _ (by omega) (by omega) p12, rh _ p12]
theorem OKF_eq {B : Int} {F F' : Nat → Int} (g : ∀ j, j < 90 → F' j = F j) (ok : OKF B F) : OKF B F' := by
  obtain ⟨q0, q1, q3, q4, q5, q6, q7, q8, q9, q10⟩ := ok
  unfold OKF
  rw [g 0 (by omega), g 1 (by omega), g 3 (by omega), g 4 (by omega), g 5 (by omega), g 6 (by omega), g 7 (by omega)]
  exact ⟨q0, q1, q3, q4, q5, q6, q7, fun z => ⟨(q8 z).1, by rw [g _ (by omega)]; exact (q8 z).2⟩, fun p hp => OKP_congr (fun j _ _ => g j (by omega)) hp (q9 p hp), fun w hw => OKW_congr (fun j _ _ => g j (by omega)) (g 0 (by omega)) (g 1 (by omega)) hw (q10 w hw)⟩
theorem TxB_eq {B B' : Nat → Int32} {n u : Nat} {p : List Int32} (g : ∀ i, i < n → B' i = B i) (T : TxB B n u p) : TxB B' n u p := by
  have e : byt B' n = byt B n := by
    funext i
    unfold byt
    by_cases h : i < n
    · rw [if_pos h, if_pos h, g i h]
    · rw [if_neg h, if_neg h]
  unfold TxB at *
  rw [e]
  exact T
theorem TxC_eq {h h' : Hp} {t : Nat} {p : List Int32} (g : h'.1 t 2 = h.1 t 2) (g2 : ∀ k, k < 50 → h'.1 (t + 1) k = h.1 (t + 1) k) (T : TxC h t p) : TxC h' t p := by
  obtain ⟨t1, t2, t3⟩ := T
  exact ⟨by rw [g]; exact t1, t2, fun i hi => by rw [g2 i (by omega)]; exact t3 i hi⟩
theorem TxM_eq {h h' : Hp} {p0 p1 : List Int32} (hj : ∀ j, 90 ≤ j → j < 212 → h'.1 95 j = h.1 95 j) (T : TxM h 95 p0 p1) : TxM h' 95 p0 p1 := by
  obtain ⟨t1, t2, t3, t4, t5⟩ := T
  unfold TxM
  rw [hj 90 (by omega) (by omega), hj 91 (by omega) (by omega)]
  exact ⟨t1, t2, fun i hi => by rw [hj _ (by omega) (by omega)]; exact t3 i hi, TxB_eq (fun i hi => hj _ (by omega) (by omega)) t4, TxB_eq (fun i hi => hj _ (by omega) (by omega)) t5⟩
theorem ST_eq {h h' : Hp} (g : ∀ a k, relC a k → h'.1 a k = h.1 a k) (gm : ∀ j, j < 264 → h'.1 95 j = h.1 95 j) (S : ST h) : ST h' := by
  obtain ⟨p0, p1, s1, s2, s3, s4, s5, s6, s7, s8, s9⟩ := S
  have ev : ∀ j, j < 264 → vM h' j = vM h j := fun j hj => by show (h'.1 95 j).toInt = _; rw [gm j hj]
  have ec : vC h' 9 z0 = vC h 9 z0 := vC_eq (fun k hk => g 1 k (Or.inl ⟨rfl, hk⟩)) (fun a k h1 h2 h3 => g a k (Or.inr (Or.inl ⟨h1, h2, h3⟩))) (fun a k h1 h2 h3 => g a k (Or.inr (Or.inr (Or.inl ⟨h1, h2, h3⟩)))) (fun k h1 h2 => g 9 k (Or.inr (Or.inr (Or.inr (Or.inl ⟨rfl, h1, h2⟩))))) (fun a k h1 h2 => g a k (Or.inr (Or.inr (Or.inr (Or.inr (Or.inl ⟨h1, h2⟩)))))) (fun k h1 => g 12 k (Or.inr (Or.inr (Or.inr (Or.inr (Or.inr (Or.inl ⟨rfl, h1⟩)))))))
  refine ⟨p0, p1, fun j hj => ?_, ?_, ?_, ?_, fun i hi => ?_, fun i hi => ?_, TxM_eq (fun j _ hj => gm j (by omega)) s7, TxC_eq (g 13 2 (Or.inr (Or.inr (Or.inr (Or.inr (Or.inr (Or.inr (Or.inl ⟨Or.inl rfl, rfl⟩)))))))) (fun k hk => g 14 k (Or.inr (Or.inr (Or.inr (Or.inr (Or.inr (Or.inr (Or.inr (Or.inl ⟨Or.inl rfl, hk⟩))))))))) s8, TxC_eq (g 16 2 (Or.inr (Or.inr (Or.inr (Or.inr (Or.inr (Or.inr (Or.inl ⟨Or.inr rfl, rfl⟩)))))))) (fun k hk => g 17 k (Or.inr (Or.inr (Or.inr (Or.inr (Or.inr (Or.inr (Or.inr (Or.inl ⟨Or.inr (Or.inl rfl), hk⟩))))))))) s9⟩
  · rw [ev j (by omega), ec]; exact s1 j hj
  · exact OKF_eq (fun j hj => ev j (by omega)) s2
  · rw [ev 8 (by omega)]; exact s3
  · rw [ev 9 (by omega)]; exact s4
  · rw [gm _ (by omega), g 20 i (Or.inr (Or.inr (Or.inr (Or.inr (Or.inr (Or.inr (Or.inr (Or.inr ⟨rfl, hi⟩))))))))]; exact s5 i hi
  · rw [gm _ (by omega), g 19 i (Or.inr (Or.inr (Or.inr (Or.inr (Or.inr (Or.inr (Or.inr (Or.inl ⟨Or.inr (Or.inr rfl), hi⟩))))))))]; exact s6 i hi
