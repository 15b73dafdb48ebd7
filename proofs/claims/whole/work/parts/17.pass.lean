/-! THE CLASS's hearing: a Flow at f, beside the State at 1 -/
def vC (h : Hp) (f : Nat) (bg : Nat → Int) : Nat → Int := fun j =>
  if j = 0 then (h.1 1 0).toInt else if j = 1 then (h.1 1 4).toInt else if j = 2 then (h.1 1 16).toInt else if j = 3 then (h.1 f 3).toInt else if j = 4 then (h.1 f 4).toInt else if j = 5 then (h.1 f 5).toInt else if j = 6 then (h.1 f 6).toInt + 1 else if j = 7 then (h.1 f 7).toInt else if j = 8 then (h.1 1 13).toInt else if j = 9 then (h.1 1 15).toInt else
  if j < 30 then (if (j - 10) % 5 = 0 then (h.1 2 ((j - 10) / 5)).toInt else if (j - 10) % 5 = 1 then (h.1 3 ((j - 10) / 5)).toInt else if (j - 10) % 5 = 2 then (h.1 4 ((j - 10) / 5)).toInt else if (j - 10) % 5 = 3 then (h.1 (f + 1) ((j - 10) / 5)).toInt else (h.1 (f + 2) ((j - 10) / 5)).toInt) else
  if j < 90 then (if (j - 30) % 5 = 0 then (h.1 5 ((j - 30) / 5)).toInt else if (j - 30) % 5 = 1 then (h.1 6 ((j - 30) / 5)).toInt else if (j - 30) % 5 = 2 then (h.1 7 ((j - 30) / 5)).toInt else if (j - 30) % 5 = 3 then (h.1 8 ((j - 30) / 5)).toInt else (h.1 (f + 3) ((j - 30) / 5)).toInt) else bg j
theorem vC_p {h : Hp} {f : Nat} {bg : Nat → Int} {p : Nat} (hp : p < 4) : vC h f bg (10 + 5 * p) = (h.1 2 p).toInt ∧ vC h f bg (11 + 5 * p) = (h.1 3 p).toInt ∧ vC h f bg (12 + 5 * p) = (h.1 4 p).toInt ∧ vC h f bg (13 + 5 * p) = (h.1 (f + 1) p).toInt ∧ vC h f bg (14 + 5 * p) = (h.1 (f + 2) p).toInt := by
  have e0 : (10 + 5 * p - 10) % 5 = 0 ∧ (10 + 5 * p - 10) / 5 = p := by omega
  have e1 : (11 + 5 * p - 10) % 5 = 1 ∧ (11 + 5 * p - 10) / 5 = p := by omega
  have e2 : (12 + 5 * p - 10) % 5 = 2 ∧ (12 + 5 * p - 10) / 5 = p := by omega
  have e3 : (13 + 5 * p - 10) % 5 = 3 ∧ (13 + 5 * p - 10) / 5 = p := by omega
  have e4 : (14 + 5 * p - 10) % 5 = 4 ∧ (14 + 5 * p - 10) / 5 = p := by omega
  refine ⟨?_, ?_, ?_, ?_, ?_⟩
  · unfold vC
    rw [if_neg (by omega), if_neg (by omega), if_neg (by omega), if_neg (by omega), if_neg (by omega), if_neg (by omega), if_neg (by omega), if_neg (by omega), if_neg (by omega), if_neg (by omega), if_pos (by omega), e0.1, e0.2]
    rfl
  · unfold vC
    rw [if_neg (by omega), if_neg (by omega), if_neg (by omega), if_neg (by omega), if_neg (by omega), if_neg (by omega), if_neg (by omega), if_neg (by omega), if_neg (by omega), if_neg (by omega), if_pos (by omega), e1.1, e1.2]
    rfl
  · unfold vC
    rw [if_neg (by omega), if_neg (by omega), if_neg (by omega), if_neg (by omega), if_neg (by omega), if_neg (by omega), if_neg (by omega), if_neg (by omega), if_neg (by omega), if_neg (by omega), if_pos (by omega), e2.1, e2.2]
    rfl
  · unfold vC
    rw [if_neg (by omega), if_neg (by omega), if_neg (by omega), if_neg (by omega), if_neg (by omega), if_neg (by omega), if_neg (by omega), if_neg (by omega), if_neg (by omega), if_neg (by omega), if_pos (by omega), e3.1, e3.2]
    rfl
  · unfold vC
    rw [if_neg (by omega), if_neg (by omega), if_neg (by omega), if_neg (by omega), if_neg (by omega), if_neg (by omega), if_neg (by omega), if_neg (by omega), if_neg (by omega), if_neg (by omega), if_pos (by omega), e4.1, e4.2]
    rfl
theorem vC_w {h : Hp} {f : Nat} {bg : Nat → Int} {p : Nat} (hp : p < 12) : vC h f bg (30 + 5 * p) = (h.1 5 p).toInt ∧ vC h f bg (31 + 5 * p) = (h.1 6 p).toInt ∧ vC h f bg (32 + 5 * p) = (h.1 7 p).toInt ∧ vC h f bg (33 + 5 * p) = (h.1 8 p).toInt ∧ vC h f bg (34 + 5 * p) = (h.1 (f + 3) p).toInt := by
  have e0 : (30 + 5 * p - 30) % 5 = 0 ∧ (30 + 5 * p - 30) / 5 = p := by omega
  have e1 : (31 + 5 * p - 30) % 5 = 1 ∧ (31 + 5 * p - 30) / 5 = p := by omega
  have e2 : (32 + 5 * p - 30) % 5 = 2 ∧ (32 + 5 * p - 30) / 5 = p := by omega
  have e3 : (33 + 5 * p - 30) % 5 = 3 ∧ (33 + 5 * p - 30) / 5 = p := by omega
  have e4 : (34 + 5 * p - 30) % 5 = 4 ∧ (34 + 5 * p - 30) / 5 = p := by omega
  refine ⟨?_, ?_, ?_, ?_, ?_⟩
  · unfold vC
    rw [if_neg (by omega), if_neg (by omega), if_neg (by omega), if_neg (by omega), if_neg (by omega), if_neg (by omega), if_neg (by omega), if_neg (by omega), if_neg (by omega), if_neg (by omega), if_neg (by omega), if_pos (by omega), e0.1, e0.2]
    rfl
  · unfold vC
    rw [if_neg (by omega), if_neg (by omega), if_neg (by omega), if_neg (by omega), if_neg (by omega), if_neg (by omega), if_neg (by omega), if_neg (by omega), if_neg (by omega), if_neg (by omega), if_neg (by omega), if_pos (by omega), e1.1, e1.2]
    rfl
  · unfold vC
    rw [if_neg (by omega), if_neg (by omega), if_neg (by omega), if_neg (by omega), if_neg (by omega), if_neg (by omega), if_neg (by omega), if_neg (by omega), if_neg (by omega), if_neg (by omega), if_neg (by omega), if_pos (by omega), e2.1, e2.2]
    rfl
  · unfold vC
    rw [if_neg (by omega), if_neg (by omega), if_neg (by omega), if_neg (by omega), if_neg (by omega), if_neg (by omega), if_neg (by omega), if_neg (by omega), if_neg (by omega), if_neg (by omega), if_neg (by omega), if_pos (by omega), e3.1, e3.2]
    rfl
  · unfold vC
    rw [if_neg (by omega), if_neg (by omega), if_neg (by omega), if_neg (by omega), if_neg (by omega), if_neg (by omega), if_neg (by omega), if_neg (by omega), if_neg (by omega), if_neg (by omega), if_neg (by omega), if_pos (by omega), e4.1, e4.2]
    rfl
theorem fl_lo {f : Nat} (hf : SH[f]? = some (.inl 2)) : 9 ≤ f ∧ f ≤ 74 ∧ (f = 9 ∨ 29 ≤ f) := by
  have hm := fl_cases hf
  simp only [List.mem_cons, List.not_mem_nil, or_false] at hm
  omega
theorem vC_off {h h' : Hp} {f : Nat} {bg : Nat → Int} (g : ∀ a, (1 ≤ a ∧ a ≤ 8) ∨ (f ≤ a ∧ a ≤ f + 3) → h'.1 a = h.1 a) : vC h' f bg = vC h f bg := by
  funext j
  unfold vC
  rw [g 1 (by omega), g 2 (by omega), g 3 (by omega), g 4 (by omega), g 5 (by omega), g 6 (by omega), g 7 (by omega), g 8 (by omega), g f (by omega), g (f + 1) (by omega), g (f + 2) (by omega), g (f + 3) (by omega)]
theorem vC_water {h : Hp} {f : Nat} {bg : Nat → Int} {p : Nat} {v : Int32} (hf : 9 ≤ f) (hp : p < 4) : vC (sI h (f + 1) p v) f bg = upI (vC h f bg) (13 + 5 * p) v.toInt := by
  funext j
  by_cases hj : j = 13 + 5 * p
  · subst hj
    rw [upI_s, (vC_p hp).2.2.2.1, sI_self]
  · rw [upI_n hj]
    unfold vC
    repeat' (first | (refine ite_congr rfl (fun _ => ?_) (fun _ => ?_)) | (rw [sI_ne (by omega)]) | rfl)
theorem vC_heard {h : Hp} {f : Nat} {bg : Nat → Int} {p : Nat} {v : Int32} (hf : 9 ≤ f) (hp : p < 4) : vC (sI h (f + 2) p v) f bg = upI (vC h f bg) (14 + 5 * p) v.toInt := by
  funext j
  by_cases hj : j = 14 + 5 * p
  · subst hj
    rw [upI_s, (vC_p hp).2.2.2.2, sI_self]
  · rw [upI_n hj]
    unfold vC
    repeat' (first | (refine ite_congr rfl (fun _ => ?_) (fun _ => ?_)) | (rw [sI_ne (by omega)]) | rfl)
theorem vC_how {h : Hp} {f : Nat} {bg : Nat → Int} {p : Nat} {v : Int32} (hf : 9 ≤ f) (hp : p < 12) : vC (sI h (f + 3) p v) f bg = upI (vC h f bg) (34 + 5 * p) v.toInt := by
  funext j
  by_cases hj : j = 34 + 5 * p
  · subst hj
    rw [upI_s, (vC_w hp).2.2.2.2, sI_self]
  · rw [upI_n hj]
    unfold vC
    repeat' (first | (refine ite_congr rfl (fun _ => ?_) (fun _ => ?_)) | (rw [sI_ne (by omega)]) | rfl)
theorem vC_flow {h : Hp} {f : Nat} {bg : Nat → Int} {k : Nat} {v : Int32} (hf : 9 ≤ f) (hk : 3 ≤ k ∧ k ≤ 7) : vC (sI h f k v) f bg = upI (vC h f bg) k (if k = 6 then v.toInt + 1 else v.toInt) := by
  funext j
  by_cases hj : j = k
  · subst hj
    rw [upI_s]
    have : j = 3 ∨ j = 4 ∨ j = 5 ∨ j = 6 ∨ j = 7 := by omega
    rcases this with rfl | rfl | rfl | rfl | rfl
    · show ((sI h f 3 v).1 f 3).toInt = _
      rw [sI_self]; rfl
    · show ((sI h f 4 v).1 f 4).toInt = _
      rw [sI_self]; rfl
    · show ((sI h f 5 v).1 f 5).toInt = _
      rw [sI_self]; rfl
    · show ((sI h f 6 v).1 f 6).toInt + 1 = _
      rw [sI_self]; rfl
    · show ((sI h f 7 v).1 f 7).toInt = _
      rw [sI_self]; rfl
  · rw [upI_n hj]
    unfold vC
    repeat' (first | (refine ite_congr rfl (fun _ => ?_) (fun _ => ?_)) | (rw [sI_ne (by omega)]) | rfl)
/-- what a method of a Flow leaves alone (row 15 is the stack of EAR's text) -/
def CS (f : Nat) (h h' : Hp) : Prop := RF h' ∧ h'.2 = h.2 ∧ ∀ a, a ≠ f → a ≠ f + 1 → a ≠ f + 2 → a ≠ f + 3 → a ≠ 15 → h'.1 a = h.1 a
theorem CS.refl {f : Nat} {h : Hp} (hR : RF h) : CS f h h := ⟨hR, rfl, fun _ _ _ _ _ _ => rfl⟩
theorem CS.trans {f : Nat} {h h1 h2 : Hp} (a : CS f h h1) (b : CS f h1 h2) : CS f h h2 := ⟨b.1, b.2.1.trans a.2.1, fun x p q r s t => (b.2.2 x p q r s t).trans (a.2.2 x p q r s t)⟩
theorem CS.s {f : Nat} {h : Hp} {a k : Nat} {v : Int32} (hR : RF h) (ha : f ≤ a ∧ a ≤ f + 3) : CS f h (sI h a k v) := ⟨hR, rfl, fun b h1 h2 h3 h4 _ => by funext j; exact sI_ne (by omega)⟩
/-- steps that leave one number on the stack -/
def wfP (p : List Int32) : Prop := p = [] ∨ ∀ a b c : Int32, ∃ v, evS a b c p [] = [v]
def TxC (h : Hp) (t : Nat) (p : List Int32) : Prop := (h.1 t 2).toInt = (p.length : Int) ∧ (p.length ≤ 50 ∧ wfP p) ∧ ∀ i, i < p.length → h.1 (t + 1) i = p.getD i 0
def CT (r : Nat) (h h' : Hp) : Prop := RF h' ∧ h'.2 = h.2 ∧ ∀ a, a ≠ r → h'.1 a = h.1 a
