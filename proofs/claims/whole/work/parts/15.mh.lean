/-! THE REFERENCE's small methods -/
abbrev vM (h : Hp) : Nat → Int := fun j => (h.1 95 j).toInt
def hd3 (v lo hi : Int32) : Int32 := if v < lo then lo else if hi < v then hi else v
theorem hd3_i {v lo hi : Int32} (h : lo.toInt ≤ hi.toInt) : (hd3 v lo hi).toInt = max lo.toInt (min hi.toInt v.toInt) := by
  unfold hd3
  simp only [i_lt]
  split
  · omega
  split <;> omega
theorem cpI_0 (h : Hp) (a i b j : Nat) : cpI h a i b j 0 = h := by
  unfold cpI
  refine Prod.ext ?_ rfl
  funext q t
  show (if q = b ∧ j ≤ t ∧ t < j + 0 then _ else _) = _
  rw [if_neg (by omega)]
theorem cpI_s {h : Hp} {a i b j l : Nat} (hab : a ≠ b) : sI (cpI h a i b j l) b (j + l) (h.1 a (i + l)) = cpI h a i b j (l + 1) := by
  unfold cpI sI
  refine Prod.ext ?_ rfl
  funext q t
  show (if q = b ∧ t = j + l then _ else if q = b ∧ j ≤ t ∧ t < j + l then _ else _) = (if q = b ∧ j ≤ t ∧ t < j + (l + 1) then _ else _)
  by_cases hq : q = b ∧ t = j + l
  · rw [if_pos hq, if_pos (by omega), show t - j = l by omega]
  · rw [if_neg hq]
    by_cases h2 : q = b ∧ j ≤ t ∧ t < j + l
    · rw [if_pos h2, if_pos (by omega)]
    · rw [if_neg h2, if_neg (by omega)]
theorem cpI_at (h : Hp) (a i b j n q t : Nat) : (cpI h a i b j n).1 q t = if q = b ∧ j ≤ t ∧ t < j + n then h.1 a (i + (t - j)) else h.1 q t := rfl
section
variable {G : GT} {d : Nat} {h : Hp} {Q : Int32 → Hp → Prop} {QW : Hp → Prop}
theorem nI_lit5 {a1 a2 : Int32} {j w : Nat} (c : Nat) (hc : c ≤ 1000) (h1 : a1 = nI j) (h2 : a2 = nI w) (hj : j < 50) (hw : w < 5) : ((nI c + (5 * a1)) + a2).toInt = ((c + 5 * j + w : Nat) : Int) :=
  ti_of (by rw [h1, h2]; push_cast; simp only [oi_add, oi_mul, oi_nat]; rfl) (by omega) (by omega)
theorem ev_sets {a1 a2 a3 : Int32} {j w : Nat} (hR : RF h) (hd : 1 ≤ d) (h1 : a1 = nI j) (h2 : a2 = nI w) (hj : j < 50) (hw : w < 5) (k : QW (sI h 95 (10 + 5 * j + w) a3)) : EvV G d mX12_sets [.inr (.inr (some 94)), .inl a1, .inl a2, .inl a3] h QW := by
  obtain ⟨e, rfl⟩ := dpos hd
  have e3 := nI_lit5 10 (by omega) h1 h2 hj hw
  refine vc_X12_sets hR ⟨in_of (by show 0 ≤ ((nI 10 + (5 * a1)) + a2).toInt; omega) (by show ((nI 10 + (5 * a1)) + a2).toInt < _; omega), ?_⟩
  rw [show ((10 + (5 * a1)) + a2).toNatClampNeg = 10 + 5 * j + w from cl_of e3]; exact k
theorem ev_its {a1 a2 : Int32} {j w : Nat} (hR : RF h) (hd : 1 ≤ d) (h1 : a1 = nI j) (h2 : a2 = nI w) (hj : j < 46) (hw : w < 5) (k : Q (h.1 95 (30 + 5 * j + w)) h) : EvI G d mX12_its [.inr (.inr (some 94)), .inl a1, .inl a2] h Q := by
  obtain ⟨e, rfl⟩ := dpos hd
  have e3 := nI_lit5 30 (by omega) h1 h2 (by omega) hw
  refine vc_X12_its hR ⟨in_of (by show 0 ≤ ((nI 30 + (5 * a1)) + a2).toInt; omega) (by show ((nI 30 + (5 * a1)) + a2).toInt < _; omega), ?_⟩
  rw [show ((30 + (5 * a1)) + a2).toNatClampNeg = 30 + 5 * j + w from cl_of e3]; exact k
theorem ev_puts {a1 a2 a3 : Int32} {j w : Nat} (hR : RF h) (hd : 1 ≤ d) (h1 : a1 = nI j) (h2 : a2 = nI w) (hj : j < 46) (hw : w < 5) (k : QW (sI h 95 (30 + 5 * j + w) a3)) : EvV G d mX12_puts [.inr (.inr (some 94)), .inl a1, .inl a2, .inl a3] h QW := by
  obtain ⟨e, rfl⟩ := dpos hd
  have e3 := nI_lit5 30 (by omega) h1 h2 (by omega) hw
  refine vc_X12_puts hR ⟨in_of (by show 0 ≤ ((nI 30 + (5 * a1)) + a2).toInt; omega) (by show ((nI 30 + (5 * a1)) + a2).toInt < _; omega), ?_⟩
  rw [show ((30 + (5 * a1)) + a2).toNatClampNeg = 30 + 5 * j + w from cl_of e3]; exact k
theorem ev_heldM {a0 a1 a2 : Int32} (hR : RF h) (hd : 1 ≤ d) (h12 : a1.toInt ≤ a2.toInt) (k : Q (hd3 a0 a1 a2) h) : EvI G d mX12_held [.inl a0, .inl a1, .inl a2] h Q := by
  obtain ⟨e, rfl⟩ := dpos hd
  refine vc_X12_held hR ?_
  unfold hd3 at k
  simp only [i_lt, i_le] at k ⊢
  refine ⟨fun c => ⟨fun c2 => ?_, fun c2 => ?_⟩, fun c => ?_⟩
  · rw [if_neg (by omega), if_neg (by omega)] at k; exact k
  · rw [if_neg (by omega), if_pos (by omega)] at k; exact k
  · rw [if_pos (by omega)] at k; exact k
theorem ev_isParty {a1 : Int32} (hR : RF h) (hd : 2 ≤ d) (h4 : 0 ≤ vM h 0 ∧ vM h 0 ≤ 4) (k : Q (b2 (0 ≤ a1.toInt ∧ a1.toInt < vM h 0)) h) : EvI G d mX12_isParty [.inr (.inr (some 94)), .inl a1] h Q := by
  obtain ⟨e, rfl⟩ := dpos (Nat.le_of_succ_le hd)
  refine vc_X12_isParty hR (ev_in hR (by omega) ⟨b2_nar, ?_⟩)
  have e1 : ((h.1 95 0) - 1).toInt = (h.1 95 0).toInt - 1 := ti_sub (by show _ ≤ vM h 0 - 1; omega) (by show vM h 0 - 1 < _; omega)
  refine cast (congrArg (fun z => Q z h) (b2_c ?_)) k
  rw [l_of_i, l_of_i, e1]
  show _ ↔ (0 : Int) ≤ _ ∧ _ ≤ vM h 0 - 1
  omega
theorem ev_isWord {a1 : Int32} (hR : RF h) (hd : 2 ≤ d) (h4 : 0 ≤ vM h 1 ∧ vM h 1 ≤ 12) (k : Q (b2 (0 ≤ a1.toInt ∧ a1.toInt < vM h 1)) h) : EvI G d mX12_isWord [.inr (.inr (some 94)), .inl a1] h Q := by
  obtain ⟨e, rfl⟩ := dpos (Nat.le_of_succ_le hd)
  refine vc_X12_isWord hR (ev_in hR (by omega) ⟨b2_nar, ?_⟩)
  have e1 : ((h.1 95 1) - 1).toInt = (h.1 95 1).toInt - 1 := ti_sub (by show _ ≤ vM h 1 - 1; omega) (by show vM h 1 - 1 < _; omega)
  refine cast (congrArg (fun z => Q z h) (b2_c ?_)) k
  rw [l_of_i, l_of_i, e1]
  show _ ↔ (0 : Int) ≤ _ ∧ _ ≤ vM h 1 - 1
  omega
theorem half_i {x : Int32} (h0 : 0 ≤ x.toInt) : (x / 2).toInt = x.toInt / 2 := ti_div h0 (by decide)
theorem ev_runsM {a1 : Int32} {j : Nat} (hR : RF h) (hd : 2 ≤ d) (h1 : a1 = nI j) (hj : j < 4) (ok : OKP (vM h) j) (k : ∀ x : Int32, x.toInt = rnk (vM h (10 + 5 * j)) (vM h (11 + 5 * j)) → Q x h) : EvI G d mX12_runs [.inr (.inr (some 94)), .inl a1] h Q := by
  obtain ⟨e, rfl⟩ := dpos (Nat.le_of_succ_le hd)
  obtain ⟨ok1, ok2, -⟩ := ok
  refine vc_X12_runs hR (ev_of hR (by omega) h1 (w := 1) rfl (by omega) (by omega) (ev_of hR (by omega) h1 (w := 0) rfl (by omega) (by omega) ?_))
  have eM : (h.1 95 (10 + 5 * j + 1)).toInt = vM h (11 + 5 * j) := by show _ = (h.1 95 (11 + 5 * j)).toInt; rw [show 10 + 5 * j + 1 = 11 + 5 * j by omega]
  have eK : (h.1 95 (10 + 5 * j + 0)).toInt = vM h (10 + 5 * j) := rfl
  generalize h.1 95 (10 + 5 * j + 1) = m at eM ⊢
  generalize h.1 95 (10 + 5 * j + 0) = kd at eK ⊢
  have s1 : (5 + m).toInt = 5 + m.toInt := ti_of (by rw [oi_add, oi_ti]; rfl) (by omega) (by omega)
  have s2 : (m / 2).toInt = m.toInt / 2 := half_i (by omega)
  have s3 : (5 - (m / 2)).toInt = 5 - m.toInt / 2 := by
    rw [← s2]
    exact ti_of (by rw [oi_sub, oi_ti]; rfl) (by omega) (by omega)
  have s4 : (2 * (5 + m)).toInt = 2 * (5 + m.toInt) := by
    rw [← s1]
    exact ti_of (by rw [oi_mul, oi_ti]; rfl) (by omega) (by omega)
  have s5 : ((5 - (m / 2)) / 2).toInt = (5 - m.toInt / 2) / 2 := by rw [← s3]; exact half_i (by omega)
  have s6 : (1 + m).toInt = 1 + m.toInt := ti_of (by rw [oi_add, oi_ti]; rfl) (by omega) (by omega)
  simp only [i_le, Int32.reduceToInt, s1, s3, s4, s5, s6]
  have fin : ∀ x : Int32, ∀ z : Int, x.toInt = z → z = rnk (vM h (10 + 5 * j)) (vM h (11 + 5 * j)) → Q x h := fun x z e1 e2 => k x (e1.trans e2)
  unfold rnk at fin
  rw [← eM, ← eK] at fin
  refine ⟨⟨fun c => ⟨fun c2 => fin _ _ s1 ?_, fun c2 => fin _ 1 rfl ?_⟩, fun c => ⟨fun c2 => fin _ _ s3 ?_, fun c2 => fin _ 1 rfl ?_⟩, fun c => fin _ 1 rfl ?_, fun c => ⟨fun c2 => fin _ _ s4 ?_, fun c2 => fin _ 1 rfl ?_⟩, fun c => ⟨fun c2 => fin _ _ s5 ?_, fun c2 => fin _ 1 rfl ?_⟩, fun c => ⟨fun c2 => fin _ _ s6 ?_, fun c2 => fin _ 1 rfl ?_⟩⟩, fun c => fin _ 5 rfl ?_⟩ <;> (split <;> try omega) <;> (split <;> try omega) <;> (split <;> try omega) <;> (split <;> try omega) <;> (split <;> try omega) <;> (split <;> omega)
theorem ev_dripsM {a1 : Int32} {j : Nat} (hR : RF h) (hd : 2 ≤ d) (h1 : a1 = nI j) (hj : j < 4) (ok : OKP (vM h) j) (k : ∀ x : Int32, x.toInt = drk (vM h (10 + 5 * j)) (vM h (11 + 5 * j)) → Q x h) : EvI G d mX12_drips [.inr (.inr (some 94)), .inl a1] h Q := by
  obtain ⟨e, rfl⟩ := dpos (Nat.le_of_succ_le hd)
  obtain ⟨ok1, ok2, -⟩ := ok
  refine vc_X12_drips hR (ev_of hR (by omega) h1 (w := 0) rfl (by omega) (by omega) (ev_of hR (by omega) h1 (w := 1) rfl (by omega) (by omega) ?_))
  have eM : (h.1 95 (10 + 5 * j + 1)).toInt = vM h (11 + 5 * j) := by show _ = (h.1 95 (11 + 5 * j)).toInt; rw [show 10 + 5 * j + 1 = 11 + 5 * j by omega]
  have eK : (h.1 95 (10 + 5 * j + 0)).toInt = vM h (10 + 5 * j) := rfl
  generalize h.1 95 (10 + 5 * j + 1) = m at eM ⊢
  generalize h.1 95 (10 + 5 * j + 0) = kd at eK ⊢
  have s2 : (m / 2).toInt = m.toInt / 2 := half_i (by omega)
  have s3 : ((m / 2) + 1).toInt = m.toInt / 2 + 1 := by
    rw [← s2]
    exact ti_of (by rw [oi_add, oi_ti]; rfl) (by omega) (by omega)
  simp only [i_eq, Int32.reduceToInt]
  have fin : ∀ x : Int32, ∀ z : Int, x.toInt = z → z = drk (vM h (10 + 5 * j)) (vM h (11 + 5 * j)) → Q x h := fun x z e1 e2 => k x (e1.trans e2)
  unfold drk at fin
  rw [← eM, ← eK] at fin
  refine ⟨fun c => ⟨fun c2 => ⟨fun c3 => fin _ 1 rfl ?_, fun c3 => ⟨fun c4 => fin _ 0 rfl ?_, fun c4 => fin _ 1 rfl ?_⟩⟩, fun c2 => fin _ _ s3 ?_⟩, fun c => fin _ _ s2 ?_⟩ <;> (split <;> try omega) <;> (split <;> try omega) <;> (split <;> try omega) <;> (split <;> omega)
theorem ev_loses {a1 a2 : Int32} {j : Nat} (hR : RF h) (hd : 2 ≤ d) (h1 : a1 = nI j) (hj : j < 4) (h0 : 0 ≤ a2.toInt) (hw : 0 ≤ vM h (13 + 5 * j)) (k : ∀ g : Int32, g.toInt = min (vM h (13 + 5 * j)) a2.toInt → Q g (sI h 95 (13 + 5 * j) (h.1 95 (13 + 5 * j) - g))) : EvI G d mX12_loses [.inr (.inr (some 94)), .inl a1, .inl a2] h Q := by
  obtain ⟨e, rfl⟩ := dpos (Nat.le_of_succ_le hd)
  have ej : 10 + 5 * j + 3 = 13 + 5 * j := by omega
  refine vc_X12_loses hR (ev_of hR (by omega) h1 (w := 3) rfl (by omega) (by omega) ?_)
  rw [ej]
  simp only [i_le]
  refine ⟨fun c => ?_, fun c => ?_⟩
  · refine ev_sets hR (by omega) h1 (w := 3) rfl (by omega) (by omega) ?_
    rw [ej]
    exact k _ (by show vM h (13 + 5 * j) = _; have : vM h (13 + 5 * j) ≤ a2.toInt := c; omega)
  · refine ev_sets hR (by omega) h1 (w := 3) rfl (by omega) (by omega) ?_
    rw [ej]
    exact k _ (by have : ¬ vM h (13 + 5 * j) ≤ a2.toInt := c; omega)
theorem ev_spills {a1 : Int32} (hR : RF h) (hd : 1 ≤ d) (h0 : 0 ≤ a1.toInt ∧ a1.toInt ≤ 1000000) (hf : 0 ≤ vM h 4 ∧ vM h 4 ≤ 999999) (k : ∀ v : Int32, v.toInt = min 999999 (vM h 4 + a1.toInt) → QW (sI h 95 4 v)) : EvV G d mX12_spills [.inr (.inr (some 94)), .inl a1] h QW := by
  obtain ⟨e, rfl⟩ := dpos hd
  have e1 : (h.1 95 4 + a1).toInt = vM h 4 + a1.toInt := ti_add (by show _ ≤ vM h 4 + _; omega) (by show vM h 4 + _ < _; omega)
  refine vc_X12_spills hR ?_
  simp only [i_le, e1, Int32.reduceToInt]
  exact ⟨fun c => k _ (by rw [e1]; omega), fun c => k _ (by show (999999 : Int) = _; omega)⟩
end
