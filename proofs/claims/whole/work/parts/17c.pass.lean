/-! THE CLASS's hearing, on -/
section
variable {G : GT} {d : Nat} {h : Hp} {Q : Int32 → Hp → Prop} {QW : Hp → Prop}
theorem ev_hasParty {a1 : Int32} (hR : RF h) (hd : 1 ≤ d) (h4 : (h.1 1 0).toInt ≤ 4) (k : Q (b2 (0 ≤ a1.toInt ∧ a1.toInt < (h.1 1 0).toInt)) h) : EvI G d mX9_hasParty [.inr (.inr (some 1)), .inl a1] h Q := by
  obtain ⟨e, rfl⟩ := dpos hd
  refine vc_X9_hasParty hR ?_
  simp only [i_lt, i_le, Int32.reduceToInt]
  refine ⟨fun c => ?_, fun c => ⟨fun c2 => ?_, fun c2 => ⟨fun c3 => ?_, fun c3 => ?_⟩⟩⟩
  · rw [b2_f (by omega)] at k; exact k
  · rw [b2_f (by omega)] at k; exact k
  · omega
  · rw [b2_t (by omega)] at k; exact k
theorem ev_hasWord {a1 : Int32} (hR : RF h) (hd : 1 ≤ d) (h4 : (h.1 1 4).toInt ≤ 12) (k : Q (b2 (0 ≤ a1.toInt ∧ a1.toInt < (h.1 1 4).toInt)) h) : EvI G d mX9_hasWord [.inr (.inr (some 1)), .inl a1] h Q := by
  obtain ⟨e, rfl⟩ := dpos hd
  refine vc_X9_hasWord hR ?_
  simp only [i_lt, i_le, Int32.reduceToInt]
  refine ⟨fun c => ?_, fun c => ⟨fun c2 => ?_, fun c2 => ⟨fun c3 => ?_, fun c3 => ?_⟩⟩⟩
  · rw [b2_f (by omega)] at k; exact k
  · rw [b2_f (by omega)] at k; exact k
  · omega
  · rw [b2_t (by omega)] at k; exact k
theorem ev_atLeastOne {a0 : Int32} (hR : RF h) (hd : 1 ≤ d) (k : ∀ x : Int32, x.toInt = max 1 a0.toInt → Q x h) : EvI G d mX4_atLeastOne [.inl a0] h Q := by
  obtain ⟨e, rfl⟩ := dpos hd
  refine vc_X4_atLeastOne hR ?_
  simp only [i_le, Int32.reduceToInt]
  exact ⟨fun c => k _ (by omega), fun c => k _ (by show (1 : Int) = _; omega)⟩
theorem ev_K_runs {a0 a1 : Int32} (hR : RF h) (hd : 2 ≤ d) (hm : 0 ≤ a1.toInt ∧ a1.toInt ≤ 9) (k : ∀ x : Int32, x.toInt = rnk a0.toInt a1.toInt → Q x h) : EvI G d mX4_runs [.inl a0, .inl a1] h Q := by
  obtain ⟨e, rfl⟩ := dpos (Nat.le_of_succ_le hd)
  have s1 : (5 + a1).toInt = 5 + a1.toInt := ti_of (by rw [oi_add, oi_ti]; rfl) (by omega) (by omega)
  have s2 : (a1 / 2).toInt = a1.toInt / 2 := half_i (by omega)
  have s3 : (5 - (a1 / 2)).toInt = 5 - a1.toInt / 2 := by
    rw [← s2]
    exact ti_of (by rw [oi_sub, oi_ti]; rfl) (by omega) (by omega)
  have s4 : (2 * (5 + a1)).toInt = 2 * (5 + a1.toInt) := by
    rw [← s1]
    exact ti_of (by rw [oi_mul, oi_ti]; rfl) (by omega) (by omega)
  have s6 : (1 + a1).toInt = 1 + a1.toInt := ti_of (by rw [oi_add, oi_ti]; rfl) (by omega) (by omega)
  refine vc_X4_runs hR (ev_atLeastOne hR (by omega) (fun x hx => ?_))
  rw [s3] at hx
  have s5 : (x / 2).toInt = x.toInt / 2 := half_i (by omega)
  have fin : ∀ x : Int32, ∀ z : Int, x.toInt = z → z = rnk a0.toInt a1.toInt → Q x h := fun x z e1 e2 => k x (e1.trans e2)
  unfold rnk at fin
  refine ⟨⟨fun c => fin _ _ s1 ?_, fun c => fin _ _ hx ?_, fun c => fin _ 1 rfl ?_, fun c => fin _ _ s4 ?_, fun c => ev_atLeastOne hR (by omega) (fun y hy => fin _ _ hy ?_), fun c => fin _ _ s6 ?_⟩, fun c => fin _ 5 rfl ?_⟩ <;> (split <;> try omega) <;> (split <;> try omega) <;> (split <;> try omega) <;> (split <;> try omega) <;> (split <;> try omega) <;> (split <;> omega)
theorem ev_K_drips {a0 a1 : Int32} (hR : RF h) (hd : 1 ≤ d) (hm : 0 ≤ a1.toInt ∧ a1.toInt ≤ 9) (k : ∀ x : Int32, x.toInt = drk a0.toInt a1.toInt → Q x h) : EvI G d mX4_drips [.inl a0, .inl a1] h Q := by
  obtain ⟨e, rfl⟩ := dpos hd
  have s2 : (a1 / 2).toInt = a1.toInt / 2 := half_i (by omega)
  have s3 : ((a1 / 2) + 1).toInt = a1.toInt / 2 + 1 := by
    rw [← s2]
    exact ti_of (by rw [oi_add, oi_ti]; rfl) (by omega) (by omega)
  refine vc_X4_drips hR ?_
  have fin : ∀ x : Int32, ∀ z : Int, x.toInt = z → z = drk a0.toInt a1.toInt → Q x h := fun x z e1 e2 => k x (e1.trans e2)
  unfold drk at fin
  refine ⟨⟨fun c => fin _ _ s2 ?_, fun c => fin _ 0 rfl ?_, fun c => fin _ 1 rfl ?_, fun c => fin _ _ s3 ?_, fun c => fin _ 0 rfl ?_, fun c => fin _ 1 rfl ?_⟩, fun c => fin _ 0 rfl ?_⟩ <;> (split <;> try omega) <;> (split <;> try omega) <;> (split <;> try omega) <;> (split <;> omega)
theorem ev_runsC {a1 : Int32} {j : Nat} (hR : RF h) (hd : 3 ≤ d) (h1 : a1 = nI j) (h0 : (h.1 1 0).toInt ≤ 4) (hj : (j : Int) < (h.1 1 0).toInt) (hm : 0 ≤ (h.1 3 j).toInt ∧ (h.1 3 j).toInt ≤ 9) (k : ∀ x : Int32, x.toInt = rnk (h.1 2 j).toInt (h.1 3 j).toInt → Q x h) : EvI G d mX9_runs [.inr (.inr (some 1)), .inl a1] h Q := by
  obtain ⟨e, rfl⟩ := dpos (show 1 ≤ d by omega)
  have e1 : a1.toInt = (j : Int) := by rw [h1, ti_nI (by omega)]
  refine vc_X9_runs hR (ev_hasParty hR (by omega) h0 (br2 (fun c => ⟨in_of (by omega) (by omega), in_of (by omega) (by omega), ?_⟩) (fun c => absurd ⟨by omega, by omega⟩ c)))
  rw [cl_of e1]
  exact ev_K_runs hR (by omega) hm k
theorem ev_dripsC {a1 : Int32} {j : Nat} (hR : RF h) (hd : 3 ≤ d) (h1 : a1 = nI j) (h0 : (h.1 1 0).toInt ≤ 4) (hj : (j : Int) < (h.1 1 0).toInt) (hm : 0 ≤ (h.1 3 j).toInt ∧ (h.1 3 j).toInt ≤ 9) (k : ∀ x : Int32, x.toInt = drk (h.1 2 j).toInt (h.1 3 j).toInt → Q x h) : EvI G d mX9_drips [.inr (.inr (some 1)), .inl a1] h Q := by
  obtain ⟨e, rfl⟩ := dpos (show 1 ≤ d by omega)
  have e1 : a1.toInt = (j : Int) := by rw [h1, ti_nI (by omega)]
  refine vc_X9_drips hR (ev_hasParty hR (by omega) h0 (br2 (fun c => ⟨in_of (by omega) (by omega), in_of (by omega) (by omega), ?_⟩) (fun c => absurd ⟨by omega, by omega⟩ c)))
  rw [cl_of e1]
  exact ev_K_drips hR (by omega) hm k
theorem ev_speaker {B : Int} {f : Nat} {bg : Nat → Int} (hR : RF h) (hd : 2 ≤ d) (hf : SH[f]? = some (.inl 2)) (ok : OKF B (vC h f bg)) (k : ∀ x : Int32, x.toInt = spk (vC h f bg) → Q x h) : EvI G d mX9_speaker [.inr (.inr (some 1)), .inr (.inr (some f))] h Q := by
  obtain ⟨e, rfl⟩ := dpos (show 1 ≤ d by omega)
  have o1 : (h.1 1 4).toInt ≤ 12 := ok.2.1.2
  have o6 : 0 ≤ (h.1 f 6).toInt + 1 ∧ (h.1 f 6).toInt + 1 ≤ (h.1 1 4).toInt := ok.2.2.2.2.2.1
  refine vc_X9_speaker hf hR (ev_hasWord hR (by omega) o1 (br2 (fun c => ⟨in_of (by omega) (by omega), k _ ?_⟩) (fun c => k _ ?_)))
  · have e6 : vC h f bg 6 ≠ 0 := by show (h.1 f 6).toInt + 1 ≠ 0; omega
    obtain ⟨-, -, k3, k4, -⟩ := spk_in ok e6
    rw [k3, (vC_w k4).1]
    have : (vC h f bg 6 - 1).toNat = (h.1 f 6).toNatClampNeg := by show ((h.1 f 6).toInt + 1 - 1).toNat = (h.1 f 6).toInt.toNat; omega
    rw [this]
  · have e6 : vC h f bg 6 = 0 := by show (h.1 f 6).toInt + 1 = 0; omega
    rw [spk_no e6]
    rfl
theorem ev_lose {f j : Nat} {a1 a2 : Int32} (hR : RF h) (hd : 2 ≤ d) (hf : SH[f]? = some (.inl 2)) (h1 : a1 = nI j) (hj : j < 4) (k : ∀ g : Int32, g.toInt = min (h.1 (f + 1) j).toInt a2.toInt → Q g (sI h (f + 1) j (h.1 (f + 1) j - g))) : EvI G d mX2_lose [.inr (.inr (some f)), .inl a1, .inl a2] h Q := by
  obtain ⟨e, rfl⟩ := dpos (show 1 ≤ d by omega)
  have e1 : a1.toInt = (j : Int) := by rw [h1, ti_nI (by omega)]
  refine vc_X2_lose hf hR (ev_within hR (by omega) (br2' (fun c => ⟨in_of (by omega) (by omega), in_of (by omega) (by omega), in_of (by omega) (by omega), ?_⟩) (fun c => absurd ⟨by rw [e1]; simp, by rw [e1]; show (j : Int) ≤ 3; omega⟩ c)))
  rw [cl_of e1]
  intro h4 e4
  subst e4
  refine k _ ?_
  simp only [i_lt]
  split <;> omega
theorem ev_floorGets {f : Nat} {a1 : Int32} (hR : RF h) (hd : 1 ≤ d) (hf : SH[f]? = some (.inl 2)) (h0 : 0 ≤ a1.toInt ∧ a1.toInt ≤ 1000000) (h4 : 0 ≤ (h.1 f 4).toInt ∧ (h.1 f 4).toInt ≤ 999999) (k : ∀ v : Int32, v.toInt = min 999999 ((h.1 f 4).toInt + a1.toInt) → QW (sI h f 4 v)) : EvV G d mX2_floorGets [.inr (.inr (some f)), .inl a1] h QW := by
  obtain ⟨e, rfl⟩ := dpos hd
  have e1 : (h.1 f 4 + a1).toInt = (h.1 f 4).toInt + a1.toInt := ti_add (by omega) (by omega)
  refine vc_X2_floorGets hf hR (k _ ?_)
  simp only [i_lt, e1, Int32.reduceToInt]
  split
  · rw [e1]; omega
  · show (999999 : Int) = _; omega
theorem ev_end {f w : Nat} {a1 a2 : Int32} (hR : RF h) (hd : 2 ≤ d) (hf : SH[f]? = some (.inl 2)) (h1 : a1 = nI w) (hw : w < 12) (k : QW (sI (sI (sI h (f + 3) w a2) f 6 (-1)) f 7 0)) : EvV G d mX2_end [.inr (.inr (some f)), .inl a1, .inl a2] h QW := by
  obtain ⟨e, rfl⟩ := dpos (show 1 ≤ d by omega)
  have e1 : a1.toInt = (w : Int) := by rw [h1, ti_nI (by omega)]
  refine vc_X2_end hf hR (ev_within hR (by omega) (br2 (fun c => ⟨in_of (by omega) (by omega), ?_⟩) (fun c => absurd ⟨by rw [e1]; simp, by rw [e1]; show (w : Int) ≤ 11; omega⟩ c)))
  rw [cl_of e1]
  exact k
theorem ev_quotient {a0 a1 : Int32} (hR : RF h) (hd : 1 ≤ d) (h0 : 0 ≤ a0.toInt) (h1 : 0 < a1.toInt) (k : ∀ x : Int32, x.toInt = a0.toInt / a1.toInt → Q x h) : EvI G d mX11_quotient [.inl a0, .inl a1] h Q := by
  obtain ⟨e, rfl⟩ := dpos hd
  have hn : ¬ a1 = 0 := fun z => by rw [z] at h1; exact absurd h1 (by decide)
  exact vc_X11_quotient hR ⟨fun _ => ⟨hn, k _ (ti_div h0 h1)⟩, fun z => absurd z hn⟩
end
