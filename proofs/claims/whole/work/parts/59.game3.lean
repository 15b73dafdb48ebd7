/-! game: the class's small steps -/
section
variable {G : GT} {d : Nat} {h : Hp} {Q : Int32 → Hp → Prop} {QW : Hp → Prop}
/-- a WORD is said to its end in a flow -/
theorem ev_goC {B : Int} {f w : Nat} {a1 : Int32} {p0 : List Int32} {bg F : Nat → Int} (hR : RF h) (hd : 25 ≤ d) (hf : SH[f]? = some (.inl 2)) (h41 : 41 ≤ f) (ok : OKF B F) (hB : B ≤ 1000000000) (hv : vC h f bg = F) (T : TxC h 13 p0) (ew : a1.toInt = w) (wF : (w : Int) < F 1) (h0 : F (34 + 5 * w) = 0) (k : ∀ h', CS f h h' → vC h' f bg = goF (earI p0) F w → QW h') : EvV G d mX9_begin [.inr (.inr (some 1)), .inr (.inr (some f)), .inl a1] h (fun h12 => EvI G d mX9_tillEnd [.inr (.inr (some 1)), .inr (.inr (some f))] h12 (fun x14 h13 => EvV G d mX9_pass [.inr (.inr (some 1)), .inr (.inr (some f)), .inl x14] h13 QW)) := by
  have o1 := ok.2.1
  have e1 : (h.1 1 4).toInt = F 1 := by rw [← hv] <;> rfl
  refine ev_begin hR (by omega) hf (by omega) ew (by omega) ?_
  have vb : vC (sI (sI h f 6 a1) f 7 (h.1 6 w)) f bg = begF F w := by
    rw [vC_flow (by omega) (by omega), vC_flow (by omega) (by omega), if_neg (show ¬ (7 : Nat) = 6 by omega), if_pos (show (6 : Nat) = 6 from rfl), hv, ew]
    have e6 : (h.1 6 w).toInt = F (31 + 5 * w) := by rw [← hv, (@vC_w h f bg w (by omega)).2.1]
    rw [e6]
    rfl
  have csb : CS f h (sI (sI h f 6 a1) f 7 (h.1 6 w)) := ⟨hR, rfl, fun a z1 z2 z3 z4 z5 => by funext t; rw [sI_ne (by omega), sI_ne (by omega)]⟩
  have okb : OKF B (begF F w) := OKF_beg ok wF h0
  have tl := til_le okb
  refine ev_tillEnd (bg := bg) csb.1 (by omega) hf (by rw [vb]; exact okb) (fun x ex => ?_)
  rw [vb] at ex
  refine ev_pass (bg := bg) csb.1 (by omega) hf (by rw [vb]; exact okb) hB (by omega) (TxC_eq (by rw [csb.2.2 13 (by omega) (by omega) (by omega) (by omega) (by omega)]) (fun t _ => by rw [csb.2.2 (13 + 1) (by omega) (by omega) (by omega) (by omega) (by omega)]) T) (fun h2 cs2 hv2 => k h2 (csb.trans cs2) ?_)
  rw [hv2, vb, ex]
  have := pas_sec (@he_ear p0) (tilF (begF F w)).toNat okb
  rw [show (((tilF (begF F w)).toNat : Nat) : Int) = tilF (begF F w) by omega] at this
  exact this
theorem ev_better {l : Nat} {a0 a1 : Int32} (hR : RF h) (hd : 1 ≤ d) (hl : l < 5) (k : Q (b2 (btS l a0 a1)) h) : EvI G d mX1_isBetter [.inl a0, .inl a1, .inl (nI l)] h Q := by
  obtain ⟨e, rfl⟩ := dpos (show 1 ≤ d by omega)
  refine vc_X1_isBetter hR ?_
  rw [par hl]
  refine ⟨fun p => ⟨fun z => ?_, fun z => ?_⟩, fun p => ⟨fun z => ?_, fun z => ?_⟩⟩
  · rw [b2_f (fun y => by rw [i_le] at z; unfold btS at y; rw [i_lt, i_lt] at y; omega)] at k; exact k
  · rw [b2_t (Or.inr ⟨p, by rw [i_le] at z; rw [i_lt]; omega⟩)] at k; exact k
  · rw [b2_f (fun y => by rw [i_le] at z; unfold btS at y; rw [i_lt, i_lt] at y; omega)] at k; exact k
  · rw [b2_t (Or.inl ⟨p, by rw [i_le] at z; rw [i_lt]; omega⟩)] at k; exact k
end
