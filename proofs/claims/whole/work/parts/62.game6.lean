/-! game: play -/
section
variable {G : GT} {d : Nat} {h : Hp} {Q : Int32 → Hp → Prop} {QW : Hp → Prop}
/-- nothing in hand, and the thumb off -/
def frS0 (F : Nat → Int) : Nat → Int := upI (upI (upI F 5 0) 6 0) 7 0
theorem frS0_n {F : Nat → Int} {k : Nat} (h5 : k ≠ 5) (h6 : k ≠ 6) (h7 : k ≠ 7) : frS0 F k = F k := by
  unfold frS0
  rw [upI_n h7, upI_n h6, upI_n h5]
theorem frS0_5 {F : Nat → Int} : frS0 F 5 = 0 ∧ frS0 F 6 = 0 ∧ frS0 F 7 = 0 := by
  unfold frS0
  exact ⟨by rw [upI_n (by omega), upI_n (by omega), upI_s], by rw [upI_n (by omega), upI_s], by rw [upI_s]⟩
theorem OKF_fr {B : Int} {F : Nat → Int} (ok : OKF B F) : OKF B (frS0 F) := by
  obtain ⟨q0, q1, q3, q4, q5, q6, q7, q8, q9, q10⟩ := ok
  obtain ⟨f5, f6, f7⟩ := @frS0_5 F
  unfold OKF
  rw [f5, f6, f7, frS0_n (by omega) (by omega) (by omega), frS0_n (by omega) (by omega) (by omega), frS0_n (by omega) (by omega) (by omega), frS0_n (by omega) (by omega) (by omega)]
  exact ⟨q0, q1, q3, q4, by omega, by omega, by omega, fun z => absurd rfl z, fun p hp => OKP_congr (fun j _ _ => frS0_n (by omega) (by omega) (by omega)) hp (q9 p hp), fun w hw => OKW_congr (fun j _ _ => frS0_n (by omega) (by omega) (by omega)) (frS0_n (by omega) (by omega) (by omega)) (frS0_n (by omega) (by omega) (by omega)) hw (q10 w hw)⟩
theorem ev_play {F : Nat → Int} {bg : Nat → Int} {p1 p2 N n0 : Nat} {a1 a2 a3 : Int32} {p0 : List Int32} (hR : RF h) (hd : 60 ≤ d) (hN : 1 ≤ N ∧ N ≤ 4) (e1 : a1 = nI p1) (e2 : a2 = nI p2) (e3 : a3 = nI N) (h1 : p1 < n0) (h2 : p2 < n0) (h4 : n0 ≤ 4) (hv : vC h 9 bg = F) (ok : OKF 99999 F) (f0 : F 0 = n0) (T : TxC h 13 p0) (k : ∀ h', RF h' → (∀ a, a ≠ 15 → ¬ (56 ≤ a ∧ a ≤ 77) → h'.1 a = h.1 a) → h'.1 56 0 = (gmV (earI p0) p1 p2 (oI (F (14 + 5 * p1)) - oI (F (14 + 5 * p2))) N 0 (frS0 F)).1 → Q (gmV (earI p0) p1 p2 (oI (F (14 + 5 * p1)) - oI (F (14 + 5 * p2))) N 0 (frS0 F)).2 h') : EvI G d mX1_play [.inr (.inr (some 56)), .inr (.inr (some 1)), .inl a1, .inl a2, .inl a3] h Q := by
  obtain ⟨e, rfl⟩ := dpos (show 1 ≤ d by omega)
  subst e1
  subst e2
  subst e3
  have eN : (nI N).toInt = (N : Int) := ti_nI (by omega)
  have eh : hd3 (nI N) 0 4 = nI N := by
    rw [i_eq, hd3_i (by decide)]
    simp only [Int32.reduceToInt]
    omega
  have hR1 : RF (sI (sI h 56 2 (nI p1)) 56 3 (nI p2)) := hR
  refine vc_X1_play hR (ev_heldC hR1 (by omega) (by decide) ?_)
  rw [eh]
  refine ev_copyF (h := sI (sI (sI h 56 2 (nI p1)) 56 3 (nI p2)) 56 4 (nI N)) hR (by omega) (sh57 0 (by omega)) rfl (by omega) (fun h3 cs ev => ?_)
  have f3 : ∀ a, a ≠ 15 → ¬ (56 ≤ a ∧ a ≤ 77) → h3.1 a = h.1 a := fun a z1 z2 => by
    rw [cs.2.2 a (by omega) (by omega) (by omega) (by omega) z1]
    funext t
    rw [sI_ne (by omega), sI_ne (by omega), sI_ne (by omega)]
  have ev9 : vC h3 58 bg = F := by
    rw [ev bg, ← hv]
    exact vC_eq2 (fun a _ _ => by funext t; rw [sI_ne (by omega), sI_ne (by omega), sI_ne (by omega)]) (fun t _ _ => by rw [sI_ne (by omega), sI_ne (by omega), sI_ne (by omega)]) (fun t _ => by rw [sI_ne (by omega), sI_ne (by omega), sI_ne (by omega)]) (fun t _ => by rw [sI_ne (by omega), sI_ne (by omega), sI_ne (by omega)]) (fun t _ => by rw [sI_ne (by omega), sI_ne (by omega), sI_ne (by omega)])
  have hv4 : vC (sI (sI (sI h3 58 5 0) 58 6 (-1)) 58 7 0) (58 + 4 * 0) bg = frS0 F := by
    show vC (sI (sI (sI h3 58 5 0) 58 6 (-1)) 58 7 0) 58 bg = frS0 F
    rw [vC_flow (by omega) (by omega), vC_flow (by omega) (by omega), vC_flow (by omega) (by omega), if_neg (show ¬ (7 : Nat) = 6 by omega), if_pos (show (6 : Nat) = 6 from rfl), if_neg (show ¬ (5 : Nat) = 6 by omega), ev9, ti_m1]
    rfl
  have c56 : h3.1 56 = (sI (sI (sI h 56 2 (nI p1)) 56 3 (nI p2)) 56 4 (nI N)).1 56 := cs.2.2 56 (by omega) (by omega) (by omega) (by omega) (by omega)
  have q1 := (@vC_p h3 58 bg p1 (by omega)).2.2.2.2
  have q2 := (@vC_p h3 58 bg p2 (by omega)).2.2.2.2
  rw [ev9] at q1 q2
  refine turn_all (bg := bg) (p1 := p1) (p2 := p2) (N := N) (n0 := n0) (p0 := p0) hN.2 h1 h2 h4 N 0 e (frS0 F) _ Q (by omega) (by omega) cs.1 ⟨?_, ?_, ?_, ?_⟩ hv4 ?_ frS0_5.1 (by rw [frS0_n (by omega) (by omega) (by omega)]; exact f0) (TxC_eq (by rw [sI_ne (by omega), sI_ne (by omega), sI_ne (by omega), f3 13 (by omega) (by omega)]) (fun t _ => by rw [sI_ne (by omega), sI_ne (by omega), sI_ne (by omega), f3 (13 + 1) (by omega) (by omega)]) T) (fun _ => by omega) (fun h' t e56 => k h' t.1 (fun a z1 z2 => ?_) (e56 rfl))
  · rw [sI_ne (by omega), sI_ne (by omega), sI_ne (by omega), c56, sI_ne (by omega), sI_ne (by omega), sI_self]
  · rw [sI_ne (by omega), sI_ne (by omega), sI_ne (by omega), c56, sI_ne (by omega), sI_self]
  · rw [sI_ne (by omega), sI_ne (by omega), sI_ne (by omega), c56, sI_self]
  · rw [sI_ne (by omega), sI_ne (by omega), sI_ne (by omega), sI_ne (by omega), sI_ne (by omega), sI_ne (by omega), q1, q2, oi_ti, oi_ti]
  · refine OKF_3 (OKF_fr ok) ?_
    have := (OKF_fr ok).2.2.1.2
    omega
  · rw [t.2.1 a z1 (by omega) (by omega)]
    funext q
    rw [sI_ne (by omega), sI_ne (by omega), sI_ne (by omega), f3 a z1 z2]
end
