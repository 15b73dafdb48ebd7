/-! game: the step -/
section
variable {G : GT} {d : Nat} {h : Hp} {Q : Int32 → Hp → Prop} {QW : Hp → Prop}
abbrev gamOk (N a1 a2 a3 a4 : Int) : Prop := ((0 ≤ a1 ∧ a1 < N) ∧ (0 ≤ a2 ∧ a2 < N) ∧ ¬ a1 = a2) ∧ (1 ≤ a3 ∧ a3 ≤ 4) ∧ (0 ≤ a4 ∧ a4 ≤ 1)
def gR (F : Nat → Int) (t0 : List Int32) (a1 a2 a3 : Int) : Int32 × Int32 := gmV (earI t0) a1.toNat a2.toNat (oI (F (14 + 5 * a1.toNat)) - oI (F (14 + 5 * a2.toNat))) a3.toNat 0 (frS0 F)
theorem gR_nat {F : Nat → Int} {t0 : List Int32} {a1 a2 a3 : Int} {p1 p2 N : Nat} (e1 : a1 = p1) (e2 : a2 = p2) (e3 : a3 = N) : gR F t0 a1 a2 a3 = gmV (earI t0) p1 p2 (oI (F (14 + 5 * p1)) - oI (F (14 + 5 * p2))) N 0 (frS0 F) := by
  subst e1
  subst e2
  subst e3
  rfl
theorem M_game {F : Nat → Int} {a1 a2 a3 a4 : Int32} {t0 t1 : List Int32} (eF : vM h = F) (hR : RF h) (hd : 92 ≤ d) (ok : OKF 99999 F) (T : TxM h 95 t0 t1) (k1 : ¬ gamOk (F 0) a1.toInt a2.toInt a3.toInt a4.toInt → Q (er 1) (sI h 98 1 (h.1 98 1 + 1)))
    (k : ∀ (h' : Hp), gamOk (F 0) a1.toInt a2.toInt a3.toInt a4.toInt → MZ h h' → Q (if a4 = 0 then (gR F t0 a1.toInt a2.toInt a3.toInt).2 else (gR F t0 a1.toInt a2.toInt a3.toInt).1) h') : EvI G d mX12_game [.inr (.inr (some 94)), .inl a1, .inl a2, .inl a3, .inl a4] h Q := by
  obtain ⟨e, rfl⟩ := dpos (show 1 ≤ d by omega)
  subst eF
  have o0 := ok.1
  refine vc_X12_game hR (ev_isParty hR (by omega) (by omega) (br2 (fun c1 => ev_isParty hR (by omega) (by omega) (br2 (fun c2 => ⟨fun c3 => ev_finds hR (by omega) (n := 1) rfl (by omega) (k1 (fun z => z.1.2.2 (by rw [c3]))), fun c3 => ev_in32 hR (by omega) (br2 (fun c4 => ev_in32 hR (by omega) (br2' (fun c5 => ?_) (fun c5 => ev_finds hR (by omega) (n := 1) rfl (by omega) (k1 (fun z => c5 z.2.2))))) (fun c4 => ev_finds hR (by omega) (n := 1) rfl (by omega) (k1 (fun z => c4 z.2.1))))⟩) (fun c2 => ev_finds hR (by omega) (n := 1) rfl (by omega) (k1 (fun z => c2 z.1.2.1))))) (fun c1 => ev_finds hR (by omega) (n := 1) rfl (by omega) (k1 (fun z => c1 z.1.1)))))
  have c6 : 1 ≤ a3.toInt ∧ a3.toInt ≤ 4 := c4
  have c7 : 0 ≤ a4.toInt ∧ a4.toInt ≤ 1 := c5
  have okk : gamOk (vM h 0) a1.toInt a2.toInt a3.toInt a4.toInt := ⟨⟨c1, c2, fun z => c3 (by rw [i_eq]; exact z)⟩, c6, c7⟩
  obtain ⟨p1, e1⟩ : ∃ p : Nat, a1.toInt = p := ⟨a1.toInt.toNat, by omega⟩
  obtain ⟨p2, e2⟩ : ∃ p : Nat, a2.toInt = p := ⟨a2.toInt.toNat, by omega⟩
  obtain ⟨N, e3⟩ : ∃ p : Nat, a3.toInt = p := ⟨a3.toInt.toNat, by omega⟩
  have K := fun h' m => k h' okk m
  rw [gR_nat e1 e2 e3] at K
  rw [show a1 = nI p1 from eq_nI e1, show a2 = nI p2 from eq_nI e2, show a3 = nI N from eq_nI e3]
  refine ev_findGame (F := vM h) (n0 := (vM h 0).toNat) (p0 := t0) (q0 := t1) rfl hR (by omega) ⟨by omega, by omega⟩ (by omega) (by omega) (by omega) ok (by omega) T (fun h' m e110 e109 => ?_)
  have K1 := K h' m
  refine ⟨fun z => ?_, fun z => ?_⟩
  · rw [if_neg z] at K1
    rw [e110]
    exact K1
  · rw [if_pos z] at K1
    rw [e109]
    exact K1
theorem step_game {a1 a2 a3 a4 : Int32} (I : Inv h) (hd : 100 ≤ d) : EvI G d mX11_game [.inr (.inr (some 0)), .inl a1, .inl a2, .inl a3, .inl a4] h (fun x h1 => EvI G d mX12_game [.inr (.inr (some 94)), .inl a1, .inl a2, .inl a3, .inl a4] h1 (fun y h2 => x = y ∧ Inv h2)) := by
  have hd' := hd
  have hR := I.1
  have ok := I.ok
  have n0 := I.n
  obtain ⟨t0, t1, T, T0, T1⟩ := I.tx
  have kx : ∀ k v, TxM (sI h 93 k v) 95 t0 t1 := fun k v => TxM_eq (fun j _ _ => by rw [sI_ne (by omega)]) T
  obtain ⟨e, rfl⟩ := dpos (show 1 ≤ d by omega)
  have bad : ¬ gamOk (vM h 0) a1.toInt a2.toInt a3.toInt a4.toInt → EvI G e mX11_refuse [.inr (.inr (some 0)), .inl 1] h (fun x5 h4 => EvI G (e + 1) mX12_game [.inr (.inr (some 94)), .inl a1, .inl a2, .inl a3, .inl a4] h4 (fun y h2 => x5 = y ∧ Inv h2)) := fun z =>
    ev_refuse hR (by omega) (n := 1) rfl (by omega) (M_game (vM_lo (by omega)) (RF_sI hR) (by omega) ok (kx _ _) (fun _ => ⟨rfl, Inv_err I rfl⟩) (fun h' y _ => absurd y z))
  refine vc_X11_game hR (ev_areTwo hR (by omega) (by omega) (br2 (fun c => ev_within hR (by omega) (br2 (fun c4 => ev_within hR (by omega) (br2' (fun c5 => ?_) (fun c5 => bad (fun z => c5 z.2.2)))) (fun c4 => bad (fun z => c4 z.2.1)))) (fun c => bad (fun z => c (by rw [n0.1]; exact z.1)))))
  have c6 : 1 ≤ a3.toInt ∧ a3.toInt ≤ 4 := c4
  have c7 : 0 ≤ a4.toInt ∧ a4.toInt ≤ 1 := c5
  rw [n0.1] at c
  have okk : gamOk (vM h 0) a1.toInt a2.toInt a3.toInt a4.toInt := ⟨c, c6, c7⟩
  have hcc := c
  obtain ⟨p1, e1⟩ : ∃ p : Nat, a1.toInt = p := ⟨a1.toInt.toNat, by omega⟩
  obtain ⟨p2, e2⟩ : ∃ p : Nat, a2.toInt = p := ⟨a2.toInt.toNat, by omega⟩
  obtain ⟨N, e3⟩ : ∃ p : Nat, a3.toInt = p := ⟨a3.toInt.toNat, by omega⟩
  refine ev_play (F := vM h) (bg := vM h) (p0 := t0) (p1 := p1) (p2 := p2) (N := N) (n0 := (vM h 0).toNat) hR (by omega) ⟨by omega, by omega⟩ (eq_nI e1) (eq_nI e2) (eq_nI e3) (by omega) (by omega) (by omega) I.cf ok (by omega) T0 (fun h1 hR1 fr e56 => ?_)
  have mz : MZ h h1 := ⟨hR1, fun a z1 z2 => fr a (fun z => z1 (by unfold scr; omega)) (fun z => z1 (by unfold scr; omega)), by rw [fr 94 (by omega) (by omega)], by rw [fr 94 (by omega) (by omega)]⟩
  refine ⟨fun z => ?_, fun z => ?_⟩
  · refine M_game mz.v hR1 (by omega) ok (mz.tx T) (fun z => absurd okk z) (fun h2 _ m2 => ⟨?_, m2.inv (mz.inv I)⟩)
    rw [if_neg z, gR_nat e1 e2 e3]
    exact e56
  · refine M_game mz.v hR1 (by omega) ok (mz.tx T) (fun z => absurd okk z) (fun h2 _ m2 => ⟨?_, m2.inv (mz.inv I)⟩)
    rw [if_pos z, gR_nat e1 e2 e3]
end
