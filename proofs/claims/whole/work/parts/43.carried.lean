/-! carried -/
section
variable {G : GT} {d : Nat} {h : Hp} {Q : Int32 → Hp → Prop} {QW : Hp → Prop}
/-- what a load comes to -/
def crC (p1 : List Int32) (t s m l : Int32) : Int32 := if t / (s * (2 + l / 20)) = 0 then 0 else (t / (s * (2 + l / 20))) * (l - tgP 1 p1 l s m)
/-- the load by which most comes, and how much; k more loads from l on -/
def crN (p1 : List Int32) (t s m : Int32) : Nat → Nat → Int32 → Int32 → Int32 × Int32
  | 0, _, load, most => (load, most)
  | k + 1, l, load, most => if most < crC p1 t s m (nI l) then crN p1 t s m k (l + 1) (nI l) (crC p1 t s m (nI l)) else crN p1 t s m k (l + 1) load most
theorem div_in {s : Int32} {l : Nat} (hs : 1 ≤ s.toInt ∧ s.toInt ≤ 99) (hl : l ≤ 1000) : 0 < (s * (2 + (nI l) / 20)).toInt := by
  have e0 : (nI l).toInt = (l : Int) := ti_nI (by omega)
  have e1 : ((nI l) / 20).toInt = (l : Int) / 20 := by rw [ti_div (by omega) (by decide), e0]; rfl
  have e2 : (2 + (nI l) / 20).toInt = 2 + (l : Int) / 20 := by rw [ti_add (by rw [e1]; simp only [Int32.reduceToInt]; omega) (by rw [e1]; simp only [Int32.reduceToInt]; omega), e1]; rfl
  have h1 : 1 * 2 ≤ s.toInt * (2 + (l : Int) / 20) := Int.mul_le_mul hs.1 (by omega) (by omega) (by omega)
  have h2 : s.toInt * (2 + (l : Int) / 20) ≤ 99 * 60 := Int.mul_le_mul hs.2 (by omega) (by omega) (by omega)
  rw [ti_mul (by rw [e2]; omega) (by rw [e2]; omega), e2]
  omega
theorem rg_carC {h0 : Hp} {p1 : List Int32} {l1 l2 l3 l4 : Int32} {j n : Nat} (hd : 10 ≤ d) (hR0 : RF h0) (T : TxC h0 16 p1) (ej : l1.toInt = j) (hj : j < 4) (h2 : 1 ≤ l2.toInt ∧ l2.toInt ≤ 9999) (h3 : 1 ≤ l3.toInt ∧ l3.toInt ≤ 99) (hn : (h0.1 4 j).toInt = n) (hn2 : n ≤ 999) (k : ∀ h', CT 18 h0 h' → Q (if l4 = 0 then (crN p1 l2 l3 (h0.1 3 j) n 1 0 (-1)).1 else (crN p1 l2 l3 (h0.1 3 j) n 1 0 (-1)).2) h') : ∀ (q l : Nat) (ld mo : Int32) (h : Hp), l + q = n + 1 → 1 ≤ l → CT 18 h0 h → crN p1 l2 l3 (h0.1 3 j) q l ld mo = crN p1 l2 l3 (h0.1 3 j) n 1 0 (-1) → Rg_X11_carried_57 G d l1 l2 l3 l4 ld mo (nI l) h Q := by
  intro q
  induction q with
  | zero =>
    intro l ld mo h hl h1 m he
    have inn : vp_in l1 4 := in_of (by omega) (by omega)
    have el : (nI l).toInt = (l : Int) := ti_nI (by omega)
    refine vc_X11_carried_57 m.1 ⟨inn, fun _ => ⟨fun c => ?_, fun c => ?_⟩, fun z => ?_⟩
    · have K := k h m
      rw [if_neg c, ← he] at K
      exact K
    · have K := k h m
      rw [if_pos c, ← he] at K
      exact K
    · exfalso
      rw [cl_of ej, m.2.2 4 (by omega), i_lt, hn, el] at z
      omega
  | succ q ih =>
    intro l ld mo h hl h1 m he
    have inn : vp_in l1 4 := in_of (by omega) (by omega)
    have el : (nI l).toInt = (l : Int) := ti_nI (by omega)
    have dv := div_in (l := l) h3 (by omega)
    refine vc_X11_carried_57 m.1 ⟨inn, fun z => ?_, fun _ => ev_quotient m.1 (by omega) (by omega) dv (fun x ex => ?_)⟩
    · exfalso
      rw [cl_of ej, m.2.2 4 (by omega), i_lt, hn, el] at z
      omega
    · have exx : x = l2 / (l3 * (2 + (nI l) / 20)) := by
        rw [i_eq, ex, ti_div (by omega) dv]
      have e3 : h.1 3 j = h0.1 3 j := by rw [m.2.2 3 (by omega)]
      rw [nI_1, exx]
      have step : ∀ h', CT 18 h0 h' → (crC p1 l2 l3 (h0.1 3 j) (nI l) ≤ mo → Rg_X11_carried_57 G d l1 l2 l3 l4 ld mo (nI (l + 1)) h' Q) ∧ (¬ crC p1 l2 l3 (h0.1 3 j) (nI l) ≤ mo → Rg_X11_carried_57 G d l1 l2 l3 l4 (nI l) (crC p1 l2 l3 (h0.1 3 j) (nI l)) (nI (l + 1)) h' Q) := fun h' m' => by
        refine ⟨fun c => ih (l + 1) ld mo h' (by omega) (by omega) m' ?_, fun c => ih (l + 1) _ _ h' (by omega) (by omega) m' ?_⟩
        · rw [← he]
          show _ = if _ then _ else _
          rw [if_neg (by rw [i_lt]; rw [i_le] at c; omega)]
        · rw [← he]
          show _ = if _ then _ else _
          rw [if_pos (by rw [i_lt]; rw [i_le] at c; omega)]
      refine ⟨fun c => ⟨inn, ?_⟩, fun c => ?_⟩
      · rw [cl_of ej, e3]
        refine ev_spillBy m.1 (by omega) (by omega) (TxC_eq (by rw [m.2.2 16 (by omega)]) (fun k _ => by rw [m.2.2 (16 + 1) (by omega)]) T) (fun h' m' => ?_)
        have S := step h' (m.trans m')
        have ec : crC p1 l2 l3 (h0.1 3 j) (nI l) = (l2 / (l3 * (2 + (nI l) / 20))) * (nI l - tgP 1 p1 (nI l) l3 (h0.1 3 j)) := by unfold crC; rw [if_neg c]
        rw [ec] at S
        exact S
      · have S := step h m
        have ec : crC p1 l2 l3 (h0.1 3 j) (nI l) = 0 := by unfold crC; rw [if_pos c]
        rw [ec] at S
        exact S
theorem rg_carM {h0 : Hp} {p0 p1 : List Int32} {l1 l2 l3 l4 : Int32} {j n : Nat} (hd : 80 ≤ d) (hR0 : RF h0) (T : TxM h0 95 p0 p1) (ej : l1.toInt = j) (hj : j < 4) (h2 : 1 ≤ l2.toInt ∧ l2.toInt ≤ 9999) (h3 : 1 ≤ l3.toInt ∧ l3.toInt ≤ 99) (hn : (h0.1 95 (12 + 5 * j)).toInt = n) (hn2 : n ≤ 999) (k : ∀ h', MT h0 h' → Q (if l4 = 0 then (crN p1 l2 l3 (h0.1 95 (11 + 5 * j)) n 1 0 (-1)).1 else (crN p1 l2 l3 (h0.1 95 (11 + 5 * j)) n 1 0 (-1)).2) h') : ∀ (q l : Nat) (ld mo : Int32) (h : Hp), l + q = n + 1 → 1 ≤ l → MT h0 h → crN p1 l2 l3 (h0.1 95 (11 + 5 * j)) q l ld mo = crN p1 l2 l3 (h0.1 95 (11 + 5 * j)) n 1 0 (-1) → Rg_X12_carried_58 G d l1 l2 l3 l4 ld mo (nI l) h Q := by
  intro q
  induction q with
  | zero =>
    intro l ld mo h hl h1 m he
    have el : (nI l).toInt = (l : Int) := ti_nI (by omega)
    refine vc_X12_carried_58 m.1.1 (ev_of m.1.1 (by omega) (eq_nI ej) (w := 2) rfl (by omega) (by omega) ⟨fun _ => ⟨fun c => ?_, fun c => ?_⟩, fun z => ?_⟩)
    · have K := k h m
      rw [if_neg c, ← he] at K
      exact K
    · have K := k h m
      rw [if_pos c, ← he] at K
      exact K
    · exfalso
      rw [show 10 + 5 * j + 2 = 12 + 5 * j by omega, m.2, i_lt, hn, el] at z
      omega
  | succ q ih =>
    intro l ld mo h hl h1 m he
    have el : (nI l).toInt = (l : Int) := ti_nI (by omega)
    have dv := div_in (l := l) h3 (by omega)
    have dn : ¬ (l3 * (2 + (nI l) / 20)) = 0 := fun z => by rw [z] at dv; exact absurd dv (by decide)
    refine vc_X12_carried_58 m.1.1 (ev_of m.1.1 (by omega) (eq_nI ej) (w := 2) rfl (by omega) (by omega) ⟨fun z => ?_, fun _ => ⟨dn, ?_⟩⟩)
    · exfalso
      rw [show 10 + 5 * j + 2 = 12 + 5 * j by omega, m.2, i_lt, hn, el] at z
      omega
    · have e3 : h.1 95 (11 + 5 * j) = h0.1 95 (11 + 5 * j) := by rw [m.2]
      rw [nI_1]
      have step : ∀ h', MT h0 h' → (crC p1 l2 l3 (h0.1 95 (11 + 5 * j)) (nI l) ≤ mo → Rg_X12_carried_58 G d l1 l2 l3 l4 ld mo (nI (l + 1)) h' Q) ∧ (¬ crC p1 l2 l3 (h0.1 95 (11 + 5 * j)) (nI l) ≤ mo → Rg_X12_carried_58 G d l1 l2 l3 l4 (nI l) (crC p1 l2 l3 (h0.1 95 (11 + 5 * j)) (nI l)) (nI (l + 1)) h' Q) := fun h' m' => by
        refine ⟨fun c => ih (l + 1) ld mo h' (by omega) (by omega) m' ?_, fun c => ih (l + 1) _ _ h' (by omega) (by omega) m' ?_⟩
        · rw [← he]
          show _ = if _ then _ else _
          rw [if_neg (by rw [i_lt]; rw [i_le] at c; omega)]
        · rw [← he]
          show _ = if _ then _ else _
          rw [if_pos (by rw [i_lt]; rw [i_le] at c; omega)]
      refine ⟨fun c => ev_of m.1.1 (by omega) (eq_nI ej) (w := 1) rfl (by omega) (by omega) ?_, fun c => ?_⟩
      · rw [show 10 + 5 * j + 1 = 11 + 5 * j by omega, e3]
        refine ev_textGives m.1.1 (by omega) (T.keep m.1) (u := 1) rfl (by omega) (fun _ => by omega) (fun h' m' => ?_)
        rw [if_neg (show ¬ (1 : Nat) = 0 by omega)]
        have S := step h' (m.trans m')
        have ec : crC p1 l2 l3 (h0.1 95 (11 + 5 * j)) (nI l) = (l2 / (l3 * (2 + (nI l) / 20))) * (nI l - tgP 1 p1 (nI l) l3 (h0.1 95 (11 + 5 * j))) := by unfold crC; rw [if_neg c]
        rw [ec] at S
        exact S
      · have S := step h m
        have ec : crC p1 l2 l3 (h0.1 95 (11 + 5 * j)) (nI l) = 0 := by unfold crC; rw [if_pos c]
        rw [ec] at S
        exact S
abbrev carOk (N a1 a2 a3 a4 : Int) : Prop := (0 ≤ a1 ∧ a1 < N) ∧ (1 ≤ a2 ∧ a2 ≤ 9999) ∧ (1 ≤ a3 ∧ a3 ≤ 99) ∧ (0 ≤ a4 ∧ a4 ≤ 1)
theorem M_carried {F : Nat → Int} {a1 a2 a3 a4 : Int32} {p0 p1 : List Int32} (eF : vM h = F) (hR : RF h) (hd : 85 ≤ d) (ok : OKF 99999 F) (T : TxM h 95 p0 p1) (k1 : ¬ carOk (F 0) a1.toInt a2.toInt a3.toInt a4.toInt → Q (er 1) (sI h 98 1 (h.1 98 1 + 1)))
    (k : ∀ (j : Nat) (h' : Hp), a1.toInt = j → (j : Int) < F 0 → carOk (F 0) a1.toInt a2.toInt a3.toInt a4.toInt → MT h h' → Q (if a4 = 0 then (crN p1 a2 a3 (h.1 95 (11 + 5 * j)) (F (12 + 5 * j)).toNat 1 0 (-1)).1 else (crN p1 a2 a3 (h.1 95 (11 + 5 * j)) (F (12 + 5 * j)).toNat 1 0 (-1)).2) h') : EvI G d mX12_carried [.inr (.inr (some 94)), .inl a1, .inl a2, .inl a3, .inl a4] h Q := by
  obtain ⟨e, rfl⟩ := dpos (show 1 ≤ d by omega)
  subst eF
  have o0 := ok.1
  unfold carOk at *
  refine vc_X12_carried hR (ev_isParty hR (by omega) (by omega) (br2 (fun c => ev_in32 hR (by omega) (br2 (fun c2 => ev_in32 hR (by omega) (br2 (fun c3 => ev_in32 hR (by omega) (br2' (fun c4 => ?_) (fun c4 => ev_finds hR (by omega) (n := 1) rfl (by omega) (k1 (fun z => c4 z.2.2.2))))) (fun c3 => ev_finds hR (by omega) (n := 1) rfl (by omega) (k1 (fun z => c3 z.2.2.1))))) (fun c2 => ev_finds hR (by omega) (n := 1) rfl (by omega) (k1 (fun z => c2 z.2.1))))) (fun c => ev_finds hR (by omega) (n := 1) rfl (by omega) (k1 (fun z => c z.1)))))
  (try simp only [Int32.reduceToInt, Int64.reduceToInt, ti_m1, tl_m1, ti_m2, tl_m2] at *)
  obtain ⟨j, ej⟩ : ∃ j : Nat, a1.toInt = j := ⟨a1.toInt.toNat, by omega⟩
  have o := ok.2.2.2.2.2.2.2.2.1 j (by omega)
  unfold OKP at o
  have e12 : (h.1 95 (12 + 5 * j)).toInt = vM h (12 + 5 * j) := rfl
  exact rg_carM (j := j) (n := (vM h (12 + 5 * j)).toNat) (by omega) hR T ej (by omega) c2 c3 (by omega) (by omega) (fun h' m => k j h' ej (by omega) ⟨c, c2, c3, c4⟩ m) (vM h (12 + 5 * j)).toNat 1 0 (-1) h (by omega) (by omega) (MT.refl hR) rfl
theorem step_carried {a1 a2 a3 a4 : Int32} (I : Inv h) (hd : 100 ≤ d) : EvI G d mX11_carried [.inr (.inr (some 0)), .inl a1, .inl a2, .inl a3, .inl a4] h (fun x h1 => EvI G d mX12_carried [.inr (.inr (some 94)), .inl a1, .inl a2, .inl a3, .inl a4] h1 (fun y h2 => x = y ∧ Inv h2)) := by
  have hd' := hd
  have hR := I.1
  have ok := I.ok
  have n0 := I.n
  obtain ⟨p0, p1, T, T0, T1⟩ := I.tx
  have kx : ∀ k v, TxM (sI h 93 k v) 95 p0 p1 := fun k v => TxM_eq (fun j _ _ => by rw [sI_ne (by omega)]) T
  obtain ⟨e, rfl⟩ := dpos (show 1 ≤ d by omega)
  have bad : ¬ carOk (vM h 0) a1.toInt a2.toInt a3.toInt a4.toInt → EvI G e mX11_refuse [.inr (.inr (some 0)), .inl 1] h (fun x5 h4 => EvI G (e + 1) mX12_carried [.inr (.inr (some 94)), .inl a1, .inl a2, .inl a3, .inl a4] h4 (fun y h2 => x5 = y ∧ Inv h2)) := fun z =>
    ev_refuse hR (by omega) (n := 1) rfl (by omega) (M_carried (vM_lo (by omega)) (RF_sI hR) (by omega) ok (kx _ _) (fun _ => ⟨rfl, Inv_err I rfl⟩) (fun j h' _ _ y _ => absurd y z))
  refine vc_X11_carried hR (ev_hasParty hR (by omega) (by omega) (br2 (fun c => ev_within hR (by omega) (br2 (fun c2 => ev_within hR (by omega) (br2 (fun c3 => ev_within hR (by omega) (br2' (fun c4 => ?_) (fun c4 => bad (fun z => c4 z.2.2.2)))) (fun c3 => bad (fun z => c3 z.2.2.1)))) (fun c2 => bad (fun z => c2 z.2.1)))) (fun c => bad (fun z => c (by rw [n0.1]; exact z.1)))))
  (try simp only [Int32.reduceToInt, Int64.reduceToInt, ti_m1, tl_m1, ti_m2, tl_m2] at *)
  obtain ⟨j, ej⟩ : ∃ j : Nat, a1.toInt = j := ⟨a1.toInt.toNat, by omega⟩
  have okk : carOk (vM h 0) a1.toInt a2.toInt a3.toInt a4.toInt := ⟨by omega, c2, c3, c4⟩
  have o := ok.2.2.2.2.2.2.2.2.1 j (by omega)
  unfold OKP at o
  have ip := I.p (p := j) (by omega)
  have e4 : (h.1 4 j).toInt = vM h (12 + 5 * j) := by rw [← ip.2.2.1] <;> rfl
  refine rg_carC (j := j) (n := (vM h (12 + 5 * j)).toNat) (by omega) hR T1 ej (by omega) c2 c3 (by omega) (by omega) (fun h1 m => ?_) (vM h (12 + 5 * j)).toNat 1 0 (-1) h (by omega) (by omega) (CT.refl hR) rfl
  have mz : MZ h h1 := ⟨m.1, fun a z1 z2 => m.2.2 a (fun z => z1 (by unfold scr; omega)), by rw [m.2.2 94 (by omega)], by rw [m.2.2 94 (by omega)]⟩
  refine M_carried mz.v mz.1 (by omega) ok (mz.tx T) (fun z => absurd okk z) (fun j' h' z1 z2 _ m2 => ⟨?_, m2.z.inv (mz.inv I)⟩)
  rw [show j' = j by omega, m.2.2 95 (by omega), ip.2.1]
end
