/-! game: the class's turns, whole -/
section
variable {G : GT} {d : Nat} {h : Hp} {Q : Int32 → Hp → Prop} {QW : Hp → Prop}
def HG (p1 p2 N : Nat) (bgn : Int32) (h : Hp) : Prop := h.1 56 2 = nI p1 ∧ h.1 56 3 = nI p2 ∧ h.1 56 4 = nI N ∧ h.1 60 p1 - h.1 60 p2 = bgn
theorem HG.v {p1 p2 N l : Nat} {bgn : Int32} {h1 : Hp} (g : HG p1 p2 N bgn h) (v : VG l h h1) : HG p1 p2 N bgn h1 := by
  unfold HG
  rw [v.2 56 (by omega) (by omega), v.2 60 (by omega) (by omega)]
  exact g
theorem swp (a b c e : Int32) : (a - b) - (c - e) = (a - c) - (b - e) := by
  rw [← oi_ti a, ← oi_ti b, ← oi_ti c, ← oi_ti e]
  rw [← oi_sub, ← oi_sub, ← oi_sub, ← oi_sub, ← oi_sub, ← oi_sub]
  exact congrArg oI (by omega)
theorem turn_all {bg : Nat → Int} {p1 p2 N n0 : Nat} {bgn : Int32} {p0 : List Int32} (hN : N ≤ 4) (h1 : p1 < n0) (h2 : p2 < n0) (h4 : n0 ≤ 4) : ∀ (f l d : Nat) (F : Nat → Int) (h : Hp) (Q : Int32 → Hp → Prop), l + f = N → 40 + 4 * f ≤ d → RF h → HG p1 p2 N bgn h → vC h (58 + 4 * l) bg = F → OKF (99999 + 30 * l) F → F 5 = 0 → F 0 = n0 → TxC h 13 p0 → (f = 0 → l ≠ 0) → (∀ h', TG l h h' → (l = 0 → h'.1 56 0 = (gmV (earI p0) p1 p2 bgn f l F).1) → Q (gmV (earI p0) p1 p2 bgn f l F).2 h') → EvI G d mX1_turn [.inr (.inr (some 56)), .inr (.inr (some 1)), .inl (nI l)] h Q := by
  intro f
  induction f with
  | zero =>
    intro l d F h Q hl hd hR g hv ok f5 f0 T hz k
    obtain ⟨e, rfl⟩ := dpos (show 1 ≤ d by omega)
    obtain ⟨e, rfl⟩ := dpos (show 1 ≤ e by omega)
    have el : (nI l).toInt = (l : Int) := ti_nI (by omega)
    have eh : hd3 (nI l) 0 4 = nI l := by
      rw [i_eq, hd3_i (by decide)]
      simp only [Int32.reduceToInt]
      omega
    have e1 : (h.1 1 0).toInt = n0 := by rw [← f0, ← hv] <;> rfl
    have q1 := (@vC_p h (58 + 4 * l) bg p1 (by omega)).2.2.2.2
    have q2 := (@vC_p h (58 + 4 * l) bg p2 (by omega)).2.2.2.2
    rw [hv] at q1 q2
    have t1 : (nI p1).toInt = (p1 : Int) := ti_nI (by omega)
    have t2 : (nI p2).toInt = (p2 : Int) := ti_nI (by omega)
    refine vc_X1_turn hR (ev_heldC hR (by omega) (by decide) ?_)
    rw [eh, cl_of el]
    refine ⟨in_of (by omega) (by omega), 58 + 4 * l, rf57 hR (by omega), sh57 l (by omega), fun z => ?_, fun _ => vc_X1_growth (sh57 l (by omega)) hR (ev_hasParty hR (by omega) (by omega) (br2 (fun _ => ev_hasParty hR (by omega) (by omega) (br2' (fun _ => ?_) (fun z => absurd ⟨?_, ?_⟩ z))) (fun z => absurd ⟨?_, ?_⟩ z)))⟩
    · exfalso
      rw [g.2.2.1, i_lt, el, ti_nI (by omega)] at z
      omega
    · rw [g.1, g.2.1, cl_of t1, cl_of t2]
      refine ⟨in_of (by omega) (by omega), in_of (by omega) (by omega), in_of (by omega) (by omega), in_of (by omega) (by omega), ?_⟩
      rw [swp, g.2.2.2]
      have K := k h ⟨hR, fun _ _ _ _ => rfl, fun _ _ => rfl, fun _ => rfl⟩ (fun z => absurd z (hz rfl))
      have ev : (gmV (earI p0) p1 p2 bgn 0 l F).2 = (oI (F (14 + 5 * p1)) - oI (F (14 + 5 * p2))) - bgn := rfl
      rw [ev, q1, q2, oi_ti, oi_ti] at K
      exact K
    · rw [g.2.1, t2]; omega
    · rw [g.2.1, t2]; omega
    · rw [g.1, t1]; omega
    · rw [g.1, t1]; omega
  | succ f ih =>
    intro l d F h Q hl hd hR g hv ok f5 f0 T hz k
    obtain ⟨e, rfl⟩ := dpos (show 1 ≤ d by omega)
    have o1 := ok.2.1
    have el : (nI l).toInt = (l : Int) := ti_nI (by omega)
    have el1 : (nI l + 1).toInt = ((l + 1 : Nat) : Int) := by rw [nI_1]; exact ti_nI (by omega)
    have eh : hd3 (nI l) 0 4 = nI l := by
      rw [i_eq, hd3_i (by decide)]
      simp only [Int32.reduceToInt]
      omega
    have V : ∀ (w : Nat) (h1 : Hp) (Q1 : Int32 → Hp → Prop), VG l h h1 → (w = 12 ∨ (w < (F 1).toNat ∧ rdy F w)) → (∀ h2, VG l h h2 → Q1 ((gmV (earI p0) p1 p2 bgn f (l + 1) (if w = 12 then F else goF (earI p0) F w)).2) h2) → EvI G e mX1_valueOf [.inr (.inr (some 56)), .inr (.inr (some 1)), .inl (nI w), .inl (nI l)] h1 Q1 := fun w h1 Q1 v hw K => by
      obtain ⟨e, rfl⟩ := dpos (show 1 ≤ e by omega)
      have ew : (nI w).toInt = (w : Int) := ti_nI (by omega)
      refine vc_X1_valueOf v.1 (ev_within v.1 (by omega) (br2' (fun _ => ?_) (fun z => absurd ⟨by rw [el]; simp only [Int32.reduceToInt]; omega, by rw [el]; simp only [Int32.reduceToInt]; omega⟩ z)))
      rw [cl_of el1, cl_of el]
      refine ⟨in_of (by omega) (by omega), 58 + 4 * (l + 1), rf57 v.1 (by omega), sh57 (l + 1) (by omega), in_of (by omega) (by omega), 58 + 4 * l, rf57 v.1 (by omega), sh57 l (by omega), ev_copyF v.1 (by omega) (sh57 (l + 1) (by omega)) (sh57 l (by omega)) (by omega) (fun h2 cs ev => ?_)⟩
      have v2 : VG l h1 h2 := ⟨cs.1, fun a z1 z2 => cs.2.2 a (by omega) (by omega) (by omega) (by omega) z1⟩
      have hv2 : vC h2 (58 + 4 * (l + 1)) bg = F := by rw [ev bg, v.vc (Nat.le_refl _)]; exact hv
      have e14 : (h2.1 1 4).toInt = F 1 := by rw [← hv2] <;> rfl
      have vv := v.trans v2
      have g2 := g.v vv
      have T2 : TxC h2 13 p0 := TxC_eq (by rw [vv.2 13 (by omega) (by omega)]) (fun t _ => by rw [vv.2 (13 + 1) (by omega) (by omega)]) T
      refine ev_hasWord cs.1 (by omega) (by omega) (br2 (fun c => ?_) (fun c => ?_))
      · rw [e14, ew] at c
        have hw' : w < (F 1).toNat ∧ rdy F w := by
          rcases hw with e | e
          · omega
          · exact e
        have n12 : ¬ w = 12 := by omega
        rw [if_neg n12] at K
        obtain ⟨k1, k2, k3, k4⟩ := go_ok (@he_ear p0) ok (show (w : Int) < F 1 by omega) hw'.2.1 f5
        refine ev_goC (B := 99999 + 30 * l) (w := w) cs.1 (by omega) (sh57 (l + 1) (by omega)) (by omega) ok (by omega) hv2 T2 ew (by omega) hw'.2.1 (fun h3 cs3 ev3 => ?_)
        have v3 : VG l h2 h3 := ⟨cs3.1, fun a z1 z2 => cs3.2.2 a (by omega) (by omega) (by omega) (by omega) z1⟩
        have vv3 := vv.trans v3
        rw [nI_1]
        refine ih (l + 1) e (goF (earI p0) F w) h3 Q1 (by omega) (by omega) cs3.1 (g.v vv3) ev3 ?_ ?_ (by rw [k4]; exact f0) (TxC_eq (by rw [vv3.2 13 (by omega) (by omega)]) (fun t _ => by rw [vv3.2 (13 + 1) (by omega) (by omega)]) T) (fun _ => by omega) (fun h' t _ => K h' (vv3.trans t.v))
        · rw [show (99999 : Int) + 30 * ((l + 1 : Nat) : Int) = 99999 + 30 * l + 30 by push_cast; omega]
          exact k1
        · show secN _ _ (begF F w) 5 = 0
          rw [go_5 (@he_ear p0) _ (OKF_beg ok (show (w : Int) < F 1 by omega) hw'.2.1), beg_5]
          exact f5
      · rw [e14, ew] at c
        have w12 : w = 12 := by
          rcases hw with e | e
          · exact e
          · omega
        rw [if_pos w12] at K
        rw [nI_1]
        refine ih (l + 1) e F h2 Q1 (by omega) (by omega) cs.1 g2 hv2 ?_ f5 f0 T2 (fun _ => by omega) (fun h' t _ => K h' (vv.trans t.v))
        refine OKF_3 ok ?_
        have := ok.2.2.1.2
        push_cast
        omega
    have K : ∀ h', VG l h h' → (¬ l = 0 → Q (gmV (earI p0) p1 p2 bgn (f + 1) l F).2 (sI h' 56 0 (h'.1 56 0))) ∧ (l = 0 → Q (gmV (earI p0) p1 p2 bgn (f + 1) l F).2 (sI h' 56 0 (gmV (earI p0) p1 p2 bgn (f + 1) l F).1)) := fun h' v => by
      have fr : ∀ x, (∀ a, a ≠ 15 → a ≠ 56 → ¬ (62 + 4 * l ≤ a ∧ a ≤ 77) → (sI h' 56 0 x).1 a = h.1 a) ∧ (∀ k, k ≠ 0 → (sI h' 56 0 x).1 56 k = h.1 56 k) := fun x => ⟨fun a z1 z2 z3 => by funext t; rw [sI_ne (by omega), v.2 a z1 z3], fun t ht => by rw [sI_ne (by omega), v.2 56 (by omega) (by omega)]⟩
      refine ⟨fun z => k _ ⟨v.1, (fr _).1, (fr _).2, fun _ => by rw [sI_self, v.2 56 (by omega) (by omega)]⟩ (fun y => absurd y z), fun z => k _ ⟨v.1, (fr _).1, (fr _).2, fun y => absurd z y⟩ (fun _ => sI_self _ _ _ _)⟩
    have L := fun p hp hres => rg_turn (G := G) (d := e) (Q := Q) (h0 := h) (bg := bg) (F := F) (l := l) (q := (F 1).toNat) (p := p) (res := gmV (earI p0) p1 p2 bgn (f + 1) l F) (by omega) hp (by omega) hv ok (by omega) V K (F 1).toNat 0 0 (-1, 0) h (by omega) (by omega) ⟨hR, fun _ _ _ => rfl⟩ (Or.inl rfl) hres
    refine vc_X1_turn hR (ev_heldC hR (by omega) (by decide) ?_)
    rw [eh, cl_of el, par (by omega)]
    refine ⟨in_of (by omega) (by omega), 58 + 4 * l, rf57 hR (by omega), sh57 l (by omega), fun _ => ⟨fun z => ?_, fun z => ?_⟩, fun z => ?_⟩
    · rw [g.2.1]
      refine L p2 (by omega) ?_
      have e : (if l % 2 = 0 then p1 else p2) = p2 := if_neg z
      show foG _ _ (cdS F _ _ _ _ ++ _) _ = foG _ _ (cdS F ((if l % 2 = 0 then p1 else p2 : Nat) : Int) _ _ _ ++ _) _
      rw [e]
    · rw [g.1]
      refine L p1 (by omega) ?_
      have e : (if l % 2 = 0 then p1 else p2) = p1 := if_pos z
      show foG _ _ (cdS F _ _ _ _ ++ _) _ = foG _ _ (cdS F ((if l % 2 = 0 then p1 else p2 : Nat) : Int) _ _ _ ++ _) _
      rw [e]
    · exfalso
      apply z
      rw [g.2.2.1, i_lt, el, ti_nI (by omega)]
      omega
end
