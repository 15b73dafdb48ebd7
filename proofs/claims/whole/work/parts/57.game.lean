/-! game: the reference's small steps -/
section
variable {G : GT} {d : Nat} {h : Hp} {Q : Int32 → Hp → Prop} {QW : Hp → Prop}
theorem e90 {l i : Nat} (hl : l < 5) (hi : i < 90) : ((90 * nI l) + nI i).toInt = ((90 * l + i : Nat) : Int) := ti_of (by push_cast; simp only [oi_add, oi_mul, oi_nat]; rfl) (by omega) (by omega)
theorem rg_stands {h0 : Hp} {l : Nat} (hR : RF h0) (hl : l < 5) (k : QW (sI (sI (cpI h0 95 0 107 (90 * l) 90) 108 l (-1)) 110 l (-1))) : ∀ (m i : Nat), i + m = 90 → Rg_X12_standsAt_2 G d (nI l) (nI i) (cpI h0 95 0 107 (90 * l) i) QW := by
  have el : (nI l).toInt = (l : Int) := ti_nI (by omega)
  intro m
  induction m with
  | zero =>
    intro i hi
    have : i = 90 := by omega
    subst this
    exact vc_X12_standsAt_2 (RF_cp hR) ⟨fun _ => ⟨in_of (by omega) (by omega), in_of (by omega) (by omega), by rw [cl_of el]; exact k⟩, fun z => absurd (by decide) z⟩
  | succ m ih =>
    intro i hi
    have ei : (nI i).toInt = (i : Int) := ti_nI (by omega)
    have e9 := e90 (l := l) (i := i) hl (by omega)
    refine vc_X12_standsAt_2 (RF_cp hR) ⟨fun z => ?_, fun _ => ⟨in_of (by omega) (by omega), in_of (by omega) (by omega), ?_⟩⟩
    · rw [i_le, ei] at z
      exact absurd z (by show ¬ (90 : Int) ≤ _; omega)
    · rw [cl_of ei, cl_of e9, nI_1, cpI_at, if_neg (by omega)]
      have e1 := @cpI_s h0 95 0 107 (90 * l) i (by omega)
      rw [Nat.zero_add] at e1
      rw [e1]
      exact ih (i + 1) (by omega)
theorem ev_standsAt {l : Nat} (hR : RF h) (hd : 1 ≤ d) (hl : l < 5) (k : QW (sI (sI (cpI h 95 0 107 (90 * l) 90) 108 l (-1)) 110 l (-1))) : EvV G d mX12_standsAt [.inr (.inr (some 94)), .inl (nI l)] h QW := by
  obtain ⟨e, rfl⟩ := dpos (show 1 ≤ d by omega)
  have := rg_stands (G := G) (d := e) hR hl k 90 0 (by omega)
  rw [cpI_0] at this
  exact vc_X12_standsAt hR this
theorem rg_backTo {h0 : Hp} {l : Nat} (hR : RF h0) (hl : l < 5) (k : QW (cpI h0 107 (90 * l) 95 0 90)) : ∀ (m i : Nat), i + m = 90 → Rg_X12_backTo_2 G d (nI l) (nI i) (cpI h0 107 (90 * l) 95 0 i) QW := by
  intro m
  induction m with
  | zero =>
    intro i hi
    have : i = 90 := by omega
    subst this
    exact vc_X12_backTo_2 (RF_cp hR) ⟨fun _ => k, fun z => absurd (by decide) z⟩
  | succ m ih =>
    intro i hi
    have ei : (nI i).toInt = (i : Int) := ti_nI (by omega)
    have e9 := e90 (l := l) (i := i) hl (by omega)
    refine vc_X12_backTo_2 (RF_cp hR) ⟨fun z => ?_, fun _ => ⟨in_of (by omega) (by omega), in_of (by omega) (by omega), ?_⟩⟩
    · rw [i_le, ei] at z
      exact absurd z (by show ¬ (90 : Int) ≤ _; omega)
    · rw [cl_of ei, cl_of e9, nI_1, cpI_at, if_neg (by omega)]
      have e1 := @cpI_s h0 107 (90 * l) 95 0 i (by omega)
      rw [Nat.zero_add] at e1
      rw [e1]
      exact ih (i + 1) (by omega)
theorem ev_backTo {l : Nat} (hR : RF h) (hd : 1 ≤ d) (hl : l < 5) (k : QW (cpI h 107 (90 * l) 95 0 90)) : EvV G d mX12_backTo [.inr (.inr (some 94)), .inl (nI l)] h QW := by
  obtain ⟨e, rfl⟩ := dpos (show 1 ≤ d by omega)
  have := rg_backTo (G := G) (d := e) hR hl k 90 0 (by omega)
  rw [cpI_0] at this
  exact vc_X12_backTo hR this
theorem nI_inj' {a b : Nat} (ha : a < 1000) (hb : b < 1000) (e : nI a = nI b) : a = b := by
  have := congrArg Int32.toInt e
  rw [ti_nI (by omega), ti_nI (by omega)] at this
  omega
/-- of the unsaid words of a party from w on (m left; n passed) the i-th, if it is ready -/
def pkS (F : Nat → Int) (p : Int) (i : Nat) : Nat → Nat → Nat → Option Nat
  | 0, _, _ => none
  | m + 1, w, n => if F (30 + 5 * w) = p ∧ F (34 + 5 * w) = 0 then (if n = i then (if rdy F w then some w else none) else pkS F p i m (w + 1) (n + 1)) else pkS F p i m (w + 1) n
theorem pkS_s (F : Nat → Int) (p : Int) (i m w n : Nat) : pkS F p i (m + 1) w n = if F (30 + 5 * w) = p ∧ F (34 + 5 * w) = 0 then (if n = i then (if rdy F w then some w else none) else pkS F p i m (w + 1) (n + 1)) else pkS F p i m (w + 1) n := rfl
theorem rg_pickOf {B : Int} {l1 : Int32} {i q : Nat} (hR : RF h) (hd : 3 ≤ d) (ok : OKF B (vM h)) (hq : vM h 1 = q) (hi : i < 100) (k0 : pkS (vM h) l1.toInt i q 0 0 = none → Q (-1) h) (k1 : ∀ w, pkS (vM h) l1.toInt i q 0 0 = some w → w < q → Q (nI w) h) : ∀ (m w n : Nat), w + m = q → n ≤ w → pkS (vM h) l1.toInt i m w n = pkS (vM h) l1.toInt i q 0 0 → Rg_X12_pickOf_5 G d l1 (nI i) (nI n) (nI w) h Q := by
  have o1 := ok.2.1
  have e1 : (h.1 95 1).toInt = vM h 1 := rfl
  intro m
  induction m with
  | zero =>
    intro w n hw hn he
    refine vc_X12_pickOf_5 hR ⟨fun _ => k0 (by rw [← he]; rfl), fun z => ?_⟩
    exfalso
    rw [i_le, ti_nI (by omega)] at z
    omega
  | succ m ih =>
    intro w n hw hn he
    have ew : (nI w).toInt = (w : Int) := ti_nI (by omega)
    have ew0 : (h.1 95 (30 + 5 * w)).toInt = vM h (30 + 5 * w) := rfl
    have ew4 : (h.1 95 (34 + 5 * w)).toInt = vM h (34 + 5 * w) := rfl
    rw [pkS_s] at he
    have go : ¬ (vM h (30 + 5 * w) = l1.toInt ∧ vM h (34 + 5 * w) = 0) → Rg_X12_pickOf_5 G d l1 (nI i) (nI n) (nI (w + 1)) h Q := fun c => by
      rw [if_neg c] at he
      exact ih (w + 1) n (by omega) (by omega) he
    refine vc_X12_pickOf_5 hR ⟨fun z => ?_, fun _ => ev_its hR (by omega) (j := w) (w := 0) rfl rfl (by omega) (by omega) ?_⟩
    · exfalso
      rw [i_le, ew] at z
      omega
    · rw [show 30 + 5 * w + 0 = 30 + 5 * w by omega, nI_1]
      refine ⟨fun c => go (fun y => c (by rw [i_eq, ew0]; exact y.1)), fun c => ev_its hR (by omega) (j := w) (w := 4) rfl rfl (by omega) (by omega) ?_⟩
      rw [show 30 + 5 * w + 4 = 34 + 5 * w by omega]
      rw [i_eq, ew0] at c
      refine ⟨fun c2 => ?_, fun c2 => go (fun y => c2 (by rw [i_eq, ew4]; exact y.2))⟩
      rw [i_eq, ew4] at c2
      have c3 : vM h (34 + 5 * w) = 0 := c2
      rw [if_pos ⟨c, c3⟩] at he
      refine ⟨fun c4 => ?_, fun c4 => ev_isReady hR hd ok ew (by omega) (br2 (fun c5 => ?_) (fun c5 => ?_))⟩
      · rw [nI_1]
        rw [if_neg (fun y => c4 (by rw [y]))] at he
        exact ih (w + 1) (n + 1) (by omega) (by omega) he
      · rw [if_pos (nI_inj' (by omega) (by omega) c4), if_pos c5] at he
        exact k1 w he.symm (by omega)
      · rw [if_pos (nI_inj' (by omega) (by omega) c4), if_neg c5] at he
        exact k0 he.symm
theorem ev_pickOf {B : Int} {l1 : Int32} {i q : Nat} (hR : RF h) (hd : 4 ≤ d) (ok : OKF B (vM h)) (hq : vM h 1 = q) (hi : i < 100) (k0 : pkS (vM h) l1.toInt i q 0 0 = none → Q (-1) h) (k1 : ∀ w, pkS (vM h) l1.toInt i q 0 0 = some w → w < q → Q (nI w) h) : EvI G d mX12_pickOf [.inr (.inr (some 94)), .inl l1, .inl (nI i)] h Q := by
  obtain ⟨e, rfl⟩ := dpos (show 1 ≤ d by omega)
  exact vc_X12_pickOf hR (rg_pickOf hR (by omega) ok hq hi k0 k1 q 0 0 (by omega) (by omega) rfl)
/-- whether a turn takes v for by (it takes it if it has none) -/
abbrev btS (l : Nat) (v b : Int32) : Prop := (l % 2 = 0 ∧ b < v) ∨ (¬ l % 2 = 0 ∧ v < b)
theorem par {l : Nat} (hl : l < 5) : (nI l - nI l / 2 * 2) = 0 ↔ l % 2 = 0 := by
  have : ∀ l, l < 5 → ((nI l - nI l / 2 * 2) = 0 ↔ l % 2 = 0) := by decide
  exact this l hl
theorem ev_comesTo {l : Nat} {a2 a3 : Int32} (hR : RF h) (hd : 1 ≤ d) (hl : l < 5) (k : QW (if h.1 110 l < 0 ∨ btS l a3 (h.1 109 l) then sI (sI h 109 l a3) 110 l a2 else h)) : EvV G d mX12_comesTo [.inr (.inr (some 94)), .inl (nI l), .inl a2, .inl a3] h QW := by
  obtain ⟨e, rfl⟩ := dpos (show 1 ≤ d by omega)
  have el : (nI l).toInt = (l : Int) := ti_nI (by omega)
  have i6 : vp_in (nI l) 6 := in_of (by omega) (by omega)
  refine vc_X12_comesTo hR ⟨i6, ?_⟩
  rw [cl_of el, par hl]
  unfold btS at k
  refine ⟨fun c => ⟨i6, i6, ?_⟩, fun c => ⟨fun p => ⟨i6, fun z => ?_, fun z => ⟨i6, i6, ?_⟩⟩, fun p => ⟨i6, fun z => ?_, fun z => ⟨i6, i6, ?_⟩⟩⟩⟩
  · rw [if_pos (Or.inl c)] at k; exact k
  · rw [if_neg (fun y => y.elim c (fun y => by rw [i_le] at z; rw [i_lt, i_lt] at y; omega))] at k
    exact k
  · rw [if_pos (Or.inr (Or.inr ⟨p, by rw [i_le] at z; rw [i_lt]; omega⟩))] at k
    exact k
  · rw [if_neg (fun y => y.elim c (fun y => by rw [i_le] at z; rw [i_lt, i_lt] at y; omega))] at k
    exact k
  · rw [if_pos (Or.inr (Or.inl ⟨p, by rw [i_le] at z; rw [i_lt]; omega⟩))] at k
    exact k
end
