/-! game: the class's turns -/
section
variable {G : GT} {d : Nat} {h : Hp} {Q : Int32 → Hp → Prop} {QW : Hp → Prop}
theorem sh57 : ∀ l, l < 5 → SH[58 + 4 * l]? = some (.inl 2) := by decide
theorem rf57 (hR : RF h) {l : Nat} (hl : l < 5) : h.2.2 57 l = some (58 + 4 * l) := by
  have hc : l = 0 ∨ l = 1 ∨ l = 2 ∨ l = 3 ∨ l = 4 := by omega
  rcases hc with rfl | rfl | rfl | rfl | rfl
  · exact rf_57_0 hR
  · exact rf_57_1 hR
  · exact rf_57_2 hR
  · exact rf_57_3 hR
  · exact rf_57_4 hR
/-- what a pick's value leaves as it was -/
def VG (l : Nat) (h h' : Hp) : Prop := RF h' ∧ ∀ a, a ≠ 15 → ¬ (62 + 4 * l ≤ a ∧ a ≤ 77) → h'.1 a = h.1 a
/-- what a turn does -/
def TG (l : Nat) (h h' : Hp) : Prop := RF h' ∧ (∀ a, a ≠ 15 → a ≠ 56 → ¬ (62 + 4 * l ≤ a ∧ a ≤ 77) → h'.1 a = h.1 a) ∧ (∀ k, k ≠ 0 → h'.1 56 k = h.1 56 k) ∧ (l ≠ 0 → h'.1 56 0 = h.1 56 0)
theorem VG.trans {l : Nat} {h1 h2 : Hp} (a : VG l h h1) (b : VG l h1 h2) : VG l h h2 := ⟨b.1, fun x p q => (b.2 x p q).trans (a.2 x p q)⟩
theorem TG.v {l : Nat} {h1 : Hp} (t : TG (l + 1) h h1) : VG l h h1 := ⟨t.1, fun a p q => by
  by_cases e : a = 56
  · subst e
    funext k
    by_cases ek : k = 0
    · subst ek; exact t.2.2.2 (by omega)
    · exact t.2.2.1 k ek
  · exact t.2.1 a p e (by omega)⟩
section
variable {F : Nat → Int} {bg : Nat → Int} {l p1 p2 N : Nat} {bgn : Int32} {p0 : List Int32} {h0 : Hp}
theorem VG.vc {l' : Nat} (v : VG l h0 h) (hl : l' ≤ l) : vC h (58 + 4 * l') bg = vC h0 (58 + 4 * l') bg := vC_eq2 (fun a _ _ => v.2 a (by omega) (by omega)) (fun k _ _ => by rw [v.2 _ (by omega) (by omega)]) (fun k _ => by rw [v.2 _ (by omega) (by omega)]) (fun k _ => by rw [v.2 _ (by omega) (by omega)]) (fun k _ => by rw [v.2 _ (by omega) (by omega)])
theorem rg_turn {ch : Nat → Int32} {B : Int} {q p : Nat} {res : Int32 × Int32} (hd : 3 ≤ d) (hp4 : p < 4) (hl : l < 4) (hv : vC h0 (58 + 4 * l) bg = F) (ok : OKF B F) (hq : F 1 = q) (V : ∀ (w : Nat) (h1 : Hp) (Q1 : Int32 → Hp → Prop), VG l h0 h1 → (w = 12 ∨ (w < q ∧ rdy F w)) → (∀ h2, VG l h0 h2 → Q1 (ch w) h2) → EvI G d mX1_valueOf [.inr (.inr (some 56)), .inr (.inr (some 1)), .inl (nI w), .inl (nI l)] h1 Q1) (K : ∀ h', VG l h0 h' → (¬ l = 0 → Q res.2 (sI h' 56 0 (h'.1 56 0))) ∧ (l = 0 → Q res.2 (sI h' 56 0 res.1))) : ∀ (m w n : Nat) (a : Int32 × Int32) (h : Hp), w + m = q → n ≤ 4 → VG l h0 h → (a.1 = -1 ∨ 0 ≤ a.1.toInt) → foG l ch (cdS F p m w n ++ [12]) a = res → Rg_X1_turn_58 G d (nI l) (58 + 4 * l) (nI p) a.1 a.2 (nI n) (nI w) h Q := by
  have o1 := ok.2.1
  have el : (nI l).toInt = (l : Int) := ti_nI (by omega)
  have l0 : nI l = 0 ↔ l = 0 := by rw [i_eq, el]; show (l : Int) = 0 ↔ _; omega
  have no : ∀ a : Int32 × Int32, (a.1 = -1 ∨ 0 ≤ a.1.toInt) → (a.1 = -1 ↔ a.1 < 0) := fun a ha => by
    rw [i_lt]
    rcases ha with e | e
    · rw [e]; decide
    · constructor
      · intro y; rw [y, ti_m1] at e; omega
      · intro y; have : a.1.toInt < 0 := y; omega
  have fin : ∀ (a : Int32 × Int32) (h : Hp), VG l h0 h → (a.1 = -1 ∨ 0 ≤ a.1.toInt) → foG l ch [12] a = res → EvI G d mX1_valueOf [.inr (.inr (some 56)), .inr (.inr (some 1)), .inl 12, .inl (nI l)] h (fun x10 h9 => ((a.1 = (-1) → ((¬ nI l = 0 → Q x10 (sI h9 56 0 (h9.1 56 0))) ∧ (nI l = 0 → Q x10 (sI h9 56 0 12)))) ∧ (¬ a.1 = (-1) → EvI G d mX1_isBetter [.inl x10, .inl a.2, .inl (nI l)] h9 (fun x14 h13 => ((x14 = 0 → ((¬ nI l = 0 → Q a.2 (sI h13 56 0 (h13.1 56 0))) ∧ (nI l = 0 → Q a.2 (sI h13 56 0 a.1)))) ∧ (¬ x14 = 0 → ((¬ nI l = 0 → Q x10 (sI h13 56 0 (h13.1 56 0))) ∧ (nI l = 0 → Q x10 (sI h13 56 0 12))))))))) := fun a h v ha he => by
    refine V 12 h _ v (Or.inl rfl) (fun h2 v2 => ?_)
    have Kh := K h2 v2
    rw [l0]
    have e : tkG l a 12 (ch 12) = res := he
    unfold tkG at e
    refine ⟨fun c => ?_, fun c => ev_better v2.1 (by omega) (by omega) (br2 (fun c2 => ?_) (fun c2 => ?_))⟩
    · rw [if_pos (Or.inl ((no a ha).mp c))] at e
      rw [← e] at Kh
      exact Kh
    · rw [if_pos (Or.inr c2)] at e
      rw [← e] at Kh
      exact Kh
    · rw [if_neg (fun y => y.elim (fun y => c ((no a ha).mpr y)) c2)] at e
      rw [← e] at Kh
      exact Kh
  intro m
  induction m with
  | zero =>
    intro w n a h hw hn v ha he
    have e1 : (h.1 1 4).toInt = F 1 := by rw [v.2 1 (by omega) (by omega), ← hv] <;> rfl
    refine vc_X1_turn_58 (sh57 l (by omega)) v.1 ⟨fun _ => fin a h v ha he, fun z => ?_⟩
    exfalso
    rw [i_le, e1, ti_nI (by omega)] at z
    omega
  | succ m ih =>
    intro w n a h hw hn v ha he
    have e1 : (h.1 1 4).toInt = F 1 := by rw [v.2 1 (by omega) (by omega), ← hv] <;> rfl
    have ew : (nI w).toInt = (w : Int) := ti_nI (by omega)
    have en : (nI n).toInt = (n : Int) := ti_nI (by omega)
    have hvv : vC h (58 + 4 * l) bg = F := by rw [v.vc (Nat.le_refl _)]; exact hv
    have vw := @vC_w h (58 + 4 * l) bg w (by omega)
    rw [hvv] at vw
    have ow := ok.2.2.2.2.2.2.2.2.2 w (by omega)
    unfold OKW at ow
    have inn : vp_in (nI w) 12 := in_of (by omega) (by omega)
    unfold cdS at he
    refine vc_X1_turn_58 (sh57 l (by omega)) v.1 ⟨fun z => ?_, fun _ => ⟨fun z => ?_, fun _ => ⟨fun z => ?_, fun z => ⟨inn, ?_⟩⟩⟩⟩
    · exfalso
      rw [i_le, e1, ew] at z
      omega
    · exfalso
      rw [i_le, ew] at z
      simp only [Int32.reduceToInt] at z
      omega
    · rw [i_le, en] at z
      simp only [Int32.reduceToInt] at z
      rw [if_pos (by omega)] at he
      exact fin a h v ha he
    · rw [i_le, en] at z
      simp only [Int32.reduceToInt] at z
      rw [if_neg (by omega)] at he
      have go : ¬ (F (30 + 5 * w) = p ∧ F (34 + 5 * w) = 0) → Rg_X1_turn_58 G d (nI l) (58 + 4 * l) (nI p) a.1 a.2 (nI n) (nI (w + 1)) h Q := fun c => by
        rw [if_neg c] at he
        exact ih (w + 1) n a h (by omega) hn v ha he
      rw [cl_of ew, nI_1, nI_1]
      refine ⟨fun c => go (fun y => c ?_), fun c => ⟨inn, fun c2 => ?_, fun c2 => go (fun y => c2 ?_)⟩⟩
      · exact eq_nI (by rw [← vw.1]; exact y.1)
      · have cp : F (30 + 5 * w) = p := by
          rw [vw.1, c]
          exact ti_nI (by omega)
        rw [i_eq, ← vw.2.2.2.2] at c2
        have c3 : F (34 + 5 * w) = 0 := c2
        rw [if_pos ⟨cp, c3⟩] at he
        refine ev_isFree (B := B) (bg := bg) v.1 (by omega) (sh57 l (by omega)) (by rw [hvv]; exact ok) ew (by rw [hvv]; omega) ?_
        rw [hvv]
        refine br2 (fun c4 => ?_) (fun c4 => ?_)
        · have r : rdy F w := ⟨c3, c4⟩
          rw [if_pos r] at he
          refine V w h _ v (Or.inr ⟨by omega, r⟩) (fun h2 v2 => ?_)
          have he2 : foG l ch (cdS F p m (w + 1) (n + 1) ++ [12]) (tkG l a (nI w) (ch w)) = res := he
          unfold tkG at he2
          have hpos : ((nI w, ch w) : Int32 × Int32).1 = -1 ∨ 0 ≤ ((nI w, ch w) : Int32 × Int32).1.toInt := Or.inr (by show 0 ≤ (nI w).toInt; omega)
          refine ⟨fun c5 => ?_, fun c5 => ev_better v2.1 (by omega) (by omega) (br2 (fun c6 => ?_) (fun c6 => ?_))⟩
          · rw [if_pos (Or.inl ((no a ha).mp c5))] at he2
            exact ih (w + 1) (n + 1) (nI w, ch w) h2 (by omega) (by omega) v2 hpos he2
          · rw [if_pos (Or.inr c6)] at he2
            exact ih (w + 1) (n + 1) (nI w, ch w) h2 (by omega) (by omega) v2 hpos he2
          · rw [if_neg (fun y => y.elim (fun y => c5 ((no a ha).mpr y)) c6)] at he2
            exact ih (w + 1) (n + 1) a h2 (by omega) (by omega) v2 ha he2
        · rw [if_neg (fun r => c4 r.2)] at he
          exact ih (w + 1) (n + 1) a h (by omega) (by omega) v ha he
      · rw [i_eq, ← vw.2.2.2.2]
        exact y.2
end
end
