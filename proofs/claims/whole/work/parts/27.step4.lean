/-! as, ofParty -/
section
variable {G : GT} {d : Nat} {h : Hp} {Q : Int32 → Hp → Prop} {QW : Hp → Prop}
theorem ev_aboveK {a0 : Int32} (hR : RF h) (hd : 1 ≤ d) (h0 : 0 ≤ a0.toInt ∧ a0.toInt ≤ 6) (k : ∀ x : Int32, (a0.toInt = 0 → x.toInt = -1) → (1 ≤ a0.toInt → a0.toInt ≤ 3 → x.toInt = 0) → (4 ≤ a0.toInt → x.toInt = a0.toInt - 3) → Q x h) : EvI G d mX4_above [.inl a0] h Q := by
  obtain ⟨e, rfl⟩ := dpos (show 1 ≤ d by omega)
  have lo : ∀ x : Int32, 1 ≤ a0.toInt → a0.toInt ≤ 3 → x.toInt = 0 → Q x h := fun x z1 z2 e0 => k x (fun z => by omega) (fun _ _ => e0) (fun z => by omega)
  have hi : ∀ x : Int32, 4 ≤ a0.toInt → x.toInt = a0.toInt - 3 → Q x h := fun x z1 e0 => k x (fun z => by omega) (fun _ z => by omega) (fun _ => e0)
  exact vc_X4_above hR ⟨⟨fun c => lo _ (by omega) (by omega) rfl, fun c => lo _ (by omega) (by omega) rfl, fun c => lo _ (by omega) (by omega) rfl, fun c => hi _ (by omega) (by show (1 : Int) = _; omega), fun c => hi _ (by omega) (by show (2 : Int) = _; omega), fun c => hi _ (by omega) (by show (3 : Int) = _; omega)⟩, fun c => k _ (fun _ => rfl) (fun z1 z2 => by omega) (fun z => by omega)⟩
abbrev und (a b : Int) : Prop := a = b ∨ (1 ≤ b ∧ a = 0) ∨ (4 ≤ b ∧ a = b - 3)
theorem rg_un {l1 : Int32} (hR : RF h) (hd : 1 ≤ d) (h1 : 0 ≤ l1.toInt ∧ l1.toInt ≤ 6) : ∀ (n : Nat) {l2 l3 : Int32}, -1 ≤ l2.toInt → l2.toInt ≤ 6 → (l2.toInt + 1 ≤ n ∨ (2 ≤ n ∧ l2.toInt ≤ 3) ∨ 3 ≤ n) → 0 ≤ l3.toInt → l3.toInt + n ≤ 5 → Q (b2 (und l1.toInt l2.toInt)) h → Rg_X4_isUnder_4 G d l1 l2 l3 h Q := by
  intro n
  induction n with
  | zero =>
    intro l2 l3 a b c e f k
    refine vc_X4_isUnder_4 hR ⟨(by intros; exfalso; (try simp only [i_eq, i_lt, i_le, Int32.reduceToInt, Int64.reduceToInt, ti_m1, tl_m1, ti_m2, tl_m2] at *); omega), fun _ => ⟨fun c1 => ?_, (by intros; exfalso; (try simp only [i_eq, i_lt, i_le, Int32.reduceToInt, Int64.reduceToInt, ti_m1, tl_m1, ti_m2, tl_m2] at *); omega)⟩⟩
    rw [b2_f (by unfold und; omega)] at k
    exact k
  | succ n ih =>
    intro l2 l3 a b c e f k
    have e3 : (l3 + 1).toInt = l3.toInt + 1 := ti_add (by simp only [Int32.reduceToInt]; omega) (by simp only [Int32.reduceToInt]; omega)
    refine vc_X4_isUnder_4 hR ⟨(by intros; exfalso; (try simp only [i_eq, i_lt, i_le, Int32.reduceToInt, Int64.reduceToInt, ti_m1, tl_m1, ti_m2, tl_m2] at *); omega), fun _ => ⟨fun c1 => ?_, fun c1 => ⟨fun c2 => ?_, fun c2 => ?_⟩⟩⟩
    · rw [i_eq] at c1
      (try simp only [Int32.reduceToInt, Int64.reduceToInt, ti_m1, tl_m1, ti_m2, tl_m2] at *)
      rw [b2_f (by unfold und; omega)] at k
      exact k
    · rw [i_eq] at c1 c2
      (try simp only [Int32.reduceToInt, Int64.reduceToInt, ti_m1, tl_m1, ti_m2, tl_m2] at *)
      refine ev_aboveK hR hd (by omega) (fun x x1 x2 x3 => ih (by omega) (by omega) (by omega) (by omega) (by omega) ?_)
      have ec : und l1.toInt x.toInt ↔ und l1.toInt l2.toInt := by
        unfold und
        omega
      rw [b2_c ec]
      exact k
    · rw [i_eq] at c2
      rw [b2_t (by unfold und; omega)] at k
      exact k
theorem ev_isUnder {a0 a1 : Int32} (hR : RF h) (hd : 2 ≤ d) (h0 : 0 ≤ a0.toInt ∧ a0.toInt ≤ 6) (h1 : 0 ≤ a1.toInt ∧ a1.toInt ≤ 6) (k : Q (b2 (und a1.toInt a0.toInt)) h) : EvI G d mX4_isUnder [.inl a0, .inl a1] h Q := by
  obtain ⟨e, rfl⟩ := dpos (show 1 ≤ d by omega)
  exact vc_X4_isUnder hR (rg_un hR (by omega) h1 4 (by omega) (by omega) (by omega) (by decide) (by decide) k)
theorem M_as {F : Nat → Int} {a1 a2 : Int32} (eF : vM h = F) (hR : RF h) (hd : 10 ≤ d) (ok : OKF 99999 F) (k1 : ¬ ((0 ≤ a1.toInt ∧ a1.toInt < F 0) ∧ (0 ≤ a2.toInt ∧ a2.toInt ≤ 6)) → Q (er 1) (sI h 98 1 (h.1 98 1 + 1)))
    (k5 : ∀ j : Nat, a1.toInt = j → (j : Int) < F 0 → j < 4 → (0 ≤ a2.toInt ∧ a2.toInt ≤ 6) → ¬ und a2.toInt (F (10 + 5 * j)) → Q (er 5) (sI h 98 5 (h.1 98 5 + 1)))
    (k : ∀ j : Nat, a1.toInt = j → (j : Int) < F 0 → j < 4 → (0 ≤ a2.toInt ∧ a2.toInt ≤ 6) → und a2.toInt (F (10 + 5 * j)) → Q (h.1 95 (11 + 5 * j)) h) : EvI G d mX12_as [.inr (.inr (some 94)), .inl a1, .inl a2] h Q := by
  obtain ⟨e, rfl⟩ := dpos (show 1 ≤ d by omega)
  subst eF
  have o0 := ok.1
  refine vc_X12_as hR ?_
  repeat' (first
    | (refine ev_isParty hR (by omega) (by omega) ?_)
    | (refine ev_isWord hR (by omega) (by omega) ?_)
    | (refine ev_in32 hR (by omega) ?_)
    | (refine ev_finds hR (by omega) (n := 1) rfl (by omega) ?_)
    | (refine ev_finds hR (by omega) (n := 2) rfl (by omega) ?_)
    | (refine ev_finds hR (by omega) (n := 3) rfl (by omega) ?_)
    | (refine ev_finds hR (by omega) (n := 4) rfl (by omega) ?_)
    | (refine ev_finds hR (by omega) (n := 5) rfl (by omega) ?_)
    | (refine br2 (fun _ => ?_) (fun _ => ?_))
    | (refine br2' (fun _ => ?_) (fun _ => ?_))
    | (with_reducible refine spl (fun _ => ?_) (fun _ => ?_))
    | (with_reducible refine spl' (fun _ => ?_) (fun _ => ?_)))
  · rename_i c1 c2
    (try simp only [Int32.reduceToInt, Int64.reduceToInt, ti_m1, tl_m1, ti_m2, tl_m2] at *)
    obtain ⟨j, ej⟩ : ∃ j : Nat, a1.toInt = j := ⟨a1.toInt.toNat, by omega⟩
    have o := ok.2.2.2.2.2.2.2.2.1 j (by omega)
    unfold OKP at o
    have e0 : (h.1 95 (10 + 5 * j)).toInt = vM h (10 + 5 * j) := rfl
    have fin : und a2.toInt (vM h (10 + 5 * j)) → EvI G e mX12_of [.inr (.inr (some 94)), .inl a1, .inl 1] h Q := fun u => by
      refine ev_of hR (by omega) (eq_nI ej) (w := 1) rfl (by omega) (by omega) ?_
      rw [show 10 + 5 * j + 1 = 11 + 5 * j by omega]
      exact k j ej (by omega) (by omega) c2 u
    refine ev_of hR (by omega) (eq_nI ej) (w := 0) rfl (by omega) (by omega) ⟨fun c3 => fin ?_, fun c3 => ⟨fun c4 => fin ?_, fun c4 => ?_⟩⟩
    · rw [i_eq] at c3; (try simp only [Int32.reduceToInt, Int64.reduceToInt, ti_m1, tl_m1, ti_m2, tl_m2] at *); unfold und; omega
    · rw [i_eq] at c4; rw [show 10 + 5 * j + 0 = 10 + 5 * j by omega] at c4; unfold und; omega
    · rw [i_eq] at c3 c4
      rw [show 10 + 5 * j + 0 = 10 + 5 * j by omega] at c4 ⊢
      obtain ⟨e', rfl⟩ := dpos (show 1 ≤ e by omega)
      refine vc_X12_above hR ⟨fun c5 => ⟨fun c6 => ?_, fun c6 => fin ?_⟩, fun c5 => ⟨fun c6 => ?_, fun c6 => fin ?_⟩⟩
      · have e7 : (h.1 95 (10 + 5 * j) - 3).toInt = vM h (10 + 5 * j) - 3 := by rw [ti_sub (by rw [e0]; simp only [Int32.reduceToInt]; omega) (by rw [e0]; simp only [Int32.reduceToInt]; omega)]; rfl
        rw [i_eq, e7] at c6
        rw [i_le] at c5
        (try simp only [Int32.reduceToInt, Int64.reduceToInt, ti_m1, tl_m1, ti_m2, tl_m2] at *)
        have e0 : (h.1 95 (10 + 5 * j)).toInt = vM h (10 + 5 * j) := rfl
        exact ev_finds hR (by omega) (n := 5) rfl (by omega) (k5 j ej (by omega) (by omega) c2 (by unfold und; omega))
      · have e7 : (h.1 95 (10 + 5 * j) - 3).toInt = vM h (10 + 5 * j) - 3 := by rw [ti_sub (by rw [e0]; simp only [Int32.reduceToInt]; omega) (by rw [e0]; simp only [Int32.reduceToInt]; omega)]; rfl
        rw [i_eq, e7] at c6
        rw [i_le] at c5
        (try simp only [Int32.reduceToInt, Int64.reduceToInt, ti_m1, tl_m1, ti_m2, tl_m2] at *)
        have e0 : (h.1 95 (10 + 5 * j)).toInt = vM h (10 + 5 * j) := rfl
        unfold und; omega
      · rw [i_eq] at c6
        rw [i_le] at c5
        (try simp only [Int32.reduceToInt, Int64.reduceToInt, ti_m1, tl_m1, ti_m2, tl_m2] at *)
        have e0 : (h.1 95 (10 + 5 * j)).toInt = vM h (10 + 5 * j) := rfl
        exact ev_finds hR (by omega) (n := 5) rfl (by omega) (k5 j ej (by omega) (by omega) c2 (by unfold und; omega))
      · rw [i_eq] at c6
        rw [i_le] at c5
        (try simp only [Int32.reduceToInt, Int64.reduceToInt, ti_m1, tl_m1, ti_m2, tl_m2] at *)
        have e0 : (h.1 95 (10 + 5 * j)).toInt = vM h (10 + 5 * j) := rfl
        unfold und; omega
  · (try simp only [Int32.reduceToInt, Int64.reduceToInt, ti_m1, tl_m1, ti_m2, tl_m2] at *); exact k1 (by omega)
  · exact k1 (by omega)
theorem step_as {a1 a2 : Int32} (I : Inv h) (hd : 100 ≤ d) : EvI G d mX11_as [.inr (.inr (some 0)), .inl a1, .inl a2] h (fun x h1 => EvI G d mX12_as [.inr (.inr (some 94)), .inl a1, .inl a2] h1 (fun y h2 => x = y ∧ Inv h2)) := by
  have hd' := hd
  have hR := I.1
  have n0 := I.n
  obtain ⟨e, rfl⟩ := dpos (show 1 ≤ d by omega)
  refine vc_X11_as hR ?_
  repeat' (first
    | (refine ev_hasParty hR (by omega) (by omega) ?_)
    | (refine ev_hasWord hR (by omega) (by omega) ?_)
    | (refine ev_within hR (by omega) ?_)
    | (refine ev_isKm hR (by omega) ?_)
    | (refine ev_areTwo hR (by omega) (by omega) ?_)
    | (refine ev_refuse hR (by omega) (n := 1) rfl (by omega) ?_)
    | (refine ev_refuse hR (by omega) (n := 2) rfl (by omega) ?_)
    | (refine ev_refuse hR (by omega) (n := 3) rfl (by omega) ?_)
    | (refine ev_refuse hR (by omega) (n := 4) rfl (by omega) ?_)
    | (refine ev_refuse hR (by omega) (n := 5) rfl (by omega) ?_)
    | (refine br2 (fun _ => ?_) (fun _ => ?_))
    | (refine br2' (fun _ => ?_) (fun _ => ?_))
    | (with_reducible refine spl (fun _ => ?_) (fun _ => ?_))
    | (with_reducible refine spl' (fun _ => ?_) (fun _ => ?_)))
  · rename_i c1 c2
    (try simp only [Int32.reduceToInt, Int64.reduceToInt, ti_m1, tl_m1, ti_m2, tl_m2] at *)
    obtain ⟨j, ej⟩ : ∃ j : Nat, a1.toInt = j := ⟨a1.toInt.toNat, by omega⟩
    have o := I.ok.2.2.2.2.2.2.2.2.1 j (by omega)
    unfold OKP at o
    have ip := I.p (p := j) (by omega)
    have e2 : (h.1 2 j).toInt = vM h (10 + 5 * j) := by rw [← ip.1] <;> rfl
    have hin : vp_in a1 4 := in_of (by omega) (by omega)
    rw [cl_of ej]
    refine ⟨hin, ev_isUnder hR (by omega) (by omega) (by omega) ?_⟩
    rw [e2]
    refine br2' (fun c3 => ⟨hin, ?_⟩) (fun c3 => ev_refuse hR (by omega) (n := 5) rfl (by omega) ?_)
    · refine M_as rfl hR (by omega) I.ok (fun z => absurd z (by omega)) (fun j' z1 z2 z3 z4 z5 => ?_) (fun j' z1 z2 z3 z4 z5 => ⟨?_, I⟩)
      · have : j' = j := by omega
        subst this
        exact absurd c3 z5
      · have : j' = j := by omega
        subst this
        exact ip.2.1.symm
    · refine M_as (vM_lo (by omega)) (RF_sI hR) (by omega) I.ok (fun z => absurd z (by omega)) (fun j' z1 z2 z3 z4 z5 => ⟨rfl, Inv_err I rfl⟩) (fun j' z1 z2 z3 z4 z5 => ?_)
      have : j' = j := by omega
      subst this
      exact absurd z5 c3
  · exact M_as (vM_lo (by omega)) (RF_sI hR) (by omega) I.ok (fun _ => ⟨rfl, Inv_err I rfl⟩) (by intros; exfalso; (try simp only [i_eq, i_lt, i_le, Int32.reduceToInt, Int64.reduceToInt, ti_m1, tl_m1, ti_m2, tl_m2] at *); omega) (by intros; exfalso; (try simp only [i_eq, i_lt, i_le, Int32.reduceToInt, Int64.reduceToInt, ti_m1, tl_m1, ti_m2, tl_m2] at *); omega)
  · exact M_as (vM_lo (by omega)) (RF_sI hR) (by omega) I.ok (fun _ => ⟨rfl, Inv_err I rfl⟩) (by intros; exfalso; (try simp only [i_eq, i_lt, i_le, Int32.reduceToInt, Int64.reduceToInt, ti_m1, tl_m1, ti_m2, tl_m2] at *); omega) (by intros; exfalso; (try simp only [i_eq, i_lt, i_le, Int32.reduceToInt, Int64.reduceToInt, ti_m1, tl_m1, ti_m2, tl_m2] at *); omega)
/-- how many of a PARTY's WORDS are SAID -/
def sdG (A B : Nat → Int) (p : Int) : Nat → Int
  | 0 => 0
  | n + 1 => sdG A B p n + (if A n = p ∧ B n = 1 then 1 else 0)
theorem sdG_b {A B : Nat → Int} {p : Int} : ∀ n : Nat, 0 ≤ sdG A B p n ∧ sdG A B p n ≤ n
  | 0 => ⟨Int.le_refl _, Int.le_refl _⟩
  | n + 1 => by
    have := @sdG_b A B p n
    show 0 ≤ sdG A B p n + _ ∧ sdG A B p n + _ ≤ _
    split <;> omega
theorem sdG_eq {A B A' B' : Nat → Int} {p : Int} : ∀ {n : Nat}, (∀ w, w < n → A' w = A w ∧ B' w = B w) → sdG A' B' p n = sdG A B p n
  | 0, _ => rfl
  | n + 1, g => by
    show sdG A' B' p n + _ = sdG A B p n + _
    rw [sdG_eq (n := n) (fun w hw => g w (by omega)), (g n (by omega)).1, (g n (by omega)).2]
theorem rg_saidC {l1 : Int32} {n : Nat} (hR : RF h) (hn : (h.1 1 4).toInt = n) (h12 : n ≤ 12) (k : ∀ x : Int32, x.toInt = sdG (fun w => (h.1 5 w).toInt) (fun w => (h.1 12 w).toInt) l1.toInt n → Q x h) : ∀ (m i : Nat) {l2 l3 : Int32}, i + m = n → l3.toInt = i → l2.toInt = sdG (fun w => (h.1 5 w).toInt) (fun w => (h.1 12 w).toInt) l1.toInt i → Rg_X9_saidOf_4 G d l1 l2 l3 h Q := by
  intro m
  induction m with
  | zero =>
    intro i l2 l3 e e3 e2
    have : i = n := by omega
    subst this
    exact vc_X9_saidOf_4 hR ⟨fun _ => k _ e2, (by intros; exfalso; (try simp only [i_eq, i_lt, i_le, Int32.reduceToInt, Int64.reduceToInt, ti_m1, tl_m1, ti_m2, tl_m2] at *); omega)⟩
  | succ m ih =>
    intro i l2 l3 e e3 e2
    have b := @sdG_b (fun w => (h.1 5 w).toInt) (fun w => (h.1 12 w).toInt) l1.toInt i
    have e31 : (l3 + 1).toInt = ((i + 1 : Nat) : Int) := by rw [ti_add (by rw [e3]; simp only [Int32.reduceToInt]; omega) (by rw [e3]; simp only [Int32.reduceToInt]; omega), e3]; rfl
    have e21 : (l2 + 1).toInt = sdG (fun w => (h.1 5 w).toInt) (fun w => (h.1 12 w).toInt) l1.toInt i + 1 := by rw [ti_add (by rw [e2]; simp only [Int32.reduceToInt]; omega) (by rw [e2]; simp only [Int32.reduceToInt]; omega), e2]; rfl
    have hin : vp_in l3 12 := in_of (by omega) (by omega)
    refine vc_X9_saidOf_4 hR ⟨(by intros; exfalso; (try simp only [i_eq, i_lt, i_le, Int32.reduceToInt, Int64.reduceToInt, ti_m1, tl_m1, ti_m2, tl_m2] at *); omega), fun _ => ⟨(by intros; exfalso; (try simp only [i_eq, i_lt, i_le, Int32.reduceToInt, Int64.reduceToInt, ti_m1, tl_m1, ti_m2, tl_m2] at *); omega), fun _ => ⟨hin, ?_⟩⟩⟩
    rw [cl_of e3]
    refine ⟨fun c => ih (i + 1) (by omega) e31 ?_, fun c => ⟨hin, fun c2 => ih (i + 1) (by omega) e31 ?_, fun c2 => ih (i + 1) (by omega) e31 ?_⟩⟩
    · rw [i_eq] at c
      rw [e2]
      show _ = sdG _ _ _ i + (if _ ∧ _ then 1 else 0)
      rw [if_neg (fun z => c z.1)]
      omega
    · rw [i_eq] at c2
      rw [e2]
      show _ = sdG _ _ _ i + (if _ ∧ _ then 1 else 0)
      rw [if_neg (fun z => c2 z.2)]
      omega
    · rw [i_eq] at c c2
      rw [e21]
      show _ = sdG _ _ _ i + (if _ ∧ _ then 1 else 0)
      rw [if_pos ⟨c, c2⟩]
theorem rg_saidM {l1 : Int32} {n : Nat} (hR : RF h) (hd : 1 ≤ d) (hn : vM h 1 = n) (h12 : n ≤ 12) (k : ∀ x : Int32, x.toInt = sdG (fun w => vM h (30 + 5 * w)) (fun w => vM h (34 + 5 * w)) l1.toInt n → Q x h) : ∀ (m i : Nat) {l2 l3 : Int32}, i + m = n → l3.toInt = i → l2.toInt = sdG (fun w => vM h (30 + 5 * w)) (fun w => vM h (34 + 5 * w)) l1.toInt i → Rg_X12_saidOf_4 G d l1 l2 l3 h Q := by
  have e1 : (h.1 95 1).toInt = n := hn
  intro m
  induction m with
  | zero =>
    intro i l2 l3 e e3 e2
    have : i = n := by omega
    subst this
    exact vc_X12_saidOf_4 hR ⟨fun _ => k _ e2, (by intros; exfalso; (try simp only [i_eq, i_lt, i_le, Int32.reduceToInt, Int64.reduceToInt, ti_m1, tl_m1, ti_m2, tl_m2] at *); omega)⟩
  | succ m ih =>
    intro i l2 l3 e e3 e2
    have b := @sdG_b (fun w => vM h (30 + 5 * w)) (fun w => vM h (34 + 5 * w)) l1.toInt i
    have e31 : (l3 + 1).toInt = ((i + 1 : Nat) : Int) := by rw [ti_add (by rw [e3]; simp only [Int32.reduceToInt]; omega) (by rw [e3]; simp only [Int32.reduceToInt]; omega), e3]; rfl
    have e21 : (l2 + 1).toInt = sdG (fun w => vM h (30 + 5 * w)) (fun w => vM h (34 + 5 * w)) l1.toInt i + 1 := by rw [ti_add (by rw [e2]; simp only [Int32.reduceToInt]; omega) (by rw [e2]; simp only [Int32.reduceToInt]; omega), e2]; rfl
    have e20 : l2 + 0 = l2 := by simp
    refine vc_X12_saidOf_4 hR ⟨(by intros; exfalso; (try simp only [i_eq, i_lt, i_le, Int32.reduceToInt, Int64.reduceToInt, ti_m1, tl_m1, ti_m2, tl_m2] at *); omega), fun _ => ev_its hR hd (eq_nI e3) (w := 0) rfl (by omega) (by omega) ?_⟩
    rw [e20]
    refine ⟨fun c => ih (i + 1) (by omega) e31 ?_, fun c => ev_its hR hd (eq_nI e3) (w := 4) rfl (by omega) (by omega) ⟨fun c2 => ih (i + 1) (by omega) e31 ?_, fun c2 => ih (i + 1) (by omega) e31 ?_⟩⟩
    · rw [i_eq] at c
      rw [e2]
      show _ = sdG _ _ _ i + (if _ ∧ _ then 1 else 0)
      rw [if_neg (fun z => c z.1)]
      omega
    · rw [i_eq] at c2
      rw [e2]
      show _ = sdG _ _ _ i + (if _ ∧ _ then 1 else 0)
      rw [show 30 + 5 * i + 4 = 34 + 5 * i by omega] at c2
      rw [if_neg (fun z => c2 z.2)]
      omega
    · rw [i_eq] at c c2
      rw [e21]
      show _ = sdG _ _ _ i + (if _ ∧ _ then 1 else 0)
      rw [show 30 + 5 * i + 4 = 34 + 5 * i by omega] at c2
      rw [if_pos ⟨c, c2⟩]
end
