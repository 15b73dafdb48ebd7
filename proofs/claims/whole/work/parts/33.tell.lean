/-! tell, count, image, restore -/
theorem TxM_eq2 {h h' : Hp} {p0 p1 : List Int32} (hj : ∀ j, (j = 90 ∨ j = 91 ∨ (112 ≤ j ∧ j < 212)) → h'.1 95 j = h.1 95 j) (T : TxM h 95 p0 p1) : TxM h' 95 p0 p1 := by
  obtain ⟨t1, t2, t3, t4, t5⟩ := T
  unfold TxM
  rw [hj 90 (by omega), hj 91 (by omega)]
  exact ⟨t1, t2, fun i hi => by rw [hj _ (by omega)]; exact t3 i hi, TxB_eq (fun i hi => hj _ (by omega)) t4, TxB_eq (fun i hi => hj _ (by omega)) t5⟩
section
variable {G : GT} {d : Nat} {h : Hp} {Q : Int32 → Hp → Prop} {QW : Hp → Prop}
/-- only what is now has changed -/
theorem Inv_now {h h' : Hp} (I : Inv h) (hR : RF h') (fr : ∀ a, ¬ scr a → ¬ (1 ≤ a ∧ a ≤ 20) → a ≠ 95 → a ≠ 94 → h'.1 a = h.1 a) (g1 : h'.1 94 3 = h.1 94 3) (g2 : h'.1 94 32 = h.1 94 32) (S : ST h') : Inv h' := by
  have fr' : ∀ a, (21 ≤ a ∧ a ≤ 40 ∧ a ≠ 35 ∧ a ≠ 38) ∨ a = 0 ∨ (83 ≤ a ∧ a ≤ 93) ∨ a = 96 ∨ a = 98 ∨ (113 ≤ a ∧ a ≤ 116) → h'.1 a = h.1 a := fun a ha => fr a (by unfold scr; omega) (by omega) (by omega) (by omega)
  obtain ⟨-, i1, ⟨i2, i3⟩, i4, i5, i6, i7, i8⟩ := I
  refine ⟨hR, S, ⟨?_, fun z => ?_⟩, SHT_eq (fun a ha => fr' a (by omega)) i4, fun k k1 k2 => ?_, ?_, ?_, fun i hi => ?_⟩
  · rw [fr' 0 (by omega), g1]; exact i2
  · rw [g1] at z
    exact shf_eq (fun a ha => fr' a (by omega)) (i3 z)
  · rw [fr' 93 (by omega), fr' 98 (by omega)]; exact i5 k k1 k2
  · rw [fr' 83 (by omega), g2]; exact i6
  · rw [fr' 83 (by omega)]; exact i7
  · rw [fr' 83 (by omega)] at hi
    rw [fr' 84 (by omega), fr' 113 (by omega)]; exact i8 i hi
theorem step_tell {a1 : Int32} (I : Inv h) (hd : 100 ≤ d) : EvI G d mX11_tell [.inr (.inr (some 0)), .inl a1] h (fun x h1 => EvI G d mX12_tell [.inr (.inr (some 94)), .inl a1] h1 (fun y h2 => x = y ∧ Inv h2)) := by
  have hd' := hd
  have hR := I.1
  have b9 := I.b89.2
  have cc := I.cc
  have e9 : (h.1 1 15).toInt = vM h 9 := I.c (bg := z0) (j := 9) (by omega)
  have e9' : (h.1 95 9).toInt = vM h 9 := rfl
  obtain ⟨j, ej⟩ : ∃ j : Nat, vM h 9 = j := ⟨(vM h 9).toNat, by omega⟩
  have en : h.1 1 15 = nI j := eq_nI (by omega)
  have en' : h.1 95 9 = nI j := eq_nI (by omega)
  have ejn : (nI j).toInt = (j : Int) := ti_nI (by omega)
  obtain ⟨e, rfl⟩ := dpos (show 1 ≤ d by omega)
  refine vc_X11_tell hR ⟨fun c => ⟨in_of (by omega) (by rw [i_lt, e9] at c; (try simp only [Int32.reduceToInt, Int64.reduceToInt, ti_m1, tl_m1, ti_m2, tl_m2] at *); omega), ?_⟩, fun c => ?_⟩
  · rw [i_lt, e9] at c
    (try simp only [Int32.reduceToInt, Int64.reduceToInt, ti_m1, tl_m1, ti_m2, tl_m2] at *)
    have e9' : (h.1 95 9).toInt = vM h 9 := rfl
    rw [en, cl_of ejn, nI_1]
    have e92 : (92 + h.1 95 9).toInt = ((92 + j : Nat) : Int) := by rw [ti_add (by rw [e9']; simp only [Int32.reduceToInt]; omega) (by rw [e9']; simp only [Int32.reduceToInt]; omega), e9']; simp only [Int32.reduceToInt]; omega
    have e95 : ∀ k, (sI (sI h 20 j a1) 1 15 (nI (j + 1))).1 95 k = h.1 95 k := fun k => by rw [sI_ne (by omega), sI_ne (by omega)]
    refine vc_X12_tell (RF_sI (RF_sI hR)) ⟨fun _ => ?_, fun z => ?_⟩
    · rw [e95, cl_of e92]
      rw [sI_ne (by omega), e95, en', nI_1]
      have e92' := e92
      rw [en'] at e92'
      refine ⟨in_of (by omega) (by omega), rfl, ?_⟩
      refine Inv_now I (by repeat' (first | exact hR | apply RF_sI)) (fun a z1 z2 z3 z4 => by unfold scr at z1; funext j; (repeat rw [sI_ne (by omega)])) (by repeat rw [sI_ne (by omega)]) (by repeat rw [sI_ne (by omega)]) ?_
      obtain ⟨p0, p1, s1, s2, s3, s4, s5, s6, s7, s8, s9⟩ := I.2.1
      have v1 : vM (sI (sI (sI (sI h 20 j a1) 1 15 (nI (j + 1))) 95 (92 + j) a1) 95 9 (nI (j + 1))) = upI (upI (vM h) (92 + j) a1.toInt) 9 (nI (j + 1)).toInt := by simp (disch := omega) only [vM_sI, vM_lo, vM_hi]
      have ok9 : OKF 99999 (upI (vM h) 9 (nI (j + 1)).toInt) := OKF_irr (by omega) s2
      have lo : ∀ i, i < 90 → upI (upI (vM h) (92 + j) a1.toInt) 9 (nI (j + 1)).toInt i = upI (vM h) 9 (nI (j + 1)).toInt i := fun i hi => by
        unfold upI
        by_cases h9 : i = 9
        · rw [if_pos h9, if_pos h9]
        · rw [if_neg h9, if_neg h9, if_neg (by omega)]
      refine ⟨p0, p1, fun i hi => ?_, ?_, ?_, ?_, fun i hi => ?_, fun i hi => ?_, TxM_eq2 (fun i hi => ?_) s7, TxC_eq (by repeat rw [sI_ne (by omega)]) (fun k _ => by repeat rw [sI_ne (by omega)]) s8, TxC_eq (by repeat rw [sI_ne (by omega)]) (fun k _ => by repeat rw [sI_ne (by omega)]) s9⟩
      · rw [v1, lo i hi]
        simp (disch := omega) only [c9_hi, c9_waits]
        exact (upI_on cc i hi).symm
      · rw [v1]
        exact OKF_eq lo ok9
      · rw [v1, lo 8 (by omega), upI_n (by omega)]; exact s3
      · rw [v1, upI_s, ti_nI (by omega)]
        omega
      · by_cases hij : i = j
        · subst hij
          rw [sI_ne (by omega), sI_self, sI_ne (by omega), sI_ne (by omega), sI_ne (by omega), sI_self]
        · rw [sI_ne (by omega), sI_ne (by omega), sI_ne (by omega), sI_ne (by omega), sI_ne (by omega), sI_ne (by omega), sI_ne (by omega), sI_ne (by omega)]
          exact s5 i hi
      · have e19 : ∀ q, (sI (sI (sI (sI h 20 j a1) 1 15 (nI (j + 1))) 95 (92 + j) a1) 95 9 (nI (j + 1))).1 19 q = h.1 19 q := fun q => by repeat rw [sI_ne (by omega)]
        rw [e19, sI_ne (by omega), sI_ne (by omega), sI_ne (by omega), sI_ne (by omega)]
        exact s6 i hi
      · rw [sI_ne (by omega), sI_ne (by omega), sI_ne (by omega), sI_ne (by omega)]
    · exfalso
      rw [e95, i_eq, e9'] at z
      (try simp only [Int32.reduceToInt, Int64.reduceToInt, ti_m1, tl_m1, ti_m2, tl_m2] at *)
      omega
  · rw [i_lt, e9] at c
    (try simp only [Int32.reduceToInt, Int64.reduceToInt, ti_m1, tl_m1, ti_m2, tl_m2] at *)
    have e9' : (h.1 95 9).toInt = vM h 9 := rfl
    refine ev_refuse hR (by omega) (n := 4) rfl (by omega) (vc_X12_tell (RF_sI hR) ⟨fun z => ?_, fun _ => ev_finds (RF_sI hR) (by omega) (n := 4) rfl (by omega) ⟨rfl, Inv_err I rfl⟩⟩)
    exfalso
    apply z
    rw [sI_ne (by omega), i_eq, e9']
    (try simp only [Int32.reduceToInt, Int64.reduceToInt, ti_m1, tl_m1, ti_m2, tl_m2] at *)
    omega
/-- whether a PARTY is of a set -/
abbrev bitP (set : Int32) (p : Nat) : Prop := ((set >>> (nI p &&& 31)) &&& 1) = 1
/-- WATER of a set of the first n PARTIES -/
def wat (F : Nat → Int) (set : Int32) : Nat → Int
  | 0 => 0
  | n + 1 => wat F set n + (if bitP set n then F (13 + 5 * n) else 0)
theorem wat_in {F : Nat → Int} {set : Int32} : ∀ {n : Nat}, (∀ p, p < n → 0 ≤ F (13 + 5 * p) ∧ F (13 + 5 * p) ≤ 999) → 0 ≤ wat F set n ∧ wat F set n ≤ 999 * n
  | 0, _ => ⟨Int.le_refl _, Int.le_refl _⟩
  | n + 1, g => by
    have i := wat_in (F := F) (set := set) (n := n) (fun p hp => g p (by omega))
    have := g n (by omega)
    unfold wat
    split <;> (push_cast; omega)
theorem rg_waterOf {set : Int32} {n : Nat} {F : Nat → Int} (hR : RF h) (hn : (h.1 1 0).toInt = n) (h4 : n ≤ 4) (hF : ∀ p, p < n → (h.1 10 p).toInt = F (13 + 5 * p) ∧ 0 ≤ F (13 + 5 * p) ∧ F (13 + 5 * p) ≤ 999) (k : ∀ x : Int32, x.toInt = wat F set n → Q x h) : ∀ (m i : Nat) {l2 : Int32}, i + m = n → l2.toInt = wat F set i → Rg_X9_waterOf_4 G d set l2 (nI i) h Q := by
  intro m
  induction m with
  | zero =>
    intro i l2 hi e2
    have : i = n := by omega
    subst this
    refine vc_X9_waterOf_4 hR ⟨fun _ => k _ e2, fun z => ?_⟩
    exfalso
    rw [i_le, hn, ti_nI (by omega)] at z
    omega
  | succ m ih =>
    intro i l2 hi e2
    have ei : (nI i).toInt = (i : Int) := ti_nI (by omega)
    have wb := @wat_in F set i (fun p hp => (hF p (by omega)).2)
    have g := hF i (by omega)
    refine vc_X9_waterOf_4 hR ⟨fun z => ?_, fun _ => ⟨fun z => ?_, fun _ => ?_⟩⟩
    · exfalso
      rw [i_le, hn, ei] at z
      omega
    · exfalso
      rw [i_le, ei] at z
      simp only [Int32.reduceToInt] at z
      omega
    · rw [nI_1, cl_of ei]
      refine ⟨fun c => ih (i + 1) (by omega) ?_, fun c => ⟨in_of (by omega) (by omega), ih (i + 1) (by omega) ?_⟩⟩
      · unfold wat
        rw [if_neg c, e2]
        omega
      · unfold wat
        rw [if_pos c, ti_add (by omega) (by omega), e2, g.1]
theorem ev_waterOf {set : Int32} {n : Nat} {F : Nat → Int} (hR : RF h) (hd : 1 ≤ d) (hn : (h.1 1 0).toInt = n) (h4 : n ≤ 4) (hF : ∀ p, p < n → (h.1 10 p).toInt = F (13 + 5 * p) ∧ 0 ≤ F (13 + 5 * p) ∧ F (13 + 5 * p) ≤ 999) (k : ∀ x : Int32, x.toInt = wat F set n → Q x h) : EvI G d mX9_waterOf [.inr (.inr (some 1)), .inl set] h Q := by
  obtain ⟨e, rfl⟩ := dpos (show 1 ≤ d by omega)
  exact vc_X9_waterOf hR (rg_waterOf hR hn h4 hF k n 0 (by omega) rfl)
theorem bits_all : ∀ n, n < 5 → ∀ p, p < n → bitP ((1 <<< (nI n &&& 31)) - 1) p := by decide
theorem rg_waterAll {B : Int} (hR : RF h) (hd : 1 ≤ d) (ok : OKF B (vM h)) {n : Nat} (hn : vM h 0 = n) {set : Int32} (hs : ∀ p, p < n → bitP set p) (k : ∀ x : Int32, x.toInt = wat (vM h) set n → Q x h) : ∀ (m i : Nat) {l1 : Int32}, i + m = n → l1.toInt = wat (vM h) set i → Rg_X12_waterOfAll_4 G d l1 (nI i) h Q := by
  have o0 := ok.1
  have e0 : (h.1 95 0).toInt = vM h 0 := rfl
  intro m
  induction m with
  | zero =>
    intro i l1 hi e2
    have : i = n := by omega
    subst this
    refine vc_X12_waterOfAll_4 hR ⟨fun _ => k _ e2, fun z => ?_⟩
    exfalso
    rw [i_le, e0, hn, ti_nI (by omega)] at z
    omega
  | succ m ih =>
    intro i l1 hi e2
    have ei : (nI i).toInt = (i : Int) := ti_nI (by omega)
    have wb := @wat_in (vM h) set i (fun p hp => (ok.2.2.2.2.2.2.2.2.1 p (by omega)).2.2.2.1)
    have g := (ok.2.2.2.2.2.2.2.2.1 i (by omega)).2.2.2.1
    have eg : (h.1 95 (13 + 5 * i)).toInt = vM h (13 + 5 * i) := rfl
    refine vc_X12_waterOfAll_4 hR ⟨fun z => ?_, fun _ => ev_of hR hd rfl (w := 3) rfl (by omega) (by omega) ?_⟩
    · exfalso
      rw [i_le, e0, hn, ei] at z
      omega
    · rw [nI_1, show 10 + 5 * i + 3 = 13 + 5 * i by omega]
      refine ih (i + 1) (by omega) ?_
      unfold wat
      rw [if_pos (hs i (by omega)), ti_add (by omega) (by omega), e2, eg]
theorem Inv.e {h : Hp} (I : Inv h) {a k j : Nat} (hj : j < 90) (e : (h.1 a k).toInt = vC h 9 z0 j) : h.1 a k = h.1 95 j := by
  rw [i_eq, e]
  exact I.c hj
theorem step_count {a1 : Int32} (I : Inv h) (hd : 100 ≤ d) : EvI G d mX11_count [.inr (.inr (some 0)), .inl a1] h (fun x h1 => EvI G d mX12_count [.inr (.inr (some 94)), .inl a1] h1 (fun y h2 => x = y ∧ Inv h2)) := by
  have hd' := hd
  have hR := I.1
  have ok := I.ok
  have n0 := I.n
  have o6 := ok.2.2.2.2.2.1
  have o1 := ok.2.1
  have e6 : (h.1 9 6).toInt + 1 = vM h 6 := I.c (bg := z0) (j := 6) (by omega)
  have e6' : (h.1 95 6).toInt = vM h 6 := rfl
  obtain ⟨e, rfl⟩ := dpos (show 1 ≤ d by omega)
  have fin : ∀ (w : Nat) (x : Int32), a1.toInt = w → (w = 0 → x = h.1 95 0) → (w = 1 → x = h.1 95 1) → (w = 2 → x = h.1 95 3) → (w = 3 → x = h.1 95 4) → (w = 4 → x = h.1 95 5) → (w = 5 → x = h.1 95 6 - 1) → (w = 6 → x = h.1 95 7) → (w = 7 → x.toInt = wat (vM h) ((1 <<< (nI (vM h 0).toNat &&& 31)) - 1) (vM h 0).toNat) → (w = 8 → x = h.1 95 8) → (w = 9 → x = h.1 95 9) → (w = 10 → x = h.1 94 32) → (w = 11 → x = h.1 95 2) → w ≤ 11 → EvI G (e + 1) mX12_count [.inr (.inr (some 94)), .inl a1] h (fun y h2 => x = y ∧ Inv h2) := by
    intro w x ew f0 f1 f2 f3 f4 f5 f6 f7 f8 f9 f10 f11 hw
    refine vc_X12_count hR ⟨⟨fun z => ⟨f0 (by omega), I⟩, fun z => ⟨f1 (by omega), I⟩, fun z => ⟨f2 (by omega), I⟩, fun z => ⟨f3 (by omega), I⟩, fun z => ⟨f4 (by omega), I⟩, fun z => ⟨f5 (by omega), I⟩, fun z => ⟨f6 (by omega), I⟩, fun z => ?_, fun z => ⟨f8 (by omega), I⟩, fun z => ⟨f9 (by omega), I⟩, fun z => ⟨f10 (by omega), I⟩, fun z => ⟨f11 (by omega), I⟩⟩, fun z => by exfalso; omega⟩
    obtain ⟨e', rfl⟩ := dpos (show 1 ≤ e by omega)
    refine vc_X12_waterOfAll hR (rg_waterAll hR (by omega) ok (n := (vM h 0).toNat) (by omega) (bits_all (vM h 0).toNat (by omega)) (fun y ey => ⟨?_, I⟩) (vM h 0).toNat 0 (by omega) rfl)
    rw [i_eq, ey, f7 (by omega)]
  have c0 : ∀ {a k j : Nat}, j < 90 → (h.1 a k).toInt = vC h 9 z0 j → h.1 a k = h.1 95 j := fun hj e => I.e hj e
  have i6 := I.2.2.2.2.2.1
  refine vc_X11_count hR ⟨⟨fun z => fin 0 _ (by omega) (fun _ => c0 (by omega) rfl) (by omega) (by omega) (by omega) (by omega) (by omega) (by omega) (by omega) (by omega) (by omega) (by omega) (by omega) (by omega), fun z => fin 1 _ (by omega) (by omega) (fun _ => c0 (by omega) rfl) (by omega) (by omega) (by omega) (by omega) (by omega) (by omega) (by omega) (by omega) (by omega) (by omega) (by omega), fun z => fin 2 _ (by omega) (by omega) (by omega) (fun _ => c0 (by omega) rfl) (by omega) (by omega) (by omega) (by omega) (by omega) (by omega) (by omega) (by omega) (by omega) (by omega), fun z => fin 3 _ (by omega) (by omega) (by omega) (by omega) (fun _ => c0 (by omega) rfl) (by omega) (by omega) (by omega) (by omega) (by omega) (by omega) (by omega) (by omega) (by omega), fun z => fin 4 _ (by omega) (by omega) (by omega) (by omega) (by omega) (fun _ => c0 (by omega) rfl) (by omega) (by omega) (by omega) (by omega) (by omega) (by omega) (by omega) (by omega), fun z => fin 5 _ (by omega) (by omega) (by omega) (by omega) (by omega) (by omega) (fun _ => ?_) (by omega) (by omega) (by omega) (by omega) (by omega) (by omega) (by omega), fun z => fin 6 _ (by omega) (by omega) (by omega) (by omega) (by omega) (by omega) (by omega) (fun _ => c0 (by omega) rfl) (by omega) (by omega) (by omega) (by omega) (by omega) (by omega), fun z => ?_, fun z => fin 8 _ (by omega) (by omega) (by omega) (by omega) (by omega) (by omega) (by omega) (by omega) (by omega) (fun _ => c0 (by omega) rfl) (by omega) (by omega) (by omega) (by omega), fun z => fin 9 _ (by omega) (by omega) (by omega) (by omega) (by omega) (by omega) (by omega) (by omega) (by omega) (by omega) (fun _ => c0 (by omega) rfl) (by omega) (by omega) (by omega), fun z => fin 10 _ (by omega) (by omega) (by omega) (by omega) (by omega) (by omega) (by omega) (by omega) (by omega) (by omega) (by omega) (fun _ => i6) (by omega) (by omega), fun z => fin 11 _ (by omega) (by omega) (by omega) (by omega) (by omega) (by omega) (by omega) (by omega) (by omega) (by omega) (by omega) (by omega) (fun _ => c0 (by omega) rfl) (by omega)⟩, fun z => ?_⟩
  · rw [i_eq, ti_sub (by rw [e6']; simp only [Int32.reduceToInt]; omega) (by rw [e6']; simp only [Int32.reduceToInt]; omega), e6']
    simp only [Int32.reduceToInt]
    omega
  · obtain ⟨e', rfl⟩ := dpos (show 1 ≤ e by omega)
    refine vc_X9_sets hR ?_
    have en : h.1 1 0 = nI (vM h 0).toNat := eq_nI (by omega)
    rw [en]
    refine ev_waterOf (F := vM h) (n := (vM h 0).toNat) hR (by omega) (by omega) (by omega) (fun p hp => ?_) (fun x ex => fin 7 x (by omega) (by omega) (by omega) (by omega) (by omega) (by omega) (by omega) (by omega) (fun _ => ex) (by omega) (by omega) (by omega) (by omega) (by omega))
    have ip := I.p (p := p) (by omega)
    have o := ok.2.2.2.2.2.2.2.2.1 p (by omega)
    exact ⟨by rw [← ip.2.2.2.1] <;> rfl, o.2.2.2.1⟩
  · refine ev_refuse hR (by omega) (n := 1) rfl (by omega) (vc_X12_count (RF_sI hR) ⟨⟨fun z => by exfalso; omega, fun z => by exfalso; omega, fun z => by exfalso; omega, fun z => by exfalso; omega, fun z => by exfalso; omega, fun z => by exfalso; omega, fun z => by exfalso; omega, fun z => by exfalso; omega, fun z => by exfalso; omega, fun z => by exfalso; omega, fun z => by exfalso; omega, fun z => by exfalso; omega⟩, fun _ => ev_finds (RF_sI hR) (by omega) (n := 1) rfl (by omega) ⟨rfl, Inv_err I rfl⟩⟩)
theorem ev_copyT {a b : Nat} (hR : RF h) (hd : 1 ≤ d) (ha : SH[a]? = some (.inl 9)) (hb : SH[b]? = some (.inl 9)) (hab : a + 1 ≠ b ∧ b + 1 ≠ a ∧ a ≠ b) (k : ∀ h', RF h' → h'.2 = h.2 → (∀ q, q ≠ a → q ≠ a + 1 → h'.1 q = h.1 q) → h'.1 a 2 = h.1 b 2 → (∀ t, t < 50 → h'.1 (a + 1) t = h.1 (b + 1) t) → QW h') : EvV G d mX10_copy [.inr (.inr (some a)), .inr (.inr (some b))] h QW := by
  obtain ⟨e, rfl⟩ := dpos (show 1 ≤ d by omega)
  refine vc_X10_copy ha hb hR (k _ (RF_sI (RF_cp hR)) rfl (fun q h1 h2 => ?_) ?_ (fun t ht => ?_))
  · funext t
    rw [sI_ne (by omega), cpI_at, if_neg (by omega)]
  · rw [sI_self, cpI_at, if_neg (by omega)]
  · rw [sI_ne (by omega), cpI_at, if_pos (by omega), show 0 + (t - 0) = t by omega]
end
/-! images -/
theorem cp_lt {h : Hp} {a b n t : Nat} (ht : t < n) : (cpI h a 0 b 0 n).1 b t = h.1 a t := by
  rw [cpI_at, if_pos (by omega), show 0 + (t - 0) = t by omega]
theorem cp_ne {h : Hp} {a b n q : Nat} (hq : q ≠ b) : (cpI h a 0 b 0 n).1 q = h.1 q := by
  funext t
  rw [cpI_at, if_neg (by omega)]
theorem sI_row_ne {h : Hp} {a k q : Nat} {v : Int32} (hq : q ≠ a) : (sI h a k v).1 q = h.1 q := by
  funext t
  rw [sI_ne (by omega)]
section
variable {G : GT} {d : Nat} {h : Hp} {Q : Int32 → Hp → Prop} {QW : Hp → Prop}
theorem ev_toKept (hR : RF h) (hd : 2 ≤ d) (k : ∀ h', RF h' → (∀ a, ¬ (21 ≤ a ∧ a ≤ 40) → h'.1 a = h.1 a) → (∀ a j, relC a j → h'.1 (a + 20) j = h.1 a j) → QW h') : EvV G d mX9_copy [.inr (.inr (some 21)), .inr (.inr (some 1))] h QW := by
  obtain ⟨e, rfl⟩ := dpos (show 1 ≤ d by omega)
  refine vc_X9_copyb hR ?_
  rintro h1 e1
  have hR1 : RF h1 := by rw [e1]; repeat' (first | exact hR | apply RF_sI | apply RF_cp)
  have n1 : ∀ a, ¬ (21 ≤ a ∧ a ≤ 28) → h1.1 a = h.1 a := fun a ha => by
    rw [e1]
    rw [cp_ne (by omega), cp_ne (by omega), cp_ne (by omega), cp_ne (by omega), sI_row_ne (by omega), cp_ne (by omega), cp_ne (by omega), cp_ne (by omega), sI_row_ne (by omega)]
  have a0 : h1.1 21 0 = h.1 1 0 := by
    rw [e1]
    rw [cp_ne (by omega), cp_ne (by omega), cp_ne (by omega), cp_ne (by omega), sI_ne (by omega), cp_ne (by omega), cp_ne (by omega), cp_ne (by omega), sI_self]
  have a4 : h1.1 21 4 = h.1 1 4 := by
    rw [e1]
    rw [cp_ne (by omega), cp_ne (by omega), cp_ne (by omega), cp_ne (by omega), sI_self]
  have r2 : ∀ t, t < 4 → h1.1 22 t = h.1 2 t := fun t ht => by
    rw [e1]
    rw [cp_ne (by omega), cp_ne (by omega), cp_ne (by omega), cp_ne (by omega), sI_row_ne (by omega), cp_ne (by omega), cp_ne (by omega), cp_lt ht, sI_row_ne (by omega)]
  have r3 : ∀ t, t < 4 → h1.1 23 t = h.1 3 t := fun t ht => by
    rw [e1]
    rw [cp_ne (by omega), cp_ne (by omega), cp_ne (by omega), cp_ne (by omega), sI_row_ne (by omega), cp_ne (by omega), cp_lt ht, cp_ne (by omega), sI_row_ne (by omega)]
  have r4 : ∀ t, t < 4 → h1.1 24 t = h.1 4 t := fun t ht => by
    rw [e1]
    rw [cp_ne (by omega), cp_ne (by omega), cp_ne (by omega), cp_ne (by omega), sI_row_ne (by omega), cp_lt ht, cp_ne (by omega), cp_ne (by omega), sI_row_ne (by omega)]
  have r5 : ∀ t, t < 12 → h1.1 25 t = h.1 5 t := fun t ht => by
    rw [e1]
    rw [cp_ne (by omega), cp_ne (by omega), cp_ne (by omega), cp_lt ht, sI_row_ne (by omega), cp_ne (by omega), cp_ne (by omega), cp_ne (by omega), sI_row_ne (by omega)]
  have r6 : ∀ t, t < 12 → h1.1 26 t = h.1 6 t := fun t ht => by
    rw [e1]
    rw [cp_ne (by omega), cp_ne (by omega), cp_lt ht, cp_ne (by omega), sI_row_ne (by omega), cp_ne (by omega), cp_ne (by omega), cp_ne (by omega), sI_row_ne (by omega)]
  have r7 : ∀ t, t < 12 → h1.1 27 t = h.1 7 t := fun t ht => by
    rw [e1]
    rw [cp_ne (by omega), cp_lt ht, cp_ne (by omega), cp_ne (by omega), sI_row_ne (by omega), cp_ne (by omega), cp_ne (by omega), cp_ne (by omega), sI_row_ne (by omega)]
  have r8 : ∀ t, t < 12 → h1.1 28 t = h.1 8 t := fun t ht => by
    rw [e1]
    rw [cp_lt ht, cp_ne (by omega), cp_ne (by omega), cp_ne (by omega), sI_row_ne (by omega), cp_ne (by omega), cp_ne (by omega), cp_ne (by omega), sI_row_ne (by omega)]
  clear e1
  refine ev_copyR hR1 (by omega) rfl rfl (by omega) (fun h2 hR2 _ n2 f2 f21 f22 f23 => ?_)
  refine ev_copyT hR2 (by omega) rfl rfl (by omega) (fun h3 hR3 _ n3 t3 t31 => ?_)
  refine ev_copyT hR3 (by omega) rfl rfl (by omega) (fun h4 hR4 _ n4 t4 t41 => ?_)
  have low : ∀ a, a ≤ 20 → h4.1 a = h.1 a := fun a ha => by
    rw [n4 a (by omega) (by omega), n3 a (by omega) (by omega), n2 a (by omega) (by omega) (by omega) (by omega), n1 a (by omega)]
  refine k _ (by repeat' (first | exact hR4 | apply RF_sI | apply RF_cp)) (fun a ha => ?_) (fun a j hj => ?_)
  · rw [sI_row_ne (by omega), sI_row_ne (by omega), cp_ne (by omega), sI_row_ne (by omega), cp_ne (by omega), n4 a (by omega) (by omega), n3 a (by omega) (by omega), n2 a (by omega) (by omega) (by omega) (by omega), n1 a (by omega)]
  · have b1 : h4.1 21 = h1.1 21 := by rw [n4 21 (by omega) (by omega), n3 21 (by omega) (by omega), n2 21 (by omega) (by omega) (by omega) (by omega)]
    have bx : ∀ a, 22 ≤ a → a ≤ 28 → h4.1 a = h1.1 a := fun a z1 z2 => by rw [n4 a (by omega) (by omega), n3 a (by omega) (by omega), n2 a (by omega) (by omega) (by omega) (by omega)]
    have by' : ∀ a, 29 ≤ a → a ≤ 32 → h4.1 a = h2.1 a := fun a z1 z2 => by rw [n4 a (by omega) (by omega), n3 a (by omega) (by omega)]
    have l1 : ∀ a, a ≤ 20 → h1.1 a = h.1 a := fun a z => n1 a (by omega)
    have l2 : ∀ a, a ≤ 20 → h2.1 a = h.1 a := fun a z => by rw [n2 a (by omega) (by omega) (by omega) (by omega), l1 a z]
    have l3 : ∀ a, a ≤ 20 → h3.1 a = h.1 a := fun a z => by rw [n3 a (by omega) (by omega), l2 a z]
    have up : ∀ a, a ≠ 21 → a ≠ 39 → a ≠ 40 → (sI (sI (cpI (sI (cpI h4 19 0 39 0 50) 21 13 (h4.1 1 13)) 20 0 40 0 20) 21 15 (h4.1 1 15)) 21 16 (h4.1 1 16)).1 a = h4.1 a := fun a z1 z2 z3 => by
      rw [sI_row_ne (by omega), sI_row_ne (by omega), cp_ne (by omega), sI_row_ne (by omega), cp_ne (by omega)]
    unfold relC at hj
    rcases hj with ⟨rfl, hk⟩ | ⟨z1, z2, z3⟩ | ⟨z1, z2, z3⟩ | ⟨rfl, z1, z2⟩ | ⟨z1, z2⟩ | ⟨rfl, z1⟩ | ⟨z1, rfl⟩ | ⟨z1, z2⟩ | ⟨rfl, z1⟩
    · rcases hk with rfl | rfl | rfl | rfl | rfl
      · rw [sI_ne (by omega), sI_ne (by omega), cp_ne (by omega), sI_ne (by omega), cp_ne (by omega), b1, a0]
      · rw [sI_ne (by omega), sI_ne (by omega), cp_ne (by omega), sI_ne (by omega), cp_ne (by omega), b1, a4]
      · rw [sI_ne (by omega), sI_ne (by omega), cp_ne (by omega), sI_self, low 1 (by omega)]
      · rw [sI_ne (by omega), sI_self, low 1 (by omega)]
      · rw [sI_self, low 1 (by omega)]
    · rw [up (a + 20) (by omega) (by omega) (by omega), bx _ (by omega) (by omega)]
      rcases (show a = 2 ∨ a = 3 ∨ a = 4 by omega) with rfl | rfl | rfl
      · exact r2 j z3
      · exact r3 j z3
      · exact r4 j z3
    · rw [up (a + 20) (by omega) (by omega) (by omega), bx _ (by omega) (by omega)]
      rcases (show a = 5 ∨ a = 6 ∨ a = 7 ∨ a = 8 by omega) with rfl | rfl | rfl | rfl
      · exact r5 j z3
      · exact r6 j z3
      · exact r7 j z3
      · exact r8 j z3
    · rw [up (9 + 20) (by omega) (by omega) (by omega), by' _ (by omega) (by omega)]
      exact (f2 j z1 z2).trans (by rw [l1 9 (by omega)])
    · rw [up (a + 20) (by omega) (by omega) (by omega), by' _ (by omega) (by omega)]
      rcases z1 with rfl | rfl
      · exact (f21 j z2).trans (by rw [l1 (9 + 1) (by omega)])
      · exact (f22 j z2).trans (by rw [l1 (9 + 2) (by omega)])
    · rw [up (12 + 20) (by omega) (by omega) (by omega), by' _ (by omega) (by omega)]
      exact (f23 j z1).trans (by rw [l1 (9 + 3) (by omega)])
    · rw [up (a + 20) (by omega) (by omega) (by omega)]
      rcases z1 with rfl | rfl
      · rw [n4 (13 + 20) (by omega) (by omega)]
        exact t3.trans (by rw [l2 13 (by omega)])
      · exact t4.trans (by rw [l3 16 (by omega)])
    · rcases z1 with rfl | rfl | rfl
      · rw [up (14 + 20) (by omega) (by omega) (by omega), n4 (14 + 20) (by omega) (by omega)]
        exact (t31 j z2).trans (by rw [l2 (13 + 1) (by omega)])
      · rw [up (17 + 20) (by omega) (by omega) (by omega)]
        exact (t41 j z2).trans (by rw [l3 (16 + 1) (by omega)])
      · rw [sI_row_ne (by omega), sI_row_ne (by omega), cp_ne (by omega), sI_row_ne (by omega), show 19 + 20 = 39 from rfl, cp_lt z2, low 19 (by omega)]
    · rw [sI_row_ne (by omega), sI_row_ne (by omega), show 20 + 20 = 40 from rfl, cp_lt z1, sI_row_ne (by omega), cp_ne (by omega), low 20 (by omega)]
theorem rg_image {h0 : Hp} (hR : RF h0) (k : Q (h0.1 94 3 + 1) (sI (cpI h0 95 0 96 0 264) 94 3 (h0.1 94 3 + 1))) : ∀ (m i : Nat), i + m = 264 → Rg_X12_image_2 G d (nI i) (cpI h0 95 0 96 0 i) Q := by
  intro m
  induction m with
  | zero =>
    intro i hi
    have : i = 264 := by omega
    subst this
    refine vc_X12_image_2 (RF_cp hR) ⟨fun _ => ?_, fun z => absurd (by decide) z⟩
    rw [cp_ne (by omega)]
    exact k
  | succ m ih =>
    intro i hi
    have ei : (nI i).toInt = (i : Int) := ti_nI (by omega)
    refine vc_X12_image_2 (RF_cp hR) ⟨fun z => ?_, fun _ => ⟨in_of (by omega) (by omega), in_of (by omega) (by omega), ?_⟩⟩
    · rw [i_le, ei] at z
      exact absurd z (by show ¬ (264 : Int) ≤ _; omega)
    · rw [cl_of ei, nI_1, cp_ne (by omega)]
      have e1 := @cpI_s h0 95 0 96 0 i (by omega)
      rw [Nat.zero_add] at e1
      rw [e1]
      exact ih (i + 1) (by omega)
theorem step_image (I : Inv h) (hd : 100 ≤ d) : EvI G d mX11_image [.inr (.inr (some 0))] h (fun x h1 => EvI G d mX12_image [.inr (.inr (some 94))] h1 (fun y h2 => x = y ∧ Inv h2)) := by
  have hd' := hd
  have hR := I.1
  have I0 := I
  obtain ⟨-, i1, ⟨i2, i3⟩, i4, i5, i6, i7, i8⟩ := I
  obtain ⟨e, rfl⟩ := dpos (show 1 ≤ d by omega)
  refine vc_X11_image hR (ev_toKept hR (by omega) (fun h1 hR1 n1 r1 => ?_))
  have hi : ∀ a, ¬ (21 ≤ a ∧ a ≤ 40) → a ≠ 0 → (sI h1 0 2 (h1.1 0 2 + 1)).1 a = h.1 a := fun a z1 z2 => by rw [sI_row_ne z2, n1 a z1]
  have e0 : (sI h1 0 2 (h1.1 0 2 + 1)).1 0 2 = h.1 94 3 + 1 := by rw [sI_self, n1 0 (by omega), i2]
  have eb : ∀ a, (21 ≤ a ∧ a ≤ 40) → (sI h1 0 2 (h1.1 0 2 + 1)).1 a = h1.1 a := fun a z1 => by rw [sI_row_ne (by omega)]
  have ex : h1.1 0 2 + 1 = h.1 94 3 + 1 := by rw [n1 0 (by omega), i2]
  generalize hg : sI h1 0 2 (h1.1 0 2 + 1) = g at hi e0 eb
  have hRg : RF g := by rw [← hg]; exact RF_sI hR1
  have := rg_image (G := G) (d := e) (h0 := g) (Q := fun y h2 => h1.1 0 2 + 1 = y ∧ Inv h2) hRg ⟨by rw [hi 94 (by omega) (by omega)]; exact ex, ?_⟩ 264 0 (by omega)
  · rw [cpI_0] at this
    exact vc_X12_image hRg this
  · have f : ∀ a, a ≠ 96 → a ≠ 94 → (sI (cpI g 95 0 96 0 264) 94 3 (g.1 94 3 + 1)).1 a = g.1 a := fun a z1 z2 => by rw [sI_row_ne z2, cp_ne z1]
    have f96 : ∀ t, t < 264 → (sI (cpI g 95 0 96 0 264) 94 3 (g.1 94 3 + 1)).1 96 t = g.1 95 t := fun t ht => by rw [sI_row_ne (by omega), cp_lt ht]
    have f943 : (sI (cpI g 95 0 96 0 264) 94 3 (g.1 94 3 + 1)).1 94 3 = h.1 94 3 + 1 := by rw [sI_self, hi 94 (by omega) (by omega)]
    have f9432 : (sI (cpI g 95 0 96 0 264) 94 3 (g.1 94 3 + 1)).1 94 32 = h.1 94 32 := by rw [sI_ne (by omega), cp_ne (by omega), hi 94 (by omega) (by omega)]
    have hRw : RF (sI (cpI g 95 0 96 0 264) 94 3 (g.1 94 3 + 1)) := RF_sI (RF_cp hRg)
    generalize sI (cpI g 95 0 96 0 264) 94 3 (g.1 94 3 + 1) = w at f f96 f943 f9432 hRw
    refine ⟨hRw, ST_eq (fun a j hj => ?_) (fun j _ => ?_) i1, ⟨?_, fun _ => ST_eq (fun a j hj => ?_) (fun j hj => ?_) i1⟩, SHT_eq (fun a ha => ?_) i4, fun k k1 k2 => ?_, ?_, ?_, fun i hii => ?_⟩
    · have := relC_in hj
      rw [f a (by omega) (by omega), hi a (by omega) (by omega)]
    · rw [f 95 (by omega) (by omega), hi 95 (by omega) (by omega)]
    · rw [f 0 (by omega) (by omega), e0, f943]
    · have := relC_in hj
      rw [shf_lo (by omega), f (a + 20) (by omega) (by omega), eb (a + 20) (by omega)]
      exact r1 a j hj
    · rw [shf_95, f96 j hj, hi 95 (by omega) (by omega)]
    · rw [f a (by omega) (by omega), hi a (by omega) (by omega)]
    · rw [f 93 (by omega) (by omega), f 98 (by omega) (by omega), hi 93 (by omega) (by omega), hi 98 (by omega) (by omega)]
      exact i5 k k1 k2
    · rw [f 83 (by omega) (by omega), hi 83 (by omega) (by omega), f9432]; exact i6
    · rw [f 83 (by omega) (by omega), hi 83 (by omega) (by omega)]; exact i7
    · rw [f 83 (by omega) (by omega), hi 83 (by omega) (by omega)] at hii
      rw [f 84 (by omega) (by omega), f 113 (by omega) (by omega), hi 84 (by omega) (by omega), hi 113 (by omega) (by omega)]
      exact i8 i hii
end
