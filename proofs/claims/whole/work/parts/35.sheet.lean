/-! SHEETS -/
theorem rf88 {h : Hp} (hR : RF h) {s : Nat} (hs : s < 4) : h.2.2 88 s = some (89 + s) ∧ SH[89 + s]? = some (.inr (0, 40)) := by
  rcases (show s = 0 ∨ s = 1 ∨ s = 2 ∨ s = 3 by omega) with rfl | rfl | rfl | rfl
  · exact ⟨rf_88_0 hR, rfl⟩
  · exact ⟨rf_88_1 hR, rfl⟩
  · exact ⟨rf_88_2 hR, rfl⟩
  · exact ⟨rf_88_3 hR, rfl⟩
/-- a row's numbers from b on, n of them, are 0 -/
def zw (h : Hp) (r b n : Nat) : Hp := (fun a t => if a = r ∧ b ≤ t ∧ t < b + n then 0 else h.1 a t, h.2)
theorem zw_at (h : Hp) (r b n a t : Nat) : (zw h r b n).1 a t = if a = r ∧ b ≤ t ∧ t < b + n then 0 else h.1 a t := rfl
theorem zw_0 (h : Hp) (r b : Nat) : zw h r b 0 = h := by
  unfold zw
  refine Prod.ext ?_ rfl
  funext a t
  show (if a = r ∧ b ≤ t ∧ t < b + 0 then _ else _) = _
  rw [if_neg (by omega)]
theorem zw_s (h : Hp) (r b i : Nat) : sI (zw h r b i) r (b + i) 0 = zw h r b (i + 1) := by
  unfold zw sI
  refine Prod.ext ?_ rfl
  funext a t
  show (if a = r ∧ t = b + i then _ else if a = r ∧ b ≤ t ∧ t < b + i then _ else _) = (if a = r ∧ b ≤ t ∧ t < b + (i + 1) then _ else _)
  by_cases hq : a = r ∧ t = b + i
  · rw [if_pos hq, if_pos (by omega)]
  · rw [if_neg hq]
    by_cases h2 : a = r ∧ b ≤ t ∧ t < b + i
    · rw [if_pos h2, if_pos (by omega)]
    · rw [if_neg h2, if_neg (by omega)]
theorem RF_zw {h : Hp} {r b n : Nat} (hR : RF h) : RF (zw h r b n) := hR
theorem zw_ne {h : Hp} {r b n a : Nat} (ha : a ≠ r) : (zw h r b n).1 a = h.1 a := by
  funext t
  rw [zw_at, if_neg (by omega)]
theorem Inv_sheet {h h' : Hp} (I : Inv h) (hR : RF h') (fr : ∀ a, ¬ scr a → ¬ (86 ≤ a ∧ a ≤ 92) → ¬ (114 ≤ a ∧ a ≤ 116) → h'.1 a = h.1 a) (S : SHT h') : Inv h' := by
  have fr' : ∀ a, (1 ≤ a ∧ a ≤ 40 ∧ a ≠ 15 ∧ a ≠ 18 ∧ a ≠ 35 ∧ a ≠ 38) ∨ a = 0 ∨ (83 ≤ a ∧ a ≤ 85) ∨ (93 ≤ a ∧ a ≤ 96) ∨ a = 98 ∨ a = 113 → h'.1 a = h.1 a := fun a ha => fr a (by unfold scr; omega) (by omega) (by omega)
  obtain ⟨-, i1, ⟨i2, i3⟩, i4, i5, i6, i7, i8⟩ := I
  refine ⟨hR, ST_eq (fun a k hk => ?_) (fun j _ => ?_) i1, ⟨?_, fun z => ?_⟩, S, fun k k1 k2 => ?_, ?_, ?_, fun i hi => ?_⟩
  · have := relC_in hk
    rw [fr' a (by omega)]
  · rw [fr' 95 (by omega)]
  · rw [fr' 0 (by omega), fr' 94 (by omega)]; exact i2
  · rw [fr' 94 (by omega)] at z
    exact shf_eq (fun a ha => fr' a (by omega)) (i3 z)
  · rw [fr' 93 (by omega), fr' 98 (by omega)]; exact i5 k k1 k2
  · rw [fr' 83 (by omega), fr' 94 (by omega)]; exact i6
  · rw [fr' 83 (by omega)]; exact i7
  · rw [fr' 83 (by omega)] at hi
    rw [fr' 84 (by omega), fr' 113 (by omega)]; exact i8 i hi
theorem Inv.sh {h : Hp} (I : Inv h) : SHT h := I.2.2.2.1
section
variable {G : GT} {d : Nat} {h : Hp} {Q : Int32 → Hp → Prop} {QW : Hp → Prop}
theorem ev_has {a1 : Int32} (hR : RF h) (hd : 2 ≤ d) (k : Q (b2 (0 ≤ a1.toInt ∧ a1.toInt ≤ 3)) h) : EvI G d mX8_has [.inr (.inr (some 85)), .inl a1] h Q := by
  obtain ⟨e, rfl⟩ := dpos (show 1 ≤ d by omega)
  exact vc_X8_has hR (ev_within hR (by omega) ⟨b2_nar, k⟩)
theorem ev_isSheet {a0 : Int32} (hR : RF h) (hd : 2 ≤ d) (k : Q (b2 (0 ≤ a0.toInt ∧ a0.toInt ≤ 3)) h) : EvI G d mX12_isSheet [.inl a0] h Q := by
  obtain ⟨e, rfl⟩ := dpos (show 1 ≤ d by omega)
  exact vc_X12_isSheet hR (ev_in32 hR (by omega) ⟨b2_nar, k⟩)
theorem ev_isMissing {a1 : Int32} {s : Nat} (hR : RF h) (hd : 3 ≤ d) (es : a1.toInt = s) (hs : s < 4) (k : Q (b2 (h.1 86 s = 0)) h) : EvI G d mX8_isMissing [.inr (.inr (some 85)), .inl a1] h Q := by
  obtain ⟨e, rfl⟩ := dpos (show 1 ≤ d by omega)
  refine vc_X8_isMissing hR (ev_has hR (by omega) (br2 (fun _ => ⟨in_of (by omega) (by omega), ?_⟩) (fun c => absurd ⟨by omega, by omega⟩ c)))
  rw [cl_of es]
  refine ⟨fun c => ?_, fun c => ?_⟩
  · rw [b2_f c] at k; exact k
  · rw [b2_t c] at k; exact k
theorem rg_lay {h0 : Hp} {a1 : Int32} {s : Nat} (hR : RF h0) (es : a1.toInt = s) (hs : s < 4) (k : QW (zw h0 (89 + s) 0 40)) : ∀ (m i : Nat), i + m = 40 → Rg_X8_lay_36 G d a1 (nI i) (zw h0 (89 + s) 0 i) QW := by
  intro m
  induction m with
  | zero =>
    intro i hi
    have : i = 40 := by omega
    subst this
    exact vc_X8_lay_36 (RF_zw hR) ⟨fun _ => k, fun z => absurd (by decide) z⟩
  | succ m ih =>
    intro i hi
    have ei : (nI i).toInt = (i : Int) := ti_nI (by omega)
    refine vc_X8_lay_36 (RF_zw hR) ⟨fun z => ?_, fun _ => ⟨in_of (by omega) (by omega), 89 + s, ?_, (rf88 hR hs).2, in_of (by omega) (by omega), ?_⟩⟩
    · rw [i_le, ei] at z
      exact absurd z (by show ¬ (40 : Int) ≤ _; omega)
    · rw [cl_of es]
      exact (rf88 hR hs).1
    · rw [cl_of ei, nI_1]
      have e1 := zw_s h0 (89 + s) 0 i
      rw [Nat.zero_add] at e1
      rw [e1]
      exact ih (i + 1) (by omega)
theorem ev_lay {a1 a2 a3 : Int32} {s : Nat} (hR : RF h) (hd : 3 ≤ d) (es : a1.toInt = s) (hs : s < 4) (h3 : 0 ≤ a3.toInt ∧ a3.toInt ≤ 40) (k : QW (zw (sI (sI h 86 s a2) 87 s a3) (89 + s) 0 40)) : EvV G d mX8_lay [.inr (.inr (some 85)), .inl a1, .inl a2, .inl a3] h QW := by
  obtain ⟨e, rfl⟩ := dpos (show 1 ≤ d by omega)
  refine vc_X8_lay hR (ev_has hR (by omega) (br2 (fun _ => ev_within hR (by omega) (br2' (fun _ => ⟨in_of (by omega) (by omega), in_of (by omega) (by omega), ?_⟩) (fun c => absurd ⟨by simp only [Int32.reduceToInt]; omega, by simp only [Int32.reduceToInt]; omega⟩ c))) (fun c => absurd ⟨by omega, by omega⟩ c)))
  rw [cl_of es]
  have := rg_lay (G := G) (d := e) (h0 := sI (sI h 86 s a2) 87 s a3) (RF_sI (RF_sI hR)) es hs k 40 0 (by omega)
  rw [zw_0] at this
  exact this
theorem rg_sheet {h0 : Hp} {a1 : Int32} {s : Nat} (hR : RF h0) (es : a1.toInt = s) (hs : s < 4) (k : Q 1 (zw h0 116 (40 * s) 40)) : ∀ (m i : Nat), i + m = 40 → Rg_X12_sheet_90 G d a1 (nI i) (zw h0 116 (40 * s) i) Q := by
  intro m
  induction m with
  | zero =>
    intro i hi
    have : i = 40 := by omega
    subst this
    exact vc_X12_sheet_90 (RF_zw hR) ⟨fun _ => k, fun z => absurd (by decide) z⟩
  | succ m ih =>
    intro i hi
    have ei : (nI i).toInt = (i : Int) := ti_nI (by omega)
    have e40 : ((40 * a1) + nI i).toInt = ((40 * s + i : Nat) : Int) := ti_of (by rw [show a1 = nI s from eq_nI es]; push_cast; simp only [oi_add, oi_mul, oi_nat]; rfl) (by omega) (by omega)
    refine vc_X12_sheet_90 (RF_zw hR) ⟨fun z => ?_, fun _ => ⟨in_of (by omega) (by omega), ?_⟩⟩
    · rw [i_le, ei] at z
      exact absurd z (by show ¬ (40 : Int) ≤ _; omega)
    · rw [cl_of e40, nI_1, zw_s]
      exact ih (i + 1) (by omega)
theorem sp0 {x : Int32} {A B : Prop} (t : x.toInt = 0 → A) (f : ¬ x.toInt = 0 → B) : (x = 0 → A) ∧ (¬ x = 0 → B) := ⟨fun z => t ((i_eq _ _).mp z), fun z => f (fun q => z ((i_eq _ _).mpr q))⟩
theorem sp0' {x : Int32} {A B : Prop} (f : ¬ x.toInt = 0 → B) (t : x.toInt = 0 → A) : (¬ x = 0 → B) ∧ (x = 0 → A) := ⟨(sp0 t f).2, (sp0 t f).1⟩
theorem sp8 {x : Int32} {A B : Prop} (t : x.toInt = 8 → A) (f : ¬ x.toInt = 8 → B) : (x = 8 → A) ∧ (¬ x = 8 → B) := ⟨fun z => t ((i_eq _ _).mp z), fun z => f (fun q => z ((i_eq _ _).mpr q))⟩
theorem sp8' {x : Int32} {A B : Prop} (f : ¬ x.toInt = 8 → B) (t : x.toInt = 8 → A) : (¬ x = 8 → B) ∧ (x = 8 → A) := ⟨(sp8 t f).2, (sp8 t f).1⟩
theorem sp16 {x : Int32} {A B : Prop} (t : x.toInt = 16 → A) (f : ¬ x.toInt = 16 → B) : (x = 16 → A) ∧ (¬ x = 16 → B) := ⟨fun z => t ((i_eq _ _).mp z), fun z => f (fun q => z ((i_eq _ _).mpr q))⟩
theorem sp16' {x : Int32} {A B : Prop} (f : ¬ x.toInt = 16 → B) (t : x.toInt = 16 → A) : (¬ x = 16 → B) ∧ (x = 16 → A) := ⟨(sp16 t f).2, (sp16 t f).1⟩
theorem sp32 {x : Int32} {A B : Prop} (t : x.toInt = 32 → A) (f : ¬ x.toInt = 32 → B) : (x = 32 → A) ∧ (¬ x = 32 → B) := ⟨fun z => t ((i_eq _ _).mp z), fun z => f (fun q => z ((i_eq _ _).mpr q))⟩
theorem sp32' {x : Int32} {A B : Prop} (f : ¬ x.toInt = 32 → B) (t : x.toInt = 32 → A) : (¬ x = 32 → B) ∧ (x = 32 → A) := ⟨(sp32 t f).2, (sp32 t f).1⟩
theorem sl40 {x : Int32} {A B : Prop} (t : x.toInt ≤ 40 → A) (f : ¬ x.toInt ≤ 40 → B) : (x ≤ 40 → A) ∧ (¬ x ≤ 40 → B) := ⟨fun z => t ((i_le _ _).mp z), fun z => f (fun q => z ((i_le _ _).mpr q))⟩
theorem sl40' {x : Int32} {A B : Prop} (f : ¬ x.toInt ≤ 40 → B) (t : x.toInt ≤ 40 → A) : (¬ x ≤ 40 → B) ∧ (x ≤ 40 → A) := ⟨(sl40 t f).2, (sl40 t f).1⟩
theorem sg0 {x : Int32} {A B : Prop} (t : 0 ≤ x.toInt → A) (f : ¬ 0 ≤ x.toInt → B) : (0 ≤ x → A) ∧ (¬ 0 ≤ x → B) := ⟨fun z => t ((i_le _ _).mp z), fun z => f (fun q => z ((i_le _ _).mpr q))⟩
theorem sg0' {x : Int32} {A B : Prop} (f : ¬ 0 ≤ x.toInt → B) (t : 0 ≤ x.toInt → A) : (¬ 0 ≤ x → B) ∧ (0 ≤ x → A) := ⟨(sg0 t f).2, (sg0 t f).1⟩
abbrev okB (b : Int) : Prop := b = 8 ∨ b = 16 ∨ b = 32
theorem M_sheet {a1 a2 a3 : Int32} (hR : RF h) (hd : 10 ≤ d) (k1 : (¬ (0 ≤ a1.toInt ∧ a1.toInt ≤ 3) ∨ ¬ (a2.toInt = 0 ∨ okB a2.toInt) ∨ (okB a2.toInt ∧ 40 < a3.toInt)) → Q (er 1) (sI h 98 1 (h.1 98 1 + 1))) (k3 : (0 ≤ a1.toInt ∧ a1.toInt ≤ 3) → okB a2.toInt → a3.toInt < 0 → Q (er 3) (sI h 98 3 (h.1 98 3 + 1)))
    (k : ∀ (s : Nat) (n : Int32), a1.toInt = s → s < 4 → ((a2.toInt = 0 ∧ n = 0) ∨ (okB a2.toInt ∧ 0 ≤ a3.toInt ∧ a3.toInt ≤ 40 ∧ n = a3)) → Q 1 (zw (sI (sI h 114 s a2) 115 s n) 116 (40 * s) 40)) : EvI G d mX12_sheet [.inr (.inr (some 94)), .inl a1, .inl a2, .inl a3] h Q := by
  obtain ⟨e, rfl⟩ := dpos (show 1 ≤ d by omega)
  refine vc_X12_sheet hR (ev_isSheet hR (by omega) (br2 (fun c => ?_) (fun c => ev_finds hR (by omega) (n := 1) rfl (by omega) (k1 (Or.inl c)))))
  obtain ⟨s, es⟩ : ∃ s : Nat, a1.toInt = s := ⟨a1.toInt.toNat, by omega⟩
  have inn : vp_in a1 4 := in_of (by omega) (by omega)
  have go : ∀ n : Int32, ((a2.toInt = 0 ∧ n = 0) ∨ (okB a2.toInt ∧ 0 ≤ a3.toInt ∧ a3.toInt ≤ 40 ∧ n = a3)) → Rg_X12_sheet_90 G e a1 0 (sI (sI h 114 (Int32.toNatClampNeg a1) a2) 115 (Int32.toNatClampNeg a1) n) Q := by
    intro n hn
    rw [cl_of es]
    have := rg_sheet (G := G) (d := e) (h0 := sI (sI h 114 s a2) 115 s n) (RF_sI (RF_sI hR)) es (by omega) (k s n es (by omega) hn) 40 0 (by omega)
    rw [zw_0] at this
    exact this
  have fin1 : (¬ (a2.toInt = 0 ∨ okB a2.toInt) ∨ (okB a2.toInt ∧ 40 < a3.toInt)) → EvI G e mX12_finds [.inr (.inr (some 94)), .inl 1] h (fun x5 h4 => Q x5 h4) := fun z => ev_finds hR (by omega) (n := 1) rfl (by omega) (k1 (Or.inr z))
  have fin3 : okB a2.toInt → a3.toInt < 0 → EvI G e mX12_finds [.inr (.inr (some 94)), .inl 3] h (fun x5 h4 => Q x5 h4) := fun z y => ev_finds hR (by omega) (n := 3) rfl (by omega) (k3 c z y)
  have finL : (a2.toInt = 0 ∨ (okB a2.toInt ∧ 0 ≤ a3.toInt ∧ a3.toInt ≤ 40)) → vp_in a1 4 ∧ ((¬ a2 = 0 → vp_in a1 4 ∧ Rg_X12_sheet_90 G e a1 0 (sI (sI h 114 (Int32.toNatClampNeg a1) a2) 115 (Int32.toNatClampNeg a1) a3) Q) ∧ (a2 = 0 → vp_in a1 4 ∧ Rg_X12_sheet_90 G e a1 0 (sI (sI h 114 (Int32.toNatClampNeg a1) a2) 115 (Int32.toNatClampNeg a1) 0) Q)) := fun z =>
    ⟨inn, fun y => ⟨inn, go a3 (by
      have y2 : ¬ a2.toInt = 0 := fun q => y ((i_eq _ _).mpr q)
      unfold okB at *
      exact Or.inr ⟨by omega, by omega, by omega, rfl⟩)⟩, fun y => ⟨inn, go 0 (Or.inl ⟨(i_eq _ _).mp y, rfl⟩)⟩⟩
  unfold okB at fin1 fin3 finL
  repeat' (first
    | (with_reducible refine sp0 (fun _ => ?_) (fun _ => ?_))
    | (with_reducible refine sp0' (fun _ => ?_) (fun _ => ?_))
    | (with_reducible refine sp8 (fun _ => ?_) (fun _ => ?_))
    | (with_reducible refine sp8' (fun _ => ?_) (fun _ => ?_))
    | (with_reducible refine sp16 (fun _ => ?_) (fun _ => ?_))
    | (with_reducible refine sp16' (fun _ => ?_) (fun _ => ?_))
    | (with_reducible refine sp32 (fun _ => ?_) (fun _ => ?_))
    | (with_reducible refine sp32' (fun _ => ?_) (fun _ => ?_))
    | (with_reducible refine sl40 (fun _ => ?_) (fun _ => ?_))
    | (with_reducible refine sl40' (fun _ => ?_) (fun _ => ?_))
    | (with_reducible refine sg0 (fun _ => ?_) (fun _ => ?_))
    | (with_reducible refine sg0' (fun _ => ?_) (fun _ => ?_)))
  all_goals first
    | (exfalso; omega)
    | exact finL (by omega)
    | exact fin1 (by omega)
    | exact fin3 (by omega) (by omega)
theorem step_sheet {a1 a2 a3 : Int32} (I : Inv h) (hd : 100 ≤ d) : EvI G d mX11_sheet [.inr (.inr (some 0)), .inl a1, .inl a2, .inl a3] h (fun x h1 => EvI G d mX12_sheet [.inr (.inr (some 94)), .inl a1, .inl a2, .inl a3] h1 (fun y h2 => x = y ∧ Inv h2)) := by
  have hd' := hd
  have hR := I.1
  obtain ⟨e, rfl⟩ := dpos (show 1 ≤ d by omega)
  have bad1 : (¬ (0 ≤ a1.toInt ∧ a1.toInt ≤ 3) ∨ ¬ (a2.toInt = 0 ∨ okB a2.toInt) ∨ (okB a2.toInt ∧ 40 < a3.toInt)) → EvI G (e + 1) mX12_sheet [.inr (.inr (some 94)), .inl a1, .inl a2, .inl a3] (sI h 93 1 (h.1 93 1 + 1)) (fun y h2 => er 1 = y ∧ Inv h2) := fun z =>
    M_sheet (RF_sI hR) (by omega) (fun _ => ⟨rfl, Inv_err I rfl⟩) (fun y0 y1 y2 => by exfalso; unfold okB at *; omega) (fun s n y1 y2 y3 => by exfalso; unfold okB at *; omega)
  have bad3 : (0 ≤ a1.toInt ∧ a1.toInt ≤ 3) → okB a2.toInt → a3.toInt < 0 → EvI G (e + 1) mX12_sheet [.inr (.inr (some 94)), .inl a1, .inl a2, .inl a3] (sI h 93 3 (h.1 93 3 + 1)) (fun y h2 => er 3 = y ∧ Inv h2) := fun z1 z2 z3 =>
    M_sheet (RF_sI hR) (by omega) (fun y => by exfalso; unfold okB at *; omega) (fun _ _ _ => ⟨rfl, Inv_err I rfl⟩) (fun s n y1 y2 y3 => by exfalso; unfold okB at *; omega)
  have good : ∀ (s : Nat) (n : Int32), a1.toInt = s → s < 4 → ((a2.toInt = 0 ∧ n = 0) ∨ (okB a2.toInt ∧ 0 ≤ a3.toInt ∧ a3.toInt ≤ 40 ∧ n = a3)) → EvI G (e + 1) mX12_sheet [.inr (.inr (some 94)), .inl a1, .inl a2, .inl a3] (zw (sI (sI h 86 s a2) 87 s n) (89 + s) 0 40) (fun y h2 => 1 = y ∧ Inv h2) := by
    intro s n es hs hn
    refine M_sheet (RF_zw (RF_sI (RF_sI hR))) (by omega) (fun y => by exfalso; unfold okB at *; omega) (fun y0 y1 y2 => by exfalso; unfold okB at *; omega) (fun s' n' y1 y2 y3 => ⟨rfl, ?_⟩)
    have : s' = s := by omega
    subst this
    have : n' = n := by
      unfold okB at *
      rcases hn with ⟨q1, q2⟩ | ⟨q1, q2, q3, q4⟩ <;> rcases y3 with ⟨r1, r2⟩ | ⟨r1, r2, r3, r4⟩
      · rw [q2, r2]
      · omega
      · omega
      · rw [q4, r4]
    subst this
    refine Inv_sheet I (by repeat' (first | exact hR | apply RF_sI | apply RF_zw)) (fun a z1 z2 z3 => ?_) (fun s hs' => ?_)
    · rw [zw_ne (by omega), sI_row_ne (by omega), sI_row_ne (by omega), zw_ne (by omega), sI_row_ne (by omega), sI_row_ne (by omega)]
    · have sh := I.sh s hs'
      have en : 0 ≤ n'.toInt ∧ n'.toInt ≤ 40 := by
        rcases hn with ⟨q1, q2⟩ | ⟨q1, q2, q3, q4⟩
        · rw [q2]; decide
        · rw [q4]; omega
      by_cases hss : s = s'
      · subst hss
        refine ⟨?_, ?_, ?_, ?_, fun k hk => ?_⟩
        · rw [zw_ne (by omega), sI_row_ne (by omega), sI_row_ne (by omega), zw_ne (by omega), sI_ne (by omega), sI_self, zw_ne (by omega), sI_ne (by omega), sI_self]
        · rw [zw_ne (by omega), sI_row_ne (by omega), sI_row_ne (by omega), zw_ne (by omega), sI_self, zw_ne (by omega), sI_self]
        · rw [zw_ne (by omega), sI_row_ne (by omega), sI_row_ne (by omega), zw_ne (by omega), sI_ne (by omega), sI_self]
          unfold okB at hn
          omega
        · rw [zw_ne (by omega), sI_row_ne (by omega), sI_row_ne (by omega), zw_ne (by omega), sI_self]
          exact en
        · rw [zw_ne (by omega), sI_row_ne (by omega), sI_row_ne (by omega), zw_at, if_pos (by omega), zw_at, if_pos (by omega)]
      · have c86 : (zw (sI (sI (zw (sI (sI h 86 s' a2) 87 s' n') (89 + s') 0 40) 114 s' a2) 115 s' n') 116 (40 * s') 40).1 86 s = h.1 86 s := by
          rw [zw_ne (by omega), sI_row_ne (by omega), sI_row_ne (by omega), zw_ne (by omega), sI_ne (by omega), sI_ne (by omega)]
        have c87 : (zw (sI (sI (zw (sI (sI h 86 s' a2) 87 s' n') (89 + s') 0 40) 114 s' a2) 115 s' n') 116 (40 * s') 40).1 87 s = h.1 87 s := by
          rw [zw_ne (by omega), sI_row_ne (by omega), sI_row_ne (by omega), zw_ne (by omega), sI_ne (by omega), sI_ne (by omega)]
        rw [c86, c87]
        refine ⟨?_, ?_, sh.2.2.1, sh.2.2.2.1, fun k hk => ?_⟩
        · rw [zw_ne (by omega), sI_ne (by omega), sI_ne (by omega), zw_ne (by omega), sI_row_ne (by omega), sI_row_ne (by omega)]
          exact sh.1
        · rw [zw_ne (by omega), sI_ne (by omega), sI_ne (by omega), zw_ne (by omega), sI_row_ne (by omega), sI_row_ne (by omega)]
          exact sh.2.1
        · rw [zw_ne (by omega), sI_row_ne (by omega), sI_row_ne (by omega), zw_ne (by omega), sI_row_ne (by omega), sI_row_ne (by omega)]
          rw [zw_at, if_neg (by omega), sI_row_ne (by omega), sI_row_ne (by omega), zw_ne (by omega), sI_row_ne (by omega), sI_row_ne (by omega)]
          exact sh.2.2.2.2 k hk
  refine vc_X11_sheet hR (ev_has hR (by omega) (br2 (fun c => ?_) (fun c => ev_refuse hR (by omega) (n := 1) rfl (by omega) (bad1 (Or.inl c)))))
  obtain ⟨s, es⟩ : ∃ s : Nat, a1.toInt = s := ⟨a1.toInt.toNat, by omega⟩
  have fin1 : (¬ (a2.toInt = 0 ∨ okB a2.toInt) ∨ (okB a2.toInt ∧ 40 < a3.toInt)) → EvI G e mX11_refuse [.inr (.inr (some 0)), .inl 1] h (fun x5 h4 => EvI G (e + 1) mX12_sheet [.inr (.inr (some 94)), .inl a1, .inl a2, .inl a3] h4 (fun y h2 => x5 = y ∧ Inv h2)) := fun z => ev_refuse hR (by omega) (n := 1) rfl (by omega) (bad1 (Or.inr z))
  have fin3 : okB a2.toInt → a3.toInt < 0 → EvI G e mX11_refuse [.inr (.inr (some 0)), .inl 3] h (fun x5 h4 => EvI G (e + 1) mX12_sheet [.inr (.inr (some 94)), .inl a1, .inl a2, .inl a3] h4 (fun y h2 => x5 = y ∧ Inv h2)) := fun z y => ev_refuse hR (by omega) (n := 3) rfl (by omega) (bad3 c z y)
  have finA : (okB a2.toInt ∧ 0 ≤ a3.toInt ∧ a3.toInt ≤ 40) → EvV G e mX8_lay [.inr (.inr (some 85)), .inl a1, .inl a2, .inl a3] h (fun h10 => EvI G (e + 1) mX12_sheet [.inr (.inr (some 94)), .inl a1, .inl a2, .inl a3] h10 (fun y h2 => 1 = y ∧ Inv h2)) := fun z =>
    ev_lay hR (by omega) es (by omega) z.2 (good s a3 es (by omega) (Or.inr ⟨z.1, z.2.1, z.2.2, rfl⟩))
  have finB : a2.toInt = 0 → EvV G e mX8_lay [.inr (.inr (some 85)), .inl a1, .inl a2, .inl 0] h (fun h10 => EvI G (e + 1) mX12_sheet [.inr (.inr (some 94)), .inl a1, .inl a2, .inl a3] h10 (fun y h2 => 1 = y ∧ Inv h2)) := fun z =>
    ev_lay hR (by omega) es (by omega) (by decide) (good s 0 es (by omega) (Or.inl ⟨z, rfl⟩))
  unfold okB at fin1 fin3 finA
  repeat' (first
    | (with_reducible refine sp0 (fun _ => ?_) (fun _ => ?_))
    | (with_reducible refine sp0' (fun _ => ?_) (fun _ => ?_))
    | (with_reducible refine sp8 (fun _ => ?_) (fun _ => ?_))
    | (with_reducible refine sp8' (fun _ => ?_) (fun _ => ?_))
    | (with_reducible refine sp16 (fun _ => ?_) (fun _ => ?_))
    | (with_reducible refine sp16' (fun _ => ?_) (fun _ => ?_))
    | (with_reducible refine sp32 (fun _ => ?_) (fun _ => ?_))
    | (with_reducible refine sp32' (fun _ => ?_) (fun _ => ?_))
    | (with_reducible refine sl40 (fun _ => ?_) (fun _ => ?_))
    | (with_reducible refine sl40' (fun _ => ?_) (fun _ => ?_))
    | (with_reducible refine sg0 (fun _ => ?_) (fun _ => ?_))
    | (with_reducible refine sg0' (fun _ => ?_) (fun _ => ?_)))
  all_goals first
    | (exfalso; omega)
    | exact finA (by omega)
    | exact finB (by omega)
    | exact fin1 (by omega)
    | exact fin3 (by omega) (by omega)
/-- a number by its bits -/
def cutB (b v : Int32) : Int32 := if b = 8 then (Int32.toInt8 v).toInt32 else if b = 16 then (Int32.toInt16 v).toInt32 else v
theorem ev_cutTo {a1 a2 : Int32} (hR : RF h) (hd : 1 ≤ d) (k : Q (cutB a1 a2) h) : EvI G d mX8_cutTo [.inr (.inr (some 85)), .inl a1, .inl a2] h Q := by
  obtain ⟨e, rfl⟩ := dpos (show 1 ≤ d by omega)
  unfold cutB at k
  refine vc_X8_cutTo hR ⟨fun c => ⟨fun c2 => ?_, fun c2 => ?_⟩, fun c => ?_⟩
  · rw [if_neg c, if_neg c2] at k; exact k
  · rw [if_neg c, if_pos c2] at k; exact k
  · rw [if_pos c] at k; exact k
theorem M_put {a1 a2 a3 : Int32} (hR : RF h) (hd : 10 ≤ d) (hn : ∀ s, s < 4 → 0 ≤ (h.1 115 s).toInt ∧ (h.1 115 s).toInt ≤ 40) (k1 : (¬ (0 ≤ a1.toInt ∧ a1.toInt ≤ 3) ∨ (h.1 114 a1.toInt.toNat ≠ 0 ∧ ¬ (0 ≤ a2.toInt ∧ a2.toInt < (h.1 115 a1.toInt.toNat).toInt))) → Q (er 1) (sI h 98 1 (h.1 98 1 + 1))) (k2 : (0 ≤ a1.toInt ∧ a1.toInt ≤ 3) → h.1 114 a1.toInt.toNat = 0 → Q (er 2) (sI h 98 2 (h.1 98 2 + 1)))
    (k : ∀ s i : Nat, a1.toInt = s → s < 4 → h.1 114 s ≠ 0 → a2.toInt = i → (i : Int) < (h.1 115 s).toInt → Q 1 (sI h 116 (40 * s + i) (cutB (h.1 114 s) a3))) : EvI G d mX12_put [.inr (.inr (some 94)), .inl a1, .inl a2, .inl a3] h Q := by
  obtain ⟨e, rfl⟩ := dpos (show 1 ≤ d by omega)
  refine vc_X12_put hR (ev_isSheet hR (by omega) (br2' (fun c => ⟨in_of (by omega) (by omega), ?_⟩) (fun c => ev_finds hR (by omega) (n := 1) rfl (by omega) (k1 (Or.inl c)))))
  obtain ⟨s, es⟩ : ∃ s : Nat, a1.toInt = s := ⟨a1.toInt.toNat, by omega⟩
  have inn : vp_in a1 4 := in_of (by omega) (by omega)
  have es' : a1.toInt.toNat = s := by omega
  rw [es'] at k1 k2
  have nn := hn s (by omega)
  have e1 : (h.1 115 s - 1).toInt = (h.1 115 s).toInt - 1 := ti_sub (by simp only [Int32.reduceToInt]; omega) (by simp only [Int32.reduceToInt]; omega)
  rw [cl_of es]
  refine ⟨fun c2 => ⟨inn, ev_in32 hR (by omega) (br2' (fun c3 => ?_) (fun c3 => ?_))⟩, fun c2 => ev_finds hR (by omega) (n := 2) rfl (by omega) (k2 c c2)⟩
  · rw [l_of_i, e1] at c3
    (try simp only [Int32.reduceToInt, Int64.reduceToInt, ti_m1, tl_m1, ti_m2, tl_m2] at *)
    obtain ⟨i, ei⟩ : ∃ i : Nat, a2.toInt = i := ⟨a2.toInt.toNat, by omega⟩
    have e40 : ((40 * a1) + a2).toInt = ((40 * s + i : Nat) : Int) := ti_of (by rw [show a1 = nI s from eq_nI es, show a2 = nI i from eq_nI ei]; push_cast; simp only [oi_add, oi_mul, oi_nat]; rfl) (by omega) (by omega)
    have in160 : vp_in ((40 * a1) + a2) 160 := in_of (by omega) (by omega)
    have K := k s i es (by omega) c2 ei (by omega)
    unfold cutB at K
    rw [cl_of e40]
    refine ⟨inn, fun c8 => ⟨inn, fun c16 => ⟨in160, ?_⟩, fun c16 => ⟨in160, ?_⟩⟩, fun c8 => ⟨in160, ?_⟩⟩
    · rw [if_neg c8, if_neg c16] at K; exact K
    · rw [if_neg c8, if_pos c16] at K; exact K
    · rw [if_pos c8] at K; exact K
  · rw [l_of_i, e1] at c3
    (try simp only [Int32.reduceToInt, Int64.reduceToInt, ti_m1, tl_m1, ti_m2, tl_m2] at *)
    exact ev_finds hR (by omega) (n := 1) rfl (by omega) (k1 (Or.inr ⟨c2, fun z => c3 (by omega)⟩))
theorem step_put {a1 a2 a3 : Int32} (I : Inv h) (hd : 100 ≤ d) : EvI G d mX11_put [.inr (.inr (some 0)), .inl a1, .inl a2, .inl a3] h (fun x h1 => EvI G d mX12_put [.inr (.inr (some 94)), .inl a1, .inl a2, .inl a3] h1 (fun y h2 => x = y ∧ Inv h2)) := by
  have hd' := hd
  have hR := I.1
  have sh := I.sh
  have hn : ∀ s, s < 4 → 0 ≤ (h.1 115 s).toInt ∧ (h.1 115 s).toInt ≤ 40 := fun s hs => by rw [← (sh s hs).2.1]; exact (sh s hs).2.2.2.1
  have rr : ∀ k v q t, q ≠ 93 → (sI h 93 k v).1 q t = h.1 q t := fun k v q t hq => sI_ne (by omega)
  obtain ⟨e, rfl⟩ := dpos (show 1 ≤ d by omega)
  refine vc_X11_put hR (ev_has hR (by omega) (br2' (fun c => ?_) (fun c => ?_)))
  · obtain ⟨s, es⟩ : ∃ s : Nat, a1.toInt = s := ⟨a1.toInt.toNat, by omega⟩
    have es' : a1.toInt.toNat = s := by omega
    have hs : s < 4 := by omega
    have shs := sh s hs
    have inn : vp_in a1 4 := in_of (by omega) (by omega)
    have nn := hn s hs
    have e1 : (h.1 87 s - 1).toInt = (h.1 115 s).toInt - 1 := by rw [shs.2.1]; exact ti_sub (by simp only [Int32.reduceToInt]; omega) (by simp only [Int32.reduceToInt]; omega)
    refine ev_isMissing hR (by omega) es hs (br2 (fun c2 => ?_) (fun c2 => ⟨inn, ?_⟩))
    · rw [shs.1] at c2
      refine ev_refuse hR (by omega) (n := 2) rfl (by omega) (M_put (RF_sI hR) (by omega) (fun s hs => by rw [rr _ _ _ _ (by omega)]; exact hn s hs) (fun y => ?_) (fun _ _ => ⟨rfl, Inv_err I rfl⟩) (fun s' i y1 y2 y3 y4 y5 => ?_))
      · exfalso
        rw [es', rr _ _ _ _ (by omega)] at y
        rcases y with y | y
        · exact y c
        · exact y.1 c2
      · exfalso
        rw [rr _ _ _ _ (by omega), show s' = s by omega] at y3
        exact y3 c2
    · have c2' : h.1 114 s ≠ 0 := by rw [← shs.1]; exact c2
      rw [cl_of es]
      refine ev_within hR (by omega) (br2' (fun c3 => ⟨inn, 89 + s, (rf88 hR hs).1, (rf88 hR hs).2, inn, ev_cutTo hR (by omega) ?_⟩) (fun c3 => ?_))
      · rw [e1] at c3
        (try simp only [Int32.reduceToInt, Int64.reduceToInt, ti_m1, tl_m1, ti_m2, tl_m2] at *)
        obtain ⟨i, ei⟩ : ∃ i : Nat, a2.toInt = i := ⟨a2.toInt.toNat, by omega⟩
        refine ⟨in_of (by omega) (by omega), ?_⟩
        rw [cl_of ei, shs.1]
        have r2 : ∀ q t, ¬ (q = 89 + s) → (sI h (89 + s) i (cutB (h.1 114 s) a3)).1 q t = h.1 q t := fun q t hq => sI_ne (by omega)
        refine M_put (RF_sI hR) (by omega) (fun s hs => by rw [r2 _ _ (by omega)]; exact hn s hs) (fun y => ?_) (fun y1 y2 => ?_) (fun s' i' y1 y2 y3 y4 y5 => ⟨rfl, ?_⟩)
        · exfalso
          rw [es', r2 _ _ (by omega), r2 _ _ (by omega)] at y
          rcases y with y | y
          · exact y c
          · exact y.2 (by omega)
        · exfalso
          rw [es', r2 _ _ (by omega)] at y2
          exact c2' y2
        · have : s' = s := by omega
          subst this
          have : i' = i := by omega
          subst this
          rw [r2 114 _ (by omega)]
          refine Inv_sheet I (by repeat' (first | exact hR | apply RF_sI)) (fun a z1 z2 z3 => ?_) (fun s hs2 => ?_)
          · rw [sI_row_ne (by omega), sI_row_ne (by omega)]
          · have sh2 := sh s hs2
            have r3 : ∀ q, q ≠ 116 → q ≠ 89 + s' → (sI (sI h (89 + s') i' (cutB (h.1 114 s') a3)) 116 (40 * s' + i') (cutB (h.1 114 s') a3)).1 q = h.1 q := fun q qa qb => by rw [sI_row_ne qa, sI_row_ne qb]
            rw [r3 86 (by omega) (by omega), r3 87 (by omega) (by omega), r3 114 (by omega) (by omega), r3 115 (by omega) (by omega)]
            refine ⟨sh2.1, sh2.2.1, sh2.2.2.1, sh2.2.2.2.1, fun k hk => ?_⟩
            rw [sI_row_ne (by omega : 89 + s ≠ 116)]
            by_cases hq : s = s' ∧ k = i'
            · obtain ⟨rfl, rfl⟩ := hq
              rw [sI_self, sI_self]
            · rw [sI_ne (by omega), sI_ne (by omega), sI_row_ne (by omega : 116 ≠ 89 + s')]
              exact sh2.2.2.2.2 k hk
      · rw [e1] at c3
        (try simp only [Int32.reduceToInt, Int64.reduceToInt, ti_m1, tl_m1, ti_m2, tl_m2] at *)
        refine ev_refuse hR (by omega) (n := 1) rfl (by omega) (M_put (RF_sI hR) (by omega) (fun s hs => by rw [rr _ _ _ _ (by omega)]; exact hn s hs) (fun _ => ⟨rfl, Inv_err I rfl⟩) (fun y1 y2 => ?_) (fun s' i y1 y2 y3 y4 y5 => ?_))
        · exfalso
          rw [es', rr _ _ _ _ (by omega)] at y2
          exact c2' y2
        · exfalso
          rw [rr _ _ _ _ (by omega), show s' = s by omega] at y5
          exact c3 (by omega)
  · refine ev_refuse hR (by omega) (n := 1) rfl (by omega) (M_put (RF_sI hR) (by omega) (fun s hs => by rw [rr _ _ _ _ (by omega)]; exact hn s hs) (fun _ => ⟨rfl, Inv_err I rfl⟩) (fun y1 y2 => absurd y1 c) (fun s' i y1 y2 y3 y4 y5 => ?_))
    exfalso
    omega
end
