/-! odds: the step -/
section
variable {G : GT} {d : Nat} {h : Hp} {Q : Int32 → Hp → Prop} {QW : Hp → Prop} {QL' : Int64 → Hp → Prop}
def gS (V : Nat → Int) (u n s : Nat) : Nat := if 0 < SG V s n then FG u s n else 0
section
variable {V : Nat → Int} {n u : Nat} {l3 l4 : Int32}
theorem rg_o123 {l5 l7 : Int64} {s A : Nat} (hn : n ≤ 10) (hu : u ≤ 16) (eu : l3.toInt = u) (e30 : h.1 94 30 = nI n) (hR : RF h) (hV : ∀ k, k < n → (h.1 112 k).toInt = V k ∧ -99 ≤ V k ∧ V k ≤ 99) (hs : s < 2 ^ n) (e5 : l5 = nL A) (k : Rg_X12_odds_103 G d l3 l4 (nL (A + gS V u n s)) l7 (nI (s + 1)) h QL') : ∀ (m i : Nat) (x : Int32) (y : Int64), i + m = n → x.toInt = SG V s i → y = nL (FG u s i) → Rg_X12_odds_123 G d l3 l4 l5 l7 (nI s) x y (nI i) h QL' := by
  have p10 : 2 ^ n ≤ 1024 := by
    have : ∀ n, n < 11 → 2 ^ n ≤ 1024 := by decide
    exact this n (by omega)
  have e31 : (2 : Nat) ^ 31 = 2147483648 := by decide
  intro m
  induction m with
  | zero =>
    intro i x y hi ex ey
    have ei : i = n := by omega
    subst ei
    subst e5
    subst ey
    refine vc_X12_odds_123 hR ⟨fun _ => ⟨fun z => ?_, fun z => ?_⟩, fun z => ?_⟩
    · rw [i_le, ex] at z
      simp only [Int32.reduceToInt] at z
      unfold gS at k
      rw [if_neg (by omega)] at k
      rw [nI_1, Int64.add_zero]
      exact k
    · rw [i_le, ex] at z
      simp only [Int32.reduceToInt] at z
      unfold gS at k
      rw [if_pos (by omega), nL_add] at k
      rw [nI_1]
      exact k
    · exfalso
      rw [e30, i_le] at z
      omega
  | succ m ih =>
    intro i x y hi ex ey
    have ei : (nI i).toInt = (i : Int) := ti_nI (by omega)
    have sb := @SG_in2 V s i (fun q hq => (hV q (by omega)).2)
    have v := hV i (by omega)
    have bs := @bitS s i (by omega) (by omega)
    have e16 : Int32.toInt64 (16 - l3) = nL (16 - u) := nL_of (by
      rw [ti_sub (by rw [eu]; simp only [Int32.reduceToInt]; omega) (by rw [eu]; simp only [Int32.reduceToInt]; omega), eu]
      simp only [Int32.reduceToInt]
      omega)
    have eul : Int32.toInt64 l3 = nL u := nL_of eu
    refine vc_X12_odds_123 hR ⟨fun z => ?_, fun _ => ⟨fun z => ?_, fun z => ⟨in_of (by omega) (by omega), ?_⟩⟩⟩
    · exfalso
      rw [e30, i_le, ti_nI (by omega), ei] at z
      omega
    · rw [nI_1]
      refine ih (i + 1) _ _ (by omega) ?_ ?_
      · rw [Int32.add_zero, ex]
        show _ = _ + (if _ then _ else _)
        rw [if_neg (fun y => z (bs.mpr y))]
        omega
      · rw [ey, e16, ← nL_mul]
        show _ = nL (_ * (if _ then _ else _))
        rw [if_neg (fun y => z (bs.mpr y))]
    · rw [nI_1, cl_of ei]
      refine ih (i + 1) _ _ (by omega) ?_ ?_
      · rw [ti_add (by omega) (by omega), ex, v.1]
        show _ = _ + (if _ then _ else _)
        rw [if_pos (bs.mp z)]
      · rw [ey, eul, ← nL_mul]
        show _ = nL (_ * (if _ then _ else _))
        rw [if_pos (bs.mp z)]
theorem pow_l16 : ∀ n, n < 11 → (1 <<< (nI n &&& 31) : Int32) = nI (2 ^ n) ∧ 2 ^ n ≤ 1024 := by decide
theorem lt16 : ∀ n, n < 11 → 16 ^ n < 2 ^ 62 ∧ 1 ≤ 16 ^ n := by decide
theorem rg_o103 {l7 : Int64} (hd : 1 ≤ d) (hn : n ≤ 10) (hu : u ≤ 16) (eu : l3.toInt = u) (e30 : h.1 94 30 = nI n) (hR : RF h) (hV : ∀ k, k < n → (h.1 112 k).toInt = V k ∧ -99 ≤ V k ∧ V k ≤ 99) (e7 : l7 = nL (16 ^ n)) (k : ∀ g : Int64, g.toInt = Nat.gcd (absN (nL (sumN (gS V u n) (2 ^ n)))) (nL (16 ^ n)).toInt.toNat → QL' ((if l4 = 0 then nL (sumN (gS V u n) (2 ^ n)) else nL (16 ^ n)) / g) h) : ∀ (m s : Nat) (l5 : Int64), s + m = 2 ^ n → l5 = nL (sumN (gS V u n) s) → Rg_X12_odds_103 G d l3 l4 l5 l7 (nI s) h QL' := by
  have pl := pow_l16 n (by omega)
  have lt := lt16 n (by omega)
  intro m
  induction m with
  | zero =>
    intro s l5 hs e5
    have es : s = 2 ^ n := by omega
    subst es
    subst e5
    subst e7
    have ab : sumN (gS V u n) (2 ^ n) ≤ 16 ^ n := above_le hu
    have t7 : (nL (16 ^ n)).toInt = ((16 ^ n : Nat) : Int) := nL_ti lt.1
    have t5 : (nL (sumN (gS V u n) (2 ^ n))).toInt = ((sumN (gS V u n) (2 ^ n) : Nat) : Int) := nL_ti (by omega)
    refine vc_X12_odds_103 hR ⟨fun _ => ev_commonM hR hd (by omega) (by omega) (fun g eg => ?_), fun z => ?_⟩
    · have K := k g eg
      have gp : 0 < Nat.gcd (absN (nL (sumN (gS V u n) (2 ^ n)))) (nL (16 ^ n)).toInt.toNat := Nat.gcd_pos_of_pos_right _ (by rw [t7, Int.toNat_natCast]; exact lt.2)
      have g1 : ¬ g = 0 := fun z => by rw [z] at eg; have e0 : (0 : Int64).toInt = 0 := rfl; omega
      refine ⟨fun z => ⟨g1, ?_⟩, fun z => ⟨g1, ?_⟩⟩
      · rw [if_neg z] at K; exact K
      · rw [if_pos z] at K; exact K
    · exfalso
      rw [e30, pl.1, i_le] at z
      omega
  | succ m ih =>
    intro s l5 hs e5
    refine vc_X12_odds_103 hR ⟨fun z => ?_, fun _ => ?_⟩
    · exfalso
      rw [e30, pl.1, i_le, ti_nI (by omega), ti_nI (by omega)] at z
      omega
    · exact rg_o123 hn hu eu e30 hR hV (show s < 2 ^ n by omega) e5 (ih (s + 1) _ (by omega) rfl) n 0 0 1 (by omega) rfl rfl
theorem rg_o77 {l5 : Int64} (hn : n ≤ 10) (e30 : h.1 94 30 = nI n) (hR : RF h) (k : Rg_X12_odds_103 G d l3 l4 l5 (nL (16 ^ n)) 0 h QL') : ∀ (m i : Nat) (l7 : Int64), i + m = n → l7 = nL (16 ^ i) → Rg_X12_odds_77 G d l3 l4 l5 l7 (nI i) h QL' := by
  intro m
  induction m with
  | zero =>
    intro i l7 hi e7
    have ei : i = n := by omega
    subst ei
    subst e7
    refine vc_X12_odds_77 hR ⟨fun _ => k, fun z => ?_⟩
    exfalso
    rw [e30, i_le] at z
    omega
  | succ m ih =>
    intro i l7 hi e7
    refine vc_X12_odds_77 hR ⟨fun z => ?_, fun _ => ?_⟩
    · exfalso
      rw [e30, i_le, ti_nI (by omega), ti_nI (by omega)] at z
      omega
    · rw [nI_1]
      refine ih (i + 1) _ (by omega) ?_
      rw [e7, Nat.pow_succ, nL_mul]
      rfl
end
abbrev oddOk (N a1 a2 a3 a4 : Int) : Prop := ((0 ≤ a1 ∧ a1 < N) ∧ (0 ≤ a2 ∧ a2 < N) ∧ ¬ a1 = a2) ∧ (0 ≤ a3 ∧ a3 ≤ 16) ∧ (0 ≤ a4 ∧ a4 ≤ 1)
/-- what is above the line, what below -/
def oA (F : Nat → Int) (a1 a2 a3 : Int) : Nat := SA F a3.toNat (qlS F a1 (F 1).toNat 0 []) (qlS F a2 (F 1).toNat 0 []) (2 ^ (qlS F a1 (F 1).toNat 0 []).length)
def oB (F : Nat → Int) (a1 a2 : Int) : Nat := 16 ^ ((qlS F a1 (F 1).toNat 0 []).length + (qlS F a2 (F 1).toNat 0 []).length)
theorem M_odds {F : Nat → Int} {a1 a2 a3 a4 : Int32} (eF : vM h = F) (hR : RF h) (hd : 10 ≤ d) (ok : OKF 99999 F) (k1 : ¬ oddOk (F 0) a1.toInt a2.toInt a3.toInt a4.toInt → QL' (Int32.toInt64 (er 1)) (sI h 98 1 (h.1 98 1 + 1)))
    (k : ∀ (h' : Hp) (g : Int64), oddOk (F 0) a1.toInt a2.toInt a3.toInt a4.toInt → MZ h h' → g.toInt = Nat.gcd (absN (nL (oA F a1.toInt a2.toInt a3.toInt))) (nL (oB F a1.toInt a2.toInt)).toInt.toNat → QL' ((if a4 = 0 then nL (oA F a1.toInt a2.toInt a3.toInt) else nL (oB F a1.toInt a2.toInt)) / g) h') : EvL G d mX12_odds [.inr (.inr (some 94)), .inl a1, .inl a2, .inl a3, .inl a4] h QL' := by
  obtain ⟨e, rfl⟩ := dpos (show 1 ≤ d by omega)
  subst eF
  have o0 := ok.1
  have o1 := ok.2.1
  refine vc_X12_odds hR (ev_isParty hR (by omega) (by omega) (br2 (fun c1 => ev_isParty hR (by omega) (by omega) (br2 (fun c2 => ⟨fun c3 => ev_finds hR (by omega) (n := 1) rfl (by omega) (k1 (fun z => z.1.2.2 (by rw [c3]))), fun c3 => ev_in32 hR (by omega) (br2 (fun c4 => ev_in32 hR (by omega) (br2' (fun c5 => ?_) (fun c5 => ev_finds hR (by omega) (n := 1) rfl (by omega) (k1 (fun z => c5 z.2.2))))) (fun c4 => ev_finds hR (by omega) (n := 1) rfl (by omega) (k1 (fun z => c4 z.2.1))))⟩) (fun c2 => ev_finds hR (by omega) (n := 1) rfl (by omega) (k1 (fun z => c2 z.1.2.1))))) (fun c1 => ev_finds hR (by omega) (n := 1) rfl (by omega) (k1 (fun z => c1 z.1.1)))))
  have c6 : 0 ≤ a3.toInt ∧ a3.toInt ≤ 16 := c4
  have c7 : 0 ≤ a4.toInt ∧ a4.toInt ≤ 1 := c5
  have okk : oddOk (vM h 0) a1.toInt a2.toInt a3.toInt a4.toInt := ⟨⟨c1, c2, fun z => c3 (by rw [i_eq]; exact z)⟩, c6, c7⟩
  obtain ⟨e, rfl⟩ := dpos (show 1 ≤ e by omega)
  have okq := fun p => okL_ql (F := vM h) (p := p) (vM h 1).toNat 0 [] ⟨by simp, fun k hk => absurd hk (by simp), fun i j _ hj => absurd hj (by simp)⟩
  have okw := ok.2.2.2.2.2.2.2.2.2
  have wob : ∀ p q, q < (qlS (vM h) p (vM h 1).toNat 0 []).length → 0 ≤ woS (vM h) (qlS (vM h) p (vM h 1).toNat 0 []) q ∧ woS (vM h) (qlS (vM h) p (vM h 1).toNat 0 []) q ≤ 99 := fun p q hq => by
    have a := (okq p).2.1 q hq
    have := okw ((qlS (vM h) p (vM h 1).toNat 0 []).getD q 0) (by omega)
    unfold OKW at this
    exact this.2.2.2.1
  have l1 := (okq a1.toInt).1
  have l2 := (okq a2.toInt).1
  refine vc_X12_hearsOf hR (rg_hears (h0 := h) (F := vM h) (n := (vM h 1).toNat) (nb := 0) (V0 := fun _ => 0) (sg := 1) (by omega) ok rfl (by omega) (by omega) rfl (Or.inl rfl) (vM h 1).toNat 0 [] _ (by omega) (by simp) ⟨hR, fun a z1 z2 => by funext t; rw [sI_ne (by omega)], fun t z1 => by rw [sI_ne (by omega)], by rw [sI_self]; rfl, fun k hk => absurd hk (by omega), fun k hk => absurd hk (by simp)⟩ (fun h1 g1 => ?_))
  have hv1 : vM h1 = vM h := by funext t; show (h1.1 95 t).toInt = (h.1 95 t).toInt; rw [g1.2.1 95 (by omega) (by omega)]
  refine vc_X12_hearsOf g1.1 (rg_hears (h0 := h1) (F := vM h) (n := (vM h 1).toNat) (nb := (qlS (vM h) a1.toInt (vM h 1).toNat 0 []).length) (V0 := woS (vM h) (qlS (vM h) a1.toInt (vM h 1).toNat 0 [])) (sg := -1) (by omega) ok hv1 (by omega) l1 ti_m1 (Or.inr rfl) (vM h 1).toNat 0 [] _ (by omega) (by simp) ⟨g1.1, fun _ _ _ => rfl, fun _ _ => rfl, by rw [g1.2.2.2.1, Nat.zero_add]; rfl, fun q hq => ?_, fun k hk => absurd hk (by simp)⟩ (fun h2 g2 => ?_))
  · have := g1.2.2.2.2.2 q hq
    rw [Nat.zero_add, Int.one_mul] at this
    exact this
  · obtain ⟨r1, r2, r3, r4, r5, r6⟩ := g2
    revert okk
    intro okk
    have mz : MZ h h2 := ⟨r1, fun a z1 z2 => by rw [r2 a z2 (fun z => z1 (by unfold scr; omega)), g1.2.1 a z2 (fun z => z1 (by unfold scr; omega))], by rw [r3 3 (by omega), g1.2.2.1 3 (by omega)], by rw [r3 32 (by omega), g1.2.2.1 32 (by omega)]⟩
    have K := fun g => k h2 g okk mz
    unfold oA oB SA at K
    obtain ⟨u, hu⟩ : ∃ u : Nat, a3.toInt = u := ⟨a3.toInt.toNat, by omega⟩
    rw [hu] at K
    rw [show ((u : Int)).toNat = u by omega] at K
    have wb1 := wob a1.toInt
    have wb2 := wob a2.toInt
    revert K r4 r5 r6 l1 l2 wb1 wb2
    generalize qlS (vM h) a1.toInt (vM h 1).toNat 0 [] = L1
    generalize qlS (vM h) a2.toInt (vM h 1).toNat 0 [] = L2
    intro l1 l2 r4 r5 r6 K wb1 wb2
    have oe := @odds_eq (fun k => if k < L1.length then woS (vM h) L1 k else -woS (vM h) L2 (k - L1.length)) (woS (vM h) L1) (woS (vM h) L2) u L1.length L2.length (fun k hk => if_pos hk) (fun k hk => by
      show (if _ then _ else _) = _
      rw [if_neg (by omega), show L1.length + k - L1.length = k by omega])
    have oe2 : sumN (gS (fun k => if k < L1.length then woS (vM h) L1 k else -woS (vM h) L2 (k - L1.length)) u (L1.length + L2.length)) (2 ^ (L1.length + L2.length)) = sumN (fun i => sumN (gAb (vM h) u L1 L2 i) (2 ^ L2.length)) (2 ^ L1.length) := oe
    rw [← oe2] at K
    refine rg_o77 (n := L1.length + L2.length) (by omega) r4 r1 (rg_o103 (u := u) (by omega) (by omega) (by omega) hu r4 r1 (fun q hq => ?_) rfl K (2 ^ (L1.length + L2.length)) 0 0 (by omega) rfl) (L1.length + L2.length) 0 1 (by omega) rfl
    by_cases c : q < L1.length
    · have e : (if q < L1.length then woS (vM h) L1 q else -woS (vM h) L2 (q - L1.length)) = woS (vM h) L1 q := if_pos c
      rw [e]
      have := wb1 q c
      exact ⟨r5 q c, by omega, by omega⟩
    · have e : (if q < L1.length then woS (vM h) L1 q else -woS (vM h) L2 (q - L1.length)) = -woS (vM h) L2 (q - L1.length) := if_neg c
      rw [e]
      have := wb2 (q - L1.length) (by omega)
      have e6 := r6 (q - L1.length) (by omega)
      rw [show L1.length + (q - L1.length) = q by omega] at e6
      exact ⟨by rw [e6]; omega, by omega, by omega⟩
theorem step_odds {a1 a2 a3 a4 : Int32} (I : Inv h) (hd : 100 ≤ d) : EvL G d mX11_odds [.inr (.inr (some 0)), .inl a1, .inl a2, .inl a3, .inl a4] h (fun x h1 => EvL G d mX12_odds [.inr (.inr (some 94)), .inl a1, .inl a2, .inl a3, .inl a4] h1 (fun y h2 => x = y ∧ Inv h2)) := by
  have hd' := hd
  have hR := I.1
  have ok := I.ok
  have n0 := I.n
  have o1 := ok.2.1
  obtain ⟨e, rfl⟩ := dpos (show 1 ≤ d by omega)
  have bad : ¬ oddOk (vM h 0) a1.toInt a2.toInt a3.toInt a4.toInt → EvI G e mX11_refuse [.inr (.inr (some 0)), .inl 1] h (fun x5 h4 => EvL G (e + 1) mX12_odds [.inr (.inr (some 94)), .inl a1, .inl a2, .inl a3, .inl a4] h4 (fun y h2 => Int32.toInt64 x5 = y ∧ Inv h2)) := fun z =>
    ev_refuse hR (by omega) (n := 1) rfl (by omega) (M_odds (vM_lo (by omega)) (RF_sI hR) (by omega) ok (fun _ => ⟨rfl, Inv_err I rfl⟩) (fun h' g y _ _ => absurd y z))
  refine vc_X11_odds hR (ev_areTwo hR (by omega) (by omega) (br2 (fun c => ev_within hR (by omega) (br2 (fun c4 => ev_within hR (by omega) (br2' (fun c5 => ?_) (fun c5 => bad (fun z => c5 z.2.2)))) (fun c4 => bad (fun z => c4 z.2.1)))) (fun c => bad (fun z => c (by rw [n0.1]; exact z.1)))))
  have c6 : 0 ≤ a3.toInt ∧ a3.toInt ≤ 16 := c4
  have c7 : 0 ≤ a4.toInt ∧ a4.toInt ≤ 1 := c5
  rw [n0.1] at c
  have okk : oddOk (vM h 0) a1.toInt a2.toInt a3.toInt a4.toInt := ⟨c, c6, c7⟩
  have l1 := (okL_ql (F := vM h) (p := a1.toInt) (vM h 1).toNat 0 [] ⟨by simp, fun k hk => absurd hk (by simp), fun i j _ hj => absurd hj (by simp)⟩).1
  have l2 := (okL_ql (F := vM h) (p := a2.toInt) (vM h 1).toNat 0 [] ⟨by simp, fun k hk => absurd hk (by simp), fun i j _ hj => absurd hj (by simp)⟩).1
  have hcc := c
  refine ev_weighO (u := a3.toInt.toNat) (F := vM h) (n := (vM h 1).toNat) (bg := vM h) hR (by omega) ok I.cf (by omega) (by omega) (by omega) (by omega) (by omega) (fun h1 hR1 fr e0 e1 => ?_)
  have mz : MZ h h1 := ⟨hR1, fun a z1 z2 => fr a (fun z => z1 (by unfold scr; omega)), by rw [fr 94 (by omega)], by rw [fr 94 (by omega)]⟩
  have eB : SB a3.toInt.toNat (qlS (vM h) a1.toInt (vM h 1).toNat 0 []) (qlS (vM h) a2.toInt (vM h 1).toNat 0 []) (2 ^ (qlS (vM h) a1.toInt (vM h 1).toNat 0 []).length) = oB (vM h) a1.toInt a2.toInt := below_eq (by omega)
  rw [eB] at e1
  have e0' : h1.2.1 78 0 = nL (oA (vM h) a1.toInt a2.toInt a3.toInt) := e0
  rw [e0', e1]
  have lt := lt16 ((qlS (vM h) a1.toInt (vM h 1).toNat 0 []).length + (qlS (vM h) a2.toInt (vM h 1).toNat 0 []).length) (by omega)
  have tB : (nL (oB (vM h) a1.toInt a2.toInt)).toInt = ((oB (vM h) a1.toInt a2.toInt : Nat) : Int) := nL_ti lt.1
  have tB1 : 1 ≤ oB (vM h) a1.toInt a2.toInt := lt.2
  have tB2 : oB (vM h) a1.toInt a2.toInt < 2 ^ 62 := lt.1
  have aB : oA (vM h) a1.toInt a2.toInt a3.toInt ≤ oB (vM h) a1.toInt a2.toInt := by
    rw [← eB]
    refine sumN_le _ (fun i _ => sumN_le _ (fun j _ => ?_))
    unfold gAb gBe
    split <;> omega
  have tA : (nL (oA (vM h) a1.toInt a2.toInt a3.toInt)).toInt = ((oA (vM h) a1.toInt a2.toInt a3.toInt : Nat) : Int) := nL_ti (by omega)
  refine ev_partOf hR1 (by omega) (by omega) (by omega) (fun g eg => ?_)
  refine M_odds mz.v hR1 (by omega) ok (fun z => absurd okk z) (fun h2 g' _ m2 eg' => ?_)
  have : g' = g := by rw [l_eq, eg, eg']
  subst this
  exact ⟨rfl, m2.inv (mz.inv I)⟩
end
