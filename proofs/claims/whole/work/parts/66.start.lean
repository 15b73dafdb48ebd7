/-! THE START: the world as the two constructors leave it; what lies outside; the law from its entry -/
theorem ls_cs : Cond.laysStatic "java/lang/String" "COMPACT_STRINGS" "Z" ∈ lw_tbl := tk_3 (List.mem_of_getElem? (i := 232) (by decide +kernel))
theorem ls_bo : Cond.laysStatic "PailSpeech$Chorus" "BODIES" "[I" ∈ lw_tbl := tk_5 (List.mem_of_getElem? (i := 6) (by decide +kernel))
theorem iz_str : Cond.initialized "java/lang/String" ∈ lw_tbl := tk_1 (List.mem_of_getElem? (i := 16) (by decide +kernel))
theorem iz_cho : Cond.initialized "PailSpeech$Chorus" ∈ lw_tbl := tk_1 (List.mem_of_getElem? (i := 10) (by decide +kernel))
theorem sr_18 : Cond.stringRef RX6 18 "wlh" ∈ lw_tbl := tk_1 (List.mem_of_getElem? (i := 200) (by decide +kernel))
theorem sr_35 : Cond.stringRef RX6 35 "lsm" ∈ lw_tbl := tk_3 (List.mem_of_getElem? (i := 170) (by decide +kernel))
theorem im_L : Cond.arrayOver (.object RX2) ∈ lw_tbl := tk_2 (List.mem_of_getElem? (i := 45) (by decide +kernel))
theorem im_A : Cond.arrayOver (.array .int) ∈ lw_tbl := tk_2 (List.mem_of_getElem? (i := 123) (by decide +kernel))
def hZ : Hp := (fun _ _ => 0, (fun _ _ => 0, fun _ _ => none))
/-- the world behind the two constructors -/
def hIN : Hp := hX12_94 (zr (hX11_0 (zr hZ 0)) 94)
set_option maxRecDepth 100000 in
theorem in_RF : RF hIN := by
  unfold RF
  decide +kernel
set_option maxRecDepth 100000 in
theorem in_v : ∀ j, j < 90 → vM hIN j = vC hIN 9 z0 j := by decide +kernel
set_option maxRecDepth 100000 in
theorem in_okp : ∀ p, p < 4 → OKP (vM hIN) p := by
  unfold OKP
  decide +kernel
set_option maxRecDepth 100000 in
theorem in_okw : ∀ w, w < 12 → OKW (vM hIN) w := by
  have a : ∀ w, w < 12 → (0 ≤ vM hIN (30 + 5 * w) ∧ vM hIN (30 + 5 * w) ≤ 3) ∧ (0 ≤ vM hIN (31 + 5 * w) ∧ vM hIN (31 + 5 * w) ≤ 30) ∧ (0 ≤ vM hIN (32 + 5 * w) ∧ vM hIN (32 + 5 * w) ≤ 99) ∧ (-1 ≤ vM hIN (33 + 5 * w) ∧ vM hIN (33 + 5 * w) ≤ 0) ∧ (0 ≤ vM hIN (34 + 5 * w) ∧ vM hIN (34 + 5 * w) ≤ 2) := by decide +kernel
  have e : vM hIN 1 = 0 := by decide +kernel
  intro w hw
  obtain ⟨a1, a2, a3, a4, a5⟩ := a w hw
  unfold OKW
  rw [e]
  exact ⟨a1, fun z => by omega, a2, a3, ⟨a4.1, by omega⟩, fun z => by omega, a5⟩
set_option maxRecDepth 100000 in
theorem in_ok : OKF 99999 (vM hIN) := by
  unfold OKF
  exact ⟨by decide +kernel, by decide +kernel, by decide +kernel, by decide +kernel, by decide +kernel, by decide +kernel, by decide +kernel, fun z => absurd (show vM hIN 6 = 0 by decide +kernel) z, in_okp, in_okw⟩
set_option maxRecDepth 100000 in
theorem in_w : ∀ i, i < 20 → hIN.1 95 (92 + i) = hIN.1 20 i := by decide +kernel
set_option maxRecDepth 100000 in
theorem in_t : ∀ i, i < 50 → hIN.1 95 (212 + i) = hIN.1 19 i ∧ 0 ≤ (hIN.1 19 i).toInt ∧ (hIN.1 19 i).toInt ≤ 255 := by decide +kernel
set_option maxRecDepth 100000 in
theorem in_b : ∀ i, i < 100 → 0 ≤ (hIN.1 95 (112 + i)).toInt ∧ (hIN.1 95 (112 + i)).toInt ≤ 255 := by decide +kernel
set_option maxRecDepth 100000 in
theorem in_tm : TxM hIN 95 [] [] := ⟨by decide +kernel, by decide +kernel, in_b, Or.inl ⟨by decide +kernel, rfl⟩, Or.inl ⟨by decide +kernel, rfl⟩⟩
set_option maxRecDepth 100000 in
theorem in_tc : TxC hIN 13 [] ∧ TxC hIN 16 [] := ⟨⟨by decide +kernel, ⟨by decide, Or.inl rfl⟩, fun i hi => absurd hi (Nat.not_lt_zero i)⟩, ⟨by decide +kernel, ⟨by decide, Or.inl rfl⟩, fun i hi => absurd hi (Nat.not_lt_zero i)⟩⟩
set_option maxRecDepth 100000 in
theorem in_ST : ST hIN := ⟨[], [], in_v, in_ok, by decide +kernel, by decide +kernel, in_w, in_t, in_tm, in_tc.1, in_tc.2⟩
set_option maxRecDepth 100000 in
theorem in_SHT : SHT hIN := by
  unfold SHT
  decide +kernel
set_option maxRecDepth 100000 in
theorem in_er : ∀ k, k < 6 → hIN.1 93 k = hIN.1 98 k := by decide +kernel
set_option maxRecDepth 100000 in
theorem in_0 : hIN.1 94 3 = 0 ∧ hIN.1 0 2 = hIN.1 94 3 ∧ hIN.1 83 1 = hIN.1 94 32 ∧ (hIN.1 83 1).toInt = 0 := by decide +kernel
theorem in_Inv : Inv hIN := by
  obtain ⟨e1, e2, e3, e4⟩ := in_0
  refine ⟨in_RF, in_ST, ⟨e2, fun z => absurd e1 z⟩, in_SHT, fun k _ h5 => in_er k (by omega), e3, by omega, fun i hi => ?_⟩
  rw [e4] at hi
  exact absurd hi (Nat.not_lt_zero i)
set_option maxHeartbeats 4000000 in
set_option maxRecDepth 100000 in
theorem law_walk {G : GT} {nm : String} (hg : gn G ≤ 3072) : Rn G 2000 118 2916 (mLw nm) 0 [(0, .inr (.inr (some (FB + 0))))] [] [] hZ QL1 := by
  refine rn_new (ci := 10) (N := 12) (CC := RX11) (T := TX11) (ty := tyX11) (n := 0) (rc := 117) (rs := 2904) (sh' := (SH.take 1)) dL_law_0 rfl us_X11 rfl tyX11_ok df_X11 cl_L_7 in_X11 iz_X11 rfl (by decide) rfl ?_
  refine rn_dup dL_law_3 rfl ?_
  refine rn_cI (M' := mX11_init) (n := 0) (av := []) (S := [.inr (.inr (some 0))]) (rc := 24) (rs := 1448) (mc := 93) (ms := 1456) (a := 0) (d' := 1999) dL_law_4 pa_X11_init (Nat.le_refl _) rfl (Nat.le_of_ble_eq_true rfl) ml_L_9 im_X11_init rfl rfl rfl (ci_X11_0 ?_)
  show Rn G 2000 24 1448 (mLw nm) 7 [(0, .inr (.inr (some (FB + 0))))] [.inr (.inr (some 0))] (SH.take 94) (hX11_0 (zr hZ 0)) QL1
  refine rn_astore_n (L' := [(1, .inr (.inr (some 0))), (0, .inr (.inr (some (FB + 0))))]) dL_law_7 rfl (Nat.le_of_ble_eq_true rfl) rfl ?_
  refine rn_new (ci := 11) (N := 38) (CC := RX12) (T := TX12) (ty := tyX12) (n := 94) (rc := 23) (rs := 1410) (sh' := (SH.take 95)) dL_law_8 rfl us_X12 rfl tyX12_ok df_X12 cl_L_10 in_X12 iz_X12 rfl (by decide) rfl ?_
  refine rn_dup dL_law_11 rfl ?_
  refine rn_cI (M' := mX12_init) (n := 0) (av := []) (S := [.inr (.inr (some 94))]) (rc := 0) (rs := 0) (mc := 23) (ms := 1410) (a := 94) (d' := 1999) dL_law_12 pa_X12_init (Nat.le_refl _) rfl (Nat.le_of_ble_eq_true rfl) ml_L_12 im_X12_init rfl rfl rfl (ci_X12_94 ?_)
  show Rn G 2000 0 0 (mLw nm) 15 [(1, .inr (.inr (some 0))), (0, .inr (.inr (some (FB + 0))))] [.inr (.inr (some 94))] SH hIN QL1
  refine rn_astore_n (L' := [(2, .inr (.inr (some 94))), (1, .inr (.inr (some 0))), (0, .inr (.inr (some (FB + 0))))]) dL_law_15 rfl (Nat.le_of_ble_eq_true rfl) rfl ?_
  refine rn_iconst (v := nI 0) dL_law_16 (by decide) ?_
  refine rn_istore_n (L' := LL 0) dL_law_17 rfl (Nat.le_of_ble_eq_true rfl) rfl ?_
  exact law_loop hg (gn G + 1) 0 hIN in_Inv (by omega) (by omega)
theorem w_mono {p : Program} {l : Launch} {e : Env} {R : Room} {s : State} {m : MethodId} {args : Array Value} {below : List Frame} {meth : Method} {c : Code} {H : Heap} {locs : List Loc} {cells slots : Nat} {Q Q' : State → Prop} {g : JFrame} (k : W p l e R s m args below meth c H locs cells slots Q g) (h : ∀ t, Q t → Q' t) : W p l e R s m args below meth c H locs cells slots Q' g := fun T hT X => by
  obtain ⟨t, a, b⟩ := k T hT X
  exact ⟨t, a, h t b⟩
theorem fe_drop {s t : State} {o : Outcome} {Lx : List Loc} {k n : Nat} (h : FrameEnd s o t Lx k n) (hL : ∀ q ∈ Lx, s.heap.size ≤ q.base) : Framed s o t [] k n := ⟨h.1, h.2.1, h.2.2.weaken (fun y hy hlt => absurd hlt (Nat.not_lt.mpr (hL y hy))) (Nat.le_refl _) (Nat.le_refl _)⟩
def tmS (i : Nat) : Term := match i with
  | 0 => .string RX6 18
  | _ => .string RX6 35
def gaF (b t a0 a1 v0 v1 : Nat) (k : Nat) : Nat := match k with
  | 0 => b
  | 1 => t
  | 2 => a0
  | 3 => a1
  | 4 => v0
  | _ => v1
def gcF (i l f a : ClassId) (k : Nat) : ClassId := match k with
  | 0 => i
  | 1 => l
  | 2 => f
  | _ => a
def mkG (l : Launch) (sz : Nat) (ga : Nat → Nat) (D : Nat → ClassId × (Nat → Nat)) (gc : Nat → ClassId) (xs : Nat → Int32) (L : Nat) : GT := (l, (sz, (ga, (((fun c => (D c).1), (fun c => (D c).2)), (gc, (xs, L))))))
abbrev gvn : Cond := Jvm.Cond.and given_1 narrow_1
set_option maxRecDepth 100000 in
theorem q_ex : ∀ i, i < 2 → Cond.exactly (tmS i) "java/lang/String" ∈ flatC gvn := by decide +kernel
set_option maxRecDepth 100000 in
theorem q_co : ∀ i, i < 2 → Cond.eq (.field (tmS i) "java/lang/String" "coder" "B") (.int 0) ∈ flatC gvn := by decide +kernel
set_option maxRecDepth 100000 in
theorem q_ar : ∀ i, i < 2 → Cond.arrayOf (.field (tmS i) "java/lang/String" "value" "[B") .byte ∈ flatC gvn := by decide +kernel
set_option maxRecDepth 100000 in
theorem q_le : ∀ i, i < 2 → Cond.eq (.length (.field (tmS i) "java/lang/String" "value" "[B")) (.int (Int32.ofNat (([3, 3] : List Nat).getD i 0))) ∈ flatC gvn := by decide +kernel
set_option maxRecDepth 100000 in
theorem q_el : ∀ i, i < 2 → ∀ j, j < ([3, 3] : List Nat).getD i 0 → Cond.eq (.elem (.field (tmS i) "java/lang/String" "value" "[B") (.int (Int32.ofNat j))) (.int ((([STR1, STR2] : List (List Int32)).getD i []).getD j 0)) ∈ flatC gvn := by decide +kernel
set_option maxRecDepth 100000 in
theorem q_ne : Cond.not (Cond.eq (tmS 0) (tmS 1)) ∈ flatC gvn := by decide +kernel
set_option maxRecDepth 100000 in
theorem q_bo : ∀ j, j < 28 → Cond.eq (.elem (.static "PailSpeech$Chorus" "BODIES" "[I") (.int (Int32.ofNat j))) (.int (BODY.getD j 0)) ∈ flatC gvn := by decide +kernel
set_option maxRecDepth 100000 in
theorem q_ba : Cond.arrayOf (.static "PailSpeech$Chorus" "BODIES" "[I") .int ∈ flatC gvn ∧ Cond.eq (.length (.static "PailSpeech$Chorus" "BODIES" "[I")) (.int (Int32.ofNat 28)) ∈ flatC gvn ∧ Cond.eq (.static "java/lang/String" "COMPACT_STRINGS" "Z") (.int 1) ∈ flatC gvn := by decide +kernel
/-! THE CLAIM OUT OF ONE WALK OF THE LAW'S BODY. Your part is whole_start (and what it stands on); all else here is the same for every law, but numbers. -/
def R_law : String := "PailSpeechLaw"
def lw_P (b : Addr) (xs : List Int32) (args : Array Value) (s : State) : Prop := args = #[.ref b] ∧ s.IntsAt b xs ∧ xs.length ≤ 3072 ∧ (Jvm.Cond.and given_1 narrow_1).before args s = true
def lw_Q (_ : Array Value) (s : State) (o : Outcome) (t : State) : Prop := o = .returned (some (.int 1)) ∧ Framed s o t [] 600000 7302250
def lw_Z (below : List Frame) (a : Array Value) (s : State) : State → Prop := fun t => ∃ o, t.status = .running ∧ Ended t below o ∧ lw_Q a s o t
def lw_At (p : Program) (s : State) (m : MethodId) (meth : Method) (c : Code) (b L : Nat) (xs : Nat → Int32) : Prop :=
  p.tables.exec = Jvm.exec ∧ c.code = code ∧ meth.sig.returnType = ret ∧ c.maxLocals = 4 ∧ s.vm.findClass R_law = some m.cls ∧ (∀ w ∈ lw_tbl, w.before #[Value.ref b] s = true) ∧ va_X b L xs s s.heap ∧ b < s.heap.size ∧ meth.locks = false ∧ (Jvm.Cond.and given_1 narrow_1).before #[Value.ref b] s = true
set_option maxHeartbeats 4000000 in
theorem whole_start {p : Program} {e : Env} {s : State} {m : MethodId} {below : List Frame} {meth : Method} {c : Code} (l : Launch) (hflags : l.flags = flags0) {b L : Nat} {xs : Nat → Int32} (hL : L ≤ 3072) (C0 : lw_At p s m meth c b L xs) : W p l e room_1 s m #[Value.ref b] below meth c s.heap [] 0 0 (lw_Z below #[Value.ref b] s) (entryFrame m ([Value.ref b] : List Value).toArray 4) := by
  obtain ⟨hx, hb, hr, hml, hown, hts, hX, hbl, hlocks, hgv⟩ := id C0
  have hg : ∀ w ∈ lw_g, w.before #[Value.ref b] s = true := fun w hw => hts w (List.mem_filter.mp hw).1
  have hA : ∀ a : Nat, a < s.heap.size → ¬ (fun q : Nat => s.heap.size ≤ q) a := fun a ha => Nat.not_le.mpr ha
  have hs := flat_of_before _ hgv
  have hk : ∀ c : Nat, ∃ q : ClassId × (Nat → Nat), ∀ r, vwCl[c]? = some r → u_Kn s r.1 r.2.1 r.2.2 q.1 q.2 := fun c => match c with
    | 0 => by
      obtain ⟨cC, iS, hK⟩ := u_known (C := RX0) (T := TX0) (N := 5) (n := 5) hg us_X0 (hg _ in_X0)
      exact ⟨(cC, iS), fun r hr => by cases hr; exact hK⟩
    | 1 => by
      obtain ⟨cC, iS, hK⟩ := u_known (C := RX1) (T := TX1) (N := 5) (n := 5) hg us_X1 (hg _ in_X1)
      exact ⟨(cC, iS), fun r hr => by cases hr; exact hK⟩
    | 2 => by
      obtain ⟨cC, iS, hK⟩ := u_known (C := RX2) (T := TX2) (N := 8) (n := 8) hg us_X2 (hg _ in_X2)
      exact ⟨(cC, iS), fun r hr => by cases hr; exact hK⟩
    | 3 => by
      obtain ⟨cC, iS, hK⟩ := u_known (C := RX3) (T := TX3) (N := 4) (n := 4) hg us_X3 (hg _ in_X3)
      exact ⟨(cC, iS), fun r hr => by cases hr; exact hK⟩
    | 4 => by
      obtain ⟨cC, iS, hK⟩ := u_known (C := RX5) (T := TX5) (N := 9) (n := 9) hg us_X5 (hg _ in_X5)
      exact ⟨(cC, iS), fun r hr => by cases hr; exact hK⟩
    | 5 => by
      obtain ⟨cC, iS, hK⟩ := u_known (C := RX6) (T := TX6) (N := 5) (n := 5) hg us_X6 (hg _ in_X6)
      exact ⟨(cC, iS), fun r hr => by cases hr; exact hK⟩
    | 6 => by
      obtain ⟨cC, iS, hK⟩ := u_known (C := RX7) (T := TX7) (N := 6) (n := 6) hg us_X7 (hg _ in_X7)
      exact ⟨(cC, iS), fun r hr => by cases hr; exact hK⟩
    | 7 => by
      obtain ⟨cC, iS, hK⟩ := u_known (C := RX8) (T := TX8) (N := 3) (n := 3) hg us_X8 (hg _ in_X8)
      exact ⟨(cC, iS), fun r hr => by cases hr; exact hK⟩
    | 8 => by
      obtain ⟨cC, iS, hK⟩ := u_known (C := RX9) (T := TX9) (N := 17) (n := 17) hg us_X9 (hg _ in_X9)
      exact ⟨(cC, iS), fun r hr => by cases hr; exact hK⟩
    | 9 => by
      obtain ⟨cC, iS, hK⟩ := u_known (C := RX10) (T := TX10) (N := 3) (n := 3) hg us_X10 (hg _ in_X10)
      exact ⟨(cC, iS), fun r hr => by cases hr; exact hK⟩
    | 10 => by
      obtain ⟨cC, iS, hK⟩ := u_known (C := RX11) (T := TX11) (N := 12) (n := 12) hg us_X11 (hg _ in_X11)
      exact ⟨(cC, iS), fun r hr => by cases hr; exact hK⟩
    | 11 => by
      obtain ⟨cC, iS, hK⟩ := u_known (C := RX12) (T := TX12) (N := 38) (n := 38) hg us_X12 (hg _ in_X12)
      exact ⟨(cC, iS), fun r hr => by cases hr; exact hK⟩
    | k + 12 => ⟨(0, fun _ => 0), fun r hr => absurd hr (by simp [vwCl])⟩
  obtain ⟨D, hD⟩ := Classical.axiomOfChoice hk
  obtain ⟨cI, kI, coI, i1, i2, i3⟩ := Cond.arrayClass_spec (hg _ aw_I)
  obtain ⟨cL, kL, coL, l1, l2, l3⟩ := Cond.arrayClass_spec (hg _ aw_L)
  obtain ⟨coF, cF, kF, f1, -, f3, f4, f5⟩ := Cond.arrayOver_spec (hts _ im_L)
  obtain ⟨coA, cA, kA, a1, -, a3, a4, a5⟩ := arrayOverA_spec (hts _ im_A)
  obtain ⟨adK, adV, hSt, hStE⟩ := vk_Sof (args := #[Value.ref b]) (s := s) (N := 2) (tm := tmS) (len := [3, 3]) (byt := [STR1, STR2]) (A := fun q => s.heap.size ≤ q) (by decide) (fun i hi => hs _ (q_ex i hi)) (fun i hi => hs _ (q_co i hi)) (fun i hi => hs _ (q_ar i hi)) (fun i hi => hs _ (q_le i hi)) (fun i hi j hj => hs _ (q_el i hi j hj)) (fun i j hi hj hij => by
    rcases (show (i = 0 ∧ j = 1) ∨ (i = 1 ∧ j = 0) by omega) with ⟨rfl, rfl⟩ | ⟨rfl, rfl⟩
    · exact Or.inl (hs _ q_ne)
    · exact Or.inr (hs _ q_ne)) hA
  obtain ⟨tB, tBe, hTB⟩ := va_Tof (args := #[Value.ref b]) (s := s) (tm := .static "PailSpeech$Chorus" "BODIES" "[I") (ty := .int) (N := 28) (f := fun j => .int (BODY.getD j 0)) (A := fun q => s.heap.size ≤ q) (by decide) (hs _ q_ba.1) (va_eqt (hs _ q_ba.2.1)) (fun j hj => va_eqt (hs _ (q_bo j hj))) hA
  have hZB := va_Zref (hts _ ls_bo) (hts _ iz_cho) tBe hA
  have hZC := va_Zof (hts _ ls_cs) (hts _ iz_str) (va_eqi (hs _ q_ba.2.2)) hA
  have hT0 : va_T .int b L (fun j => .int (xs j)) (fun q => s.heap.size ≤ q) s s.heap := by
    obtain ⟨scr, g1, g2, g3, g4, g5⟩ := hX
    exact ⟨scr, g1, g2, g3, by omega, by rw [g4], g5, hA b hbl⟩
  have hK : va_K (gD (mkG l s.heap.size (gaF b tB (adK 0) (adK 1) (adV 0) (adV 1)) D (gcF cI cL cF cA) xs L)) vwCl (tysL (mkG l s.heap.size (gaF b tB (adK 0) (adK 1) (adV 0) (adV 1)) D (gcF cI cL cF cA) xs L)) s := by
    refine ⟨fun c q hq => hD c q hq, fun k q hq => ?_⟩
    match k, hq with
    | 0, hq => cases hq; exact ⟨fun n z => ⟨(fun k h => by cases h), kI, i2, coI, i3⟩, i1⟩
    | 1, hq => cases hq; exact ⟨fun n z => ⟨(fun k h => by cases h), kL, l2, coL, l3⟩, l1⟩
    | 2, hq => cases hq; exact ⟨fun n z => ⟨(fun k h => by cases h), kF, f3, coF, f4⟩, kF, coF, f3, f4, f1, f5⟩
    | 3, hq => cases hq; exact ⟨fun n z => ⟨(fun k h => by cases h), kA, a3, coA, a4⟩, a5⟩
    | k + 4, hq => exact absurd hq (by simp [tysL])
  obtain ⟨o1, o2, o3, o4⟩ := hSt.1 0 (by decide)
  obtain ⟨u1, u2, u3, u4⟩ := hSt.1 1 (by decide)
  have hF : FO (mkG l s.heap.size (gaF b tB (adK 0) (adK 1) (adV 0) (adV 1)) D (gcF cI cL cF cA) xs L) s s.heap := ⟨hT0, ⟨hZB, hTB⟩, ⟨⟨o1, o2, o3⟩, o4⟩, ⟨⟨u1, u2, u3⟩, u4⟩, hZC, ⟨vk_R.of (hts _ sr_18) (hStE 0 (by decide)), vk_R.of (hts _ sr_35) (hStE 1 (by decide))⟩, NW.of hts⟩
  have hl := lv_entry ([.ref b]) (n := 4) (Nat.le_of_ble_eq_true rfl)
  rw [lg_entry_eq]
  generalize (lg_sl ([.ref b]) ++ List.replicate (4 - (lg_sl ([.ref b])).length) Slot.unset).toArray = ls at hl ⊢
  have hl : lv_has ls 4 [(0, .ref b)] := hl
  have hR := law_walk (G := mkG l s.heap.size (gaF b tB (adK 0) (adK 1) (adV 0) (adV 1)) D (gcF cI cL cF cA) xs L) (nm := meth.name) hL
  refine w_mono (hR p e room_1 s m #[Value.ref b] below meth c s.heap [] 0 0 ls (fun _ _ o _ => o = .returned (some (.int 1))) ⟨hx, hb, hml, hown, hg, hr, hlocks, rfl, Nat.le_of_ble_eq_true rfl, Nat.le_of_ble_eq_true rfl, hK, hF⟩ (Nat.le_of_ble_eq_true rfl) (Nat.le_of_ble_eq_true rfl) ?_ va_S.rf ⟨rfl, by decide, fun a x hx => absurd hx (by simp)⟩ (fun v _ _ t q _ _ => ?_)) (fun t ht => ?_)
  · show lv_has ls 4 [(0, tr _ (.inr (.inr (some (FB + 0)))))]
    rw [tr_out]
    exact hl
  · show Outcome.returned _ = _
    rw [show v = some (.inl 1) from q]
    rfl
  · obtain ⟨o, hrun, hend, hq, Lx, hfe, hfree⟩ := ht
    exact ⟨o, hrun, hend, hq, fe_drop hfe hfree⟩
