set_option maxRecDepth 100000 in
set_option maxHeartbeats 4000000 in
theorem vc_X12_finds {G : GT} {d : Nat} {a1 : Int32}  {h : Hp} {Q : Int32 → Hp → Prop} (hR : RF h) (V : vp_in a1 6 ∧ vp_in a1 6 ∧ Q ((-1000000000) - a1) (sI h 98 (Int32.toNatClampNeg a1) (h.1 98 (Int32.toNatClampNeg a1) + 1))) : EvI G (d + 1) mX12_finds [.inr (.inr (some 94)), .inl a1] h Q := by
  refine Ev.of rfl (fun _ => Nat.le_of_ble_eq_true rfl) ?_
  show Rn G (d + 1) 0 0 mX12_finds 0 [(0, .inr (.inr (some 94))), (1, .inl a1)] [] SH h (QI Q)
  refine rn_aload_n dX12_finds_0 rfl rfl ?_
  refine rn_get (v := .inr (.inr (some 98))) dX12_finds_1 fl_X12_19 rfl rfl (congrArg (fun z => (Sum.inr (Sum.inr z) : MV)) (rf_94_4 hR)) ?_
  refine rn_iload_n dX12_finds_4 rfl rfl ?_
  refine rn_dup2 dX12_finds_5 rfl rfl ?_
  obtain ⟨g0, V⟩ := V
  refine rn_iald (k := (Int32.toNatClampNeg a1)) dX12_finds_6 rfl rfl g0 ?_
  refine rn_iconst (v := 1) dX12_finds_7 (by decide) ?_
  refine rn_iadd dX12_finds_8 ?_
  obtain ⟨g0, V⟩ := V
  refine rn_iast (k := (Int32.toNatClampNeg a1)) dX12_finds_9 rfl rfl g0 ?_
  refine rn_ldc (v := (-1000000000)) dX12_finds_10 cw_X12_79 ?_
  refine rn_iload_n dX12_finds_12 rfl rfl ?_
  refine rn_isub dX12_finds_13 ?_
  exact rn_iret dX12_finds_14 rfl ⟨rfl, hR, _, rfl, V⟩
set_option maxRecDepth 100000 in
set_option maxHeartbeats 4000000 in
theorem vc_X12_in {G : GT} {d : Nat} {a0 : Int64} {a1 : Int64} {a2 : Int64}  {h : Hp} {Q : Int32 → Hp → Prop} (hR : RF h) (V : (((lg_cmp a0 a1) < 0 → Q 0 h) ∧ (¬ (lg_cmp a0 a1) < 0 → ((0 < (lg_cmp a0 a2) → Q 0 h) ∧ (¬ 0 < (lg_cmp a0 a2) → Q 1 h))))) : EvI G (d + 1) mX12_in [.inr (.inl a0), .inr (.inl a1), .inr (.inl a2)] h Q := by
  refine Ev.of rfl (fun _ => Nat.le_of_ble_eq_true rfl) ?_
  show Rn G (d + 1) 0 0 mX12_in 0 [(0, .inr (.inl a0)), (2, .inr (.inl a1)), (4, .inr (.inl a2))] [] SH h (QI Q)
  refine rn_lload_n dX12_in_0 rfl rfl ?_
  refine rn_lload_n dX12_in_1 rfl rfl ?_
  refine rn_lcmp dX12_in_2 ?_
  refine rn_if_lt (tgt := 17) dX12_in_3 (by decide) (fun c1 => ?_) (fun c1 => ?_)
  · replace V := V.1 c1
    refine rn_iconst (v := 0) dX12_in_17 (by decide) ?_
    exact rn_zret dX12_in_18 rfl (by decide) ⟨rfl, hR, _, rfl, V⟩
  · replace V := V.2 c1
    refine rn_lload_n dX12_in_6 rfl rfl ?_
    refine rn_lload dX12_in_7 rfl ?_
    refine rn_lcmp dX12_in_9 ?_
    refine rn_if_gt (tgt := 17) dX12_in_10 (by decide) (fun c2 => ?_) (fun c2 => ?_)
    · replace V := V.1 c2
      refine rn_iconst (v := 0) dX12_in_17 (by decide) ?_
      exact rn_zret dX12_in_18 rfl (by decide) ⟨rfl, hR, _, rfl, V⟩
    · replace V := V.2 c2
      refine rn_iconst (v := 1) dX12_in_13 (by decide) ?_
      refine rn_goto (tgt := 18) dX12_in_14 (by decide) ?_
      exact rn_zret dX12_in_18 rfl (by decide) ⟨rfl, hR, _, rfl, V⟩
set_option maxRecDepth 100000 in
set_option maxHeartbeats 4000000 in
theorem vc_X12_held {G : GT} {d : Nat} {a0 : Int32} {a1 : Int32} {a2 : Int32}  {h : Hp} {Q : Int32 → Hp → Prop} (hR : RF h) (V : ((a1 ≤ a0 → ((a0 ≤ a2 → Q a0 h) ∧ (¬ a0 ≤ a2 → Q a2 h))) ∧ (¬ a1 ≤ a0 → Q a1 h))) : EvI G (d + 1) mX12_held [.inl a0, .inl a1, .inl a2] h Q := by
  refine Ev.of rfl (fun _ => Nat.le_of_ble_eq_true rfl) ?_
  show Rn G (d + 1) 0 0 mX12_held 0 [(0, .inl a0), (1, .inl a1), (2, .inl a2)] [] SH h (QI Q)
  refine rn_iload_n dX12_held_0 rfl rfl ?_
  refine rn_iload_n dX12_held_1 rfl rfl ?_
  refine rn_icmp_ge (tgt := 9) dX12_held_2 (by decide) (fun c1 => ?_) (fun c1 => ?_)
  · replace V := V.1 c1
    refine rn_iload_n dX12_held_9 rfl rfl ?_
    refine rn_iload_n dX12_held_10 rfl rfl ?_
    refine rn_icmp_le (tgt := 18) dX12_held_11 (by decide) (fun c2 => ?_) (fun c2 => ?_)
    · replace V := V.1 c2
      refine rn_iload_n dX12_held_18 rfl rfl ?_
      exact rn_iret dX12_held_19 rfl ⟨rfl, hR, _, rfl, V⟩
    · replace V := V.2 c2
      refine rn_iload_n dX12_held_14 rfl rfl ?_
      refine rn_goto (tgt := 19) dX12_held_15 (by decide) ?_
      exact rn_iret dX12_held_19 rfl ⟨rfl, hR, _, rfl, V⟩
  · replace V := V.2 c1
    refine rn_iload_n dX12_held_5 rfl rfl ?_
    refine rn_goto (tgt := 19) dX12_held_6 (by decide) ?_
    exact rn_iret dX12_held_19 rfl ⟨rfl, hR, _, rfl, V⟩
set_option maxRecDepth 100000 in
set_option maxHeartbeats 4000000 in
theorem vc_X12_isParty {G : GT} {d : Nat} {a1 : Int32}  {h : Hp} {Q : Int32 → Hp → Prop} (hR : RF h) (V : EvI G d mX12_in [.inr (.inl (Int32.toInt64 a1)), .inr (.inl 0), .inr (.inl (Int32.toInt64 (h.1 95 0 - 1)))] h (fun x2 h1 => (narrow .boolean (.int x2) = .int x2 ∧ Q x2 h1))) : EvI G (d + 1) mX12_isParty [.inr (.inr (some 94)), .inl a1] h Q := by
  refine Ev.of rfl (fun _ => Nat.le_of_ble_eq_true rfl) ?_
  show Rn G (d + 1) 0 0 mX12_isParty 0 [(0, .inr (.inr (some 94))), (1, .inl a1)] [] SH h (QI Q)
  refine rn_iload_n dX12_isParty_0 rfl rfl ?_
  refine rn_i2l dX12_isParty_1 ?_
  refine rn_lconst (v := 0) dX12_isParty_2 rfl ?_
  refine rn_aload_n dX12_isParty_3 rfl rfl ?_
  refine rn_get (v := .inr (.inr (some 95))) dX12_isParty_4 fl_X12_7 rfl rfl (congrArg (fun z => (Sum.inr (Sum.inr z) : MV)) (rf_94_0 hR)) ?_
  refine rn_iconst (v := 0) dX12_isParty_7 (by decide) ?_
  refine rn_iald (k := 0) dX12_isParty_8 rfl (by decide) (by unfold vp_in; decide) ?_
  refine rn_iconst (v := 1) dX12_isParty_9 (by decide) ?_
  refine rn_isub dX12_isParty_10 ?_
  refine rn_i2l dX12_isParty_11 ?_
  refine rn_cS (M' := mX12_in) (n := 3) (av := [.inr (.inl (Int32.toInt64 a1)), .inr (.inl 0), .inr (.inl (Int32.toInt64 (h.1 95 0 - 1)))]) (S := []) (rc := 0) (rs := 0) (mc := 0) (ms := 0) dX12_isParty_12 pa_X12_in (Nat.le_refl _) rfl (Nat.le_of_ble_eq_true rfl) ml_X12_80 ss_X12_in rfl (Ev.mono V ?_)
  rintro v sh1 h1 ⟨rfl, Rh1, x2, rfl, V⟩
  show Rn G (d + 1) 0 0 mX12_isParty 15 [(0, .inr (.inr (some 94))), (1, .inl a1)] [.inl x2] SH h1 (QI Q)
  exact rn_zret dX12_isParty_15 rfl V.1 ⟨rfl, Rh1, _, rfl, V.2⟩
set_option maxRecDepth 100000 in
set_option maxHeartbeats 4000000 in
theorem vc_X12_isWord {G : GT} {d : Nat} {a1 : Int32}  {h : Hp} {Q : Int32 → Hp → Prop} (hR : RF h) (V : EvI G d mX12_in [.inr (.inl (Int32.toInt64 a1)), .inr (.inl 0), .inr (.inl (Int32.toInt64 (h.1 95 1 - 1)))] h (fun x2 h1 => (narrow .boolean (.int x2) = .int x2 ∧ Q x2 h1))) : EvI G (d + 1) mX12_isWord [.inr (.inr (some 94)), .inl a1] h Q := by
  refine Ev.of rfl (fun _ => Nat.le_of_ble_eq_true rfl) ?_
  show Rn G (d + 1) 0 0 mX12_isWord 0 [(0, .inr (.inr (some 94))), (1, .inl a1)] [] SH h (QI Q)
  refine rn_iload_n dX12_isWord_0 rfl rfl ?_
  refine rn_i2l dX12_isWord_1 ?_
  refine rn_lconst (v := 0) dX12_isWord_2 rfl ?_
  refine rn_aload_n dX12_isWord_3 rfl rfl ?_
  refine rn_get (v := .inr (.inr (some 95))) dX12_isWord_4 fl_X12_7 rfl rfl (congrArg (fun z => (Sum.inr (Sum.inr z) : MV)) (rf_94_0 hR)) ?_
  refine rn_iconst (v := 1) dX12_isWord_7 (by decide) ?_
  refine rn_iald (k := 1) dX12_isWord_8 rfl (by decide) (by unfold vp_in; decide) ?_
  refine rn_iconst (v := 1) dX12_isWord_9 (by decide) ?_
  refine rn_isub dX12_isWord_10 ?_
  refine rn_i2l dX12_isWord_11 ?_
  refine rn_cS (M' := mX12_in) (n := 3) (av := [.inr (.inl (Int32.toInt64 a1)), .inr (.inl 0), .inr (.inl (Int32.toInt64 (h.1 95 1 - 1)))]) (S := []) (rc := 0) (rs := 0) (mc := 0) (ms := 0) dX12_isWord_12 pa_X12_in (Nat.le_refl _) rfl (Nat.le_of_ble_eq_true rfl) ml_X12_80 ss_X12_in rfl (Ev.mono V ?_)
  rintro v sh1 h1 ⟨rfl, Rh1, x2, rfl, V⟩
  show Rn G (d + 1) 0 0 mX12_isWord 15 [(0, .inr (.inr (some 94))), (1, .inl a1)] [.inl x2] SH h1 (QI Q)
  exact rn_zret dX12_isWord_15 rfl V.1 ⟨rfl, Rh1, _, rfl, V.2⟩
set_option maxRecDepth 100000 in
set_option maxHeartbeats 4000000 in
theorem vc_X12_of {G : GT} {d : Nat} {a1 : Int32} {a2 : Int32}  {h : Hp} {Q : Int32 → Hp → Prop} (hR : RF h) (V : vp_in ((10 + (5 * a1)) + a2) 264 ∧ Q (h.1 95 (Int32.toNatClampNeg ((10 + (5 * a1)) + a2))) h) : EvI G (d + 1) mX12_of [.inr (.inr (some 94)), .inl a1, .inl a2] h Q := by
  refine Ev.of rfl (fun _ => Nat.le_of_ble_eq_true rfl) ?_
  show Rn G (d + 1) 0 0 mX12_of 0 [(0, .inr (.inr (some 94))), (1, .inl a1), (2, .inl a2)] [] SH h (QI Q)
  refine rn_aload_n dX12_of_0 rfl rfl ?_
  refine rn_get (v := .inr (.inr (some 95))) dX12_of_1 fl_X12_7 rfl rfl (congrArg (fun z => (Sum.inr (Sum.inr z) : MV)) (rf_94_0 hR)) ?_
  refine rn_bipush (v := 10) dX12_of_4 (by decide) ?_
  refine rn_iconst (v := 5) dX12_of_6 (by decide) ?_
  refine rn_iload_n dX12_of_7 rfl rfl ?_
  refine rn_imul dX12_of_8 ?_
  refine rn_iadd dX12_of_9 ?_
  refine rn_iload_n dX12_of_10 rfl rfl ?_
  refine rn_iadd dX12_of_11 ?_
  obtain ⟨g0, V⟩ := V
  refine rn_iald (k := (Int32.toNatClampNeg ((10 + (5 * a1)) + a2))) dX12_of_12 rfl rfl g0 ?_
  exact rn_iret dX12_of_13 rfl ⟨rfl, hR, _, rfl, V⟩
set_option maxRecDepth 100000 in
set_option maxHeartbeats 4000000 in
theorem vc_X12_sets {G : GT} {d : Nat} {a1 : Int32} {a2 : Int32} {a3 : Int32}  {h : Hp} {Q : Hp → Prop} (hR : RF h) (V : vp_in ((10 + (5 * a1)) + a2) 264 ∧ Q (sI h 95 (Int32.toNatClampNeg ((10 + (5 * a1)) + a2)) a3)) : EvV G (d + 1) mX12_sets [.inr (.inr (some 94)), .inl a1, .inl a2, .inl a3] h Q := by
  refine Ev.of rfl (fun _ => Nat.le_of_ble_eq_true rfl) ?_
  show Rn G (d + 1) 0 0 mX12_sets 0 [(0, .inr (.inr (some 94))), (1, .inl a1), (2, .inl a2), (3, .inl a3)] [] SH h (QV Q)
  refine rn_aload_n dX12_sets_0 rfl rfl ?_
  refine rn_get (v := .inr (.inr (some 95))) dX12_sets_1 fl_X12_7 rfl rfl (congrArg (fun z => (Sum.inr (Sum.inr z) : MV)) (rf_94_0 hR)) ?_
  refine rn_bipush (v := 10) dX12_sets_4 (by decide) ?_
  refine rn_iconst (v := 5) dX12_sets_6 (by decide) ?_
  refine rn_iload_n dX12_sets_7 rfl rfl ?_
  refine rn_imul dX12_sets_8 ?_
  refine rn_iadd dX12_sets_9 ?_
  refine rn_iload_n dX12_sets_10 rfl rfl ?_
  refine rn_iadd dX12_sets_11 ?_
  refine rn_iload_n dX12_sets_12 rfl rfl ?_
  obtain ⟨g0, V⟩ := V
  refine rn_iast (k := (Int32.toNatClampNeg ((10 + (5 * a1)) + a2))) dX12_sets_13 rfl rfl g0 ?_
  exact rn_vret dX12_sets_14 rfl ⟨rfl, hR, rfl, V⟩
set_option maxRecDepth 100000 in
set_option maxHeartbeats 4000000 in
theorem vc_X12_its {G : GT} {d : Nat} {a1 : Int32} {a2 : Int32}  {h : Hp} {Q : Int32 → Hp → Prop} (hR : RF h) (V : vp_in ((30 + (5 * a1)) + a2) 264 ∧ Q (h.1 95 (Int32.toNatClampNeg ((30 + (5 * a1)) + a2))) h) : EvI G (d + 1) mX12_its [.inr (.inr (some 94)), .inl a1, .inl a2] h Q := by
  refine Ev.of rfl (fun _ => Nat.le_of_ble_eq_true rfl) ?_
  show Rn G (d + 1) 0 0 mX12_its 0 [(0, .inr (.inr (some 94))), (1, .inl a1), (2, .inl a2)] [] SH h (QI Q)
  refine rn_aload_n dX12_its_0 rfl rfl ?_
  refine rn_get (v := .inr (.inr (some 95))) dX12_its_1 fl_X12_7 rfl rfl (congrArg (fun z => (Sum.inr (Sum.inr z) : MV)) (rf_94_0 hR)) ?_
  refine rn_bipush (v := 30) dX12_its_4 (by decide) ?_
  refine rn_iconst (v := 5) dX12_its_6 (by decide) ?_
  refine rn_iload_n dX12_its_7 rfl rfl ?_
  refine rn_imul dX12_its_8 ?_
  refine rn_iadd dX12_its_9 ?_
  refine rn_iload_n dX12_its_10 rfl rfl ?_
  refine rn_iadd dX12_its_11 ?_
  obtain ⟨g0, V⟩ := V
  refine rn_iald (k := (Int32.toNatClampNeg ((30 + (5 * a1)) + a2))) dX12_its_12 rfl rfl g0 ?_
  exact rn_iret dX12_its_13 rfl ⟨rfl, hR, _, rfl, V⟩
set_option maxRecDepth 100000 in
set_option maxHeartbeats 4000000 in
theorem vc_X12_puts {G : GT} {d : Nat} {a1 : Int32} {a2 : Int32} {a3 : Int32}  {h : Hp} {Q : Hp → Prop} (hR : RF h) (V : vp_in ((30 + (5 * a1)) + a2) 264 ∧ Q (sI h 95 (Int32.toNatClampNeg ((30 + (5 * a1)) + a2)) a3)) : EvV G (d + 1) mX12_puts [.inr (.inr (some 94)), .inl a1, .inl a2, .inl a3] h Q := by
  refine Ev.of rfl (fun _ => Nat.le_of_ble_eq_true rfl) ?_
  show Rn G (d + 1) 0 0 mX12_puts 0 [(0, .inr (.inr (some 94))), (1, .inl a1), (2, .inl a2), (3, .inl a3)] [] SH h (QV Q)
  refine rn_aload_n dX12_puts_0 rfl rfl ?_
  refine rn_get (v := .inr (.inr (some 95))) dX12_puts_1 fl_X12_7 rfl rfl (congrArg (fun z => (Sum.inr (Sum.inr z) : MV)) (rf_94_0 hR)) ?_
  refine rn_bipush (v := 30) dX12_puts_4 (by decide) ?_
  refine rn_iconst (v := 5) dX12_puts_6 (by decide) ?_
  refine rn_iload_n dX12_puts_7 rfl rfl ?_
  refine rn_imul dX12_puts_8 ?_
  refine rn_iadd dX12_puts_9 ?_
  refine rn_iload_n dX12_puts_10 rfl rfl ?_
  refine rn_iadd dX12_puts_11 ?_
  refine rn_iload_n dX12_puts_12 rfl rfl ?_
  obtain ⟨g0, V⟩ := V
  refine rn_iast (k := (Int32.toNatClampNeg ((30 + (5 * a1)) + a2))) dX12_puts_13 rfl rfl g0 ?_
  exact rn_vret dX12_puts_14 rfl ⟨rfl, hR, rfl, V⟩
def Rg_X12_keepAside_2 (G : GT) (d : Nat) (l1 : Int32) (h : Hp) (Q : Hp → Prop) : Prop := Rn G (d + 1) 0 0 mX12_keepAside 2 [(0, .inr (.inr (some 94))), (1, .inl l1)] [] SH h (QV Q)
set_option maxRecDepth 100000 in
set_option maxHeartbeats 4000000 in
theorem vc_X12_keepAside_2 {G : GT} {d : Nat} {l1 : Int32}  {h : Hp} {Q : Hp → Prop} (hR : RF h) (V : ((90 ≤ l1 → Q h) ∧ (¬ 90 ≤ l1 → vp_in l1 264 ∧ vp_in l1 90 ∧ Rg_X12_keepAside_2 G d (l1 + 1) (sI h 97 (Int32.toNatClampNeg l1) (h.1 95 (Int32.toNatClampNeg l1))) Q))) : Rg_X12_keepAside_2 G d l1 h Q := by
  show Rn G (d + 1) 0 0 mX12_keepAside 2 [(0, .inr (.inr (some 94))), (1, .inl l1)] [] SH h (QV Q)
  refine rn_iload_n dX12_keepAside_2 rfl rfl ?_
  refine rn_bipush (v := 90) dX12_keepAside_3 (by decide) ?_
  refine rn_icmp_ge (tgt := 26) dX12_keepAside_5 (by decide) (fun c1 => ?_) (fun c1 => ?_)
  · replace V := V.1 c1
    exact rn_vret dX12_keepAside_26 rfl ⟨rfl, hR, rfl, V⟩
  · replace V := V.2 c1
    refine rn_aload_n dX12_keepAside_8 rfl rfl ?_
    refine rn_get (v := .inr (.inr (some 97))) dX12_keepAside_9 fl_X12_16 rfl rfl (congrArg (fun z => (Sum.inr (Sum.inr z) : MV)) (rf_94_2 hR)) ?_
    refine rn_iload_n dX12_keepAside_12 rfl rfl ?_
    refine rn_aload_n dX12_keepAside_13 rfl rfl ?_
    refine rn_get (v := .inr (.inr (some 95))) dX12_keepAside_14 fl_X12_7 rfl rfl (congrArg (fun z => (Sum.inr (Sum.inr z) : MV)) (rf_94_0 hR)) ?_
    refine rn_iload_n dX12_keepAside_17 rfl rfl ?_
    obtain ⟨g0, V⟩ := V
    refine rn_iald (k := (Int32.toNatClampNeg l1)) dX12_keepAside_18 rfl rfl g0 ?_
    obtain ⟨g0, V⟩ := V
    refine rn_iast (k := (Int32.toNatClampNeg l1)) dX12_keepAside_19 rfl rfl g0 ?_
    refine rn_iinc (L' := [(1, .inl (l1 + 1)), (0, .inr (.inr (some 94)))]) dX12_keepAside_20 rfl (v := (l1 + 1)) rfl (Nat.le_of_ble_eq_true rfl) rfl ?_
    refine rn_goto (tgt := 2) dX12_keepAside_23 (by decide) ?_
    refine rn_sub [1, 0] (L' := [(0, .inr (.inr (some 94))), (1, .inl (l1 + 1))]) rfl ?_
    exact V
set_option maxRecDepth 100000 in
set_option maxHeartbeats 4000000 in
theorem vc_X12_keepAside {G : GT} {d : Nat}   {h : Hp} {Q : Hp → Prop} (hR : RF h) (V : Rg_X12_keepAside_2 G d 0 h Q) : EvV G (d + 1) mX12_keepAside [.inr (.inr (some 94))] h Q := by
  refine Ev.of rfl (fun _ => Nat.le_of_ble_eq_true rfl) ?_
  show Rn G (d + 1) 0 0 mX12_keepAside 0 [(0, .inr (.inr (some 94)))] [] SH h (QV Q)
  refine rn_iconst (v := 0) dX12_keepAside_0 (by decide) ?_
  refine rn_istore_n (L' := [(1, .inl 0), (0, .inr (.inr (some 94)))]) dX12_keepAside_1 rfl (Nat.le_of_ble_eq_true rfl) rfl ?_
  refine rn_sub [1, 0] (L' := [(0, .inr (.inr (some 94))), (1, .inl 0)]) rfl ?_
  exact V
def Rg_X12_putBack_2 (G : GT) (d : Nat) (l1 : Int32) (h : Hp) (Q : Hp → Prop) : Prop := Rn G (d + 1) 0 0 mX12_putBack 2 [(0, .inr (.inr (some 94))), (1, .inl l1)] [] SH h (QV Q)
set_option maxRecDepth 100000 in
set_option maxHeartbeats 4000000 in
theorem vc_X12_putBack_2 {G : GT} {d : Nat} {l1 : Int32}  {h : Hp} {Q : Hp → Prop} (hR : RF h) (V : ((90 ≤ l1 → Q h) ∧ (¬ 90 ≤ l1 → vp_in l1 90 ∧ vp_in l1 264 ∧ Rg_X12_putBack_2 G d (l1 + 1) (sI h 95 (Int32.toNatClampNeg l1) (h.1 97 (Int32.toNatClampNeg l1))) Q))) : Rg_X12_putBack_2 G d l1 h Q := by
  show Rn G (d + 1) 0 0 mX12_putBack 2 [(0, .inr (.inr (some 94))), (1, .inl l1)] [] SH h (QV Q)
  refine rn_iload_n dX12_putBack_2 rfl rfl ?_
  refine rn_bipush (v := 90) dX12_putBack_3 (by decide) ?_
  refine rn_icmp_ge (tgt := 26) dX12_putBack_5 (by decide) (fun c1 => ?_) (fun c1 => ?_)
  · replace V := V.1 c1
    exact rn_vret dX12_putBack_26 rfl ⟨rfl, hR, rfl, V⟩
  · replace V := V.2 c1
    refine rn_aload_n dX12_putBack_8 rfl rfl ?_
    refine rn_get (v := .inr (.inr (some 95))) dX12_putBack_9 fl_X12_7 rfl rfl (congrArg (fun z => (Sum.inr (Sum.inr z) : MV)) (rf_94_0 hR)) ?_
    refine rn_iload_n dX12_putBack_12 rfl rfl ?_
    refine rn_aload_n dX12_putBack_13 rfl rfl ?_
    refine rn_get (v := .inr (.inr (some 97))) dX12_putBack_14 fl_X12_16 rfl rfl (congrArg (fun z => (Sum.inr (Sum.inr z) : MV)) (rf_94_2 hR)) ?_
    refine rn_iload_n dX12_putBack_17 rfl rfl ?_
    obtain ⟨g0, V⟩ := V
    refine rn_iald (k := (Int32.toNatClampNeg l1)) dX12_putBack_18 rfl rfl g0 ?_
    obtain ⟨g0, V⟩ := V
    refine rn_iast (k := (Int32.toNatClampNeg l1)) dX12_putBack_19 rfl rfl g0 ?_
    refine rn_iinc (L' := [(1, .inl (l1 + 1)), (0, .inr (.inr (some 94)))]) dX12_putBack_20 rfl (v := (l1 + 1)) rfl (Nat.le_of_ble_eq_true rfl) rfl ?_
    refine rn_goto (tgt := 2) dX12_putBack_23 (by decide) ?_
    refine rn_sub [1, 0] (L' := [(0, .inr (.inr (some 94))), (1, .inl (l1 + 1))]) rfl ?_
    exact V
set_option maxRecDepth 100000 in
set_option maxHeartbeats 4000000 in
theorem vc_X12_putBack {G : GT} {d : Nat}   {h : Hp} {Q : Hp → Prop} (hR : RF h) (V : Rg_X12_putBack_2 G d 0 h Q) : EvV G (d + 1) mX12_putBack [.inr (.inr (some 94))] h Q := by
  refine Ev.of rfl (fun _ => Nat.le_of_ble_eq_true rfl) ?_
  show Rn G (d + 1) 0 0 mX12_putBack 0 [(0, .inr (.inr (some 94)))] [] SH h (QV Q)
  refine rn_iconst (v := 0) dX12_putBack_0 (by decide) ?_
  refine rn_istore_n (L' := [(1, .inl 0), (0, .inr (.inr (some 94)))]) dX12_putBack_1 rfl (Nat.le_of_ble_eq_true rfl) rfl ?_
  refine rn_sub [1, 0] (L' := [(0, .inr (.inr (some 94))), (1, .inl 0)]) rfl ?_
  exact V
set_option maxRecDepth 100000 in
set_option maxHeartbeats 4000000 in
theorem vc_X12_here {G : GT} {d : Nat}   {h : Hp} {Q : Int32 → Hp → Prop} (hR : RF h) (V : ((h.1 94 7 ≤ h.1 94 6 → Q (-1) h) ∧ (¬ h.1 94 7 ≤ h.1 94 6 → ((0 ≤ h.1 94 8 → Q (-1) h) ∧ (¬ 0 ≤ h.1 94 8 → vp_in (h.1 94 5 + h.1 94 6) 264 ∧ Q (h.1 95 (Int32.toNatClampNeg (h.1 94 5 + h.1 94 6))) h))))) : EvI G (d + 1) mX12_here [.inr (.inr (some 94))] h Q := by
  refine Ev.of rfl (fun _ => Nat.le_of_ble_eq_true rfl) ?_
  show Rn G (d + 1) 0 0 mX12_here 0 [(0, .inr (.inr (some 94)))] [] SH h (QI Q)
  refine rn_aload_n dX12_here_0 rfl rfl ?_
  refine rn_get (v := .inl (h.1 94 6)) dX12_here_1 fl_X12_84 rfl rfl rfl ?_
  refine rn_aload_n dX12_here_4 rfl rfl ?_
  refine rn_get (v := .inl (h.1 94 7)) dX12_here_5 fl_X12_88 rfl rfl rfl ?_
  refine rn_icmp_ge (tgt := 35) dX12_here_8 (by decide) (fun c1 => ?_) (fun c1 => ?_)
  · replace V := V.1 c1
    refine rn_iconst (v := (-1)) dX12_here_35 (by decide) ?_
    exact rn_iret dX12_here_36 rfl ⟨rfl, hR, _, rfl, V⟩
  · replace V := V.2 c1
    refine rn_aload_n dX12_here_11 rfl rfl ?_
    refine rn_get (v := .inl (h.1 94 8)) dX12_here_12 fl_X12_91 rfl rfl rfl ?_
    refine rn_if_ge (tgt := 35) dX12_here_15 (by decide) (fun c2 => ?_) (fun c2 => ?_)
    · replace V := V.1 c2
      refine rn_iconst (v := (-1)) dX12_here_35 (by decide) ?_
      exact rn_iret dX12_here_36 rfl ⟨rfl, hR, _, rfl, V⟩
    · replace V := V.2 c2
      refine rn_aload_n dX12_here_18 rfl rfl ?_
      refine rn_get (v := .inr (.inr (some 95))) dX12_here_19 fl_X12_7 rfl rfl (congrArg (fun z => (Sum.inr (Sum.inr z) : MV)) (rf_94_0 hR)) ?_
      refine rn_aload_n dX12_here_22 rfl rfl ?_
      refine rn_get (v := .inl (h.1 94 5)) dX12_here_23 fl_X12_94 rfl rfl rfl ?_
      refine rn_aload_n dX12_here_26 rfl rfl ?_
      refine rn_get (v := .inl (h.1 94 6)) dX12_here_27 fl_X12_84 rfl rfl rfl ?_
      refine rn_iadd dX12_here_30 ?_
      obtain ⟨g0, V⟩ := V
      refine rn_iald (k := (Int32.toNatClampNeg (h.1 94 5 + h.1 94 6))) dX12_here_31 rfl rfl g0 ?_
      refine rn_goto (tgt := 36) dX12_here_32 (by decide) ?_
      exact rn_iret dX12_here_36 rfl ⟨rfl, hR, _, rfl, V⟩
set_option maxRecDepth 100000 in
set_option maxHeartbeats 4000000 in
theorem vc_X12_wrong {G : GT} {d : Nat}   {h : Hp} {Q : Int32 → Hp → Prop} (hR : RF h) (V : ((0 ≤ h.1 94 8 → Q 0 (sI h 94 8 (h.1 94 8))) ∧ (¬ 0 ≤ h.1 94 8 → Q 0 (sI h 94 8 (h.1 94 6))))) : EvI G (d + 1) mX12_wrong [.inr (.inr (some 94))] h Q := by
  refine Ev.of rfl (fun _ => Nat.le_of_ble_eq_true rfl) ?_
  show Rn G (d + 1) 0 0 mX12_wrong 0 [(0, .inr (.inr (some 94)))] [] SH h (QI Q)
  refine rn_aload_n dX12_wrong_0 rfl rfl ?_
  refine rn_aload_n dX12_wrong_1 rfl rfl ?_
  refine rn_get (v := .inl (h.1 94 8)) dX12_wrong_2 fl_X12_91 rfl rfl rfl ?_
  refine rn_if_ge (tgt := 15) dX12_wrong_5 (by decide) (fun c1 => ?_) (fun c1 => ?_)
  · replace V := V.1 c1
    refine rn_aload_n dX12_wrong_15 rfl rfl ?_
    refine rn_get (v := .inl (h.1 94 8)) dX12_wrong_16 fl_X12_91 rfl rfl rfl ?_
    refine rn_putI dX12_wrong_19 fl_X12_91 rfl rfl (Or.inl rfl) rfl rfl ?_
    refine rn_iconst (v := 0) dX12_wrong_22 (by decide) ?_
    exact rn_iret dX12_wrong_23 rfl ⟨rfl, hR, _, rfl, V⟩
  · replace V := V.2 c1
    refine rn_aload_n dX12_wrong_8 rfl rfl ?_
    refine rn_get (v := .inl (h.1 94 6)) dX12_wrong_9 fl_X12_84 rfl rfl rfl ?_
    refine rn_goto (tgt := 19) dX12_wrong_12 (by decide) ?_
    refine rn_putI dX12_wrong_19 fl_X12_91 rfl rfl (Or.inl rfl) rfl rfl ?_
    refine rn_iconst (v := 0) dX12_wrong_22 (by decide) ?_
    exact rn_iret dX12_wrong_23 rfl ⟨rfl, hR, _, rfl, V⟩
set_option maxRecDepth 100000 in
set_option maxHeartbeats 4000000 in
theorem vc_X12_takes {G : GT} {d : Nat} {a1 : Int32}  {h : Hp} {Q : Int32 → Hp → Prop} (hR : RF h) (V : EvI G d mX12_here [.inr (.inr (some 94))] h (fun x2 h1 => ((x2 = a1 → Q 1 (sI h1 94 6 (h1.1 94 6 + 1))) ∧ (¬ x2 = a1 → Q 0 h1)))) : EvI G (d + 1) mX12_takes [.inr (.inr (some 94)), .inl a1] h Q := by
  refine Ev.of rfl (fun _ => Nat.le_of_ble_eq_true rfl) ?_
  show Rn G (d + 1) 0 0 mX12_takes 0 [(0, .inr (.inr (some 94))), (1, .inl a1)] [] SH h (QI Q)
  refine rn_aload_n dX12_takes_0 rfl rfl ?_
  refine rn_cV (M' := mX12_here) (n := 0) (av := []) (S := []) (rc := 0) (rs := 0) (mc := 0) (ms := 0) (a := 94) (ci := 11) (r := (RX12, TX12, 38)) dX12_takes_1 pa_X12_here (Nat.le_refl _) rfl (Nat.le_of_ble_eq_true rfl) ml_X12_97 im_X12_here se_X12_here rfl rfl rfl (Ev.mono V ?_)
  rintro v sh1 h1 ⟨rfl, Rh1, x2, rfl, V⟩
  show Rn G (d + 1) 0 0 mX12_takes 4 [(0, .inr (.inr (some 94))), (1, .inl a1)] [.inl x2] SH h1 (QI Q)
  refine rn_iload_n dX12_takes_4 rfl rfl ?_
  refine rn_icmp_eq (tgt := 10) dX12_takes_5 (by decide) (fun c3 => ?_) (fun c3 => ?_)
  · replace V := V.1 c3
    refine rn_aload_n dX12_takes_10 rfl rfl ?_
    refine rn_dup dX12_takes_11 rfl ?_
    refine rn_get (v := .inl (h1.1 94 6)) dX12_takes_12 fl_X12_84 rfl rfl rfl ?_
    refine rn_iconst (v := 1) dX12_takes_15 (by decide) ?_
    refine rn_iadd dX12_takes_16 ?_
    refine rn_putI dX12_takes_17 fl_X12_84 rfl rfl (Or.inl rfl) rfl rfl ?_
    refine rn_iconst (v := 1) dX12_takes_20 (by decide) ?_
    exact rn_zret dX12_takes_21 rfl (by decide) ⟨rfl, Rh1, _, rfl, V⟩
  · replace V := V.2 c3
    refine rn_iconst (v := 0) dX12_takes_8 (by decide) ?_
    exact rn_zret dX12_takes_9 rfl (by decide) ⟨rfl, Rh1, _, rfl, V⟩
set_option maxRecDepth 100000 in
set_option maxHeartbeats 4000000 in
theorem vc_X12_nameOf {G : GT} {d : Nat} {a1 : Int32}  {h : Hp} {Q : Int32 → Hp → Prop} (hR : RF h) (V : ((h.1 94 10 = 0 → ((¬ a1 = 119 → ((¬ a1 = 108 → ((¬ a1 = 104 → Q (-1) h) ∧ (a1 = 104 → Q 2 h))) ∧ (a1 = 108 → Q 1 h))) ∧ (a1 = 119 → Q 0 h))) ∧ (¬ h.1 94 10 = 0 → ((¬ a1 = 108 → ((¬ a1 = 115 → ((¬ a1 = 109 → Q (-1) h) ∧ (a1 = 109 → Q 2 h))) ∧ (a1 = 115 → Q 1 h))) ∧ (a1 = 108 → Q 0 h))))) : EvI G (d + 1) mX12_nameOf [.inr (.inr (some 94)), .inl a1] h Q := by
  refine Ev.of rfl (fun _ => Nat.le_of_ble_eq_true rfl) ?_
  show Rn G (d + 1) 0 0 mX12_nameOf 0 [(0, .inr (.inr (some 94))), (1, .inl a1)] [] SH h (QI Q)
  refine rn_aload_n dX12_nameOf_0 rfl rfl ?_
  refine rn_get (v := .inl (h.1 94 10)) dX12_nameOf_1 fl_X12_101 rfl rfl rfl ?_
  refine rn_if_eq (tgt := 39) dX12_nameOf_4 (by decide) (fun c1 => ?_) (fun c1 => ?_)
  · replace V := V.1 c1
    refine rn_iload_n dX12_nameOf_39 rfl rfl ?_
    refine rn_bipush (v := 119) dX12_nameOf_40 (by decide) ?_
    refine rn_icmp_ne (tgt := 49) dX12_nameOf_42 (by decide) (fun c2 => ?_) (fun c2 => ?_)
    · replace V := V.1 c2
      refine rn_iload_n dX12_nameOf_49 rfl rfl ?_
      refine rn_bipush (v := 108) dX12_nameOf_50 (by decide) ?_
      refine rn_icmp_ne (tgt := 59) dX12_nameOf_52 (by decide) (fun c3 => ?_) (fun c3 => ?_)
      · replace V := V.1 c3
        refine rn_iload_n dX12_nameOf_59 rfl rfl ?_
        refine rn_bipush (v := 104) dX12_nameOf_60 (by decide) ?_
        refine rn_icmp_ne (tgt := 69) dX12_nameOf_62 (by decide) (fun c4 => ?_) (fun c4 => ?_)
        · replace V := V.1 c4
          refine rn_iconst (v := (-1)) dX12_nameOf_69 (by decide) ?_
          exact rn_iret dX12_nameOf_70 rfl ⟨rfl, hR, _, rfl, V⟩
        · replace V := V.2 c4
          refine rn_iconst (v := 2) dX12_nameOf_65 (by decide) ?_
          refine rn_goto (tgt := 70) dX12_nameOf_66 (by decide) ?_
          exact rn_iret dX12_nameOf_70 rfl ⟨rfl, hR, _, rfl, V⟩
      · replace V := V.2 c3
        refine rn_iconst (v := 1) dX12_nameOf_55 (by decide) ?_
        refine rn_goto (tgt := 70) dX12_nameOf_56 (by decide) ?_
        exact rn_iret dX12_nameOf_70 rfl ⟨rfl, hR, _, rfl, V⟩
    · replace V := V.2 c2
      refine rn_iconst (v := 0) dX12_nameOf_45 (by decide) ?_
      refine rn_goto (tgt := 70) dX12_nameOf_46 (by decide) ?_
      exact rn_iret dX12_nameOf_70 rfl ⟨rfl, hR, _, rfl, V⟩
  · replace V := V.2 c1
    refine rn_iload_n dX12_nameOf_7 rfl rfl ?_
    refine rn_bipush (v := 108) dX12_nameOf_8 (by decide) ?_
    refine rn_icmp_ne (tgt := 17) dX12_nameOf_10 (by decide) (fun c5 => ?_) (fun c5 => ?_)
    · replace V := V.1 c5
      refine rn_iload_n dX12_nameOf_17 rfl rfl ?_
      refine rn_bipush (v := 115) dX12_nameOf_18 (by decide) ?_
      refine rn_icmp_ne (tgt := 27) dX12_nameOf_20 (by decide) (fun c6 => ?_) (fun c6 => ?_)
      · replace V := V.1 c6
        refine rn_iload_n dX12_nameOf_27 rfl rfl ?_
        refine rn_bipush (v := 109) dX12_nameOf_28 (by decide) ?_
        refine rn_icmp_ne (tgt := 37) dX12_nameOf_30 (by decide) (fun c7 => ?_) (fun c7 => ?_)
        · replace V := V.1 c7
          refine rn_iconst (v := (-1)) dX12_nameOf_37 (by decide) ?_
          exact rn_iret dX12_nameOf_38 rfl ⟨rfl, hR, _, rfl, V⟩
        · replace V := V.2 c7
          refine rn_iconst (v := 2) dX12_nameOf_33 (by decide) ?_
          refine rn_goto (tgt := 38) dX12_nameOf_34 (by decide) ?_
          exact rn_iret dX12_nameOf_38 rfl ⟨rfl, hR, _, rfl, V⟩
      · replace V := V.2 c6
        refine rn_iconst (v := 1) dX12_nameOf_23 (by decide) ?_
        refine rn_goto (tgt := 38) dX12_nameOf_24 (by decide) ?_
        exact rn_iret dX12_nameOf_38 rfl ⟨rfl, hR, _, rfl, V⟩
    · replace V := V.2 c5
      refine rn_iconst (v := 0) dX12_nameOf_13 (by decide) ?_
      refine rn_goto (tgt := 38) dX12_nameOf_14 (by decide) ?_
      exact rn_iret dX12_nameOf_38 rfl ⟨rfl, hR, _, rfl, V⟩
def Rg_X12_either_5 (G : GT) (d : Nat) (l1 : Int32) (h : Hp) (Q : Int32 → Hp → Prop) : Prop := Rn G (d + 1) 0 0 mX12_either 5 [(0, .inr (.inr (some 94))), (1, .inl l1)] [] SH h (QI Q)
set_option maxRecDepth 100000 in
set_option maxHeartbeats 4000000 in
theorem vc_X12_either_5 {G : GT} {d : Nat} {l1 : Int32}  {h : Hp} {Q : Int32 → Hp → Prop} (hR : RF h) (V : EvI G d mX12_takes [.inr (.inr (some 94)), .inl 124] h (fun x4 h3 => ((x4 = 0 → Q l1 h3) ∧ (¬ x4 = 0 → EvI G d mX12_both [.inr (.inr (some 94))] h3 (fun x7 h6 => ((¬ l1 = 0 → Rg_X12_either_5 G d 1 h6 Q) ∧ (l1 = 0 → ((x7 = 0 → Rg_X12_either_5 G d 0 h6 Q) ∧ (¬ x7 = 0 → Rg_X12_either_5 G d 1 h6 Q))))))))) : Rg_X12_either_5 G d l1 h Q := by
  show Rn G (d + 1) 0 0 mX12_either 5 [(0, .inr (.inr (some 94))), (1, .inl l1)] [] SH h (QI Q)
  refine rn_aload_n dX12_either_5 rfl rfl ?_
  refine rn_bipush (v := 124) dX12_either_6 (by decide) ?_
  refine rn_cV (M' := mX12_takes) (n := 1) (av := [.inl 124]) (S := []) (rc := 0) (rs := 0) (mc := 0) (ms := 0) (a := 94) (ci := 11) (r := (RX12, TX12, 38)) dX12_either_8 pa_X12_takes (Nat.le_refl _) rfl (Nat.le_of_ble_eq_true rfl) ml_X12_108 im_X12_takes se_X12_takes rfl rfl rfl (Ev.mono V ?_)
  rintro v sh1 h3 ⟨rfl, Rh3, x4, rfl, V⟩
  show Rn G (d + 1) 0 0 mX12_either 11 [(0, .inr (.inr (some 94))), (1, .inl l1)] [.inl x4] SH h3 (QI Q)
  refine rn_if_eq (tgt := 36) dX12_either_11 (by decide) (fun c5 => ?_) (fun c5 => ?_)
  · replace V := V.1 c5
    refine rn_iload_n dX12_either_36 rfl rfl ?_
    exact rn_iret dX12_either_37 rfl ⟨rfl, Rh3, _, rfl, V⟩
  · replace V := V.2 c5
    refine rn_aload_n dX12_either_14 rfl rfl ?_
    refine rn_cV (M' := mX12_both) (n := 0) (av := []) (S := []) (rc := 0) (rs := 0) (mc := 0) (ms := 0) (a := 94) (ci := 11) (r := (RX12, TX12, 38)) dX12_either_15 pa_X12_both (Nat.le_refl _) rfl (Nat.le_of_ble_eq_true rfl) ml_X12_105 im_X12_both se_X12_both rfl rfl rfl (Ev.mono V ?_)
    rintro v sh1 h6 ⟨rfl, Rh6, x7, rfl, V⟩
    show Rn G (d + 1) 0 0 mX12_either 18 [(0, .inr (.inr (some 94))), (1, .inl l1)] [.inl x7] SH h6 (QI Q)
    refine rn_istore_n (L' := [(2, .inl x7), (0, .inr (.inr (some 94))), (1, .inl l1)]) dX12_either_18 rfl (Nat.le_of_ble_eq_true rfl) rfl ?_
    refine rn_iload_n dX12_either_19 rfl rfl ?_
    refine rn_if_ne (tgt := 27) dX12_either_20 (by decide) (fun c8 => ?_) (fun c8 => ?_)
    · replace V := V.1 c8
      refine rn_iconst (v := 1) dX12_either_27 (by decide) ?_
      refine rn_goto (tgt := 32) dX12_either_28 (by decide) ?_
      refine rn_istore_n (L' := [(1, .inl 1), (2, .inl x7), (0, .inr (.inr (some 94)))]) dX12_either_32 rfl (Nat.le_of_ble_eq_true rfl) rfl ?_
      refine rn_goto (tgt := 5) dX12_either_33 (by decide) ?_
      refine rn_sub [2, 0] (L' := [(0, .inr (.inr (some 94))), (1, .inl 1)]) rfl ?_
      exact V
    · replace V := V.2 c8
      refine rn_iload_n dX12_either_23 rfl rfl ?_
      refine rn_if_eq (tgt := 31) dX12_either_24 (by decide) (fun c9 => ?_) (fun c9 => ?_)
      · replace V := V.1 c9
        refine rn_iconst (v := 0) dX12_either_31 (by decide) ?_
        refine rn_istore_n (L' := [(1, .inl 0), (2, .inl x7), (0, .inr (.inr (some 94)))]) dX12_either_32 rfl (Nat.le_of_ble_eq_true rfl) rfl ?_
        refine rn_goto (tgt := 5) dX12_either_33 (by decide) ?_
        refine rn_sub [2, 0] (L' := [(0, .inr (.inr (some 94))), (1, .inl 0)]) rfl ?_
        exact V
      · replace V := V.2 c9
        refine rn_iconst (v := 1) dX12_either_27 (by decide) ?_
        refine rn_goto (tgt := 32) dX12_either_28 (by decide) ?_
        refine rn_istore_n (L' := [(1, .inl 1), (2, .inl x7), (0, .inr (.inr (some 94)))]) dX12_either_32 rfl (Nat.le_of_ble_eq_true rfl) rfl ?_
        refine rn_goto (tgt := 5) dX12_either_33 (by decide) ?_
        refine rn_sub [2, 0] (L' := [(0, .inr (.inr (some 94))), (1, .inl 1)]) rfl ?_
        exact V
set_option maxRecDepth 100000 in
set_option maxHeartbeats 4000000 in
theorem vc_X12_either {G : GT} {d : Nat}   {h : Hp} {Q : Int32 → Hp → Prop} (hR : RF h) (V : EvI G d mX12_both [.inr (.inr (some 94))] h (fun x2 h1 => Rg_X12_either_5 G d x2 h1 Q)) : EvI G (d + 1) mX12_either [.inr (.inr (some 94))] h Q := by
  refine Ev.of rfl (fun _ => Nat.le_of_ble_eq_true rfl) ?_
  show Rn G (d + 1) 0 0 mX12_either 0 [(0, .inr (.inr (some 94)))] [] SH h (QI Q)
  refine rn_aload_n dX12_either_0 rfl rfl ?_
  refine rn_cV (M' := mX12_both) (n := 0) (av := []) (S := []) (rc := 0) (rs := 0) (mc := 0) (ms := 0) (a := 94) (ci := 11) (r := (RX12, TX12, 38)) dX12_either_1 pa_X12_both (Nat.le_refl _) rfl (Nat.le_of_ble_eq_true rfl) ml_X12_105 im_X12_both se_X12_both rfl rfl rfl (Ev.mono V ?_)
  rintro v sh1 h1 ⟨rfl, Rh1, x2, rfl, V⟩
  show Rn G (d + 1) 0 0 mX12_either 4 [(0, .inr (.inr (some 94)))] [.inl x2] SH h1 (QI Q)
  refine rn_istore_n (L' := [(1, .inl x2), (0, .inr (.inr (some 94)))]) dX12_either_4 rfl (Nat.le_of_ble_eq_true rfl) rfl ?_
  refine rn_sub [1, 0] (L' := [(0, .inr (.inr (some 94))), (1, .inl x2)]) rfl ?_
  exact V
def Rg_X12_both_5 (G : GT) (d : Nat) (l1 : Int32) (h : Hp) (Q : Int32 → Hp → Prop) : Prop := Rn G (d + 1) 0 0 mX12_both 5 [(0, .inr (.inr (some 94))), (1, .inl l1)] [] SH h (QI Q)
set_option maxRecDepth 100000 in
set_option maxHeartbeats 4000000 in
theorem vc_X12_both_5 {G : GT} {d : Nat} {l1 : Int32}  {h : Hp} {Q : Int32 → Hp → Prop} (hR : RF h) (V : EvI G d mX12_takes [.inr (.inr (some 94)), .inl 38] h (fun x4 h3 => ((x4 = 0 → Q l1 h3) ∧ (¬ x4 = 0 → EvI G d mX12_compared [.inr (.inr (some 94))] h3 (fun x7 h6 => ((l1 = 0 → Rg_X12_both_5 G d 0 h6 Q) ∧ (¬ l1 = 0 → ((x7 = 0 → Rg_X12_both_5 G d 0 h6 Q) ∧ (¬ x7 = 0 → Rg_X12_both_5 G d 1 h6 Q))))))))) : Rg_X12_both_5 G d l1 h Q := by
  show Rn G (d + 1) 0 0 mX12_both 5 [(0, .inr (.inr (some 94))), (1, .inl l1)] [] SH h (QI Q)
  refine rn_aload_n dX12_both_5 rfl rfl ?_
  refine rn_bipush (v := 38) dX12_both_6 (by decide) ?_
  refine rn_cV (M' := mX12_takes) (n := 1) (av := [.inl 38]) (S := []) (rc := 0) (rs := 0) (mc := 0) (ms := 0) (a := 94) (ci := 11) (r := (RX12, TX12, 38)) dX12_both_8 pa_X12_takes (Nat.le_refl _) rfl (Nat.le_of_ble_eq_true rfl) ml_X12_108 im_X12_takes se_X12_takes rfl rfl rfl (Ev.mono V ?_)
  rintro v sh1 h3 ⟨rfl, Rh3, x4, rfl, V⟩
  show Rn G (d + 1) 0 0 mX12_both 11 [(0, .inr (.inr (some 94))), (1, .inl l1)] [.inl x4] SH h3 (QI Q)
  refine rn_if_eq (tgt := 36) dX12_both_11 (by decide) (fun c5 => ?_) (fun c5 => ?_)
  · replace V := V.1 c5
    refine rn_iload_n dX12_both_36 rfl rfl ?_
    exact rn_iret dX12_both_37 rfl ⟨rfl, Rh3, _, rfl, V⟩
  · replace V := V.2 c5
    refine rn_aload_n dX12_both_14 rfl rfl ?_
    refine rn_cV (M' := mX12_compared) (n := 0) (av := []) (S := []) (rc := 0) (rs := 0) (mc := 0) (ms := 0) (a := 94) (ci := 11) (r := (RX12, TX12, 38)) dX12_both_15 pa_X12_compared (Nat.le_refl _) rfl (Nat.le_of_ble_eq_true rfl) ml_X12_112 im_X12_compared se_X12_compared rfl rfl rfl (Ev.mono V ?_)
    rintro v sh1 h6 ⟨rfl, Rh6, x7, rfl, V⟩
    show Rn G (d + 1) 0 0 mX12_both 18 [(0, .inr (.inr (some 94))), (1, .inl l1)] [.inl x7] SH h6 (QI Q)
    refine rn_istore_n (L' := [(2, .inl x7), (0, .inr (.inr (some 94))), (1, .inl l1)]) dX12_both_18 rfl (Nat.le_of_ble_eq_true rfl) rfl ?_
    refine rn_iload_n dX12_both_19 rfl rfl ?_
    refine rn_if_eq (tgt := 31) dX12_both_20 (by decide) (fun c8 => ?_) (fun c8 => ?_)
    · replace V := V.1 c8
      refine rn_iconst (v := 0) dX12_both_31 (by decide) ?_
      refine rn_istore_n (L' := [(1, .inl 0), (2, .inl x7), (0, .inr (.inr (some 94)))]) dX12_both_32 rfl (Nat.le_of_ble_eq_true rfl) rfl ?_
      refine rn_goto (tgt := 5) dX12_both_33 (by decide) ?_
      refine rn_sub [2, 0] (L' := [(0, .inr (.inr (some 94))), (1, .inl 0)]) rfl ?_
      exact V
    · replace V := V.2 c8
      refine rn_iload_n dX12_both_23 rfl rfl ?_
      refine rn_if_eq (tgt := 31) dX12_both_24 (by decide) (fun c9 => ?_) (fun c9 => ?_)
      · replace V := V.1 c9
        refine rn_iconst (v := 0) dX12_both_31 (by decide) ?_
        refine rn_istore_n (L' := [(1, .inl 0), (2, .inl x7), (0, .inr (.inr (some 94)))]) dX12_both_32 rfl (Nat.le_of_ble_eq_true rfl) rfl ?_
        refine rn_goto (tgt := 5) dX12_both_33 (by decide) ?_
        refine rn_sub [2, 0] (L' := [(0, .inr (.inr (some 94))), (1, .inl 0)]) rfl ?_
        exact V
      · replace V := V.2 c9
        refine rn_iconst (v := 1) dX12_both_27 (by decide) ?_
        refine rn_goto (tgt := 32) dX12_both_28 (by decide) ?_
        refine rn_istore_n (L' := [(1, .inl 1), (2, .inl x7), (0, .inr (.inr (some 94)))]) dX12_both_32 rfl (Nat.le_of_ble_eq_true rfl) rfl ?_
        refine rn_goto (tgt := 5) dX12_both_33 (by decide) ?_
        refine rn_sub [2, 0] (L' := [(0, .inr (.inr (some 94))), (1, .inl 1)]) rfl ?_
        exact V
set_option maxRecDepth 100000 in
set_option maxHeartbeats 4000000 in
theorem vc_X12_both {G : GT} {d : Nat}   {h : Hp} {Q : Int32 → Hp → Prop} (hR : RF h) (V : EvI G d mX12_compared [.inr (.inr (some 94))] h (fun x2 h1 => Rg_X12_both_5 G d x2 h1 Q)) : EvI G (d + 1) mX12_both [.inr (.inr (some 94))] h Q := by
  refine Ev.of rfl (fun _ => Nat.le_of_ble_eq_true rfl) ?_
  show Rn G (d + 1) 0 0 mX12_both 0 [(0, .inr (.inr (some 94)))] [] SH h (QI Q)
  refine rn_aload_n dX12_both_0 rfl rfl ?_
  refine rn_cV (M' := mX12_compared) (n := 0) (av := []) (S := []) (rc := 0) (rs := 0) (mc := 0) (ms := 0) (a := 94) (ci := 11) (r := (RX12, TX12, 38)) dX12_both_1 pa_X12_compared (Nat.le_refl _) rfl (Nat.le_of_ble_eq_true rfl) ml_X12_112 im_X12_compared se_X12_compared rfl rfl rfl (Ev.mono V ?_)
  rintro v sh1 h1 ⟨rfl, Rh1, x2, rfl, V⟩
  show Rn G (d + 1) 0 0 mX12_both 4 [(0, .inr (.inr (some 94)))] [.inl x2] SH h1 (QI Q)
  refine rn_istore_n (L' := [(1, .inl x2), (0, .inr (.inr (some 94)))]) dX12_both_4 rfl (Nat.le_of_ble_eq_true rfl) rfl ?_
  refine rn_sub [1, 0] (L' := [(0, .inr (.inr (some 94))), (1, .inl x2)]) rfl ?_
  exact V
set_option maxRecDepth 100000 in
set_option maxHeartbeats 4000000 in
theorem vc_X12_compared {G : GT} {d : Nat}   {h : Hp} {Q : Int32 → Hp → Prop} (hR : RF h) (V : EvI G d mX12_sum [.inr (.inr (some 94))] h (fun x2 h1 => EvI G d mX12_here [.inr (.inr (some 94))] h1 (fun x4 h3 => ((x4 = 60 → EvI G d mX12_sum [.inr (.inr (some 94))] (sI h3 94 6 (h3.1 94 6 + 1)) (fun x7 h6 => ((¬ x4 = 60 → ((¬ x4 = 61 → ((x2 ≤ x7 → Q 0 h6) ∧ (¬ x2 ≤ x7 → Q 1 h6))) ∧ (x4 = 61 → ((¬ x2 = x7 → Q 0 h6) ∧ (x2 = x7 → Q 1 h6))))) ∧ (x4 = 60 → ((x7 ≤ x2 → Q 0 h6) ∧ (¬ x7 ≤ x2 → Q 1 h6)))))) ∧ (¬ x4 = 60 → ((x4 = 61 → EvI G d mX12_sum [.inr (.inr (some 94))] (sI h3 94 6 (h3.1 94 6 + 1)) (fun x15 h14 => ((¬ x4 = 60 → ((¬ x4 = 61 → ((x2 ≤ x15 → Q 0 h14) ∧ (¬ x2 ≤ x15 → Q 1 h14))) ∧ (x4 = 61 → ((¬ x2 = x15 → Q 0 h14) ∧ (x2 = x15 → Q 1 h14))))) ∧ (x4 = 60 → ((x15 ≤ x2 → Q 0 h14) ∧ (¬ x15 ≤ x2 → Q 1 h14)))))) ∧ (¬ x4 = 61 → ((x4 = 62 → EvI G d mX12_sum [.inr (.inr (some 94))] (sI h3 94 6 (h3.1 94 6 + 1)) (fun x23 h22 => ((¬ x4 = 60 → ((¬ x4 = 61 → ((x2 ≤ x23 → Q 0 h22) ∧ (¬ x2 ≤ x23 → Q 1 h22))) ∧ (x4 = 61 → ((¬ x2 = x23 → Q 0 h22) ∧ (x2 = x23 → Q 1 h22))))) ∧ (x4 = 60 → ((x23 ≤ x2 → Q 0 h22) ∧ (¬ x23 ≤ x2 → Q 1 h22)))))) ∧ (¬ x4 = 62 → Q x2 h3))))))))) : EvI G (d + 1) mX12_compared [.inr (.inr (some 94))] h Q := by
  refine Ev.of rfl (fun _ => Nat.le_of_ble_eq_true rfl) ?_
  show Rn G (d + 1) 0 0 mX12_compared 0 [(0, .inr (.inr (some 94)))] [] SH h (QI Q)
  refine rn_aload_n dX12_compared_0 rfl rfl ?_
  refine rn_cV (M' := mX12_sum) (n := 0) (av := []) (S := []) (rc := 0) (rs := 0) (mc := 0) (ms := 0) (a := 94) (ci := 11) (r := (RX12, TX12, 38)) dX12_compared_1 pa_X12_sum (Nat.le_refl _) rfl (Nat.le_of_ble_eq_true rfl) ml_X12_115 im_X12_sum se_X12_sum rfl rfl rfl (Ev.mono V ?_)
  rintro v sh1 h1 ⟨rfl, Rh1, x2, rfl, V⟩
  show Rn G (d + 1) 0 0 mX12_compared 4 [(0, .inr (.inr (some 94)))] [.inl x2] SH h1 (QI Q)
  refine rn_istore_n (L' := [(1, .inl x2), (0, .inr (.inr (some 94)))]) dX12_compared_4 rfl (Nat.le_of_ble_eq_true rfl) rfl ?_
  refine rn_aload_n dX12_compared_5 rfl rfl ?_
  refine rn_cV (M' := mX12_here) (n := 0) (av := []) (S := []) (rc := 0) (rs := 0) (mc := 0) (ms := 0) (a := 94) (ci := 11) (r := (RX12, TX12, 38)) dX12_compared_6 pa_X12_here (Nat.le_refl _) rfl (Nat.le_of_ble_eq_true rfl) ml_X12_97 im_X12_here se_X12_here rfl rfl rfl (Ev.mono V ?_)
  rintro v sh1 h3 ⟨rfl, Rh3, x4, rfl, V⟩
  show Rn G (d + 1) 0 0 mX12_compared 9 [(1, .inl x2), (0, .inr (.inr (some 94)))] [.inl x4] SH h3 (QI Q)
  refine rn_istore_n (L' := [(2, .inl x4), (1, .inl x2), (0, .inr (.inr (some 94)))]) dX12_compared_9 rfl (Nat.le_of_ble_eq_true rfl) rfl ?_
  refine rn_iload_n dX12_compared_10 rfl rfl ?_
  refine rn_bipush (v := 60) dX12_compared_11 (by decide) ?_
  refine rn_icmp_eq (tgt := 30) dX12_compared_13 (by decide) (fun c5 => ?_) (fun c5 => ?_)
  · replace V := V.1 c5
    refine rn_aload_n dX12_compared_30 rfl rfl ?_
    refine rn_dup dX12_compared_31 rfl ?_
    refine rn_get (v := .inl (h3.1 94 6)) dX12_compared_32 fl_X12_84 rfl rfl rfl ?_
    refine rn_iconst (v := 1) dX12_compared_35 (by decide) ?_
    refine rn_iadd dX12_compared_36 ?_
    refine rn_putI dX12_compared_37 fl_X12_84 rfl rfl (Or.inl rfl) rfl rfl ?_
    refine rn_aload_n dX12_compared_40 rfl rfl ?_
    refine rn_cV (M' := mX12_sum) (n := 0) (av := []) (S := []) (rc := 0) (rs := 0) (mc := 0) (ms := 0) (a := 94) (ci := 11) (r := (RX12, TX12, 38)) dX12_compared_41 pa_X12_sum (Nat.le_refl _) rfl (Nat.le_of_ble_eq_true rfl) ml_X12_115 im_X12_sum se_X12_sum rfl rfl rfl (Ev.mono V ?_)
    rintro v sh1 h6 ⟨rfl, Rh6, x7, rfl, V⟩
    show Rn G (d + 1) 0 0 mX12_compared 44 [(2, .inl x4), (1, .inl x2), (0, .inr (.inr (some 94)))] [.inl x7] SH h6 (QI Q)
    refine rn_istore_n (L' := [(3, .inl x7), (2, .inl x4), (1, .inl x2), (0, .inr (.inr (some 94)))]) dX12_compared_44 rfl (Nat.le_of_ble_eq_true rfl) rfl ?_
    refine rn_iload_n dX12_compared_45 rfl rfl ?_
    refine rn_bipush (v := 60) dX12_compared_46 (by decide) ?_
    refine rn_icmp_ne (tgt := 59) dX12_compared_48 (by decide) (fun c8 => ?_) (fun c8 => ?_)
    · replace V := V.1 c8
      refine rn_iload_n dX12_compared_59 rfl rfl ?_
      refine rn_bipush (v := 61) dX12_compared_60 (by decide) ?_
      refine rn_icmp_ne (tgt := 73) dX12_compared_62 (by decide) (fun c9 => ?_) (fun c9 => ?_)
      · replace V := V.1 c9
        refine rn_iload_n dX12_compared_73 rfl rfl ?_
        refine rn_iload_n dX12_compared_74 rfl rfl ?_
        refine rn_icmp_le (tgt := 82) dX12_compared_75 (by decide) (fun c10 => ?_) (fun c10 => ?_)
        · replace V := V.1 c10
          refine rn_iconst (v := 0) dX12_compared_82 (by decide) ?_
          exact rn_iret dX12_compared_83 rfl ⟨rfl, Rh6, _, rfl, V⟩
        · replace V := V.2 c10
          refine rn_iconst (v := 1) dX12_compared_78 (by decide) ?_
          refine rn_goto (tgt := 83) dX12_compared_79 (by decide) ?_
          exact rn_iret dX12_compared_83 rfl ⟨rfl, Rh6, _, rfl, V⟩
      · replace V := V.2 c9
        refine rn_iload_n dX12_compared_65 rfl rfl ?_
        refine rn_iload_n dX12_compared_66 rfl rfl ?_
        refine rn_icmp_ne (tgt := 82) dX12_compared_67 (by decide) (fun c11 => ?_) (fun c11 => ?_)
        · replace V := V.1 c11
          refine rn_iconst (v := 0) dX12_compared_82 (by decide) ?_
          exact rn_iret dX12_compared_83 rfl ⟨rfl, Rh6, _, rfl, V⟩
        · replace V := V.2 c11
          refine rn_goto (tgt := 78) dX12_compared_70 (by decide) ?_
          refine rn_iconst (v := 1) dX12_compared_78 (by decide) ?_
          refine rn_goto (tgt := 83) dX12_compared_79 (by decide) ?_
          exact rn_iret dX12_compared_83 rfl ⟨rfl, Rh6, _, rfl, V⟩
    · replace V := V.2 c8
      refine rn_iload_n dX12_compared_51 rfl rfl ?_
      refine rn_iload_n dX12_compared_52 rfl rfl ?_
      refine rn_icmp_ge (tgt := 82) dX12_compared_53 (by decide) (fun c12 => ?_) (fun c12 => ?_)
      · replace V := V.1 c12
        refine rn_iconst (v := 0) dX12_compared_82 (by decide) ?_
        exact rn_iret dX12_compared_83 rfl ⟨rfl, Rh6, _, rfl, V⟩
      · replace V := V.2 c12
        refine rn_goto (tgt := 78) dX12_compared_56 (by decide) ?_
        refine rn_iconst (v := 1) dX12_compared_78 (by decide) ?_
        refine rn_goto (tgt := 83) dX12_compared_79 (by decide) ?_
        exact rn_iret dX12_compared_83 rfl ⟨rfl, Rh6, _, rfl, V⟩
  · replace V := V.2 c5
    refine rn_iload_n dX12_compared_16 rfl rfl ?_
    refine rn_bipush (v := 61) dX12_compared_17 (by decide) ?_
    refine rn_icmp_eq (tgt := 30) dX12_compared_19 (by decide) (fun c13 => ?_) (fun c13 => ?_)
    · replace V := V.1 c13
      refine rn_aload_n dX12_compared_30 rfl rfl ?_
      refine rn_dup dX12_compared_31 rfl ?_
      refine rn_get (v := .inl (h3.1 94 6)) dX12_compared_32 fl_X12_84 rfl rfl rfl ?_
      refine rn_iconst (v := 1) dX12_compared_35 (by decide) ?_
      refine rn_iadd dX12_compared_36 ?_
      refine rn_putI dX12_compared_37 fl_X12_84 rfl rfl (Or.inl rfl) rfl rfl ?_
      refine rn_aload_n dX12_compared_40 rfl rfl ?_
      refine rn_cV (M' := mX12_sum) (n := 0) (av := []) (S := []) (rc := 0) (rs := 0) (mc := 0) (ms := 0) (a := 94) (ci := 11) (r := (RX12, TX12, 38)) dX12_compared_41 pa_X12_sum (Nat.le_refl _) rfl (Nat.le_of_ble_eq_true rfl) ml_X12_115 im_X12_sum se_X12_sum rfl rfl rfl (Ev.mono V ?_)
      rintro v sh1 h14 ⟨rfl, Rh14, x15, rfl, V⟩
      show Rn G (d + 1) 0 0 mX12_compared 44 [(2, .inl x4), (1, .inl x2), (0, .inr (.inr (some 94)))] [.inl x15] SH h14 (QI Q)
      refine rn_istore_n (L' := [(3, .inl x15), (2, .inl x4), (1, .inl x2), (0, .inr (.inr (some 94)))]) dX12_compared_44 rfl (Nat.le_of_ble_eq_true rfl) rfl ?_
      refine rn_iload_n dX12_compared_45 rfl rfl ?_
      refine rn_bipush (v := 60) dX12_compared_46 (by decide) ?_
      refine rn_icmp_ne (tgt := 59) dX12_compared_48 (by decide) (fun c16 => ?_) (fun c16 => ?_)
      · replace V := V.1 c16
        refine rn_iload_n dX12_compared_59 rfl rfl ?_
        refine rn_bipush (v := 61) dX12_compared_60 (by decide) ?_
        refine rn_icmp_ne (tgt := 73) dX12_compared_62 (by decide) (fun c17 => ?_) (fun c17 => ?_)
        · replace V := V.1 c17
          refine rn_iload_n dX12_compared_73 rfl rfl ?_
          refine rn_iload_n dX12_compared_74 rfl rfl ?_
          refine rn_icmp_le (tgt := 82) dX12_compared_75 (by decide) (fun c18 => ?_) (fun c18 => ?_)
          · replace V := V.1 c18
            refine rn_iconst (v := 0) dX12_compared_82 (by decide) ?_
            exact rn_iret dX12_compared_83 rfl ⟨rfl, Rh14, _, rfl, V⟩
          · replace V := V.2 c18
            refine rn_iconst (v := 1) dX12_compared_78 (by decide) ?_
            refine rn_goto (tgt := 83) dX12_compared_79 (by decide) ?_
            exact rn_iret dX12_compared_83 rfl ⟨rfl, Rh14, _, rfl, V⟩
        · replace V := V.2 c17
          refine rn_iload_n dX12_compared_65 rfl rfl ?_
          refine rn_iload_n dX12_compared_66 rfl rfl ?_
          refine rn_icmp_ne (tgt := 82) dX12_compared_67 (by decide) (fun c19 => ?_) (fun c19 => ?_)
          · replace V := V.1 c19
            refine rn_iconst (v := 0) dX12_compared_82 (by decide) ?_
            exact rn_iret dX12_compared_83 rfl ⟨rfl, Rh14, _, rfl, V⟩
          · replace V := V.2 c19
            refine rn_goto (tgt := 78) dX12_compared_70 (by decide) ?_
            refine rn_iconst (v := 1) dX12_compared_78 (by decide) ?_
            refine rn_goto (tgt := 83) dX12_compared_79 (by decide) ?_
            exact rn_iret dX12_compared_83 rfl ⟨rfl, Rh14, _, rfl, V⟩
      · replace V := V.2 c16
        refine rn_iload_n dX12_compared_51 rfl rfl ?_
        refine rn_iload_n dX12_compared_52 rfl rfl ?_
        refine rn_icmp_ge (tgt := 82) dX12_compared_53 (by decide) (fun c20 => ?_) (fun c20 => ?_)
        · replace V := V.1 c20
          refine rn_iconst (v := 0) dX12_compared_82 (by decide) ?_
          exact rn_iret dX12_compared_83 rfl ⟨rfl, Rh14, _, rfl, V⟩
        · replace V := V.2 c20
          refine rn_goto (tgt := 78) dX12_compared_56 (by decide) ?_
          refine rn_iconst (v := 1) dX12_compared_78 (by decide) ?_
          refine rn_goto (tgt := 83) dX12_compared_79 (by decide) ?_
          exact rn_iret dX12_compared_83 rfl ⟨rfl, Rh14, _, rfl, V⟩
    · replace V := V.2 c13
      refine rn_iload_n dX12_compared_22 rfl rfl ?_
      refine rn_bipush (v := 62) dX12_compared_23 (by decide) ?_
      refine rn_icmp_eq (tgt := 30) dX12_compared_25 (by decide) (fun c21 => ?_) (fun c21 => ?_)
      · replace V := V.1 c21
        refine rn_aload_n dX12_compared_30 rfl rfl ?_
        refine rn_dup dX12_compared_31 rfl ?_
        refine rn_get (v := .inl (h3.1 94 6)) dX12_compared_32 fl_X12_84 rfl rfl rfl ?_
        refine rn_iconst (v := 1) dX12_compared_35 (by decide) ?_
        refine rn_iadd dX12_compared_36 ?_
        refine rn_putI dX12_compared_37 fl_X12_84 rfl rfl (Or.inl rfl) rfl rfl ?_
        refine rn_aload_n dX12_compared_40 rfl rfl ?_
        refine rn_cV (M' := mX12_sum) (n := 0) (av := []) (S := []) (rc := 0) (rs := 0) (mc := 0) (ms := 0) (a := 94) (ci := 11) (r := (RX12, TX12, 38)) dX12_compared_41 pa_X12_sum (Nat.le_refl _) rfl (Nat.le_of_ble_eq_true rfl) ml_X12_115 im_X12_sum se_X12_sum rfl rfl rfl (Ev.mono V ?_)
        rintro v sh1 h22 ⟨rfl, Rh22, x23, rfl, V⟩
        show Rn G (d + 1) 0 0 mX12_compared 44 [(2, .inl x4), (1, .inl x2), (0, .inr (.inr (some 94)))] [.inl x23] SH h22 (QI Q)
        refine rn_istore_n (L' := [(3, .inl x23), (2, .inl x4), (1, .inl x2), (0, .inr (.inr (some 94)))]) dX12_compared_44 rfl (Nat.le_of_ble_eq_true rfl) rfl ?_
        refine rn_iload_n dX12_compared_45 rfl rfl ?_
        refine rn_bipush (v := 60) dX12_compared_46 (by decide) ?_
        refine rn_icmp_ne (tgt := 59) dX12_compared_48 (by decide) (fun c24 => ?_) (fun c24 => ?_)
        · replace V := V.1 c24
          refine rn_iload_n dX12_compared_59 rfl rfl ?_
          refine rn_bipush (v := 61) dX12_compared_60 (by decide) ?_
          refine rn_icmp_ne (tgt := 73) dX12_compared_62 (by decide) (fun c25 => ?_) (fun c25 => ?_)
          · replace V := V.1 c25
            refine rn_iload_n dX12_compared_73 rfl rfl ?_
            refine rn_iload_n dX12_compared_74 rfl rfl ?_
            refine rn_icmp_le (tgt := 82) dX12_compared_75 (by decide) (fun c26 => ?_) (fun c26 => ?_)
            · replace V := V.1 c26
              refine rn_iconst (v := 0) dX12_compared_82 (by decide) ?_
              exact rn_iret dX12_compared_83 rfl ⟨rfl, Rh22, _, rfl, V⟩
            · replace V := V.2 c26
              refine rn_iconst (v := 1) dX12_compared_78 (by decide) ?_
              refine rn_goto (tgt := 83) dX12_compared_79 (by decide) ?_
              exact rn_iret dX12_compared_83 rfl ⟨rfl, Rh22, _, rfl, V⟩
          · replace V := V.2 c25
            refine rn_iload_n dX12_compared_65 rfl rfl ?_
            refine rn_iload_n dX12_compared_66 rfl rfl ?_
            refine rn_icmp_ne (tgt := 82) dX12_compared_67 (by decide) (fun c27 => ?_) (fun c27 => ?_)
            · replace V := V.1 c27
              refine rn_iconst (v := 0) dX12_compared_82 (by decide) ?_
              exact rn_iret dX12_compared_83 rfl ⟨rfl, Rh22, _, rfl, V⟩
            · replace V := V.2 c27
              refine rn_goto (tgt := 78) dX12_compared_70 (by decide) ?_
              refine rn_iconst (v := 1) dX12_compared_78 (by decide) ?_
              refine rn_goto (tgt := 83) dX12_compared_79 (by decide) ?_
              exact rn_iret dX12_compared_83 rfl ⟨rfl, Rh22, _, rfl, V⟩
        · replace V := V.2 c24
          refine rn_iload_n dX12_compared_51 rfl rfl ?_
          refine rn_iload_n dX12_compared_52 rfl rfl ?_
          refine rn_icmp_ge (tgt := 82) dX12_compared_53 (by decide) (fun c28 => ?_) (fun c28 => ?_)
          · replace V := V.1 c28
            refine rn_iconst (v := 0) dX12_compared_82 (by decide) ?_
            exact rn_iret dX12_compared_83 rfl ⟨rfl, Rh22, _, rfl, V⟩
          · replace V := V.2 c28
            refine rn_goto (tgt := 78) dX12_compared_56 (by decide) ?_
            refine rn_iconst (v := 1) dX12_compared_78 (by decide) ?_
            refine rn_goto (tgt := 83) dX12_compared_79 (by decide) ?_
            exact rn_iret dX12_compared_83 rfl ⟨rfl, Rh22, _, rfl, V⟩
      · replace V := V.2 c21
        refine rn_iload_n dX12_compared_28 rfl rfl ?_
        exact rn_iret dX12_compared_29 rfl ⟨rfl, Rh3, _, rfl, V⟩
def Rg_X12_sum_5 (G : GT) (d : Nat) (l1 : Int32) (h : Hp) (Q : Int32 → Hp → Prop) : Prop := Rn G (d + 1) 0 0 mX12_sum 5 [(0, .inr (.inr (some 94))), (1, .inl l1)] [] SH h (QI Q)
set_option maxRecDepth 100000 in
set_option maxHeartbeats 4000000 in
theorem vc_X12_sum_5 {G : GT} {d : Nat} {l1 : Int32}  {h : Hp} {Q : Int32 → Hp → Prop} (hR : RF h) (V : EvI G d mX12_here [.inr (.inr (some 94))] h (fun x4 h3 => ((x4 = 43 → EvI G d mX12_here [.inr (.inr (some 94))] h3 (fun x7 h6 => EvI G d mX12_product [.inr (.inr (some 94))] (sI h6 94 6 (h6.1 94 6 + 1)) (fun x9 h8 => ((¬ x7 = 43 → Rg_X12_sum_5 G d (l1 - x9) h8 Q) ∧ (x7 = 43 → Rg_X12_sum_5 G d (l1 + x9) h8 Q))))) ∧ (¬ x4 = 43 → EvI G d mX12_here [.inr (.inr (some 94))] h3 (fun x12 h11 => ((¬ x12 = 45 → Q l1 h11) ∧ (x12 = 45 → EvI G d mX12_here [.inr (.inr (some 94))] h11 (fun x15 h14 => EvI G d mX12_product [.inr (.inr (some 94))] (sI h14 94 6 (h14.1 94 6 + 1)) (fun x17 h16 => ((¬ x15 = 43 → Rg_X12_sum_5 G d (l1 - x17) h16 Q) ∧ (x15 = 43 → Rg_X12_sum_5 G d (l1 + x17) h16 Q))))))))))) : Rg_X12_sum_5 G d l1 h Q := by
  show Rn G (d + 1) 0 0 mX12_sum 5 [(0, .inr (.inr (some 94))), (1, .inl l1)] [] SH h (QI Q)
  refine rn_aload_n dX12_sum_5 rfl rfl ?_
  refine rn_cV (M' := mX12_here) (n := 0) (av := []) (S := []) (rc := 0) (rs := 0) (mc := 0) (ms := 0) (a := 94) (ci := 11) (r := (RX12, TX12, 38)) dX12_sum_6 pa_X12_here (Nat.le_refl _) rfl (Nat.le_of_ble_eq_true rfl) ml_X12_97 im_X12_here se_X12_here rfl rfl rfl (Ev.mono V ?_)
  rintro v sh1 h3 ⟨rfl, Rh3, x4, rfl, V⟩
  show Rn G (d + 1) 0 0 mX12_sum 9 [(0, .inr (.inr (some 94))), (1, .inl l1)] [.inl x4] SH h3 (QI Q)
  refine rn_bipush (v := 43) dX12_sum_9 (by decide) ?_
  refine rn_icmp_eq (tgt := 23) dX12_sum_11 (by decide) (fun c5 => ?_) (fun c5 => ?_)
  · replace V := V.1 c5
    refine rn_aload_n dX12_sum_23 rfl rfl ?_
    refine rn_cV (M' := mX12_here) (n := 0) (av := []) (S := []) (rc := 0) (rs := 0) (mc := 0) (ms := 0) (a := 94) (ci := 11) (r := (RX12, TX12, 38)) dX12_sum_24 pa_X12_here (Nat.le_refl _) rfl (Nat.le_of_ble_eq_true rfl) ml_X12_97 im_X12_here se_X12_here rfl rfl rfl (Ev.mono V ?_)
    rintro v sh1 h6 ⟨rfl, Rh6, x7, rfl, V⟩
    show Rn G (d + 1) 0 0 mX12_sum 27 [(0, .inr (.inr (some 94))), (1, .inl l1)] [.inl x7] SH h6 (QI Q)
    refine rn_istore_n (L' := [(2, .inl x7), (0, .inr (.inr (some 94))), (1, .inl l1)]) dX12_sum_27 rfl (Nat.le_of_ble_eq_true rfl) rfl ?_
    refine rn_aload_n dX12_sum_28 rfl rfl ?_
    refine rn_dup dX12_sum_29 rfl ?_
    refine rn_get (v := .inl (h6.1 94 6)) dX12_sum_30 fl_X12_84 rfl rfl rfl ?_
    refine rn_iconst (v := 1) dX12_sum_33 (by decide) ?_
    refine rn_iadd dX12_sum_34 ?_
    refine rn_putI dX12_sum_35 fl_X12_84 rfl rfl (Or.inl rfl) rfl rfl ?_
    refine rn_aload_n dX12_sum_38 rfl rfl ?_
    refine rn_cV (M' := mX12_product) (n := 0) (av := []) (S := []) (rc := 0) (rs := 0) (mc := 0) (ms := 0) (a := 94) (ci := 11) (r := (RX12, TX12, 38)) dX12_sum_39 pa_X12_product (Nat.le_refl _) rfl (Nat.le_of_ble_eq_true rfl) ml_X12_118 im_X12_product se_X12_product rfl rfl rfl (Ev.mono V ?_)
    rintro v sh1 h8 ⟨rfl, Rh8, x9, rfl, V⟩
    show Rn G (d + 1) 0 0 mX12_sum 42 [(2, .inl x7), (0, .inr (.inr (some 94))), (1, .inl l1)] [.inl x9] SH h8 (QI Q)
    refine rn_istore_n (L' := [(3, .inl x9), (2, .inl x7), (0, .inr (.inr (some 94))), (1, .inl l1)]) dX12_sum_42 rfl (Nat.le_of_ble_eq_true rfl) rfl ?_
    refine rn_iload_n dX12_sum_43 rfl rfl ?_
    refine rn_bipush (v := 43) dX12_sum_44 (by decide) ?_
    refine rn_icmp_ne (tgt := 55) dX12_sum_46 (by decide) (fun c10 => ?_) (fun c10 => ?_)
    · replace V := V.1 c10
      refine rn_iload_n dX12_sum_55 rfl rfl ?_
      refine rn_iload_n dX12_sum_56 rfl rfl ?_
      refine rn_isub dX12_sum_57 ?_
      refine rn_istore_n (L' := [(1, .inl (l1 - x9)), (3, .inl x9), (2, .inl x7), (0, .inr (.inr (some 94)))]) dX12_sum_58 rfl (Nat.le_of_ble_eq_true rfl) rfl ?_
      refine rn_goto (tgt := 5) dX12_sum_59 (by decide) ?_
      refine rn_sub [3, 0] (L' := [(0, .inr (.inr (some 94))), (1, .inl (l1 - x9))]) rfl ?_
      exact V
    · replace V := V.2 c10
      refine rn_iload_n dX12_sum_49 rfl rfl ?_
      refine rn_iload_n dX12_sum_50 rfl rfl ?_
      refine rn_iadd dX12_sum_51 ?_
      refine rn_goto (tgt := 58) dX12_sum_52 (by decide) ?_
      refine rn_istore_n (L' := [(1, .inl (l1 + x9)), (3, .inl x9), (2, .inl x7), (0, .inr (.inr (some 94)))]) dX12_sum_58 rfl (Nat.le_of_ble_eq_true rfl) rfl ?_
      refine rn_goto (tgt := 5) dX12_sum_59 (by decide) ?_
      refine rn_sub [3, 0] (L' := [(0, .inr (.inr (some 94))), (1, .inl (l1 + x9))]) rfl ?_
      exact V
  · replace V := V.2 c5
    refine rn_aload_n dX12_sum_14 rfl rfl ?_
    refine rn_cV (M' := mX12_here) (n := 0) (av := []) (S := []) (rc := 0) (rs := 0) (mc := 0) (ms := 0) (a := 94) (ci := 11) (r := (RX12, TX12, 38)) dX12_sum_15 pa_X12_here (Nat.le_refl _) rfl (Nat.le_of_ble_eq_true rfl) ml_X12_97 im_X12_here se_X12_here rfl rfl rfl (Ev.mono V ?_)
    rintro v sh1 h11 ⟨rfl, Rh11, x12, rfl, V⟩
    show Rn G (d + 1) 0 0 mX12_sum 18 [(0, .inr (.inr (some 94))), (1, .inl l1)] [.inl x12] SH h11 (QI Q)
    refine rn_bipush (v := 45) dX12_sum_18 (by decide) ?_
    refine rn_icmp_ne (tgt := 62) dX12_sum_20 (by decide) (fun c13 => ?_) (fun c13 => ?_)
    · replace V := V.1 c13
      refine rn_iload_n dX12_sum_62 rfl rfl ?_
      exact rn_iret dX12_sum_63 rfl ⟨rfl, Rh11, _, rfl, V⟩
    · replace V := V.2 c13
      refine rn_aload_n dX12_sum_23 rfl rfl ?_
      refine rn_cV (M' := mX12_here) (n := 0) (av := []) (S := []) (rc := 0) (rs := 0) (mc := 0) (ms := 0) (a := 94) (ci := 11) (r := (RX12, TX12, 38)) dX12_sum_24 pa_X12_here (Nat.le_refl _) rfl (Nat.le_of_ble_eq_true rfl) ml_X12_97 im_X12_here se_X12_here rfl rfl rfl (Ev.mono V ?_)
      rintro v sh1 h14 ⟨rfl, Rh14, x15, rfl, V⟩
      show Rn G (d + 1) 0 0 mX12_sum 27 [(0, .inr (.inr (some 94))), (1, .inl l1)] [.inl x15] SH h14 (QI Q)
      refine rn_istore_n (L' := [(2, .inl x15), (0, .inr (.inr (some 94))), (1, .inl l1)]) dX12_sum_27 rfl (Nat.le_of_ble_eq_true rfl) rfl ?_
      refine rn_aload_n dX12_sum_28 rfl rfl ?_
      refine rn_dup dX12_sum_29 rfl ?_
      refine rn_get (v := .inl (h14.1 94 6)) dX12_sum_30 fl_X12_84 rfl rfl rfl ?_
      refine rn_iconst (v := 1) dX12_sum_33 (by decide) ?_
      refine rn_iadd dX12_sum_34 ?_
      refine rn_putI dX12_sum_35 fl_X12_84 rfl rfl (Or.inl rfl) rfl rfl ?_
      refine rn_aload_n dX12_sum_38 rfl rfl ?_
      refine rn_cV (M' := mX12_product) (n := 0) (av := []) (S := []) (rc := 0) (rs := 0) (mc := 0) (ms := 0) (a := 94) (ci := 11) (r := (RX12, TX12, 38)) dX12_sum_39 pa_X12_product (Nat.le_refl _) rfl (Nat.le_of_ble_eq_true rfl) ml_X12_118 im_X12_product se_X12_product rfl rfl rfl (Ev.mono V ?_)
      rintro v sh1 h16 ⟨rfl, Rh16, x17, rfl, V⟩
      show Rn G (d + 1) 0 0 mX12_sum 42 [(2, .inl x15), (0, .inr (.inr (some 94))), (1, .inl l1)] [.inl x17] SH h16 (QI Q)
      refine rn_istore_n (L' := [(3, .inl x17), (2, .inl x15), (0, .inr (.inr (some 94))), (1, .inl l1)]) dX12_sum_42 rfl (Nat.le_of_ble_eq_true rfl) rfl ?_
      refine rn_iload_n dX12_sum_43 rfl rfl ?_
      refine rn_bipush (v := 43) dX12_sum_44 (by decide) ?_
      refine rn_icmp_ne (tgt := 55) dX12_sum_46 (by decide) (fun c18 => ?_) (fun c18 => ?_)
      · replace V := V.1 c18
        refine rn_iload_n dX12_sum_55 rfl rfl ?_
        refine rn_iload_n dX12_sum_56 rfl rfl ?_
        refine rn_isub dX12_sum_57 ?_
        refine rn_istore_n (L' := [(1, .inl (l1 - x17)), (3, .inl x17), (2, .inl x15), (0, .inr (.inr (some 94)))]) dX12_sum_58 rfl (Nat.le_of_ble_eq_true rfl) rfl ?_
        refine rn_goto (tgt := 5) dX12_sum_59 (by decide) ?_
        refine rn_sub [3, 0] (L' := [(0, .inr (.inr (some 94))), (1, .inl (l1 - x17))]) rfl ?_
        exact V
      · replace V := V.2 c18
        refine rn_iload_n dX12_sum_49 rfl rfl ?_
        refine rn_iload_n dX12_sum_50 rfl rfl ?_
        refine rn_iadd dX12_sum_51 ?_
        refine rn_goto (tgt := 58) dX12_sum_52 (by decide) ?_
        refine rn_istore_n (L' := [(1, .inl (l1 + x17)), (3, .inl x17), (2, .inl x15), (0, .inr (.inr (some 94)))]) dX12_sum_58 rfl (Nat.le_of_ble_eq_true rfl) rfl ?_
        refine rn_goto (tgt := 5) dX12_sum_59 (by decide) ?_
        refine rn_sub [3, 0] (L' := [(0, .inr (.inr (some 94))), (1, .inl (l1 + x17))]) rfl ?_
        exact V
set_option maxRecDepth 100000 in
set_option maxHeartbeats 4000000 in
theorem vc_X12_sum {G : GT} {d : Nat}   {h : Hp} {Q : Int32 → Hp → Prop} (hR : RF h) (V : EvI G d mX12_product [.inr (.inr (some 94))] h (fun x2 h1 => Rg_X12_sum_5 G d x2 h1 Q)) : EvI G (d + 1) mX12_sum [.inr (.inr (some 94))] h Q := by
  refine Ev.of rfl (fun _ => Nat.le_of_ble_eq_true rfl) ?_
  show Rn G (d + 1) 0 0 mX12_sum 0 [(0, .inr (.inr (some 94)))] [] SH h (QI Q)
  refine rn_aload_n dX12_sum_0 rfl rfl ?_
  refine rn_cV (M' := mX12_product) (n := 0) (av := []) (S := []) (rc := 0) (rs := 0) (mc := 0) (ms := 0) (a := 94) (ci := 11) (r := (RX12, TX12, 38)) dX12_sum_1 pa_X12_product (Nat.le_refl _) rfl (Nat.le_of_ble_eq_true rfl) ml_X12_118 im_X12_product se_X12_product rfl rfl rfl (Ev.mono V ?_)
  rintro v sh1 h1 ⟨rfl, Rh1, x2, rfl, V⟩
  show Rn G (d + 1) 0 0 mX12_sum 4 [(0, .inr (.inr (some 94)))] [.inl x2] SH h1 (QI Q)
  refine rn_istore_n (L' := [(1, .inl x2), (0, .inr (.inr (some 94)))]) dX12_sum_4 rfl (Nat.le_of_ble_eq_true rfl) rfl ?_
  refine rn_sub [1, 0] (L' := [(0, .inr (.inr (some 94))), (1, .inl x2)]) rfl ?_
  exact V
def Rg_X12_product_5 (G : GT) (d : Nat) (l1 : Int32) (h : Hp) (Q : Int32 → Hp → Prop) : Prop := Rn G (d + 1) 0 0 mX12_product 5 [(0, .inr (.inr (some 94))), (1, .inl l1)] [] SH h (QI Q)
set_option maxRecDepth 100000 in
set_option maxHeartbeats 4000000 in
theorem vc_X12_product_5 {G : GT} {d : Nat} {l1 : Int32}  {h : Hp} {Q : Int32 → Hp → Prop} (hR : RF h) (V : EvI G d mX12_here [.inr (.inr (some 94))] h (fun x4 h3 => ((x4 = 42 → EvI G d mX12_here [.inr (.inr (some 94))] h3 (fun x7 h6 => EvI G d mX12_unit [.inr (.inr (some 94))] (sI h6 94 6 (h6.1 94 6 + 1)) (fun x9 h8 => ((¬ x7 = 42 → ((¬ x9 = 0 → ((¬ x7 = 47 → ¬ x9 = 0 ∧ Rg_X12_product_5 G d (l1 - l1 / x9 * x9) h8 Q) ∧ (x7 = 47 → ¬ x9 = 0 ∧ Rg_X12_product_5 G d (l1 / x9) h8 Q))) ∧ (x9 = 0 → Rg_X12_product_5 G d 0 h8 Q))) ∧ (x7 = 42 → Rg_X12_product_5 G d (l1 * x9) h8 Q))))) ∧ (¬ x4 = 42 → EvI G d mX12_here [.inr (.inr (some 94))] h3 (fun x14 h13 => ((x14 = 47 → EvI G d mX12_here [.inr (.inr (some 94))] h13 (fun x17 h16 => EvI G d mX12_unit [.inr (.inr (some 94))] (sI h16 94 6 (h16.1 94 6 + 1)) (fun x19 h18 => ((¬ x17 = 42 → ((¬ x19 = 0 → ((¬ x17 = 47 → ¬ x19 = 0 ∧ Rg_X12_product_5 G d (l1 - l1 / x19 * x19) h18 Q) ∧ (x17 = 47 → ¬ x19 = 0 ∧ Rg_X12_product_5 G d (l1 / x19) h18 Q))) ∧ (x19 = 0 → Rg_X12_product_5 G d 0 h18 Q))) ∧ (x17 = 42 → Rg_X12_product_5 G d (l1 * x19) h18 Q))))) ∧ (¬ x14 = 47 → EvI G d mX12_here [.inr (.inr (some 94))] h13 (fun x24 h23 => ((¬ x24 = 37 → Q l1 h23) ∧ (x24 = 37 → EvI G d mX12_here [.inr (.inr (some 94))] h23 (fun x27 h26 => EvI G d mX12_unit [.inr (.inr (some 94))] (sI h26 94 6 (h26.1 94 6 + 1)) (fun x29 h28 => ((¬ x27 = 42 → ((¬ x29 = 0 → ((¬ x27 = 47 → ¬ x29 = 0 ∧ Rg_X12_product_5 G d (l1 - l1 / x29 * x29) h28 Q) ∧ (x27 = 47 → ¬ x29 = 0 ∧ Rg_X12_product_5 G d (l1 / x29) h28 Q))) ∧ (x29 = 0 → Rg_X12_product_5 G d 0 h28 Q))) ∧ (x27 = 42 → Rg_X12_product_5 G d (l1 * x29) h28 Q)))))))))))))) : Rg_X12_product_5 G d l1 h Q := by
  show Rn G (d + 1) 0 0 mX12_product 5 [(0, .inr (.inr (some 94))), (1, .inl l1)] [] SH h (QI Q)
  refine rn_aload_n dX12_product_5 rfl rfl ?_
  refine rn_cV (M' := mX12_here) (n := 0) (av := []) (S := []) (rc := 0) (rs := 0) (mc := 0) (ms := 0) (a := 94) (ci := 11) (r := (RX12, TX12, 38)) dX12_product_6 pa_X12_here (Nat.le_refl _) rfl (Nat.le_of_ble_eq_true rfl) ml_X12_97 im_X12_here se_X12_here rfl rfl rfl (Ev.mono V ?_)
  rintro v sh1 h3 ⟨rfl, Rh3, x4, rfl, V⟩
  show Rn G (d + 1) 0 0 mX12_product 9 [(0, .inr (.inr (some 94))), (1, .inl l1)] [.inl x4] SH h3 (QI Q)
  refine rn_bipush (v := 42) dX12_product_9 (by decide) ?_
  refine rn_icmp_eq (tgt := 32) dX12_product_11 (by decide) (fun c5 => ?_) (fun c5 => ?_)
  · replace V := V.1 c5
    refine rn_aload_n dX12_product_32 rfl rfl ?_
    refine rn_cV (M' := mX12_here) (n := 0) (av := []) (S := []) (rc := 0) (rs := 0) (mc := 0) (ms := 0) (a := 94) (ci := 11) (r := (RX12, TX12, 38)) dX12_product_33 pa_X12_here (Nat.le_refl _) rfl (Nat.le_of_ble_eq_true rfl) ml_X12_97 im_X12_here se_X12_here rfl rfl rfl (Ev.mono V ?_)
    rintro v sh1 h6 ⟨rfl, Rh6, x7, rfl, V⟩
    show Rn G (d + 1) 0 0 mX12_product 36 [(0, .inr (.inr (some 94))), (1, .inl l1)] [.inl x7] SH h6 (QI Q)
    refine rn_istore_n (L' := [(2, .inl x7), (0, .inr (.inr (some 94))), (1, .inl l1)]) dX12_product_36 rfl (Nat.le_of_ble_eq_true rfl) rfl ?_
    refine rn_aload_n dX12_product_37 rfl rfl ?_
    refine rn_dup dX12_product_38 rfl ?_
    refine rn_get (v := .inl (h6.1 94 6)) dX12_product_39 fl_X12_84 rfl rfl rfl ?_
    refine rn_iconst (v := 1) dX12_product_42 (by decide) ?_
    refine rn_iadd dX12_product_43 ?_
    refine rn_putI dX12_product_44 fl_X12_84 rfl rfl (Or.inl rfl) rfl rfl ?_
    refine rn_aload_n dX12_product_47 rfl rfl ?_
    refine rn_cV (M' := mX12_unit) (n := 0) (av := []) (S := []) (rc := 0) (rs := 0) (mc := 0) (ms := 0) (a := 94) (ci := 11) (r := (RX12, TX12, 38)) dX12_product_48 pa_X12_unit (Nat.le_refl _) rfl (Nat.le_of_ble_eq_true rfl) ml_X12_121 im_X12_unit se_X12_unit rfl rfl rfl (Ev.mono V ?_)
    rintro v sh1 h8 ⟨rfl, Rh8, x9, rfl, V⟩
    show Rn G (d + 1) 0 0 mX12_product 51 [(2, .inl x7), (0, .inr (.inr (some 94))), (1, .inl l1)] [.inl x9] SH h8 (QI Q)
    refine rn_istore_n (L' := [(3, .inl x9), (2, .inl x7), (0, .inr (.inr (some 94))), (1, .inl l1)]) dX12_product_51 rfl (Nat.le_of_ble_eq_true rfl) rfl ?_
    refine rn_iload_n dX12_product_52 rfl rfl ?_
    refine rn_bipush (v := 42) dX12_product_53 (by decide) ?_
    refine rn_icmp_ne (tgt := 64) dX12_product_55 (by decide) (fun c10 => ?_) (fun c10 => ?_)
    · replace V := V.1 c10
      refine rn_iload_n dX12_product_64 rfl rfl ?_
      refine rn_if_ne (tgt := 72) dX12_product_65 (by decide) (fun c11 => ?_) (fun c11 => ?_)
      · replace V := V.1 c11
        refine rn_iload_n dX12_product_72 rfl rfl ?_
        refine rn_bipush (v := 47) dX12_product_73 (by decide) ?_
        refine rn_icmp_ne (tgt := 84) dX12_product_75 (by decide) (fun c12 => ?_) (fun c12 => ?_)
        · replace V := V.1 c12
          refine rn_iload_n dX12_product_84 rfl rfl ?_
          refine rn_iload_n dX12_product_85 rfl rfl ?_
          obtain ⟨g, V⟩ := V
          refine rn_irem dX12_product_86 g ?_
          refine rn_istore_n (L' := [(1, .inl (l1 - l1 / x9 * x9)), (3, .inl x9), (2, .inl x7), (0, .inr (.inr (some 94)))]) dX12_product_87 rfl (Nat.le_of_ble_eq_true rfl) rfl ?_
          refine rn_goto (tgt := 5) dX12_product_88 (by decide) ?_
          refine rn_sub [3, 0] (L' := [(0, .inr (.inr (some 94))), (1, .inl (l1 - l1 / x9 * x9))]) rfl ?_
          exact V
        · replace V := V.2 c12
          refine rn_iload_n dX12_product_78 rfl rfl ?_
          refine rn_iload_n dX12_product_79 rfl rfl ?_
          obtain ⟨g, V⟩ := V
          refine rn_idiv dX12_product_80 g ?_
          refine rn_goto (tgt := 87) dX12_product_81 (by decide) ?_
          refine rn_istore_n (L' := [(1, .inl (l1 / x9)), (3, .inl x9), (2, .inl x7), (0, .inr (.inr (some 94)))]) dX12_product_87 rfl (Nat.le_of_ble_eq_true rfl) rfl ?_
          refine rn_goto (tgt := 5) dX12_product_88 (by decide) ?_
          refine rn_sub [3, 0] (L' := [(0, .inr (.inr (some 94))), (1, .inl (l1 / x9))]) rfl ?_
          exact V
      · replace V := V.2 c11
        refine rn_iconst (v := 0) dX12_product_68 (by decide) ?_
        refine rn_goto (tgt := 87) dX12_product_69 (by decide) ?_
        refine rn_istore_n (L' := [(1, .inl 0), (3, .inl x9), (2, .inl x7), (0, .inr (.inr (some 94)))]) dX12_product_87 rfl (Nat.le_of_ble_eq_true rfl) rfl ?_
        refine rn_goto (tgt := 5) dX12_product_88 (by decide) ?_
        refine rn_sub [3, 0] (L' := [(0, .inr (.inr (some 94))), (1, .inl 0)]) rfl ?_
        exact V
    · replace V := V.2 c10
      refine rn_iload_n dX12_product_58 rfl rfl ?_
      refine rn_iload_n dX12_product_59 rfl rfl ?_
      refine rn_imul dX12_product_60 ?_
      refine rn_goto (tgt := 87) dX12_product_61 (by decide) ?_
      refine rn_istore_n (L' := [(1, .inl (l1 * x9)), (3, .inl x9), (2, .inl x7), (0, .inr (.inr (some 94)))]) dX12_product_87 rfl (Nat.le_of_ble_eq_true rfl) rfl ?_
      refine rn_goto (tgt := 5) dX12_product_88 (by decide) ?_
      refine rn_sub [3, 0] (L' := [(0, .inr (.inr (some 94))), (1, .inl (l1 * x9))]) rfl ?_
      exact V
  · replace V := V.2 c5
    refine rn_aload_n dX12_product_14 rfl rfl ?_
    refine rn_cV (M' := mX12_here) (n := 0) (av := []) (S := []) (rc := 0) (rs := 0) (mc := 0) (ms := 0) (a := 94) (ci := 11) (r := (RX12, TX12, 38)) dX12_product_15 pa_X12_here (Nat.le_refl _) rfl (Nat.le_of_ble_eq_true rfl) ml_X12_97 im_X12_here se_X12_here rfl rfl rfl (Ev.mono V ?_)
    rintro v sh1 h13 ⟨rfl, Rh13, x14, rfl, V⟩
    show Rn G (d + 1) 0 0 mX12_product 18 [(0, .inr (.inr (some 94))), (1, .inl l1)] [.inl x14] SH h13 (QI Q)
    refine rn_bipush (v := 47) dX12_product_18 (by decide) ?_
    refine rn_icmp_eq (tgt := 32) dX12_product_20 (by decide) (fun c15 => ?_) (fun c15 => ?_)
    · replace V := V.1 c15
      refine rn_aload_n dX12_product_32 rfl rfl ?_
      refine rn_cV (M' := mX12_here) (n := 0) (av := []) (S := []) (rc := 0) (rs := 0) (mc := 0) (ms := 0) (a := 94) (ci := 11) (r := (RX12, TX12, 38)) dX12_product_33 pa_X12_here (Nat.le_refl _) rfl (Nat.le_of_ble_eq_true rfl) ml_X12_97 im_X12_here se_X12_here rfl rfl rfl (Ev.mono V ?_)
      rintro v sh1 h16 ⟨rfl, Rh16, x17, rfl, V⟩
      show Rn G (d + 1) 0 0 mX12_product 36 [(0, .inr (.inr (some 94))), (1, .inl l1)] [.inl x17] SH h16 (QI Q)
      refine rn_istore_n (L' := [(2, .inl x17), (0, .inr (.inr (some 94))), (1, .inl l1)]) dX12_product_36 rfl (Nat.le_of_ble_eq_true rfl) rfl ?_
      refine rn_aload_n dX12_product_37 rfl rfl ?_
      refine rn_dup dX12_product_38 rfl ?_
      refine rn_get (v := .inl (h16.1 94 6)) dX12_product_39 fl_X12_84 rfl rfl rfl ?_
      refine rn_iconst (v := 1) dX12_product_42 (by decide) ?_
      refine rn_iadd dX12_product_43 ?_
      refine rn_putI dX12_product_44 fl_X12_84 rfl rfl (Or.inl rfl) rfl rfl ?_
      refine rn_aload_n dX12_product_47 rfl rfl ?_
      refine rn_cV (M' := mX12_unit) (n := 0) (av := []) (S := []) (rc := 0) (rs := 0) (mc := 0) (ms := 0) (a := 94) (ci := 11) (r := (RX12, TX12, 38)) dX12_product_48 pa_X12_unit (Nat.le_refl _) rfl (Nat.le_of_ble_eq_true rfl) ml_X12_121 im_X12_unit se_X12_unit rfl rfl rfl (Ev.mono V ?_)
      rintro v sh1 h18 ⟨rfl, Rh18, x19, rfl, V⟩
      show Rn G (d + 1) 0 0 mX12_product 51 [(2, .inl x17), (0, .inr (.inr (some 94))), (1, .inl l1)] [.inl x19] SH h18 (QI Q)
      refine rn_istore_n (L' := [(3, .inl x19), (2, .inl x17), (0, .inr (.inr (some 94))), (1, .inl l1)]) dX12_product_51 rfl (Nat.le_of_ble_eq_true rfl) rfl ?_
      refine rn_iload_n dX12_product_52 rfl rfl ?_
      refine rn_bipush (v := 42) dX12_product_53 (by decide) ?_
      refine rn_icmp_ne (tgt := 64) dX12_product_55 (by decide) (fun c20 => ?_) (fun c20 => ?_)
      · replace V := V.1 c20
        refine rn_iload_n dX12_product_64 rfl rfl ?_
        refine rn_if_ne (tgt := 72) dX12_product_65 (by decide) (fun c21 => ?_) (fun c21 => ?_)
        · replace V := V.1 c21
          refine rn_iload_n dX12_product_72 rfl rfl ?_
          refine rn_bipush (v := 47) dX12_product_73 (by decide) ?_
          refine rn_icmp_ne (tgt := 84) dX12_product_75 (by decide) (fun c22 => ?_) (fun c22 => ?_)
          · replace V := V.1 c22
            refine rn_iload_n dX12_product_84 rfl rfl ?_
            refine rn_iload_n dX12_product_85 rfl rfl ?_
            obtain ⟨g, V⟩ := V
            refine rn_irem dX12_product_86 g ?_
            refine rn_istore_n (L' := [(1, .inl (l1 - l1 / x19 * x19)), (3, .inl x19), (2, .inl x17), (0, .inr (.inr (some 94)))]) dX12_product_87 rfl (Nat.le_of_ble_eq_true rfl) rfl ?_
            refine rn_goto (tgt := 5) dX12_product_88 (by decide) ?_
            refine rn_sub [3, 0] (L' := [(0, .inr (.inr (some 94))), (1, .inl (l1 - l1 / x19 * x19))]) rfl ?_
            exact V
          · replace V := V.2 c22
            refine rn_iload_n dX12_product_78 rfl rfl ?_
            refine rn_iload_n dX12_product_79 rfl rfl ?_
            obtain ⟨g, V⟩ := V
            refine rn_idiv dX12_product_80 g ?_
            refine rn_goto (tgt := 87) dX12_product_81 (by decide) ?_
            refine rn_istore_n (L' := [(1, .inl (l1 / x19)), (3, .inl x19), (2, .inl x17), (0, .inr (.inr (some 94)))]) dX12_product_87 rfl (Nat.le_of_ble_eq_true rfl) rfl ?_
            refine rn_goto (tgt := 5) dX12_product_88 (by decide) ?_
            refine rn_sub [3, 0] (L' := [(0, .inr (.inr (some 94))), (1, .inl (l1 / x19))]) rfl ?_
            exact V
        · replace V := V.2 c21
          refine rn_iconst (v := 0) dX12_product_68 (by decide) ?_
          refine rn_goto (tgt := 87) dX12_product_69 (by decide) ?_
          refine rn_istore_n (L' := [(1, .inl 0), (3, .inl x19), (2, .inl x17), (0, .inr (.inr (some 94)))]) dX12_product_87 rfl (Nat.le_of_ble_eq_true rfl) rfl ?_
          refine rn_goto (tgt := 5) dX12_product_88 (by decide) ?_
          refine rn_sub [3, 0] (L' := [(0, .inr (.inr (some 94))), (1, .inl 0)]) rfl ?_
          exact V
      · replace V := V.2 c20
        refine rn_iload_n dX12_product_58 rfl rfl ?_
        refine rn_iload_n dX12_product_59 rfl rfl ?_
        refine rn_imul dX12_product_60 ?_
        refine rn_goto (tgt := 87) dX12_product_61 (by decide) ?_
        refine rn_istore_n (L' := [(1, .inl (l1 * x19)), (3, .inl x19), (2, .inl x17), (0, .inr (.inr (some 94)))]) dX12_product_87 rfl (Nat.le_of_ble_eq_true rfl) rfl ?_
        refine rn_goto (tgt := 5) dX12_product_88 (by decide) ?_
        refine rn_sub [3, 0] (L' := [(0, .inr (.inr (some 94))), (1, .inl (l1 * x19))]) rfl ?_
        exact V
    · replace V := V.2 c15
      refine rn_aload_n dX12_product_23 rfl rfl ?_
      refine rn_cV (M' := mX12_here) (n := 0) (av := []) (S := []) (rc := 0) (rs := 0) (mc := 0) (ms := 0) (a := 94) (ci := 11) (r := (RX12, TX12, 38)) dX12_product_24 pa_X12_here (Nat.le_refl _) rfl (Nat.le_of_ble_eq_true rfl) ml_X12_97 im_X12_here se_X12_here rfl rfl rfl (Ev.mono V ?_)
      rintro v sh1 h23 ⟨rfl, Rh23, x24, rfl, V⟩
      show Rn G (d + 1) 0 0 mX12_product 27 [(0, .inr (.inr (some 94))), (1, .inl l1)] [.inl x24] SH h23 (QI Q)
      refine rn_bipush (v := 37) dX12_product_27 (by decide) ?_
      refine rn_icmp_ne (tgt := 91) dX12_product_29 (by decide) (fun c25 => ?_) (fun c25 => ?_)
      · replace V := V.1 c25
        refine rn_iload_n dX12_product_91 rfl rfl ?_
        exact rn_iret dX12_product_92 rfl ⟨rfl, Rh23, _, rfl, V⟩
      · replace V := V.2 c25
        refine rn_aload_n dX12_product_32 rfl rfl ?_
        refine rn_cV (M' := mX12_here) (n := 0) (av := []) (S := []) (rc := 0) (rs := 0) (mc := 0) (ms := 0) (a := 94) (ci := 11) (r := (RX12, TX12, 38)) dX12_product_33 pa_X12_here (Nat.le_refl _) rfl (Nat.le_of_ble_eq_true rfl) ml_X12_97 im_X12_here se_X12_here rfl rfl rfl (Ev.mono V ?_)
        rintro v sh1 h26 ⟨rfl, Rh26, x27, rfl, V⟩
        show Rn G (d + 1) 0 0 mX12_product 36 [(0, .inr (.inr (some 94))), (1, .inl l1)] [.inl x27] SH h26 (QI Q)
        refine rn_istore_n (L' := [(2, .inl x27), (0, .inr (.inr (some 94))), (1, .inl l1)]) dX12_product_36 rfl (Nat.le_of_ble_eq_true rfl) rfl ?_
        refine rn_aload_n dX12_product_37 rfl rfl ?_
        refine rn_dup dX12_product_38 rfl ?_
        refine rn_get (v := .inl (h26.1 94 6)) dX12_product_39 fl_X12_84 rfl rfl rfl ?_
        refine rn_iconst (v := 1) dX12_product_42 (by decide) ?_
        refine rn_iadd dX12_product_43 ?_
        refine rn_putI dX12_product_44 fl_X12_84 rfl rfl (Or.inl rfl) rfl rfl ?_
        refine rn_aload_n dX12_product_47 rfl rfl ?_
        refine rn_cV (M' := mX12_unit) (n := 0) (av := []) (S := []) (rc := 0) (rs := 0) (mc := 0) (ms := 0) (a := 94) (ci := 11) (r := (RX12, TX12, 38)) dX12_product_48 pa_X12_unit (Nat.le_refl _) rfl (Nat.le_of_ble_eq_true rfl) ml_X12_121 im_X12_unit se_X12_unit rfl rfl rfl (Ev.mono V ?_)
        rintro v sh1 h28 ⟨rfl, Rh28, x29, rfl, V⟩
        show Rn G (d + 1) 0 0 mX12_product 51 [(2, .inl x27), (0, .inr (.inr (some 94))), (1, .inl l1)] [.inl x29] SH h28 (QI Q)
        refine rn_istore_n (L' := [(3, .inl x29), (2, .inl x27), (0, .inr (.inr (some 94))), (1, .inl l1)]) dX12_product_51 rfl (Nat.le_of_ble_eq_true rfl) rfl ?_
        refine rn_iload_n dX12_product_52 rfl rfl ?_
        refine rn_bipush (v := 42) dX12_product_53 (by decide) ?_
        refine rn_icmp_ne (tgt := 64) dX12_product_55 (by decide) (fun c30 => ?_) (fun c30 => ?_)
        · replace V := V.1 c30
          refine rn_iload_n dX12_product_64 rfl rfl ?_
          refine rn_if_ne (tgt := 72) dX12_product_65 (by decide) (fun c31 => ?_) (fun c31 => ?_)
          · replace V := V.1 c31
            refine rn_iload_n dX12_product_72 rfl rfl ?_
            refine rn_bipush (v := 47) dX12_product_73 (by decide) ?_
            refine rn_icmp_ne (tgt := 84) dX12_product_75 (by decide) (fun c32 => ?_) (fun c32 => ?_)
            · replace V := V.1 c32
              refine rn_iload_n dX12_product_84 rfl rfl ?_
              refine rn_iload_n dX12_product_85 rfl rfl ?_
              obtain ⟨g, V⟩ := V
              refine rn_irem dX12_product_86 g ?_
              refine rn_istore_n (L' := [(1, .inl (l1 - l1 / x29 * x29)), (3, .inl x29), (2, .inl x27), (0, .inr (.inr (some 94)))]) dX12_product_87 rfl (Nat.le_of_ble_eq_true rfl) rfl ?_
              refine rn_goto (tgt := 5) dX12_product_88 (by decide) ?_
              refine rn_sub [3, 0] (L' := [(0, .inr (.inr (some 94))), (1, .inl (l1 - l1 / x29 * x29))]) rfl ?_
              exact V
            · replace V := V.2 c32
              refine rn_iload_n dX12_product_78 rfl rfl ?_
              refine rn_iload_n dX12_product_79 rfl rfl ?_
              obtain ⟨g, V⟩ := V
              refine rn_idiv dX12_product_80 g ?_
              refine rn_goto (tgt := 87) dX12_product_81 (by decide) ?_
              refine rn_istore_n (L' := [(1, .inl (l1 / x29)), (3, .inl x29), (2, .inl x27), (0, .inr (.inr (some 94)))]) dX12_product_87 rfl (Nat.le_of_ble_eq_true rfl) rfl ?_
              refine rn_goto (tgt := 5) dX12_product_88 (by decide) ?_
              refine rn_sub [3, 0] (L' := [(0, .inr (.inr (some 94))), (1, .inl (l1 / x29))]) rfl ?_
              exact V
          · replace V := V.2 c31
            refine rn_iconst (v := 0) dX12_product_68 (by decide) ?_
            refine rn_goto (tgt := 87) dX12_product_69 (by decide) ?_
            refine rn_istore_n (L' := [(1, .inl 0), (3, .inl x29), (2, .inl x27), (0, .inr (.inr (some 94)))]) dX12_product_87 rfl (Nat.le_of_ble_eq_true rfl) rfl ?_
            refine rn_goto (tgt := 5) dX12_product_88 (by decide) ?_
            refine rn_sub [3, 0] (L' := [(0, .inr (.inr (some 94))), (1, .inl 0)]) rfl ?_
            exact V
        · replace V := V.2 c30
          refine rn_iload_n dX12_product_58 rfl rfl ?_
          refine rn_iload_n dX12_product_59 rfl rfl ?_
          refine rn_imul dX12_product_60 ?_
          refine rn_goto (tgt := 87) dX12_product_61 (by decide) ?_
          refine rn_istore_n (L' := [(1, .inl (l1 * x29)), (3, .inl x29), (2, .inl x27), (0, .inr (.inr (some 94)))]) dX12_product_87 rfl (Nat.le_of_ble_eq_true rfl) rfl ?_
          refine rn_goto (tgt := 5) dX12_product_88 (by decide) ?_
          refine rn_sub [3, 0] (L' := [(0, .inr (.inr (some 94))), (1, .inl (l1 * x29))]) rfl ?_
          exact V
set_option maxRecDepth 100000 in
set_option maxHeartbeats 4000000 in
theorem vc_X12_product {G : GT} {d : Nat}   {h : Hp} {Q : Int32 → Hp → Prop} (hR : RF h) (V : EvI G d mX12_unit [.inr (.inr (some 94))] h (fun x2 h1 => Rg_X12_product_5 G d x2 h1 Q)) : EvI G (d + 1) mX12_product [.inr (.inr (some 94))] h Q := by
  refine Ev.of rfl (fun _ => Nat.le_of_ble_eq_true rfl) ?_
  show Rn G (d + 1) 0 0 mX12_product 0 [(0, .inr (.inr (some 94)))] [] SH h (QI Q)
  refine rn_aload_n dX12_product_0 rfl rfl ?_
  refine rn_cV (M' := mX12_unit) (n := 0) (av := []) (S := []) (rc := 0) (rs := 0) (mc := 0) (ms := 0) (a := 94) (ci := 11) (r := (RX12, TX12, 38)) dX12_product_1 pa_X12_unit (Nat.le_refl _) rfl (Nat.le_of_ble_eq_true rfl) ml_X12_121 im_X12_unit se_X12_unit rfl rfl rfl (Ev.mono V ?_)
  rintro v sh1 h1 ⟨rfl, Rh1, x2, rfl, V⟩
  show Rn G (d + 1) 0 0 mX12_product 4 [(0, .inr (.inr (some 94)))] [.inl x2] SH h1 (QI Q)
  refine rn_istore_n (L' := [(1, .inl x2), (0, .inr (.inr (some 94)))]) dX12_product_4 rfl (Nat.le_of_ble_eq_true rfl) rfl ?_
  refine rn_sub [1, 0] (L' := [(0, .inr (.inr (some 94))), (1, .inl x2)]) rfl ?_
  exact V
def Rg_X12_unit_150 (G : GT) (d : Nat) (l3 : Int32) (l4 : Int32) (h : Hp) (Q : Int32 → Hp → Prop) : Prop := Rn G (d + 1) 0 0 mX12_unit 150 [(0, .inr (.inr (some 94))), (3, .inl l3), (4, .inl l4)] [] SH h (QI Q)
set_option maxRecDepth 100000 in
set_option maxHeartbeats 4000000 in
theorem vc_X12_unit_150 {G : GT} {d : Nat} {l3 : Int32} {l4 : Int32}  {h : Hp} {Q : Int32 → Hp → Prop} (hR : RF h) (V : ((4 ≤ l4 → ((¬ l4 = 0 → Q l3 h) ∧ (l4 = 0 → EvI G d mX12_wrong [.inr (.inr (some 94))] h (fun x67 h66 => Q x67 h66)))) ∧ (¬ 4 ≤ l4 → EvI G d mX12_here [.inr (.inr (some 94))] h (fun x69 h68 => EvI G d mX12_in [.inr (.inl (Int32.toInt64 x69)), .inr (.inl 48), .inr (.inl 57)] h68 (fun x71 h70 => ((x71 = 0 → ((¬ l4 = 0 → Q l3 h70) ∧ (l4 = 0 → EvI G d mX12_wrong [.inr (.inr (some 94))] h70 (fun x75 h74 => Q x75 h74)))) ∧ (¬ x71 = 0 → EvI G d mX12_here [.inr (.inr (some 94))] h70 (fun x77 h76 => Rg_X12_unit_150 G d (((10 * l3) + x77) - 48) (l4 + 1) (sI h76 94 6 (h76.1 94 6 + 1)) Q)))))))) : Rg_X12_unit_150 G d l3 l4 h Q := by
  show Rn G (d + 1) 0 0 mX12_unit 150 [(0, .inr (.inr (some 94))), (3, .inl l3), (4, .inl l4)] [] SH h (QI Q)
  refine rn_iload dX12_unit_150 rfl ?_
  refine rn_iconst (v := 4) dX12_unit_152 (by decide) ?_
  refine rn_icmp_ge (tgt := 202) dX12_unit_153 (by decide) (fun c64 => ?_) (fun c64 => ?_)
  · replace V := V.1 c64
    refine rn_iload dX12_unit_202 rfl ?_
    refine rn_if_ne (tgt := 214) dX12_unit_204 (by decide) (fun c65 => ?_) (fun c65 => ?_)
    · replace V := V.1 c65
      refine rn_iload_n dX12_unit_214 rfl rfl ?_
      exact rn_iret dX12_unit_215 rfl ⟨rfl, hR, _, rfl, V⟩
    · replace V := V.2 c65
      refine rn_aload_n dX12_unit_207 rfl rfl ?_
      refine rn_cV (M' := mX12_wrong) (n := 0) (av := []) (S := []) (rc := 0) (rs := 0) (mc := 0) (ms := 0) (a := 94) (ci := 11) (r := (RX12, TX12, 38)) dX12_unit_208 pa_X12_wrong (Nat.le_refl _) rfl (Nat.le_of_ble_eq_true rfl) ml_X12_127 im_X12_wrong se_X12_wrong rfl rfl rfl (Ev.mono V ?_)
      rintro v sh1 h66 ⟨rfl, Rh66, x67, rfl, V⟩
      show Rn G (d + 1) 0 0 mX12_unit 211 [(0, .inr (.inr (some 94))), (3, .inl l3), (4, .inl l4)] [.inl x67] SH h66 (QI Q)
      refine rn_goto (tgt := 215) dX12_unit_211 (by decide) ?_
      exact rn_iret dX12_unit_215 rfl ⟨rfl, Rh66, _, rfl, V⟩
  · replace V := V.2 c64
    refine rn_aload_n dX12_unit_156 rfl rfl ?_
    refine rn_cV (M' := mX12_here) (n := 0) (av := []) (S := []) (rc := 0) (rs := 0) (mc := 0) (ms := 0) (a := 94) (ci := 11) (r := (RX12, TX12, 38)) dX12_unit_157 pa_X12_here (Nat.le_refl _) rfl (Nat.le_of_ble_eq_true rfl) ml_X12_97 im_X12_here se_X12_here rfl rfl rfl (Ev.mono V ?_)
    rintro v sh1 h68 ⟨rfl, Rh68, x69, rfl, V⟩
    show Rn G (d + 1) 0 0 mX12_unit 160 [(0, .inr (.inr (some 94))), (3, .inl l3), (4, .inl l4)] [.inl x69] SH h68 (QI Q)
    refine rn_i2l dX12_unit_160 ?_
    refine rn_ldc2 (v := 48) dX12_unit_161 cw_X12_137 ?_
    refine rn_ldc2 (v := 57) dX12_unit_164 cw_X12_139 ?_
    refine rn_cS (M' := mX12_in) (n := 3) (av := [.inr (.inl (Int32.toInt64 x69)), .inr (.inl 48), .inr (.inl 57)]) (S := []) (rc := 0) (rs := 0) (mc := 0) (ms := 0) dX12_unit_167 pa_X12_in (Nat.le_refl _) rfl (Nat.le_of_ble_eq_true rfl) ml_X12_80 ss_X12_in rfl (Ev.mono V ?_)
    rintro v sh1 h70 ⟨rfl, Rh70, x71, rfl, V⟩
    show Rn G (d + 1) 0 0 mX12_unit 170 [(0, .inr (.inr (some 94))), (3, .inl l3), (4, .inl l4)] [.inl x71] SH h70 (QI Q)
    refine rn_if_eq (tgt := 202) dX12_unit_170 (by decide) (fun c72 => ?_) (fun c72 => ?_)
    · replace V := V.1 c72
      refine rn_iload dX12_unit_202 rfl ?_
      refine rn_if_ne (tgt := 214) dX12_unit_204 (by decide) (fun c73 => ?_) (fun c73 => ?_)
      · replace V := V.1 c73
        refine rn_iload_n dX12_unit_214 rfl rfl ?_
        exact rn_iret dX12_unit_215 rfl ⟨rfl, Rh70, _, rfl, V⟩
      · replace V := V.2 c73
        refine rn_aload_n dX12_unit_207 rfl rfl ?_
        refine rn_cV (M' := mX12_wrong) (n := 0) (av := []) (S := []) (rc := 0) (rs := 0) (mc := 0) (ms := 0) (a := 94) (ci := 11) (r := (RX12, TX12, 38)) dX12_unit_208 pa_X12_wrong (Nat.le_refl _) rfl (Nat.le_of_ble_eq_true rfl) ml_X12_127 im_X12_wrong se_X12_wrong rfl rfl rfl (Ev.mono V ?_)
        rintro v sh1 h74 ⟨rfl, Rh74, x75, rfl, V⟩
        show Rn G (d + 1) 0 0 mX12_unit 211 [(0, .inr (.inr (some 94))), (3, .inl l3), (4, .inl l4)] [.inl x75] SH h74 (QI Q)
        refine rn_goto (tgt := 215) dX12_unit_211 (by decide) ?_
        exact rn_iret dX12_unit_215 rfl ⟨rfl, Rh74, _, rfl, V⟩
    · replace V := V.2 c72
      refine rn_bipush (v := 10) dX12_unit_173 (by decide) ?_
      refine rn_iload_n dX12_unit_175 rfl rfl ?_
      refine rn_imul dX12_unit_176 ?_
      refine rn_aload_n dX12_unit_177 rfl rfl ?_
      refine rn_cV (M' := mX12_here) (n := 0) (av := []) (S := [.inl (10 * l3)]) (rc := 0) (rs := 0) (mc := 0) (ms := 0) (a := 94) (ci := 11) (r := (RX12, TX12, 38)) dX12_unit_178 pa_X12_here (Nat.le_refl _) rfl (Nat.le_of_ble_eq_true rfl) ml_X12_97 im_X12_here se_X12_here rfl rfl rfl (Ev.mono V ?_)
      rintro v sh1 h76 ⟨rfl, Rh76, x77, rfl, V⟩
      show Rn G (d + 1) 0 0 mX12_unit 181 [(0, .inr (.inr (some 94))), (3, .inl l3), (4, .inl l4)] [.inl x77, .inl (10 * l3)] SH h76 (QI Q)
      refine rn_iadd dX12_unit_181 ?_
      refine rn_bipush (v := 48) dX12_unit_182 (by decide) ?_
      refine rn_isub dX12_unit_184 ?_
      refine rn_istore_n (L' := [(3, .inl (((10 * l3) + x77) - 48)), (0, .inr (.inr (some 94))), (4, .inl l4)]) dX12_unit_185 rfl (Nat.le_of_ble_eq_true rfl) rfl ?_
      refine rn_aload_n dX12_unit_186 rfl rfl ?_
      refine rn_dup dX12_unit_187 rfl ?_
      refine rn_get (v := .inl (h76.1 94 6)) dX12_unit_188 fl_X12_84 rfl rfl rfl ?_
      refine rn_iconst (v := 1) dX12_unit_191 (by decide) ?_
      refine rn_iadd dX12_unit_192 ?_
      refine rn_putI dX12_unit_193 fl_X12_84 rfl rfl (Or.inl rfl) rfl rfl ?_
      refine rn_iinc (L' := [(4, .inl (l4 + 1)), (3, .inl (((10 * l3) + x77) - 48)), (0, .inr (.inr (some 94)))]) dX12_unit_196 rfl (v := (l4 + 1)) rfl (Nat.le_of_ble_eq_true rfl) rfl ?_
      refine rn_goto (tgt := 150) dX12_unit_199 (by decide) ?_
      refine rn_sub [2, 1, 0] (L' := [(0, .inr (.inr (some 94))), (3, .inl (((10 * l3) + x77) - 48)), (4, .inl (l4 + 1))]) rfl ?_
      exact V
set_option maxRecDepth 100000 in
set_option maxHeartbeats 4000000 in
theorem vc_X12_unit {G : GT} {d : Nat}   {h : Hp} {Q : Int32 → Hp → Prop} (hR : RF h) (V : EvI G d mX12_here [.inr (.inr (some 94))] h (fun x2 h1 => ((x2 = 33 → ((¬ h1.1 94 9 = 5 → ((¬ x2 = 40 → EvI G d mX12_unit [.inr (.inr (some 94))] (sI (sI h1 94 9 (h1.1 94 9 + 1)) 94 6 (h1.1 94 6 + 1)) (fun x7 h6 => ((¬ x2 = 40 → ((¬ x2 = 40 → ((¬ x7 = 0 → Q 0 (sI h6 94 9 (h6.1 94 9 - 1))) ∧ (x7 = 0 → Q 1 (sI h6 94 9 (h6.1 94 9 - 1))))) ∧ (x2 = 40 → Q x7 (sI h6 94 9 (h6.1 94 9 - 1))))) ∧ (x2 = 40 → EvI G d mX12_takes [.inr (.inr (some 94)), .inl 41] h6 (fun x12 h11 => ((¬ x12 = 0 → ((¬ x2 = 40 → ((¬ x7 = 0 → Q 0 (sI h11 94 9 (h11.1 94 9 - 1))) ∧ (x7 = 0 → Q 1 (sI h11 94 9 (h11.1 94 9 - 1))))) ∧ (x2 = 40 → Q x7 (sI h11 94 9 (h11.1 94 9 - 1))))) ∧ (x12 = 0 → EvI G d mX12_wrong [.inr (.inr (some 94))] h11 (fun x17 h16 => Q x17 h16)))))))) ∧ (x2 = 40 → EvI G d mX12_either [.inr (.inr (some 94))] (sI (sI h1 94 9 (h1.1 94 9 + 1)) 94 6 (h1.1 94 6 + 1)) (fun x19 h18 => ((¬ x2 = 40 → ((¬ x2 = 40 → ((¬ x19 = 0 → Q 0 (sI h18 94 9 (h18.1 94 9 - 1))) ∧ (x19 = 0 → Q 1 (sI h18 94 9 (h18.1 94 9 - 1))))) ∧ (x2 = 40 → Q x19 (sI h18 94 9 (h18.1 94 9 - 1))))) ∧ (x2 = 40 → EvI G d mX12_takes [.inr (.inr (some 94)), .inl 41] h18 (fun x24 h23 => ((¬ x24 = 0 → ((¬ x2 = 40 → ((¬ x19 = 0 → Q 0 (sI h23 94 9 (h23.1 94 9 - 1))) ∧ (x19 = 0 → Q 1 (sI h23 94 9 (h23.1 94 9 - 1))))) ∧ (x2 = 40 → Q x19 (sI h23 94 9 (h23.1 94 9 - 1))))) ∧ (x24 = 0 → EvI G d mX12_wrong [.inr (.inr (some 94))] h23 (fun x29 h28 => Q x29 h28)))))))))) ∧ (h1.1 94 9 = 5 → EvI G d mX12_wrong [.inr (.inr (some 94))] h1 (fun x31 h30 => Q x31 h30)))) ∧ (¬ x2 = 33 → ((¬ x2 = 40 → EvI G d mX12_nameOf [.inr (.inr (some 94)), .inl x2] h1 (fun x34 h33 => ((x34 < 0 → Rg_X12_unit_150 G d 0 0 h33 Q) ∧ (¬ x34 < 0 → vp_in x34 3 ∧ Q (h33.1 99 (Int32.toNatClampNeg x34)) (sI h33 94 6 (h33.1 94 6 + 1)))))) ∧ (x2 = 40 → ((¬ h1.1 94 9 = 5 → ((¬ x2 = 40 → EvI G d mX12_unit [.inr (.inr (some 94))] (sI (sI h1 94 9 (h1.1 94 9 + 1)) 94 6 (h1.1 94 6 + 1)) (fun x39 h38 => ((¬ x2 = 40 → ((¬ x2 = 40 → ((¬ x39 = 0 → Q 0 (sI h38 94 9 (h38.1 94 9 - 1))) ∧ (x39 = 0 → Q 1 (sI h38 94 9 (h38.1 94 9 - 1))))) ∧ (x2 = 40 → Q x39 (sI h38 94 9 (h38.1 94 9 - 1))))) ∧ (x2 = 40 → EvI G d mX12_takes [.inr (.inr (some 94)), .inl 41] h38 (fun x44 h43 => ((¬ x44 = 0 → ((¬ x2 = 40 → ((¬ x39 = 0 → Q 0 (sI h43 94 9 (h43.1 94 9 - 1))) ∧ (x39 = 0 → Q 1 (sI h43 94 9 (h43.1 94 9 - 1))))) ∧ (x2 = 40 → Q x39 (sI h43 94 9 (h43.1 94 9 - 1))))) ∧ (x44 = 0 → EvI G d mX12_wrong [.inr (.inr (some 94))] h43 (fun x49 h48 => Q x49 h48)))))))) ∧ (x2 = 40 → EvI G d mX12_either [.inr (.inr (some 94))] (sI (sI h1 94 9 (h1.1 94 9 + 1)) 94 6 (h1.1 94 6 + 1)) (fun x51 h50 => ((¬ x2 = 40 → ((¬ x2 = 40 → ((¬ x51 = 0 → Q 0 (sI h50 94 9 (h50.1 94 9 - 1))) ∧ (x51 = 0 → Q 1 (sI h50 94 9 (h50.1 94 9 - 1))))) ∧ (x2 = 40 → Q x51 (sI h50 94 9 (h50.1 94 9 - 1))))) ∧ (x2 = 40 → EvI G d mX12_takes [.inr (.inr (some 94)), .inl 41] h50 (fun x56 h55 => ((¬ x56 = 0 → ((¬ x2 = 40 → ((¬ x51 = 0 → Q 0 (sI h55 94 9 (h55.1 94 9 - 1))) ∧ (x51 = 0 → Q 1 (sI h55 94 9 (h55.1 94 9 - 1))))) ∧ (x2 = 40 → Q x51 (sI h55 94 9 (h55.1 94 9 - 1))))) ∧ (x56 = 0 → EvI G d mX12_wrong [.inr (.inr (some 94))] h55 (fun x61 h60 => Q x61 h60)))))))))) ∧ (h1.1 94 9 = 5 → EvI G d mX12_wrong [.inr (.inr (some 94))] h1 (fun x63 h62 => Q x63 h62))))))))) : EvI G (d + 1) mX12_unit [.inr (.inr (some 94))] h Q := by
  refine Ev.of rfl (fun _ => Nat.le_of_ble_eq_true rfl) ?_
  show Rn G (d + 1) 0 0 mX12_unit 0 [(0, .inr (.inr (some 94)))] [] SH h (QI Q)
  refine rn_aload_n dX12_unit_0 rfl rfl ?_
  refine rn_cV (M' := mX12_here) (n := 0) (av := []) (S := []) (rc := 0) (rs := 0) (mc := 0) (ms := 0) (a := 94) (ci := 11) (r := (RX12, TX12, 38)) dX12_unit_1 pa_X12_here (Nat.le_refl _) rfl (Nat.le_of_ble_eq_true rfl) ml_X12_97 im_X12_here se_X12_here rfl rfl rfl (Ev.mono V ?_)
  rintro v sh1 h1 ⟨rfl, Rh1, x2, rfl, V⟩
  show Rn G (d + 1) 0 0 mX12_unit 4 [(0, .inr (.inr (some 94)))] [.inl x2] SH h1 (QI Q)
  refine rn_istore_n (L' := [(1, .inl x2), (0, .inr (.inr (some 94)))]) dX12_unit_4 rfl (Nat.le_of_ble_eq_true rfl) rfl ?_
  refine rn_iload_n dX12_unit_5 rfl rfl ?_
  refine rn_bipush (v := 33) dX12_unit_6 (by decide) ?_
  refine rn_icmp_eq (tgt := 17) dX12_unit_8 (by decide) (fun c3 => ?_) (fun c3 => ?_)
  · replace V := V.1 c3
    refine rn_aload_n dX12_unit_17 rfl rfl ?_
    refine rn_get (v := .inl (h1.1 94 9)) dX12_unit_18 fl_X12_124 rfl rfl rfl ?_
    refine rn_iconst (v := 5) dX12_unit_21 (by decide) ?_
    refine rn_icmp_ne (tgt := 30) dX12_unit_22 (by decide) (fun c4 => ?_) (fun c4 => ?_)
    · replace V := V.1 c4
      refine rn_aload_n dX12_unit_30 rfl rfl ?_
      refine rn_dup dX12_unit_31 rfl ?_
      refine rn_get (v := .inl (h1.1 94 9)) dX12_unit_32 fl_X12_124 rfl rfl rfl ?_
      refine rn_iconst (v := 1) dX12_unit_35 (by decide) ?_
      refine rn_iadd dX12_unit_36 ?_
      refine rn_putI dX12_unit_37 fl_X12_124 rfl rfl (Or.inl rfl) rfl rfl ?_
      refine rn_aload_n dX12_unit_40 rfl rfl ?_
      refine rn_dup dX12_unit_41 rfl ?_
      refine rn_get (v := .inl (h1.1 94 6)) dX12_unit_42 fl_X12_84 rfl rfl rfl ?_
      refine rn_iconst (v := 1) dX12_unit_45 (by decide) ?_
      refine rn_iadd dX12_unit_46 ?_
      refine rn_putI dX12_unit_47 fl_X12_84 rfl rfl (Or.inl rfl) rfl rfl ?_
      refine rn_iload_n dX12_unit_50 rfl rfl ?_
      refine rn_bipush (v := 40) dX12_unit_51 (by decide) ?_
      refine rn_icmp_ne (tgt := 63) dX12_unit_53 (by decide) (fun c5 => ?_) (fun c5 => ?_)
      · replace V := V.1 c5
        refine rn_aload_n dX12_unit_63 rfl rfl ?_
        refine rn_cV (M' := mX12_unit) (n := 0) (av := []) (S := []) (rc := 0) (rs := 0) (mc := 0) (ms := 0) (a := 94) (ci := 11) (r := (RX12, TX12, 38)) dX12_unit_64 pa_X12_unit (Nat.le_refl _) rfl (Nat.le_of_ble_eq_true rfl) ml_X12_121 im_X12_unit se_X12_unit rfl rfl rfl (Ev.mono V ?_)
        rintro v sh1 h6 ⟨rfl, Rh6, x7, rfl, V⟩
        show Rn G (d + 1) 0 0 mX12_unit 67 [(1, .inl x2), (0, .inr (.inr (some 94)))] [.inl x7] SH h6 (QI Q)
        refine rn_istore_n (L' := [(2, .inl x7), (1, .inl x2), (0, .inr (.inr (some 94)))]) dX12_unit_67 rfl (Nat.le_of_ble_eq_true rfl) rfl ?_
        refine rn_iload_n dX12_unit_68 rfl rfl ?_
        refine rn_bipush (v := 40) dX12_unit_69 (by decide) ?_
        refine rn_icmp_ne (tgt := 88) dX12_unit_71 (by decide) (fun c8 => ?_) (fun c8 => ?_)
        · replace V := V.1 c8
          refine rn_aload_n dX12_unit_88 rfl rfl ?_
          refine rn_dup dX12_unit_89 rfl ?_
          refine rn_get (v := .inl (h6.1 94 9)) dX12_unit_90 fl_X12_124 rfl rfl rfl ?_
          refine rn_iconst (v := 1) dX12_unit_93 (by decide) ?_
          refine rn_isub dX12_unit_94 ?_
          refine rn_putI dX12_unit_95 fl_X12_124 rfl rfl (Or.inl rfl) rfl rfl ?_
          refine rn_iload_n dX12_unit_98 rfl rfl ?_
          refine rn_bipush (v := 40) dX12_unit_99 (by decide) ?_
          refine rn_icmp_ne (tgt := 108) dX12_unit_101 (by decide) (fun c9 => ?_) (fun c9 => ?_)
          · replace V := V.1 c9
            refine rn_iload_n dX12_unit_108 rfl rfl ?_
            refine rn_if_ne (tgt := 116) dX12_unit_109 (by decide) (fun c10 => ?_) (fun c10 => ?_)
            · replace V := V.1 c10
              refine rn_iconst (v := 0) dX12_unit_116 (by decide) ?_
              exact rn_iret dX12_unit_117 rfl ⟨rfl, Rh6, _, rfl, V⟩
            · replace V := V.2 c10
              refine rn_iconst (v := 1) dX12_unit_112 (by decide) ?_
              refine rn_goto (tgt := 117) dX12_unit_113 (by decide) ?_
              exact rn_iret dX12_unit_117 rfl ⟨rfl, Rh6, _, rfl, V⟩
          · replace V := V.2 c9
            refine rn_iload_n dX12_unit_104 rfl rfl ?_
            refine rn_goto (tgt := 117) dX12_unit_105 (by decide) ?_
            exact rn_iret dX12_unit_117 rfl ⟨rfl, Rh6, _, rfl, V⟩
        · replace V := V.2 c8
          refine rn_aload_n dX12_unit_74 rfl rfl ?_
          refine rn_bipush (v := 41) dX12_unit_75 (by decide) ?_
          refine rn_cV (M' := mX12_takes) (n := 1) (av := [.inl 41]) (S := []) (rc := 0) (rs := 0) (mc := 0) (ms := 0) (a := 94) (ci := 11) (r := (RX12, TX12, 38)) dX12_unit_77 pa_X12_takes (Nat.le_refl _) rfl (Nat.le_of_ble_eq_true rfl) ml_X12_108 im_X12_takes se_X12_takes rfl rfl rfl (Ev.mono V ?_)
          rintro v sh1 h11 ⟨rfl, Rh11, x12, rfl, V⟩
          show Rn G (d + 1) 0 0 mX12_unit 80 [(2, .inl x7), (1, .inl x2), (0, .inr (.inr (some 94)))] [.inl x12] SH h11 (QI Q)
          refine rn_if_ne (tgt := 88) dX12_unit_80 (by decide) (fun c13 => ?_) (fun c13 => ?_)
          · replace V := V.1 c13
            refine rn_aload_n dX12_unit_88 rfl rfl ?_
            refine rn_dup dX12_unit_89 rfl ?_
            refine rn_get (v := .inl (h11.1 94 9)) dX12_unit_90 fl_X12_124 rfl rfl rfl ?_
            refine rn_iconst (v := 1) dX12_unit_93 (by decide) ?_
            refine rn_isub dX12_unit_94 ?_
            refine rn_putI dX12_unit_95 fl_X12_124 rfl rfl (Or.inl rfl) rfl rfl ?_
            refine rn_iload_n dX12_unit_98 rfl rfl ?_
            refine rn_bipush (v := 40) dX12_unit_99 (by decide) ?_
            refine rn_icmp_ne (tgt := 108) dX12_unit_101 (by decide) (fun c14 => ?_) (fun c14 => ?_)
            · replace V := V.1 c14
              refine rn_iload_n dX12_unit_108 rfl rfl ?_
              refine rn_if_ne (tgt := 116) dX12_unit_109 (by decide) (fun c15 => ?_) (fun c15 => ?_)
              · replace V := V.1 c15
                refine rn_iconst (v := 0) dX12_unit_116 (by decide) ?_
                exact rn_iret dX12_unit_117 rfl ⟨rfl, Rh11, _, rfl, V⟩
              · replace V := V.2 c15
                refine rn_iconst (v := 1) dX12_unit_112 (by decide) ?_
                refine rn_goto (tgt := 117) dX12_unit_113 (by decide) ?_
                exact rn_iret dX12_unit_117 rfl ⟨rfl, Rh11, _, rfl, V⟩
            · replace V := V.2 c14
              refine rn_iload_n dX12_unit_104 rfl rfl ?_
              refine rn_goto (tgt := 117) dX12_unit_105 (by decide) ?_
              exact rn_iret dX12_unit_117 rfl ⟨rfl, Rh11, _, rfl, V⟩
          · replace V := V.2 c13
            refine rn_aload_n dX12_unit_83 rfl rfl ?_
            refine rn_cV (M' := mX12_wrong) (n := 0) (av := []) (S := []) (rc := 0) (rs := 0) (mc := 0) (ms := 0) (a := 94) (ci := 11) (r := (RX12, TX12, 38)) dX12_unit_84 pa_X12_wrong (Nat.le_refl _) rfl (Nat.le_of_ble_eq_true rfl) ml_X12_127 im_X12_wrong se_X12_wrong rfl rfl rfl (Ev.mono V ?_)
            rintro v sh1 h16 ⟨rfl, Rh16, x17, rfl, V⟩
            show Rn G (d + 1) 0 0 mX12_unit 87 [(2, .inl x7), (1, .inl x2), (0, .inr (.inr (some 94)))] [.inl x17] SH h16 (QI Q)
            exact rn_iret dX12_unit_87 rfl ⟨rfl, Rh16, _, rfl, V⟩
      · replace V := V.2 c5
        refine rn_aload_n dX12_unit_56 rfl rfl ?_
        refine rn_cV (M' := mX12_either) (n := 0) (av := []) (S := []) (rc := 0) (rs := 0) (mc := 0) (ms := 0) (a := 94) (ci := 11) (r := (RX12, TX12, 38)) dX12_unit_57 pa_X12_either (Nat.le_refl _) rfl (Nat.le_of_ble_eq_true rfl) ml_X12_130 im_X12_either se_X12_either rfl rfl rfl (Ev.mono V ?_)
        rintro v sh1 h18 ⟨rfl, Rh18, x19, rfl, V⟩
        show Rn G (d + 1) 0 0 mX12_unit 60 [(1, .inl x2), (0, .inr (.inr (some 94)))] [.inl x19] SH h18 (QI Q)
        refine rn_goto (tgt := 67) dX12_unit_60 (by decide) ?_
        refine rn_istore_n (L' := [(2, .inl x19), (1, .inl x2), (0, .inr (.inr (some 94)))]) dX12_unit_67 rfl (Nat.le_of_ble_eq_true rfl) rfl ?_
        refine rn_iload_n dX12_unit_68 rfl rfl ?_
        refine rn_bipush (v := 40) dX12_unit_69 (by decide) ?_
        refine rn_icmp_ne (tgt := 88) dX12_unit_71 (by decide) (fun c20 => ?_) (fun c20 => ?_)
        · replace V := V.1 c20
          refine rn_aload_n dX12_unit_88 rfl rfl ?_
          refine rn_dup dX12_unit_89 rfl ?_
          refine rn_get (v := .inl (h18.1 94 9)) dX12_unit_90 fl_X12_124 rfl rfl rfl ?_
          refine rn_iconst (v := 1) dX12_unit_93 (by decide) ?_
          refine rn_isub dX12_unit_94 ?_
          refine rn_putI dX12_unit_95 fl_X12_124 rfl rfl (Or.inl rfl) rfl rfl ?_
          refine rn_iload_n dX12_unit_98 rfl rfl ?_
          refine rn_bipush (v := 40) dX12_unit_99 (by decide) ?_
          refine rn_icmp_ne (tgt := 108) dX12_unit_101 (by decide) (fun c21 => ?_) (fun c21 => ?_)
          · replace V := V.1 c21
            refine rn_iload_n dX12_unit_108 rfl rfl ?_
            refine rn_if_ne (tgt := 116) dX12_unit_109 (by decide) (fun c22 => ?_) (fun c22 => ?_)
            · replace V := V.1 c22
              refine rn_iconst (v := 0) dX12_unit_116 (by decide) ?_
              exact rn_iret dX12_unit_117 rfl ⟨rfl, Rh18, _, rfl, V⟩
            · replace V := V.2 c22
              refine rn_iconst (v := 1) dX12_unit_112 (by decide) ?_
              refine rn_goto (tgt := 117) dX12_unit_113 (by decide) ?_
              exact rn_iret dX12_unit_117 rfl ⟨rfl, Rh18, _, rfl, V⟩
          · replace V := V.2 c21
            refine rn_iload_n dX12_unit_104 rfl rfl ?_
            refine rn_goto (tgt := 117) dX12_unit_105 (by decide) ?_
            exact rn_iret dX12_unit_117 rfl ⟨rfl, Rh18, _, rfl, V⟩
        · replace V := V.2 c20
          refine rn_aload_n dX12_unit_74 rfl rfl ?_
          refine rn_bipush (v := 41) dX12_unit_75 (by decide) ?_
          refine rn_cV (M' := mX12_takes) (n := 1) (av := [.inl 41]) (S := []) (rc := 0) (rs := 0) (mc := 0) (ms := 0) (a := 94) (ci := 11) (r := (RX12, TX12, 38)) dX12_unit_77 pa_X12_takes (Nat.le_refl _) rfl (Nat.le_of_ble_eq_true rfl) ml_X12_108 im_X12_takes se_X12_takes rfl rfl rfl (Ev.mono V ?_)
          rintro v sh1 h23 ⟨rfl, Rh23, x24, rfl, V⟩
          show Rn G (d + 1) 0 0 mX12_unit 80 [(2, .inl x19), (1, .inl x2), (0, .inr (.inr (some 94)))] [.inl x24] SH h23 (QI Q)
          refine rn_if_ne (tgt := 88) dX12_unit_80 (by decide) (fun c25 => ?_) (fun c25 => ?_)
          · replace V := V.1 c25
            refine rn_aload_n dX12_unit_88 rfl rfl ?_
            refine rn_dup dX12_unit_89 rfl ?_
            refine rn_get (v := .inl (h23.1 94 9)) dX12_unit_90 fl_X12_124 rfl rfl rfl ?_
            refine rn_iconst (v := 1) dX12_unit_93 (by decide) ?_
            refine rn_isub dX12_unit_94 ?_
            refine rn_putI dX12_unit_95 fl_X12_124 rfl rfl (Or.inl rfl) rfl rfl ?_
            refine rn_iload_n dX12_unit_98 rfl rfl ?_
            refine rn_bipush (v := 40) dX12_unit_99 (by decide) ?_
            refine rn_icmp_ne (tgt := 108) dX12_unit_101 (by decide) (fun c26 => ?_) (fun c26 => ?_)
            · replace V := V.1 c26
              refine rn_iload_n dX12_unit_108 rfl rfl ?_
              refine rn_if_ne (tgt := 116) dX12_unit_109 (by decide) (fun c27 => ?_) (fun c27 => ?_)
              · replace V := V.1 c27
                refine rn_iconst (v := 0) dX12_unit_116 (by decide) ?_
                exact rn_iret dX12_unit_117 rfl ⟨rfl, Rh23, _, rfl, V⟩
              · replace V := V.2 c27
                refine rn_iconst (v := 1) dX12_unit_112 (by decide) ?_
                refine rn_goto (tgt := 117) dX12_unit_113 (by decide) ?_
                exact rn_iret dX12_unit_117 rfl ⟨rfl, Rh23, _, rfl, V⟩
            · replace V := V.2 c26
              refine rn_iload_n dX12_unit_104 rfl rfl ?_
              refine rn_goto (tgt := 117) dX12_unit_105 (by decide) ?_
              exact rn_iret dX12_unit_117 rfl ⟨rfl, Rh23, _, rfl, V⟩
          · replace V := V.2 c25
            refine rn_aload_n dX12_unit_83 rfl rfl ?_
            refine rn_cV (M' := mX12_wrong) (n := 0) (av := []) (S := []) (rc := 0) (rs := 0) (mc := 0) (ms := 0) (a := 94) (ci := 11) (r := (RX12, TX12, 38)) dX12_unit_84 pa_X12_wrong (Nat.le_refl _) rfl (Nat.le_of_ble_eq_true rfl) ml_X12_127 im_X12_wrong se_X12_wrong rfl rfl rfl (Ev.mono V ?_)
            rintro v sh1 h28 ⟨rfl, Rh28, x29, rfl, V⟩
            show Rn G (d + 1) 0 0 mX12_unit 87 [(2, .inl x19), (1, .inl x2), (0, .inr (.inr (some 94)))] [.inl x29] SH h28 (QI Q)
            exact rn_iret dX12_unit_87 rfl ⟨rfl, Rh28, _, rfl, V⟩
    · replace V := V.2 c4
      refine rn_aload_n dX12_unit_25 rfl rfl ?_
      refine rn_cV (M' := mX12_wrong) (n := 0) (av := []) (S := []) (rc := 0) (rs := 0) (mc := 0) (ms := 0) (a := 94) (ci := 11) (r := (RX12, TX12, 38)) dX12_unit_26 pa_X12_wrong (Nat.le_refl _) rfl (Nat.le_of_ble_eq_true rfl) ml_X12_127 im_X12_wrong se_X12_wrong rfl rfl rfl (Ev.mono V ?_)
      rintro v sh1 h30 ⟨rfl, Rh30, x31, rfl, V⟩
      show Rn G (d + 1) 0 0 mX12_unit 29 [(1, .inl x2), (0, .inr (.inr (some 94)))] [.inl x31] SH h30 (QI Q)
      exact rn_iret dX12_unit_29 rfl ⟨rfl, Rh30, _, rfl, V⟩
  · replace V := V.2 c3
    refine rn_iload_n dX12_unit_11 rfl rfl ?_
    refine rn_bipush (v := 40) dX12_unit_12 (by decide) ?_
    refine rn_icmp_ne (tgt := 118) dX12_unit_14 (by decide) (fun c32 => ?_) (fun c32 => ?_)
    · replace V := V.1 c32
      refine rn_aload_n dX12_unit_118 rfl rfl ?_
      refine rn_iload_n dX12_unit_119 rfl rfl ?_
      refine rn_cV (M' := mX12_nameOf) (n := 1) (av := [.inl x2]) (S := []) (rc := 0) (rs := 0) (mc := 0) (ms := 0) (a := 94) (ci := 11) (r := (RX12, TX12, 38)) dX12_unit_120 pa_X12_nameOf (Nat.le_refl _) rfl (Nat.le_of_ble_eq_true rfl) ml_X12_133 im_X12_nameOf se_X12_nameOf rfl rfl rfl (Ev.mono V ?_)
      rintro v sh1 h33 ⟨rfl, Rh33, x34, rfl, V⟩
      show Rn G (d + 1) 0 0 mX12_unit 123 [(1, .inl x2), (0, .inr (.inr (some 94)))] [.inl x34] SH h33 (QI Q)
      refine rn_istore_n (L' := [(2, .inl x34), (1, .inl x2), (0, .inr (.inr (some 94)))]) dX12_unit_123 rfl (Nat.le_of_ble_eq_true rfl) rfl ?_
      refine rn_iload_n dX12_unit_124 rfl rfl ?_
      refine rn_if_lt (tgt := 145) dX12_unit_125 (by decide) (fun c35 => ?_) (fun c35 => ?_)
      · replace V := V.1 c35
        refine rn_iconst (v := 0) dX12_unit_145 (by decide) ?_
        refine rn_istore_n (L' := [(3, .inl 0), (2, .inl x34), (1, .inl x2), (0, .inr (.inr (some 94)))]) dX12_unit_146 rfl (Nat.le_of_ble_eq_true rfl) rfl ?_
        refine rn_iconst (v := 0) dX12_unit_147 (by decide) ?_
        refine rn_istore (L' := [(4, .inl 0), (3, .inl 0), (2, .inl x34), (1, .inl x2), (0, .inr (.inr (some 94)))]) dX12_unit_148 (Nat.le_of_ble_eq_true rfl) rfl ?_
        refine rn_sub [4, 1, 0] (L' := [(0, .inr (.inr (some 94))), (3, .inl 0), (4, .inl 0)]) rfl ?_
        exact V
      · replace V := V.2 c35
        refine rn_aload_n dX12_unit_128 rfl rfl ?_
        refine rn_dup dX12_unit_129 rfl ?_
        refine rn_get (v := .inl (h33.1 94 6)) dX12_unit_130 fl_X12_84 rfl rfl rfl ?_
        refine rn_iconst (v := 1) dX12_unit_133 (by decide) ?_
        refine rn_iadd dX12_unit_134 ?_
        refine rn_putI dX12_unit_135 fl_X12_84 rfl rfl (Or.inl rfl) rfl rfl ?_
        refine rn_aload_n dX12_unit_138 rfl rfl ?_
        refine rn_get (v := .inr (.inr (some 99))) dX12_unit_139 fl_X12_22 rfl rfl (congrArg (fun z => (Sum.inr (Sum.inr z) : MV)) (rf_94_11 Rh33)) ?_
        refine rn_iload_n dX12_unit_142 rfl rfl ?_
        obtain ⟨g0, V⟩ := V
        refine rn_iald (k := (Int32.toNatClampNeg x34)) dX12_unit_143 rfl rfl g0 ?_
        exact rn_iret dX12_unit_144 rfl ⟨rfl, Rh33, _, rfl, V⟩
    · replace V := V.2 c32
      refine rn_aload_n dX12_unit_17 rfl rfl ?_
      refine rn_get (v := .inl (h1.1 94 9)) dX12_unit_18 fl_X12_124 rfl rfl rfl ?_
      refine rn_iconst (v := 5) dX12_unit_21 (by decide) ?_
      refine rn_icmp_ne (tgt := 30) dX12_unit_22 (by decide) (fun c36 => ?_) (fun c36 => ?_)
      · replace V := V.1 c36
        refine rn_aload_n dX12_unit_30 rfl rfl ?_
        refine rn_dup dX12_unit_31 rfl ?_
        refine rn_get (v := .inl (h1.1 94 9)) dX12_unit_32 fl_X12_124 rfl rfl rfl ?_
        refine rn_iconst (v := 1) dX12_unit_35 (by decide) ?_
        refine rn_iadd dX12_unit_36 ?_
        refine rn_putI dX12_unit_37 fl_X12_124 rfl rfl (Or.inl rfl) rfl rfl ?_
        refine rn_aload_n dX12_unit_40 rfl rfl ?_
        refine rn_dup dX12_unit_41 rfl ?_
        refine rn_get (v := .inl (h1.1 94 6)) dX12_unit_42 fl_X12_84 rfl rfl rfl ?_
        refine rn_iconst (v := 1) dX12_unit_45 (by decide) ?_
        refine rn_iadd dX12_unit_46 ?_
        refine rn_putI dX12_unit_47 fl_X12_84 rfl rfl (Or.inl rfl) rfl rfl ?_
        refine rn_iload_n dX12_unit_50 rfl rfl ?_
        refine rn_bipush (v := 40) dX12_unit_51 (by decide) ?_
        refine rn_icmp_ne (tgt := 63) dX12_unit_53 (by decide) (fun c37 => ?_) (fun c37 => ?_)
        · replace V := V.1 c37
          refine rn_aload_n dX12_unit_63 rfl rfl ?_
          refine rn_cV (M' := mX12_unit) (n := 0) (av := []) (S := []) (rc := 0) (rs := 0) (mc := 0) (ms := 0) (a := 94) (ci := 11) (r := (RX12, TX12, 38)) dX12_unit_64 pa_X12_unit (Nat.le_refl _) rfl (Nat.le_of_ble_eq_true rfl) ml_X12_121 im_X12_unit se_X12_unit rfl rfl rfl (Ev.mono V ?_)
          rintro v sh1 h38 ⟨rfl, Rh38, x39, rfl, V⟩
          show Rn G (d + 1) 0 0 mX12_unit 67 [(1, .inl x2), (0, .inr (.inr (some 94)))] [.inl x39] SH h38 (QI Q)
          refine rn_istore_n (L' := [(2, .inl x39), (1, .inl x2), (0, .inr (.inr (some 94)))]) dX12_unit_67 rfl (Nat.le_of_ble_eq_true rfl) rfl ?_
          refine rn_iload_n dX12_unit_68 rfl rfl ?_
          refine rn_bipush (v := 40) dX12_unit_69 (by decide) ?_
          refine rn_icmp_ne (tgt := 88) dX12_unit_71 (by decide) (fun c40 => ?_) (fun c40 => ?_)
          · replace V := V.1 c40
            refine rn_aload_n dX12_unit_88 rfl rfl ?_
            refine rn_dup dX12_unit_89 rfl ?_
            refine rn_get (v := .inl (h38.1 94 9)) dX12_unit_90 fl_X12_124 rfl rfl rfl ?_
            refine rn_iconst (v := 1) dX12_unit_93 (by decide) ?_
            refine rn_isub dX12_unit_94 ?_
            refine rn_putI dX12_unit_95 fl_X12_124 rfl rfl (Or.inl rfl) rfl rfl ?_
            refine rn_iload_n dX12_unit_98 rfl rfl ?_
            refine rn_bipush (v := 40) dX12_unit_99 (by decide) ?_
            refine rn_icmp_ne (tgt := 108) dX12_unit_101 (by decide) (fun c41 => ?_) (fun c41 => ?_)
            · replace V := V.1 c41
              refine rn_iload_n dX12_unit_108 rfl rfl ?_
              refine rn_if_ne (tgt := 116) dX12_unit_109 (by decide) (fun c42 => ?_) (fun c42 => ?_)
              · replace V := V.1 c42
                refine rn_iconst (v := 0) dX12_unit_116 (by decide) ?_
                exact rn_iret dX12_unit_117 rfl ⟨rfl, Rh38, _, rfl, V⟩
              · replace V := V.2 c42
                refine rn_iconst (v := 1) dX12_unit_112 (by decide) ?_
                refine rn_goto (tgt := 117) dX12_unit_113 (by decide) ?_
                exact rn_iret dX12_unit_117 rfl ⟨rfl, Rh38, _, rfl, V⟩
            · replace V := V.2 c41
              refine rn_iload_n dX12_unit_104 rfl rfl ?_
              refine rn_goto (tgt := 117) dX12_unit_105 (by decide) ?_
              exact rn_iret dX12_unit_117 rfl ⟨rfl, Rh38, _, rfl, V⟩
          · replace V := V.2 c40
            refine rn_aload_n dX12_unit_74 rfl rfl ?_
            refine rn_bipush (v := 41) dX12_unit_75 (by decide) ?_
            refine rn_cV (M' := mX12_takes) (n := 1) (av := [.inl 41]) (S := []) (rc := 0) (rs := 0) (mc := 0) (ms := 0) (a := 94) (ci := 11) (r := (RX12, TX12, 38)) dX12_unit_77 pa_X12_takes (Nat.le_refl _) rfl (Nat.le_of_ble_eq_true rfl) ml_X12_108 im_X12_takes se_X12_takes rfl rfl rfl (Ev.mono V ?_)
            rintro v sh1 h43 ⟨rfl, Rh43, x44, rfl, V⟩
            show Rn G (d + 1) 0 0 mX12_unit 80 [(2, .inl x39), (1, .inl x2), (0, .inr (.inr (some 94)))] [.inl x44] SH h43 (QI Q)
            refine rn_if_ne (tgt := 88) dX12_unit_80 (by decide) (fun c45 => ?_) (fun c45 => ?_)
            · replace V := V.1 c45
              refine rn_aload_n dX12_unit_88 rfl rfl ?_
              refine rn_dup dX12_unit_89 rfl ?_
              refine rn_get (v := .inl (h43.1 94 9)) dX12_unit_90 fl_X12_124 rfl rfl rfl ?_
              refine rn_iconst (v := 1) dX12_unit_93 (by decide) ?_
              refine rn_isub dX12_unit_94 ?_
              refine rn_putI dX12_unit_95 fl_X12_124 rfl rfl (Or.inl rfl) rfl rfl ?_
              refine rn_iload_n dX12_unit_98 rfl rfl ?_
              refine rn_bipush (v := 40) dX12_unit_99 (by decide) ?_
              refine rn_icmp_ne (tgt := 108) dX12_unit_101 (by decide) (fun c46 => ?_) (fun c46 => ?_)
              · replace V := V.1 c46
                refine rn_iload_n dX12_unit_108 rfl rfl ?_
                refine rn_if_ne (tgt := 116) dX12_unit_109 (by decide) (fun c47 => ?_) (fun c47 => ?_)
                · replace V := V.1 c47
                  refine rn_iconst (v := 0) dX12_unit_116 (by decide) ?_
                  exact rn_iret dX12_unit_117 rfl ⟨rfl, Rh43, _, rfl, V⟩
                · replace V := V.2 c47
                  refine rn_iconst (v := 1) dX12_unit_112 (by decide) ?_
                  refine rn_goto (tgt := 117) dX12_unit_113 (by decide) ?_
                  exact rn_iret dX12_unit_117 rfl ⟨rfl, Rh43, _, rfl, V⟩
              · replace V := V.2 c46
                refine rn_iload_n dX12_unit_104 rfl rfl ?_
                refine rn_goto (tgt := 117) dX12_unit_105 (by decide) ?_
                exact rn_iret dX12_unit_117 rfl ⟨rfl, Rh43, _, rfl, V⟩
            · replace V := V.2 c45
              refine rn_aload_n dX12_unit_83 rfl rfl ?_
              refine rn_cV (M' := mX12_wrong) (n := 0) (av := []) (S := []) (rc := 0) (rs := 0) (mc := 0) (ms := 0) (a := 94) (ci := 11) (r := (RX12, TX12, 38)) dX12_unit_84 pa_X12_wrong (Nat.le_refl _) rfl (Nat.le_of_ble_eq_true rfl) ml_X12_127 im_X12_wrong se_X12_wrong rfl rfl rfl (Ev.mono V ?_)
              rintro v sh1 h48 ⟨rfl, Rh48, x49, rfl, V⟩
              show Rn G (d + 1) 0 0 mX12_unit 87 [(2, .inl x39), (1, .inl x2), (0, .inr (.inr (some 94)))] [.inl x49] SH h48 (QI Q)
              exact rn_iret dX12_unit_87 rfl ⟨rfl, Rh48, _, rfl, V⟩
        · replace V := V.2 c37
          refine rn_aload_n dX12_unit_56 rfl rfl ?_
          refine rn_cV (M' := mX12_either) (n := 0) (av := []) (S := []) (rc := 0) (rs := 0) (mc := 0) (ms := 0) (a := 94) (ci := 11) (r := (RX12, TX12, 38)) dX12_unit_57 pa_X12_either (Nat.le_refl _) rfl (Nat.le_of_ble_eq_true rfl) ml_X12_130 im_X12_either se_X12_either rfl rfl rfl (Ev.mono V ?_)
          rintro v sh1 h50 ⟨rfl, Rh50, x51, rfl, V⟩
          show Rn G (d + 1) 0 0 mX12_unit 60 [(1, .inl x2), (0, .inr (.inr (some 94)))] [.inl x51] SH h50 (QI Q)
          refine rn_goto (tgt := 67) dX12_unit_60 (by decide) ?_
          refine rn_istore_n (L' := [(2, .inl x51), (1, .inl x2), (0, .inr (.inr (some 94)))]) dX12_unit_67 rfl (Nat.le_of_ble_eq_true rfl) rfl ?_
          refine rn_iload_n dX12_unit_68 rfl rfl ?_
          refine rn_bipush (v := 40) dX12_unit_69 (by decide) ?_
          refine rn_icmp_ne (tgt := 88) dX12_unit_71 (by decide) (fun c52 => ?_) (fun c52 => ?_)
          · replace V := V.1 c52
            refine rn_aload_n dX12_unit_88 rfl rfl ?_
            refine rn_dup dX12_unit_89 rfl ?_
            refine rn_get (v := .inl (h50.1 94 9)) dX12_unit_90 fl_X12_124 rfl rfl rfl ?_
            refine rn_iconst (v := 1) dX12_unit_93 (by decide) ?_
            refine rn_isub dX12_unit_94 ?_
            refine rn_putI dX12_unit_95 fl_X12_124 rfl rfl (Or.inl rfl) rfl rfl ?_
            refine rn_iload_n dX12_unit_98 rfl rfl ?_
            refine rn_bipush (v := 40) dX12_unit_99 (by decide) ?_
            refine rn_icmp_ne (tgt := 108) dX12_unit_101 (by decide) (fun c53 => ?_) (fun c53 => ?_)
            · replace V := V.1 c53
              refine rn_iload_n dX12_unit_108 rfl rfl ?_
              refine rn_if_ne (tgt := 116) dX12_unit_109 (by decide) (fun c54 => ?_) (fun c54 => ?_)
              · replace V := V.1 c54
                refine rn_iconst (v := 0) dX12_unit_116 (by decide) ?_
                exact rn_iret dX12_unit_117 rfl ⟨rfl, Rh50, _, rfl, V⟩
              · replace V := V.2 c54
                refine rn_iconst (v := 1) dX12_unit_112 (by decide) ?_
                refine rn_goto (tgt := 117) dX12_unit_113 (by decide) ?_
                exact rn_iret dX12_unit_117 rfl ⟨rfl, Rh50, _, rfl, V⟩
            · replace V := V.2 c53
              refine rn_iload_n dX12_unit_104 rfl rfl ?_
              refine rn_goto (tgt := 117) dX12_unit_105 (by decide) ?_
              exact rn_iret dX12_unit_117 rfl ⟨rfl, Rh50, _, rfl, V⟩
          · replace V := V.2 c52
            refine rn_aload_n dX12_unit_74 rfl rfl ?_
            refine rn_bipush (v := 41) dX12_unit_75 (by decide) ?_
            refine rn_cV (M' := mX12_takes) (n := 1) (av := [.inl 41]) (S := []) (rc := 0) (rs := 0) (mc := 0) (ms := 0) (a := 94) (ci := 11) (r := (RX12, TX12, 38)) dX12_unit_77 pa_X12_takes (Nat.le_refl _) rfl (Nat.le_of_ble_eq_true rfl) ml_X12_108 im_X12_takes se_X12_takes rfl rfl rfl (Ev.mono V ?_)
            rintro v sh1 h55 ⟨rfl, Rh55, x56, rfl, V⟩
            show Rn G (d + 1) 0 0 mX12_unit 80 [(2, .inl x51), (1, .inl x2), (0, .inr (.inr (some 94)))] [.inl x56] SH h55 (QI Q)
            refine rn_if_ne (tgt := 88) dX12_unit_80 (by decide) (fun c57 => ?_) (fun c57 => ?_)
            · replace V := V.1 c57
              refine rn_aload_n dX12_unit_88 rfl rfl ?_
              refine rn_dup dX12_unit_89 rfl ?_
              refine rn_get (v := .inl (h55.1 94 9)) dX12_unit_90 fl_X12_124 rfl rfl rfl ?_
              refine rn_iconst (v := 1) dX12_unit_93 (by decide) ?_
              refine rn_isub dX12_unit_94 ?_
              refine rn_putI dX12_unit_95 fl_X12_124 rfl rfl (Or.inl rfl) rfl rfl ?_
              refine rn_iload_n dX12_unit_98 rfl rfl ?_
              refine rn_bipush (v := 40) dX12_unit_99 (by decide) ?_
              refine rn_icmp_ne (tgt := 108) dX12_unit_101 (by decide) (fun c58 => ?_) (fun c58 => ?_)
              · replace V := V.1 c58
                refine rn_iload_n dX12_unit_108 rfl rfl ?_
                refine rn_if_ne (tgt := 116) dX12_unit_109 (by decide) (fun c59 => ?_) (fun c59 => ?_)
                · replace V := V.1 c59
                  refine rn_iconst (v := 0) dX12_unit_116 (by decide) ?_
                  exact rn_iret dX12_unit_117 rfl ⟨rfl, Rh55, _, rfl, V⟩
                · replace V := V.2 c59
                  refine rn_iconst (v := 1) dX12_unit_112 (by decide) ?_
                  refine rn_goto (tgt := 117) dX12_unit_113 (by decide) ?_
                  exact rn_iret dX12_unit_117 rfl ⟨rfl, Rh55, _, rfl, V⟩
              · replace V := V.2 c58
                refine rn_iload_n dX12_unit_104 rfl rfl ?_
                refine rn_goto (tgt := 117) dX12_unit_105 (by decide) ?_
                exact rn_iret dX12_unit_117 rfl ⟨rfl, Rh55, _, rfl, V⟩
            · replace V := V.2 c57
              refine rn_aload_n dX12_unit_83 rfl rfl ?_
              refine rn_cV (M' := mX12_wrong) (n := 0) (av := []) (S := []) (rc := 0) (rs := 0) (mc := 0) (ms := 0) (a := 94) (ci := 11) (r := (RX12, TX12, 38)) dX12_unit_84 pa_X12_wrong (Nat.le_refl _) rfl (Nat.le_of_ble_eq_true rfl) ml_X12_127 im_X12_wrong se_X12_wrong rfl rfl rfl (Ev.mono V ?_)
              rintro v sh1 h60 ⟨rfl, Rh60, x61, rfl, V⟩
              show Rn G (d + 1) 0 0 mX12_unit 87 [(2, .inl x51), (1, .inl x2), (0, .inr (.inr (some 94)))] [.inl x61] SH h60 (QI Q)
              exact rn_iret dX12_unit_87 rfl ⟨rfl, Rh60, _, rfl, V⟩
      · replace V := V.2 c36
        refine rn_aload_n dX12_unit_25 rfl rfl ?_
        refine rn_cV (M' := mX12_wrong) (n := 0) (av := []) (S := []) (rc := 0) (rs := 0) (mc := 0) (ms := 0) (a := 94) (ci := 11) (r := (RX12, TX12, 38)) dX12_unit_26 pa_X12_wrong (Nat.le_refl _) rfl (Nat.le_of_ble_eq_true rfl) ml_X12_127 im_X12_wrong se_X12_wrong rfl rfl rfl (Ev.mono V ?_)
        rintro v sh1 h62 ⟨rfl, Rh62, x63, rfl, V⟩
        show Rn G (d + 1) 0 0 mX12_unit 29 [(1, .inl x2), (0, .inr (.inr (some 94)))] [.inl x63] SH h62 (QI Q)
        exact rn_iret dX12_unit_29 rfl ⟨rfl, Rh62, _, rfl, V⟩
set_option maxRecDepth 100000 in
set_option maxHeartbeats 4000000 in
theorem vc_X12_worked {G : GT} {d : Nat} {a1 : Int32} {a2 : Int32} {a3 : Int32}  {h : Hp} {Q : Int32 → Hp → Prop} (hR : RF h) (V : ((¬ a3 = 1 → EvI G d mX12_either [.inr (.inr (some 94))] (sI (sI (sI (sI (sI (sI h 94 5 a1) 94 6 0) 94 7 a2) 94 8 (-1)) 94 9 0) 94 10 0) (fun x3 h2 => ((0 ≤ h2.1 94 8 → Q x3 h2) ∧ (¬ 0 ≤ h2.1 94 8 → ((h2.1 94 7 ≤ h2.1 94 6 → Q x3 h2) ∧ (¬ h2.1 94 7 ≤ h2.1 94 6 → EvI G d mX12_wrong [.inr (.inr (some 94))] h2 (fun x7 h6 => Q x7 h6))))))) ∧ (a3 = 1 → EvI G d mX12_either [.inr (.inr (some 94))] (sI (sI (sI (sI (sI (sI h 94 5 a1) 94 6 0) 94 7 a2) 94 8 (-1)) 94 9 0) 94 10 1) (fun x9 h8 => ((0 ≤ h8.1 94 8 → Q x9 h8) ∧ (¬ 0 ≤ h8.1 94 8 → ((h8.1 94 7 ≤ h8.1 94 6 → Q x9 h8) ∧ (¬ h8.1 94 7 ≤ h8.1 94 6 → EvI G d mX12_wrong [.inr (.inr (some 94))] h8 (fun x13 h12 => Q x13 h12))))))))) : EvI G (d + 1) mX12_worked [.inr (.inr (some 94)), .inl a1, .inl a2, .inl a3] h Q := by
  refine Ev.of rfl (fun _ => Nat.le_of_ble_eq_true rfl) ?_
  show Rn G (d + 1) 0 0 mX12_worked 0 [(0, .inr (.inr (some 94))), (1, .inl a1), (2, .inl a2), (3, .inl a3)] [] SH h (QI Q)
  refine rn_aload_n dX12_worked_0 rfl rfl ?_
  refine rn_iload_n dX12_worked_1 rfl rfl ?_
  refine rn_putI dX12_worked_2 fl_X12_94 rfl rfl (Or.inl rfl) rfl rfl ?_
  refine rn_aload_n dX12_worked_5 rfl rfl ?_
  refine rn_iconst (v := 0) dX12_worked_6 (by decide) ?_
  refine rn_putI dX12_worked_7 fl_X12_84 rfl rfl (Or.inl rfl) rfl rfl ?_
  refine rn_aload_n dX12_worked_10 rfl rfl ?_
  refine rn_iload_n dX12_worked_11 rfl rfl ?_
  refine rn_putI dX12_worked_12 fl_X12_88 rfl rfl (Or.inl rfl) rfl rfl ?_
  refine rn_aload_n dX12_worked_15 rfl rfl ?_
  refine rn_iconst (v := (-1)) dX12_worked_16 (by decide) ?_
  refine rn_putI dX12_worked_17 fl_X12_91 rfl rfl (Or.inl rfl) rfl rfl ?_
  refine rn_aload_n dX12_worked_20 rfl rfl ?_
  refine rn_iconst (v := 0) dX12_worked_21 (by decide) ?_
  refine rn_putI dX12_worked_22 fl_X12_124 rfl rfl (Or.inl rfl) rfl rfl ?_
  refine rn_aload_n dX12_worked_25 rfl rfl ?_
  refine rn_iload_n dX12_worked_26 rfl rfl ?_
  refine rn_iconst (v := 1) dX12_worked_27 (by decide) ?_
  refine rn_icmp_ne (tgt := 35) dX12_worked_28 (by decide) (fun c1 => ?_) (fun c1 => ?_)
  · replace V := V.1 c1
    refine rn_iconst (v := 0) dX12_worked_35 (by decide) ?_
    refine rn_putI dX12_worked_36 fl_X12_101 rfl rfl (Or.inl rfl) (show narrow .boolean (.int 0) = .int 0 by decide) rfl ?_
    refine rn_aload_n dX12_worked_39 rfl rfl ?_
    refine rn_cV (M' := mX12_either) (n := 0) (av := []) (S := []) (rc := 0) (rs := 0) (mc := 0) (ms := 0) (a := 94) (ci := 11) (r := (RX12, TX12, 38)) dX12_worked_40 pa_X12_either (Nat.le_refl _) rfl (Nat.le_of_ble_eq_true rfl) ml_X12_130 im_X12_either se_X12_either rfl rfl rfl (Ev.mono V ?_)
    rintro v sh1 h2 ⟨rfl, Rh2, x3, rfl, V⟩
    show Rn G (d + 1) 0 0 mX12_worked 43 [(0, .inr (.inr (some 94))), (1, .inl a1), (2, .inl a2), (3, .inl a3)] [.inl x3] SH h2 (QI Q)
    refine rn_istore (L' := [(4, .inl x3), (0, .inr (.inr (some 94))), (1, .inl a1), (2, .inl a2), (3, .inl a3)]) dX12_worked_43 (Nat.le_of_ble_eq_true rfl) rfl ?_
    refine rn_aload_n dX12_worked_45 rfl rfl ?_
    refine rn_get (v := .inl (h2.1 94 8)) dX12_worked_46 fl_X12_91 rfl rfl rfl ?_
    refine rn_if_ge (tgt := 68) dX12_worked_49 (by decide) (fun c4 => ?_) (fun c4 => ?_)
    · replace V := V.1 c4
      refine rn_iload dX12_worked_68 rfl ?_
      exact rn_iret dX12_worked_70 rfl ⟨rfl, Rh2, _, rfl, V⟩
    · replace V := V.2 c4
      refine rn_aload_n dX12_worked_52 rfl rfl ?_
      refine rn_get (v := .inl (h2.1 94 6)) dX12_worked_53 fl_X12_84 rfl rfl rfl ?_
      refine rn_aload_n dX12_worked_56 rfl rfl ?_
      refine rn_get (v := .inl (h2.1 94 7)) dX12_worked_57 fl_X12_88 rfl rfl rfl ?_
      refine rn_icmp_ge (tgt := 68) dX12_worked_60 (by decide) (fun c5 => ?_) (fun c5 => ?_)
      · replace V := V.1 c5
        refine rn_iload dX12_worked_68 rfl ?_
        exact rn_iret dX12_worked_70 rfl ⟨rfl, Rh2, _, rfl, V⟩
      · replace V := V.2 c5
        refine rn_aload_n dX12_worked_63 rfl rfl ?_
        refine rn_cV (M' := mX12_wrong) (n := 0) (av := []) (S := []) (rc := 0) (rs := 0) (mc := 0) (ms := 0) (a := 94) (ci := 11) (r := (RX12, TX12, 38)) dX12_worked_64 pa_X12_wrong (Nat.le_refl _) rfl (Nat.le_of_ble_eq_true rfl) ml_X12_127 im_X12_wrong se_X12_wrong rfl rfl rfl (Ev.mono V ?_)
        rintro v sh1 h6 ⟨rfl, Rh6, x7, rfl, V⟩
        show Rn G (d + 1) 0 0 mX12_worked 67 [(4, .inl x3), (0, .inr (.inr (some 94))), (1, .inl a1), (2, .inl a2), (3, .inl a3)] [.inl x7] SH h6 (QI Q)
        exact rn_iret dX12_worked_67 rfl ⟨rfl, Rh6, _, rfl, V⟩
  · replace V := V.2 c1
    refine rn_iconst (v := 1) dX12_worked_31 (by decide) ?_
    refine rn_goto (tgt := 36) dX12_worked_32 (by decide) ?_
    refine rn_putI dX12_worked_36 fl_X12_101 rfl rfl (Or.inl rfl) (show narrow .boolean (.int 1) = .int 1 by decide) rfl ?_
    refine rn_aload_n dX12_worked_39 rfl rfl ?_
    refine rn_cV (M' := mX12_either) (n := 0) (av := []) (S := []) (rc := 0) (rs := 0) (mc := 0) (ms := 0) (a := 94) (ci := 11) (r := (RX12, TX12, 38)) dX12_worked_40 pa_X12_either (Nat.le_refl _) rfl (Nat.le_of_ble_eq_true rfl) ml_X12_130 im_X12_either se_X12_either rfl rfl rfl (Ev.mono V ?_)
    rintro v sh1 h8 ⟨rfl, Rh8, x9, rfl, V⟩
    show Rn G (d + 1) 0 0 mX12_worked 43 [(0, .inr (.inr (some 94))), (1, .inl a1), (2, .inl a2), (3, .inl a3)] [.inl x9] SH h8 (QI Q)
    refine rn_istore (L' := [(4, .inl x9), (0, .inr (.inr (some 94))), (1, .inl a1), (2, .inl a2), (3, .inl a3)]) dX12_worked_43 (Nat.le_of_ble_eq_true rfl) rfl ?_
    refine rn_aload_n dX12_worked_45 rfl rfl ?_
    refine rn_get (v := .inl (h8.1 94 8)) dX12_worked_46 fl_X12_91 rfl rfl rfl ?_
    refine rn_if_ge (tgt := 68) dX12_worked_49 (by decide) (fun c10 => ?_) (fun c10 => ?_)
    · replace V := V.1 c10
      refine rn_iload dX12_worked_68 rfl ?_
      exact rn_iret dX12_worked_70 rfl ⟨rfl, Rh8, _, rfl, V⟩
    · replace V := V.2 c10
      refine rn_aload_n dX12_worked_52 rfl rfl ?_
      refine rn_get (v := .inl (h8.1 94 6)) dX12_worked_53 fl_X12_84 rfl rfl rfl ?_
      refine rn_aload_n dX12_worked_56 rfl rfl ?_
      refine rn_get (v := .inl (h8.1 94 7)) dX12_worked_57 fl_X12_88 rfl rfl rfl ?_
      refine rn_icmp_ge (tgt := 68) dX12_worked_60 (by decide) (fun c11 => ?_) (fun c11 => ?_)
      · replace V := V.1 c11
        refine rn_iload dX12_worked_68 rfl ?_
        exact rn_iret dX12_worked_70 rfl ⟨rfl, Rh8, _, rfl, V⟩
      · replace V := V.2 c11
        refine rn_aload_n dX12_worked_63 rfl rfl ?_
        refine rn_cV (M' := mX12_wrong) (n := 0) (av := []) (S := []) (rc := 0) (rs := 0) (mc := 0) (ms := 0) (a := 94) (ci := 11) (r := (RX12, TX12, 38)) dX12_worked_64 pa_X12_wrong (Nat.le_refl _) rfl (Nat.le_of_ble_eq_true rfl) ml_X12_127 im_X12_wrong se_X12_wrong rfl rfl rfl (Ev.mono V ?_)
        rintro v sh1 h12 ⟨rfl, Rh12, x13, rfl, V⟩
        show Rn G (d + 1) 0 0 mX12_worked 67 [(4, .inl x9), (0, .inr (.inr (some 94))), (1, .inl a1), (2, .inl a2), (3, .inl a3)] [.inl x13] SH h12 (QI Q)
        exact rn_iret dX12_worked_67 rfl ⟨rfl, Rh12, _, rfl, V⟩
def Rg_X12_feed_41 (G : GT) (d : Nat) (l1 : Int64) (l3 : Int32) (l4 : Int32) (h : Hp) (Q : Int32 → Hp → Prop) : Prop := Rn G (d + 1) 0 0 mX12_feed 41 [(0, .inr (.inr (some 94))), (1, .inr (.inl l1)), (3, .inl l3), (4, .inl l4)] [] SH h (QI Q)
set_option maxRecDepth 100000 in
set_option maxHeartbeats 4000000 in
theorem vc_X12_feed_41 {G : GT} {d : Nat} {l1 : Int64} {l3 : Int32} {l4 : Int32}  {h : Hp} {Q : Int32 → Hp → Prop} (hR : RF h) (V : ((l3 ≤ l4 → Q (h.1 95 8) h) ∧ (¬ l3 ≤ l4 → vp_in (212 + h.1 95 8) 264 ∧ ∀ h10 : Hp, h10 = (sI (sI h 95 (Int32.toNatClampNeg (212 + h.1 95 8)) (Int64.toInt32 ((l1 >>> (Int32.toInt64 (8 * l4) &&& 63)) &&& 255))) 95 8 ((sI h 95 (Int32.toNatClampNeg (212 + h.1 95 8)) (Int64.toInt32 ((l1 >>> (Int32.toInt64 (8 * l4) &&& 63)) &&& 255))).1 95 8 + 1)) → Rg_X12_feed_41 G d l1 l3 (l4 + 1) h10 Q))) : Rg_X12_feed_41 G d l1 l3 l4 h Q := by
  show Rn G (d + 1) 0 0 mX12_feed 41 [(0, .inr (.inr (some 94))), (1, .inr (.inl l1)), (3, .inl l3), (4, .inl l4)] [] SH h (QI Q)
  refine rn_iload dX12_feed_41 rfl ?_
  refine rn_iload_n dX12_feed_43 rfl rfl ?_
  refine rn_icmp_ge (tgt := 92) dX12_feed_44 (by decide) (fun c9 => ?_) (fun c9 => ?_)
  · replace V := V.1 c9
    refine rn_aload_n dX12_feed_92 rfl rfl ?_
    refine rn_get (v := .inr (.inr (some 95))) dX12_feed_93 fl_X12_7 rfl rfl (congrArg (fun z => (Sum.inr (Sum.inr z) : MV)) (rf_94_0 hR)) ?_
    refine rn_bipush (v := 8) dX12_feed_96 (by decide) ?_
    refine rn_iald (k := 8) dX12_feed_98 rfl (by decide) (by unfold vp_in; decide) ?_
    exact rn_iret dX12_feed_99 rfl ⟨rfl, hR, _, rfl, V⟩
  · replace V := V.2 c9
    refine rn_aload_n dX12_feed_47 rfl rfl ?_
    refine rn_get (v := .inr (.inr (some 95))) dX12_feed_48 fl_X12_7 rfl rfl (congrArg (fun z => (Sum.inr (Sum.inr z) : MV)) (rf_94_0 hR)) ?_
    refine rn_sipush (v := 212) dX12_feed_51 (by decide) ?_
    refine rn_aload_n dX12_feed_54 rfl rfl ?_
    refine rn_get (v := .inr (.inr (some 95))) dX12_feed_55 fl_X12_7 rfl rfl (congrArg (fun z => (Sum.inr (Sum.inr z) : MV)) (rf_94_0 hR)) ?_
    refine rn_bipush (v := 8) dX12_feed_58 (by decide) ?_
    refine rn_iald (k := 8) dX12_feed_60 rfl (by decide) (by unfold vp_in; decide) ?_
    refine rn_iadd dX12_feed_61 ?_
    refine rn_lload_n dX12_feed_62 rfl rfl ?_
    refine rn_bipush (v := 8) dX12_feed_63 (by decide) ?_
    refine rn_iload dX12_feed_65 rfl ?_
    refine rn_imul dX12_feed_67 ?_
    refine rn_lshr dX12_feed_68 ?_
    refine rn_ldc2 (v := 255) dX12_feed_69 cw_X12_146 ?_
    refine rn_land dX12_feed_72 ?_
    refine rn_l2i dX12_feed_73 ?_
    obtain ⟨g0, V⟩ := V
    refine rn_iast (k := (Int32.toNatClampNeg (212 + h.1 95 8))) dX12_feed_74 rfl rfl g0 ?_
    refine rn_aload_n dX12_feed_75 rfl rfl ?_
    refine rn_get (v := .inr (.inr (some 95))) dX12_feed_76 fl_X12_7 rfl rfl (congrArg (fun z => (Sum.inr (Sum.inr z) : MV)) (rf_94_0 hR)) ?_
    refine rn_bipush (v := 8) dX12_feed_79 (by decide) ?_
    refine rn_dup2 dX12_feed_81 rfl rfl ?_
    refine rn_iald (k := 8) dX12_feed_82 rfl (by decide) (by unfold vp_in; decide) ?_
    refine rn_iconst (v := 1) dX12_feed_83 (by decide) ?_
    refine rn_iadd dX12_feed_84 ?_
    refine rn_iast (k := 8) dX12_feed_85 rfl (by decide) (by unfold vp_in; decide) ?_
    obtain ⟨h10, eh10⟩ : ∃ z, z = (sI (sI h 95 (Int32.toNatClampNeg (212 + h.1 95 8)) (Int64.toInt32 ((l1 >>> (Int32.toInt64 (8 * l4) &&& 63)) &&& 255))) 95 8 ((sI h 95 (Int32.toNatClampNeg (212 + h.1 95 8)) (Int64.toInt32 ((l1 >>> (Int32.toInt64 (8 * l4) &&& 63)) &&& 255))).1 95 8 + 1)) := ⟨_, rfl⟩
    show Rn G (d + 1) 0 0 mX12_feed 86 [(0, .inr (.inr (some 94))), (1, .inr (.inl l1)), (3, .inl l3), (4, .inl l4)] [] SH (sI (sI h 95 (Int32.toNatClampNeg (212 + h.1 95 8)) (Int64.toInt32 ((l1 >>> (Int32.toInt64 (8 * l4) &&& 63)) &&& 255))) 95 8 ((sI h 95 (Int32.toNatClampNeg (212 + h.1 95 8)) (Int64.toInt32 ((l1 >>> (Int32.toInt64 (8 * l4) &&& 63)) &&& 255))).1 95 8 + 1)) (QI Q)
    rw [← eh10]
    replace V := V h10 eh10
    have Rh10 : RF h10 := by rw [eh10]; exact hR
    refine rn_iinc (L' := [(4, .inl (l4 + 1)), (0, .inr (.inr (some 94))), (1, .inr (.inl l1)), (3, .inl l3)]) dX12_feed_86 rfl (v := (l4 + 1)) rfl (Nat.le_of_ble_eq_true rfl) rfl ?_
    refine rn_goto (tgt := 41) dX12_feed_89 (by decide) ?_
    refine rn_sub [1, 2, 3, 0] (L' := [(0, .inr (.inr (some 94))), (1, .inr (.inl l1)), (3, .inl l3), (4, .inl (l4 + 1))]) rfl ?_
    exact V
set_option maxRecDepth 100000 in
set_option maxHeartbeats 4000000 in
theorem vc_X12_feed {G : GT} {d : Nat} {a1 : Int64} {a2 : Int32}  {h : Hp} {Q : Int32 → Hp → Prop} (hR : RF h) (V : EvI G d mX12_in [.inr (.inl (Int32.toInt64 a2)), .inr (.inl 1), .inr (.inl 8)] h (fun x2 h1 => ((¬ x2 = 0 → (((h1.1 95 8 + a2) ≤ 50 → Rg_X12_feed_41 G d a1 a2 0 h1 Q) ∧ (¬ (h1.1 95 8 + a2) ≤ 50 → EvI G d mX12_finds [.inr (.inr (some 94)), .inl 4] h1 (fun x6 h5 => Q x6 h5)))) ∧ (x2 = 0 → EvI G d mX12_finds [.inr (.inr (some 94)), .inl 1] h1 (fun x8 h7 => Q x8 h7))))) : EvI G (d + 1) mX12_feed [.inr (.inr (some 94)), .inr (.inl a1), .inl a2] h Q := by
  refine Ev.of rfl (fun _ => Nat.le_of_ble_eq_true rfl) ?_
  show Rn G (d + 1) 0 0 mX12_feed 0 [(0, .inr (.inr (some 94))), (1, .inr (.inl a1)), (3, .inl a2)] [] SH h (QI Q)
  refine rn_iload_n dX12_feed_0 rfl rfl ?_
  refine rn_i2l dX12_feed_1 ?_
  refine rn_lconst (v := 1) dX12_feed_2 rfl ?_
  refine rn_ldc2 (v := 8) dX12_feed_3 cw_X12_141 ?_
  refine rn_cS (M' := mX12_in) (n := 3) (av := [.inr (.inl (Int32.toInt64 a2)), .inr (.inl 1), .inr (.inl 8)]) (S := []) (rc := 0) (rs := 0) (mc := 0) (ms := 0) dX12_feed_6 pa_X12_in (Nat.le_refl _) rfl (Nat.le_of_ble_eq_true rfl) ml_X12_80 ss_X12_in rfl (Ev.mono V ?_)
  rintro v sh1 h1 ⟨rfl, Rh1, x2, rfl, V⟩
  show Rn G (d + 1) 0 0 mX12_feed 9 [(0, .inr (.inr (some 94))), (1, .inr (.inl a1)), (3, .inl a2)] [.inl x2] SH h1 (QI Q)
  refine rn_if_ne (tgt := 18) dX12_feed_9 (by decide) (fun c3 => ?_) (fun c3 => ?_)
  · replace V := V.1 c3
    refine rn_aload_n dX12_feed_18 rfl rfl ?_
    refine rn_get (v := .inr (.inr (some 95))) dX12_feed_19 fl_X12_7 rfl rfl (congrArg (fun z => (Sum.inr (Sum.inr z) : MV)) (rf_94_0 Rh1)) ?_
    refine rn_bipush (v := 8) dX12_feed_22 (by decide) ?_
    refine rn_iald (k := 8) dX12_feed_24 rfl (by decide) (by unfold vp_in; decide) ?_
    refine rn_iload_n dX12_feed_25 rfl rfl ?_
    refine rn_iadd dX12_feed_26 ?_
    refine rn_bipush (v := 50) dX12_feed_27 (by decide) ?_
    refine rn_icmp_le (tgt := 38) dX12_feed_29 (by decide) (fun c4 => ?_) (fun c4 => ?_)
    · replace V := V.1 c4
      refine rn_iconst (v := 0) dX12_feed_38 (by decide) ?_
      refine rn_istore (L' := [(4, .inl 0), (0, .inr (.inr (some 94))), (1, .inr (.inl a1)), (3, .inl a2)]) dX12_feed_39 (Nat.le_of_ble_eq_true rfl) rfl ?_
      refine rn_sub [1, 2, 3, 0] (L' := [(0, .inr (.inr (some 94))), (1, .inr (.inl a1)), (3, .inl a2), (4, .inl 0)]) rfl ?_
      exact V
    · replace V := V.2 c4
      refine rn_aload_n dX12_feed_32 rfl rfl ?_
      refine rn_iconst (v := 4) dX12_feed_33 (by decide) ?_
      refine rn_cV (M' := mX12_finds) (n := 1) (av := [.inl 4]) (S := []) (rc := 0) (rs := 0) (mc := 0) (ms := 0) (a := 94) (ci := 11) (r := (RX12, TX12, 38)) dX12_feed_34 pa_X12_finds (Nat.le_refl _) rfl (Nat.le_of_ble_eq_true rfl) ml_X12_143 im_X12_finds se_X12_finds rfl rfl rfl (Ev.mono V ?_)
      rintro v sh1 h5 ⟨rfl, Rh5, x6, rfl, V⟩
      show Rn G (d + 1) 0 0 mX12_feed 37 [(0, .inr (.inr (some 94))), (1, .inr (.inl a1)), (3, .inl a2)] [.inl x6] SH h5 (QI Q)
      exact rn_iret dX12_feed_37 rfl ⟨rfl, Rh5, _, rfl, V⟩
  · replace V := V.2 c3
    refine rn_aload_n dX12_feed_12 rfl rfl ?_
    refine rn_iconst (v := 1) dX12_feed_13 (by decide) ?_
    refine rn_cV (M' := mX12_finds) (n := 1) (av := [.inl 1]) (S := []) (rc := 0) (rs := 0) (mc := 0) (ms := 0) (a := 94) (ci := 11) (r := (RX12, TX12, 38)) dX12_feed_14 pa_X12_finds (Nat.le_refl _) rfl (Nat.le_of_ble_eq_true rfl) ml_X12_143 im_X12_finds se_X12_finds rfl rfl rfl (Ev.mono V ?_)
    rintro v sh1 h7 ⟨rfl, Rh7, x8, rfl, V⟩
    show Rn G (d + 1) 0 0 mX12_feed 17 [(0, .inr (.inr (some 94))), (1, .inr (.inl a1)), (3, .inl a2)] [.inl x8] SH h7 (QI Q)
    exact rn_iret dX12_feed_17 rfl ⟨rfl, Rh7, _, rfl, V⟩
def Rg_X12_text_70 (G : GT) (d : Nat) (l1 : Int32) (l2 : Int32) (l4 : Int32) (h : Hp) (Q : Int32 → Hp → Prop) : Prop := Rn G (d + 1) 0 0 mX12_text 70 [(0, .inr (.inr (some 94))), (1, .inl l1), (2, .inl l2), (4, .inl l4)] [] SH h (QI Q)
set_option maxRecDepth 100000 in
set_option maxHeartbeats 4000000 in
theorem vc_X12_text_70 {G : GT} {d : Nat} {l1 : Int32} {l2 : Int32} {l4 : Int32}  {h : Hp} {Q : Int32 → Hp → Prop} (hR : RF h) (V : ((l2 ≤ l4 → Q 1 h) ∧ (¬ l2 ≤ l4 → vp_in (212 + l4) 264 ∧ vp_in ((112 + (50 * l1)) + l4) 264 ∧ Rg_X12_text_70 G d l1 l2 (l4 + 1) (sI h 95 (Int32.toNatClampNeg ((112 + (50 * l1)) + l4)) (h.1 95 (Int32.toNatClampNeg (212 + l4)))) Q))) : Rg_X12_text_70 G d l1 l2 l4 h Q := by
  show Rn G (d + 1) 0 0 mX12_text 70 [(0, .inr (.inr (some 94))), (1, .inl l1), (2, .inl l2), (4, .inl l4)] [] SH h (QI Q)
  refine rn_iload dX12_text_70 rfl ?_
  refine rn_iload_n dX12_text_72 rfl rfl ?_
  refine rn_icmp_ge (tgt := 108) dX12_text_73 (by decide) (fun c9 => ?_) (fun c9 => ?_)
  · replace V := V.1 c9
    refine rn_iconst (v := 1) dX12_text_108 (by decide) ?_
    exact rn_iret dX12_text_109 rfl ⟨rfl, hR, _, rfl, V⟩
  · replace V := V.2 c9
    refine rn_aload_n dX12_text_76 rfl rfl ?_
    refine rn_get (v := .inr (.inr (some 95))) dX12_text_77 fl_X12_7 rfl rfl (congrArg (fun z => (Sum.inr (Sum.inr z) : MV)) (rf_94_0 hR)) ?_
    refine rn_bipush (v := 112) dX12_text_80 (by decide) ?_
    refine rn_bipush (v := 50) dX12_text_82 (by decide) ?_
    refine rn_iload_n dX12_text_84 rfl rfl ?_
    refine rn_imul dX12_text_85 ?_
    refine rn_iadd dX12_text_86 ?_
    refine rn_iload dX12_text_87 rfl ?_
    refine rn_iadd dX12_text_89 ?_
    refine rn_aload_n dX12_text_90 rfl rfl ?_
    refine rn_get (v := .inr (.inr (some 95))) dX12_text_91 fl_X12_7 rfl rfl (congrArg (fun z => (Sum.inr (Sum.inr z) : MV)) (rf_94_0 hR)) ?_
    refine rn_sipush (v := 212) dX12_text_94 (by decide) ?_
    refine rn_iload dX12_text_97 rfl ?_
    refine rn_iadd dX12_text_99 ?_
    obtain ⟨g0, V⟩ := V
    refine rn_iald (k := (Int32.toNatClampNeg (212 + l4))) dX12_text_100 rfl rfl g0 ?_
    obtain ⟨g0, V⟩ := V
    refine rn_iast (k := (Int32.toNatClampNeg ((112 + (50 * l1)) + l4))) dX12_text_101 rfl rfl g0 ?_
    refine rn_iinc (L' := [(4, .inl (l4 + 1)), (0, .inr (.inr (some 94))), (1, .inl l1), (2, .inl l2)]) dX12_text_102 rfl (v := (l4 + 1)) rfl (Nat.le_of_ble_eq_true rfl) rfl ?_
    refine rn_goto (tgt := 70) dX12_text_105 (by decide) ?_
    refine rn_sub [1, 2, 3, 0] (L' := [(0, .inr (.inr (some 94))), (1, .inl l1), (2, .inl l2), (4, .inl (l4 + 1))]) rfl ?_
    exact V
set_option maxRecDepth 100000 in
set_option maxHeartbeats 4000000 in
theorem vc_X12_text {G : GT} {d : Nat} {a1 : Int32}  {h : Hp} {Q : Int32 → Hp → Prop} (hR : RF h) (V : EvI G d mX12_in [.inr (.inl (Int32.toInt64 a1)), .inr (.inl 0), .inr (.inl 1)] h (fun x2 h1 => ((¬ x2 = 0 → EvI G d mX12_worked [.inr (.inr (some 94)), .inl 212, .inl (h1.1 95 8), .inl a1] (sI h1 95 8 0) (fun x5 h4 => ((h4.1 94 8 < 0 → vp_in (90 + a1) 264 ∧ Rg_X12_text_70 G d a1 (h1.1 95 8) 0 (sI h4 95 (Int32.toNatClampNeg (90 + a1)) (h1.1 95 8)) Q) ∧ (¬ h4.1 94 8 < 0 → Q ((-10) - h4.1 94 8) h4)))) ∧ (x2 = 0 → EvI G d mX12_finds [.inr (.inr (some 94)), .inl 1] h1 (fun x8 h7 => Q x8 h7))))) : EvI G (d + 1) mX12_text [.inr (.inr (some 94)), .inl a1] h Q := by
  refine Ev.of rfl (fun _ => Nat.le_of_ble_eq_true rfl) ?_
  show Rn G (d + 1) 0 0 mX12_text 0 [(0, .inr (.inr (some 94))), (1, .inl a1)] [] SH h (QI Q)
  refine rn_iload_n dX12_text_0 rfl rfl ?_
  refine rn_i2l dX12_text_1 ?_
  refine rn_lconst (v := 0) dX12_text_2 rfl ?_
  refine rn_lconst (v := 1) dX12_text_3 rfl ?_
  refine rn_cS (M' := mX12_in) (n := 3) (av := [.inr (.inl (Int32.toInt64 a1)), .inr (.inl 0), .inr (.inl 1)]) (S := []) (rc := 0) (rs := 0) (mc := 0) (ms := 0) dX12_text_4 pa_X12_in (Nat.le_refl _) rfl (Nat.le_of_ble_eq_true rfl) ml_X12_80 ss_X12_in rfl (Ev.mono V ?_)
  rintro v sh1 h1 ⟨rfl, Rh1, x2, rfl, V⟩
  show Rn G (d + 1) 0 0 mX12_text 7 [(0, .inr (.inr (some 94))), (1, .inl a1)] [.inl x2] SH h1 (QI Q)
  refine rn_if_ne (tgt := 16) dX12_text_7 (by decide) (fun c3 => ?_) (fun c3 => ?_)
  · replace V := V.1 c3
    refine rn_aload_n dX12_text_16 rfl rfl ?_
    refine rn_get (v := .inr (.inr (some 95))) dX12_text_17 fl_X12_7 rfl rfl (congrArg (fun z => (Sum.inr (Sum.inr z) : MV)) (rf_94_0 Rh1)) ?_
    refine rn_bipush (v := 8) dX12_text_20 (by decide) ?_
    refine rn_iald (k := 8) dX12_text_22 rfl (by decide) (by unfold vp_in; decide) ?_
    refine rn_istore_n (L' := [(2, .inl (h1.1 95 8)), (0, .inr (.inr (some 94))), (1, .inl a1)]) dX12_text_23 rfl (Nat.le_of_ble_eq_true rfl) rfl ?_
    refine rn_aload_n dX12_text_24 rfl rfl ?_
    refine rn_get (v := .inr (.inr (some 95))) dX12_text_25 fl_X12_7 rfl rfl (congrArg (fun z => (Sum.inr (Sum.inr z) : MV)) (rf_94_0 Rh1)) ?_
    refine rn_bipush (v := 8) dX12_text_28 (by decide) ?_
    refine rn_iconst (v := 0) dX12_text_30 (by decide) ?_
    refine rn_iast (k := 8) dX12_text_31 rfl (by decide) (by unfold vp_in; decide) ?_
    refine rn_aload_n dX12_text_32 rfl rfl ?_
    refine rn_sipush (v := 212) dX12_text_33 (by decide) ?_
    refine rn_iload_n dX12_text_36 rfl rfl ?_
    refine rn_iload_n dX12_text_37 rfl rfl ?_
    refine rn_cV (M' := mX12_worked) (n := 3) (av := [.inl 212, .inl (h1.1 95 8), .inl a1]) (S := []) (rc := 0) (rs := 0) (mc := 0) (ms := 0) (a := 94) (ci := 11) (r := (RX12, TX12, 38)) dX12_text_38 pa_X12_worked (Nat.le_refl _) rfl (Nat.le_of_ble_eq_true rfl) ml_X12_148 im_X12_worked se_X12_worked rfl rfl rfl (Ev.mono V ?_)
    rintro v sh1 h4 ⟨rfl, Rh4, x5, rfl, V⟩
    show Rn G (d + 1) 0 0 mX12_text 41 [(2, .inl (h1.1 95 8)), (0, .inr (.inr (some 94))), (1, .inl a1)] [.inl x5] SH h4 (QI Q)
    refine rn_istore_n (L' := [(3, .inl x5), (2, .inl (h1.1 95 8)), (0, .inr (.inr (some 94))), (1, .inl a1)]) dX12_text_41 rfl (Nat.le_of_ble_eq_true rfl) rfl ?_
    refine rn_aload_n dX12_text_42 rfl rfl ?_
    refine rn_get (v := .inl (h4.1 94 8)) dX12_text_43 fl_X12_91 rfl rfl rfl ?_
    refine rn_if_lt (tgt := 57) dX12_text_46 (by decide) (fun c6 => ?_) (fun c6 => ?_)
    · replace V := V.1 c6
      refine rn_aload_n dX12_text_57 rfl rfl ?_
      refine rn_get (v := .inr (.inr (some 95))) dX12_text_58 fl_X12_7 rfl rfl (congrArg (fun z => (Sum.inr (Sum.inr z) : MV)) (rf_94_0 Rh4)) ?_
      refine rn_bipush (v := 90) dX12_text_61 (by decide) ?_
      refine rn_iload_n dX12_text_63 rfl rfl ?_
      refine rn_iadd dX12_text_64 ?_
      refine rn_iload_n dX12_text_65 rfl rfl ?_
      obtain ⟨g0, V⟩ := V
      refine rn_iast (k := (Int32.toNatClampNeg (90 + a1))) dX12_text_66 rfl rfl g0 ?_
      refine rn_iconst (v := 0) dX12_text_67 (by decide) ?_
      refine rn_istore (L' := [(4, .inl 0), (3, .inl x5), (2, .inl (h1.1 95 8)), (0, .inr (.inr (some 94))), (1, .inl a1)]) dX12_text_68 (Nat.le_of_ble_eq_true rfl) rfl ?_
      refine rn_sub [3, 4, 2, 0] (L' := [(0, .inr (.inr (some 94))), (1, .inl a1), (2, .inl (h1.1 95 8)), (4, .inl 0)]) rfl ?_
      exact V
    · replace V := V.2 c6
      refine rn_bipush (v := (-10)) dX12_text_49 (by decide) ?_
      refine rn_aload_n dX12_text_51 rfl rfl ?_
      refine rn_get (v := .inl (h4.1 94 8)) dX12_text_52 fl_X12_91 rfl rfl rfl ?_
      refine rn_isub dX12_text_55 ?_
      exact rn_iret dX12_text_56 rfl ⟨rfl, Rh4, _, rfl, V⟩
  · replace V := V.2 c3
    refine rn_aload_n dX12_text_10 rfl rfl ?_
    refine rn_iconst (v := 1) dX12_text_11 (by decide) ?_
    refine rn_cV (M' := mX12_finds) (n := 1) (av := [.inl 1]) (S := []) (rc := 0) (rs := 0) (mc := 0) (ms := 0) (a := 94) (ci := 11) (r := (RX12, TX12, 38)) dX12_text_12 pa_X12_finds (Nat.le_refl _) rfl (Nat.le_of_ble_eq_true rfl) ml_X12_143 im_X12_finds se_X12_finds rfl rfl rfl (Ev.mono V ?_)
    rintro v sh1 h7 ⟨rfl, Rh7, x8, rfl, V⟩
    show Rn G (d + 1) 0 0 mX12_text 15 [(0, .inr (.inr (some 94))), (1, .inl a1)] [.inl x8] SH h7 (QI Q)
    exact rn_iret dX12_text_15 rfl ⟨rfl, Rh7, _, rfl, V⟩
set_option maxRecDepth 100000 in
set_option maxHeartbeats 4000000 in
theorem vc_X12_textGives {G : GT} {d : Nat} {a1 : Int32} {a2 : Int32} {a3 : Int32} {a4 : Int32}  {h : Hp} {Q : Int32 → Hp → Prop} (hR : RF h) (V : ((¬ a1 = 0 → vp_in (90 + a1) 264 ∧ ((h.1 95 (Int32.toNatClampNeg (90 + a1)) ≤ 0 → ((¬ a1 = 0 → EvI G d mX12_held [.inl ((a2 * a4) / 50), .inl 0, .inl a2] h (fun x5 h4 => Q x5 h4)) ∧ (a1 = 0 → EvI G d mX12_held [.inl ((a2 * a4) / 50), .inl 0, .inl 999] h (fun x7 h6 => Q x7 h6)))) ∧ (¬ h.1 95 (Int32.toNatClampNeg (90 + a1)) ≤ 0 → vp_in (90 + a1) 264 ∧ EvI G d mX12_worked [.inr (.inr (some 94)), .inl (112 + (50 * a1)), .inl (h.1 95 (Int32.toNatClampNeg (90 + a1))), .inl a1] (sI (sI (sI h 99 0 a2) 99 1 a3) 99 2 a4) (fun x9 h8 => ((¬ a1 = 0 → EvI G d mX12_held [.inl x9, .inl 0, .inl a2] h8 (fun x12 h11 => Q x12 h11)) ∧ (a1 = 0 → EvI G d mX12_held [.inl x9, .inl 0, .inl 999] h8 (fun x14 h13 => Q x14 h13))))))) ∧ (a1 = 0 → vp_in (90 + a1) 264 ∧ ((h.1 95 (Int32.toNatClampNeg (90 + a1)) ≤ 0 → ((¬ a1 = 0 → EvI G d mX12_held [.inl a2, .inl 0, .inl a2] h (fun x18 h17 => Q x18 h17)) ∧ (a1 = 0 → EvI G d mX12_held [.inl a2, .inl 0, .inl 999] h (fun x20 h19 => Q x20 h19)))) ∧ (¬ h.1 95 (Int32.toNatClampNeg (90 + a1)) ≤ 0 → vp_in (90 + a1) 264 ∧ EvI G d mX12_worked [.inr (.inr (some 94)), .inl (112 + (50 * a1)), .inl (h.1 95 (Int32.toNatClampNeg (90 + a1))), .inl a1] (sI (sI (sI h 99 0 a2) 99 1 a3) 99 2 a4) (fun x22 h21 => ((¬ a1 = 0 → EvI G d mX12_held [.inl x22, .inl 0, .inl a2] h21 (fun x25 h24 => Q x25 h24)) ∧ (a1 = 0 → EvI G d mX12_held [.inl x22, .inl 0, .inl 999] h21 (fun x27 h26 => Q x27 h26))))))))) : EvI G (d + 1) mX12_textGives [.inr (.inr (some 94)), .inl a1, .inl a2, .inl a3, .inl a4] h Q := by
  refine Ev.of rfl (fun _ => Nat.le_of_ble_eq_true rfl) ?_
  show Rn G (d + 1) 0 0 mX12_textGives 0 [(0, .inr (.inr (some 94))), (1, .inl a1), (2, .inl a2), (3, .inl a3), (4, .inl a4)] [] SH h (QI Q)
  refine rn_iload_n dX12_textGives_0 rfl rfl ?_
  refine rn_if_ne (tgt := 8) dX12_textGives_1 (by decide) (fun c1 => ?_) (fun c1 => ?_)
  · replace V := V.1 c1
    refine rn_iload_n dX12_textGives_8 rfl rfl ?_
    refine rn_iload dX12_textGives_9 rfl ?_
    refine rn_imul dX12_textGives_11 ?_
    refine rn_bipush (v := 50) dX12_textGives_12 (by decide) ?_
    refine rn_idiv dX12_textGives_14 (by decide) ?_
    refine rn_istore (L' := [(5, .inl ((a2 * a4) / 50)), (0, .inr (.inr (some 94))), (1, .inl a1), (2, .inl a2), (3, .inl a3), (4, .inl a4)]) dX12_textGives_15 (Nat.le_of_ble_eq_true rfl) rfl ?_
    refine rn_aload_n dX12_textGives_17 rfl rfl ?_
    refine rn_get (v := .inr (.inr (some 95))) dX12_textGives_18 fl_X12_7 rfl rfl (congrArg (fun z => (Sum.inr (Sum.inr z) : MV)) (rf_94_0 hR)) ?_
    refine rn_bipush (v := 90) dX12_textGives_21 (by decide) ?_
    refine rn_iload_n dX12_textGives_23 rfl rfl ?_
    refine rn_iadd dX12_textGives_24 ?_
    obtain ⟨g0, V⟩ := V
    refine rn_iald (k := (Int32.toNatClampNeg (90 + a1))) dX12_textGives_25 rfl rfl g0 ?_
    refine rn_if_le (tgt := 74) dX12_textGives_26 (by decide) (fun c2 => ?_) (fun c2 => ?_)
    · replace V := V.1 c2
      refine rn_iload_n dX12_textGives_74 rfl rfl ?_
      refine rn_if_ne (tgt := 90) dX12_textGives_75 (by decide) (fun c3 => ?_) (fun c3 => ?_)
      · replace V := V.1 c3
        refine rn_iload dX12_textGives_90 rfl ?_
        refine rn_iconst (v := 0) dX12_textGives_92 (by decide) ?_
        refine rn_iload_n dX12_textGives_93 rfl rfl ?_
        refine rn_cS (M' := mX12_held) (n := 3) (av := [.inl ((a2 * a4) / 50), .inl 0, .inl a2]) (S := []) (rc := 0) (rs := 0) (mc := 0) (ms := 0) dX12_textGives_94 pa_X12_held (Nat.le_refl _) rfl (Nat.le_of_ble_eq_true rfl) ml_X12_152 ss_X12_held rfl (Ev.mono V ?_)
        rintro v sh1 h4 ⟨rfl, Rh4, x5, rfl, V⟩
        show Rn G (d + 1) 0 0 mX12_textGives 97 [(5, .inl ((a2 * a4) / 50)), (0, .inr (.inr (some 94))), (1, .inl a1), (2, .inl a2), (3, .inl a3), (4, .inl a4)] [.inl x5] SH h4 (QI Q)
        exact rn_iret dX12_textGives_97 rfl ⟨rfl, Rh4, _, rfl, V⟩
      · replace V := V.2 c3
        refine rn_iload dX12_textGives_78 rfl ?_
        refine rn_iconst (v := 0) dX12_textGives_80 (by decide) ?_
        refine rn_sipush (v := 999) dX12_textGives_81 (by decide) ?_
        refine rn_cS (M' := mX12_held) (n := 3) (av := [.inl ((a2 * a4) / 50), .inl 0, .inl 999]) (S := []) (rc := 0) (rs := 0) (mc := 0) (ms := 0) dX12_textGives_84 pa_X12_held (Nat.le_refl _) rfl (Nat.le_of_ble_eq_true rfl) ml_X12_152 ss_X12_held rfl (Ev.mono V ?_)
        rintro v sh1 h6 ⟨rfl, Rh6, x7, rfl, V⟩
        show Rn G (d + 1) 0 0 mX12_textGives 87 [(5, .inl ((a2 * a4) / 50)), (0, .inr (.inr (some 94))), (1, .inl a1), (2, .inl a2), (3, .inl a3), (4, .inl a4)] [.inl x7] SH h6 (QI Q)
        refine rn_goto (tgt := 97) dX12_textGives_87 (by decide) ?_
        exact rn_iret dX12_textGives_97 rfl ⟨rfl, Rh6, _, rfl, V⟩
    · replace V := V.2 c2
      refine rn_aload_n dX12_textGives_29 rfl rfl ?_
      refine rn_get (v := .inr (.inr (some 99))) dX12_textGives_30 fl_X12_22 rfl rfl (congrArg (fun z => (Sum.inr (Sum.inr z) : MV)) (rf_94_11 hR)) ?_
      refine rn_iconst (v := 0) dX12_textGives_33 (by decide) ?_
      refine rn_iload_n dX12_textGives_34 rfl rfl ?_
      refine rn_iast (k := 0) dX12_textGives_35 rfl (by decide) (by unfold vp_in; decide) ?_
      refine rn_aload_n dX12_textGives_36 rfl rfl ?_
      refine rn_get (v := .inr (.inr (some 99))) dX12_textGives_37 fl_X12_22 rfl rfl (congrArg (fun z => (Sum.inr (Sum.inr z) : MV)) (rf_94_11 hR)) ?_
      refine rn_iconst (v := 1) dX12_textGives_40 (by decide) ?_
      refine rn_iload_n dX12_textGives_41 rfl rfl ?_
      refine rn_iast (k := 1) dX12_textGives_42 rfl (by decide) (by unfold vp_in; decide) ?_
      refine rn_aload_n dX12_textGives_43 rfl rfl ?_
      refine rn_get (v := .inr (.inr (some 99))) dX12_textGives_44 fl_X12_22 rfl rfl (congrArg (fun z => (Sum.inr (Sum.inr z) : MV)) (rf_94_11 hR)) ?_
      refine rn_iconst (v := 2) dX12_textGives_47 (by decide) ?_
      refine rn_iload dX12_textGives_48 rfl ?_
      refine rn_iast (k := 2) dX12_textGives_50 rfl (by decide) (by unfold vp_in; decide) ?_
      refine rn_aload_n dX12_textGives_51 rfl rfl ?_
      refine rn_bipush (v := 112) dX12_textGives_52 (by decide) ?_
      refine rn_bipush (v := 50) dX12_textGives_54 (by decide) ?_
      refine rn_iload_n dX12_textGives_56 rfl rfl ?_
      refine rn_imul dX12_textGives_57 ?_
      refine rn_iadd dX12_textGives_58 ?_
      refine rn_aload_n dX12_textGives_59 rfl rfl ?_
      refine rn_get (v := .inr (.inr (some 95))) dX12_textGives_60 fl_X12_7 rfl rfl (congrArg (fun z => (Sum.inr (Sum.inr z) : MV)) (rf_94_0 hR)) ?_
      refine rn_bipush (v := 90) dX12_textGives_63 (by decide) ?_
      refine rn_iload_n dX12_textGives_65 rfl rfl ?_
      refine rn_iadd dX12_textGives_66 ?_
      obtain ⟨g0, V⟩ := V
      refine rn_iald (k := (Int32.toNatClampNeg (90 + a1))) dX12_textGives_67 rfl rfl g0 ?_
      refine rn_iload_n dX12_textGives_68 rfl rfl ?_
      refine rn_cV (M' := mX12_worked) (n := 3) (av := [.inl (112 + (50 * a1)), .inl (h.1 95 (Int32.toNatClampNeg (90 + a1))), .inl a1]) (S := []) (rc := 0) (rs := 0) (mc := 0) (ms := 0) (a := 94) (ci := 11) (r := (RX12, TX12, 38)) dX12_textGives_69 pa_X12_worked (Nat.le_refl _) rfl (Nat.le_of_ble_eq_true rfl) ml_X12_148 im_X12_worked se_X12_worked rfl rfl rfl (Ev.mono V ?_)
      rintro v sh1 h8 ⟨rfl, Rh8, x9, rfl, V⟩
      show Rn G (d + 1) 0 0 mX12_textGives 72 [(5, .inl ((a2 * a4) / 50)), (0, .inr (.inr (some 94))), (1, .inl a1), (2, .inl a2), (3, .inl a3), (4, .inl a4)] [.inl x9] SH h8 (QI Q)
      refine rn_istore (L' := [(5, .inl x9), (0, .inr (.inr (some 94))), (1, .inl a1), (2, .inl a2), (3, .inl a3), (4, .inl a4)]) dX12_textGives_72 (Nat.le_of_ble_eq_true rfl) rfl ?_
      refine rn_iload_n dX12_textGives_74 rfl rfl ?_
      refine rn_if_ne (tgt := 90) dX12_textGives_75 (by decide) (fun c10 => ?_) (fun c10 => ?_)
      · replace V := V.1 c10
        refine rn_iload dX12_textGives_90 rfl ?_
        refine rn_iconst (v := 0) dX12_textGives_92 (by decide) ?_
        refine rn_iload_n dX12_textGives_93 rfl rfl ?_
        refine rn_cS (M' := mX12_held) (n := 3) (av := [.inl x9, .inl 0, .inl a2]) (S := []) (rc := 0) (rs := 0) (mc := 0) (ms := 0) dX12_textGives_94 pa_X12_held (Nat.le_refl _) rfl (Nat.le_of_ble_eq_true rfl) ml_X12_152 ss_X12_held rfl (Ev.mono V ?_)
        rintro v sh1 h11 ⟨rfl, Rh11, x12, rfl, V⟩
        show Rn G (d + 1) 0 0 mX12_textGives 97 [(5, .inl x9), (0, .inr (.inr (some 94))), (1, .inl a1), (2, .inl a2), (3, .inl a3), (4, .inl a4)] [.inl x12] SH h11 (QI Q)
        exact rn_iret dX12_textGives_97 rfl ⟨rfl, Rh11, _, rfl, V⟩
      · replace V := V.2 c10
        refine rn_iload dX12_textGives_78 rfl ?_
        refine rn_iconst (v := 0) dX12_textGives_80 (by decide) ?_
        refine rn_sipush (v := 999) dX12_textGives_81 (by decide) ?_
        refine rn_cS (M' := mX12_held) (n := 3) (av := [.inl x9, .inl 0, .inl 999]) (S := []) (rc := 0) (rs := 0) (mc := 0) (ms := 0) dX12_textGives_84 pa_X12_held (Nat.le_refl _) rfl (Nat.le_of_ble_eq_true rfl) ml_X12_152 ss_X12_held rfl (Ev.mono V ?_)
        rintro v sh1 h13 ⟨rfl, Rh13, x14, rfl, V⟩
        show Rn G (d + 1) 0 0 mX12_textGives 87 [(5, .inl x9), (0, .inr (.inr (some 94))), (1, .inl a1), (2, .inl a2), (3, .inl a3), (4, .inl a4)] [.inl x14] SH h13 (QI Q)
        refine rn_goto (tgt := 97) dX12_textGives_87 (by decide) ?_
        exact rn_iret dX12_textGives_97 rfl ⟨rfl, Rh13, _, rfl, V⟩
  · replace V := V.2 c1
    refine rn_iload_n dX12_textGives_4 rfl rfl ?_
    refine rn_goto (tgt := 15) dX12_textGives_5 (by decide) ?_
    refine rn_istore (L' := [(5, .inl a2), (0, .inr (.inr (some 94))), (1, .inl a1), (2, .inl a2), (3, .inl a3), (4, .inl a4)]) dX12_textGives_15 (Nat.le_of_ble_eq_true rfl) rfl ?_
    refine rn_aload_n dX12_textGives_17 rfl rfl ?_
    refine rn_get (v := .inr (.inr (some 95))) dX12_textGives_18 fl_X12_7 rfl rfl (congrArg (fun z => (Sum.inr (Sum.inr z) : MV)) (rf_94_0 hR)) ?_
    refine rn_bipush (v := 90) dX12_textGives_21 (by decide) ?_
    refine rn_iload_n dX12_textGives_23 rfl rfl ?_
    refine rn_iadd dX12_textGives_24 ?_
    obtain ⟨g0, V⟩ := V
    refine rn_iald (k := (Int32.toNatClampNeg (90 + a1))) dX12_textGives_25 rfl rfl g0 ?_
    refine rn_if_le (tgt := 74) dX12_textGives_26 (by decide) (fun c15 => ?_) (fun c15 => ?_)
    · replace V := V.1 c15
      refine rn_iload_n dX12_textGives_74 rfl rfl ?_
      refine rn_if_ne (tgt := 90) dX12_textGives_75 (by decide) (fun c16 => ?_) (fun c16 => ?_)
      · replace V := V.1 c16
        refine rn_iload dX12_textGives_90 rfl ?_
        refine rn_iconst (v := 0) dX12_textGives_92 (by decide) ?_
        refine rn_iload_n dX12_textGives_93 rfl rfl ?_
        refine rn_cS (M' := mX12_held) (n := 3) (av := [.inl a2, .inl 0, .inl a2]) (S := []) (rc := 0) (rs := 0) (mc := 0) (ms := 0) dX12_textGives_94 pa_X12_held (Nat.le_refl _) rfl (Nat.le_of_ble_eq_true rfl) ml_X12_152 ss_X12_held rfl (Ev.mono V ?_)
        rintro v sh1 h17 ⟨rfl, Rh17, x18, rfl, V⟩
        show Rn G (d + 1) 0 0 mX12_textGives 97 [(5, .inl a2), (0, .inr (.inr (some 94))), (1, .inl a1), (2, .inl a2), (3, .inl a3), (4, .inl a4)] [.inl x18] SH h17 (QI Q)
        exact rn_iret dX12_textGives_97 rfl ⟨rfl, Rh17, _, rfl, V⟩
      · replace V := V.2 c16
        refine rn_iload dX12_textGives_78 rfl ?_
        refine rn_iconst (v := 0) dX12_textGives_80 (by decide) ?_
        refine rn_sipush (v := 999) dX12_textGives_81 (by decide) ?_
        refine rn_cS (M' := mX12_held) (n := 3) (av := [.inl a2, .inl 0, .inl 999]) (S := []) (rc := 0) (rs := 0) (mc := 0) (ms := 0) dX12_textGives_84 pa_X12_held (Nat.le_refl _) rfl (Nat.le_of_ble_eq_true rfl) ml_X12_152 ss_X12_held rfl (Ev.mono V ?_)
        rintro v sh1 h19 ⟨rfl, Rh19, x20, rfl, V⟩
        show Rn G (d + 1) 0 0 mX12_textGives 87 [(5, .inl a2), (0, .inr (.inr (some 94))), (1, .inl a1), (2, .inl a2), (3, .inl a3), (4, .inl a4)] [.inl x20] SH h19 (QI Q)
        refine rn_goto (tgt := 97) dX12_textGives_87 (by decide) ?_
        exact rn_iret dX12_textGives_97 rfl ⟨rfl, Rh19, _, rfl, V⟩
    · replace V := V.2 c15
      refine rn_aload_n dX12_textGives_29 rfl rfl ?_
      refine rn_get (v := .inr (.inr (some 99))) dX12_textGives_30 fl_X12_22 rfl rfl (congrArg (fun z => (Sum.inr (Sum.inr z) : MV)) (rf_94_11 hR)) ?_
      refine rn_iconst (v := 0) dX12_textGives_33 (by decide) ?_
      refine rn_iload_n dX12_textGives_34 rfl rfl ?_
      refine rn_iast (k := 0) dX12_textGives_35 rfl (by decide) (by unfold vp_in; decide) ?_
      refine rn_aload_n dX12_textGives_36 rfl rfl ?_
      refine rn_get (v := .inr (.inr (some 99))) dX12_textGives_37 fl_X12_22 rfl rfl (congrArg (fun z => (Sum.inr (Sum.inr z) : MV)) (rf_94_11 hR)) ?_
      refine rn_iconst (v := 1) dX12_textGives_40 (by decide) ?_
      refine rn_iload_n dX12_textGives_41 rfl rfl ?_
      refine rn_iast (k := 1) dX12_textGives_42 rfl (by decide) (by unfold vp_in; decide) ?_
      refine rn_aload_n dX12_textGives_43 rfl rfl ?_
      refine rn_get (v := .inr (.inr (some 99))) dX12_textGives_44 fl_X12_22 rfl rfl (congrArg (fun z => (Sum.inr (Sum.inr z) : MV)) (rf_94_11 hR)) ?_
      refine rn_iconst (v := 2) dX12_textGives_47 (by decide) ?_
      refine rn_iload dX12_textGives_48 rfl ?_
      refine rn_iast (k := 2) dX12_textGives_50 rfl (by decide) (by unfold vp_in; decide) ?_
      refine rn_aload_n dX12_textGives_51 rfl rfl ?_
      refine rn_bipush (v := 112) dX12_textGives_52 (by decide) ?_
      refine rn_bipush (v := 50) dX12_textGives_54 (by decide) ?_
      refine rn_iload_n dX12_textGives_56 rfl rfl ?_
      refine rn_imul dX12_textGives_57 ?_
      refine rn_iadd dX12_textGives_58 ?_
      refine rn_aload_n dX12_textGives_59 rfl rfl ?_
      refine rn_get (v := .inr (.inr (some 95))) dX12_textGives_60 fl_X12_7 rfl rfl (congrArg (fun z => (Sum.inr (Sum.inr z) : MV)) (rf_94_0 hR)) ?_
      refine rn_bipush (v := 90) dX12_textGives_63 (by decide) ?_
      refine rn_iload_n dX12_textGives_65 rfl rfl ?_
      refine rn_iadd dX12_textGives_66 ?_
      obtain ⟨g0, V⟩ := V
      refine rn_iald (k := (Int32.toNatClampNeg (90 + a1))) dX12_textGives_67 rfl rfl g0 ?_
      refine rn_iload_n dX12_textGives_68 rfl rfl ?_
      refine rn_cV (M' := mX12_worked) (n := 3) (av := [.inl (112 + (50 * a1)), .inl (h.1 95 (Int32.toNatClampNeg (90 + a1))), .inl a1]) (S := []) (rc := 0) (rs := 0) (mc := 0) (ms := 0) (a := 94) (ci := 11) (r := (RX12, TX12, 38)) dX12_textGives_69 pa_X12_worked (Nat.le_refl _) rfl (Nat.le_of_ble_eq_true rfl) ml_X12_148 im_X12_worked se_X12_worked rfl rfl rfl (Ev.mono V ?_)
      rintro v sh1 h21 ⟨rfl, Rh21, x22, rfl, V⟩
      show Rn G (d + 1) 0 0 mX12_textGives 72 [(5, .inl a2), (0, .inr (.inr (some 94))), (1, .inl a1), (2, .inl a2), (3, .inl a3), (4, .inl a4)] [.inl x22] SH h21 (QI Q)
      refine rn_istore (L' := [(5, .inl x22), (0, .inr (.inr (some 94))), (1, .inl a1), (2, .inl a2), (3, .inl a3), (4, .inl a4)]) dX12_textGives_72 (Nat.le_of_ble_eq_true rfl) rfl ?_
      refine rn_iload_n dX12_textGives_74 rfl rfl ?_
      refine rn_if_ne (tgt := 90) dX12_textGives_75 (by decide) (fun c23 => ?_) (fun c23 => ?_)
      · replace V := V.1 c23
        refine rn_iload dX12_textGives_90 rfl ?_
        refine rn_iconst (v := 0) dX12_textGives_92 (by decide) ?_
        refine rn_iload_n dX12_textGives_93 rfl rfl ?_
        refine rn_cS (M' := mX12_held) (n := 3) (av := [.inl x22, .inl 0, .inl a2]) (S := []) (rc := 0) (rs := 0) (mc := 0) (ms := 0) dX12_textGives_94 pa_X12_held (Nat.le_refl _) rfl (Nat.le_of_ble_eq_true rfl) ml_X12_152 ss_X12_held rfl (Ev.mono V ?_)
        rintro v sh1 h24 ⟨rfl, Rh24, x25, rfl, V⟩
        show Rn G (d + 1) 0 0 mX12_textGives 97 [(5, .inl x22), (0, .inr (.inr (some 94))), (1, .inl a1), (2, .inl a2), (3, .inl a3), (4, .inl a4)] [.inl x25] SH h24 (QI Q)
        exact rn_iret dX12_textGives_97 rfl ⟨rfl, Rh24, _, rfl, V⟩
      · replace V := V.2 c23
        refine rn_iload dX12_textGives_78 rfl ?_
        refine rn_iconst (v := 0) dX12_textGives_80 (by decide) ?_
        refine rn_sipush (v := 999) dX12_textGives_81 (by decide) ?_
        refine rn_cS (M' := mX12_held) (n := 3) (av := [.inl x22, .inl 0, .inl 999]) (S := []) (rc := 0) (rs := 0) (mc := 0) (ms := 0) dX12_textGives_84 pa_X12_held (Nat.le_refl _) rfl (Nat.le_of_ble_eq_true rfl) ml_X12_152 ss_X12_held rfl (Ev.mono V ?_)
        rintro v sh1 h26 ⟨rfl, Rh26, x27, rfl, V⟩
        show Rn G (d + 1) 0 0 mX12_textGives 87 [(5, .inl x22), (0, .inr (.inr (some 94))), (1, .inl a1), (2, .inl a2), (3, .inl a3), (4, .inl a4)] [.inl x27] SH h26 (QI Q)
        refine rn_goto (tgt := 97) dX12_textGives_87 (by decide) ?_
        exact rn_iret dX12_textGives_97 rfl ⟨rfl, Rh26, _, rfl, V⟩
set_option maxRecDepth 100000 in
set_option maxHeartbeats 4000000 in
theorem vc_X12_law {G : GT} {d : Nat} {a1 : Int32} {a2 : Int32} {a3 : Int32} {a4 : Int32}  {h : Hp} {Q : Int32 → Hp → Prop} (hR : RF h) (V : EvI G d mX12_in [.inr (.inl (Int32.toInt64 a1)), .inr (.inl 0), .inr (.inl 1)] h (fun x2 h1 => ((x2 = 0 → EvI G d mX12_finds [.inr (.inr (some 94)), .inl 1] h1 (fun x5 h4 => Q x5 h4)) ∧ (¬ x2 = 0 → ((¬ a1 = 1 → EvI G d mX12_textGives [.inr (.inr (some 94)), .inl a1, .inl a2, .inl a3, .inl a4] h1 (fun x8 h7 => Q x8 h7)) ∧ (a1 = 1 → EvI G d mX12_in [.inr (.inl (Int32.toInt64 a2)), .inr (.inl 0), .inr (.inl 999)] h1 (fun x10 h9 => ((¬ x10 = 0 → EvI G d mX12_textGives [.inr (.inr (some 94)), .inl a1, .inl a2, .inl a3, .inl a4] h9 (fun x13 h12 => Q x13 h12)) ∧ (x10 = 0 → EvI G d mX12_finds [.inr (.inr (some 94)), .inl 1] h9 (fun x15 h14 => Q x15 h14)))))))))) : EvI G (d + 1) mX12_law [.inr (.inr (some 94)), .inl a1, .inl a2, .inl a3, .inl a4] h Q := by
  refine Ev.of rfl (fun _ => Nat.le_of_ble_eq_true rfl) ?_
  show Rn G (d + 1) 0 0 mX12_law 0 [(0, .inr (.inr (some 94))), (1, .inl a1), (2, .inl a2), (3, .inl a3), (4, .inl a4)] [] SH h (QI Q)
  refine rn_iload_n dX12_law_0 rfl rfl ?_
  refine rn_i2l dX12_law_1 ?_
  refine rn_lconst (v := 0) dX12_law_2 rfl ?_
  refine rn_lconst (v := 1) dX12_law_3 rfl ?_
  refine rn_cS (M' := mX12_in) (n := 3) (av := [.inr (.inl (Int32.toInt64 a1)), .inr (.inl 0), .inr (.inl 1)]) (S := []) (rc := 0) (rs := 0) (mc := 0) (ms := 0) dX12_law_4 pa_X12_in (Nat.le_refl _) rfl (Nat.le_of_ble_eq_true rfl) ml_X12_80 ss_X12_in rfl (Ev.mono V ?_)
  rintro v sh1 h1 ⟨rfl, Rh1, x2, rfl, V⟩
  show Rn G (d + 1) 0 0 mX12_law 7 [(0, .inr (.inr (some 94))), (1, .inl a1), (2, .inl a2), (3, .inl a3), (4, .inl a4)] [.inl x2] SH h1 (QI Q)
  refine rn_if_eq (tgt := 27) dX12_law_7 (by decide) (fun c3 => ?_) (fun c3 => ?_)
  · replace V := V.1 c3
    refine rn_aload_n dX12_law_27 rfl rfl ?_
    refine rn_iconst (v := 1) dX12_law_28 (by decide) ?_
    refine rn_cV (M' := mX12_finds) (n := 1) (av := [.inl 1]) (S := []) (rc := 0) (rs := 0) (mc := 0) (ms := 0) (a := 94) (ci := 11) (r := (RX12, TX12, 38)) dX12_law_29 pa_X12_finds (Nat.le_refl _) rfl (Nat.le_of_ble_eq_true rfl) ml_X12_143 im_X12_finds se_X12_finds rfl rfl rfl (Ev.mono V ?_)
    rintro v sh1 h4 ⟨rfl, Rh4, x5, rfl, V⟩
    show Rn G (d + 1) 0 0 mX12_law 32 [(0, .inr (.inr (some 94))), (1, .inl a1), (2, .inl a2), (3, .inl a3), (4, .inl a4)] [.inl x5] SH h4 (QI Q)
    exact rn_iret dX12_law_32 rfl ⟨rfl, Rh4, _, rfl, V⟩
  · replace V := V.2 c3
    refine rn_iload_n dX12_law_10 rfl rfl ?_
    refine rn_iconst (v := 1) dX12_law_11 (by decide) ?_
    refine rn_icmp_ne (tgt := 33) dX12_law_12 (by decide) (fun c6 => ?_) (fun c6 => ?_)
    · replace V := V.1 c6
      refine rn_aload_n dX12_law_33 rfl rfl ?_
      refine rn_iload_n dX12_law_34 rfl rfl ?_
      refine rn_iload_n dX12_law_35 rfl rfl ?_
      refine rn_iload_n dX12_law_36 rfl rfl ?_
      refine rn_iload dX12_law_37 rfl ?_
      refine rn_cV (M' := mX12_textGives) (n := 4) (av := [.inl a1, .inl a2, .inl a3, .inl a4]) (S := []) (rc := 0) (rs := 0) (mc := 0) (ms := 0) (a := 94) (ci := 11) (r := (RX12, TX12, 38)) dX12_law_39 pa_X12_textGives (Nat.le_refl _) rfl (Nat.le_of_ble_eq_true rfl) ml_X12_157 im_X12_textGives se_X12_textGives rfl rfl rfl (Ev.mono V ?_)
      rintro v sh1 h7 ⟨rfl, Rh7, x8, rfl, V⟩
      show Rn G (d + 1) 0 0 mX12_law 42 [(0, .inr (.inr (some 94))), (1, .inl a1), (2, .inl a2), (3, .inl a3), (4, .inl a4)] [.inl x8] SH h7 (QI Q)
      exact rn_iret dX12_law_42 rfl ⟨rfl, Rh7, _, rfl, V⟩
    · replace V := V.2 c6
      refine rn_iload_n dX12_law_15 rfl rfl ?_
      refine rn_i2l dX12_law_16 ?_
      refine rn_lconst (v := 0) dX12_law_17 rfl ?_
      refine rn_ldc2 (v := 999) dX12_law_18 cw_X12_155 ?_
      refine rn_cS (M' := mX12_in) (n := 3) (av := [.inr (.inl (Int32.toInt64 a2)), .inr (.inl 0), .inr (.inl 999)]) (S := []) (rc := 0) (rs := 0) (mc := 0) (ms := 0) dX12_law_21 pa_X12_in (Nat.le_refl _) rfl (Nat.le_of_ble_eq_true rfl) ml_X12_80 ss_X12_in rfl (Ev.mono V ?_)
      rintro v sh1 h9 ⟨rfl, Rh9, x10, rfl, V⟩
      show Rn G (d + 1) 0 0 mX12_law 24 [(0, .inr (.inr (some 94))), (1, .inl a1), (2, .inl a2), (3, .inl a3), (4, .inl a4)] [.inl x10] SH h9 (QI Q)
      refine rn_if_ne (tgt := 33) dX12_law_24 (by decide) (fun c11 => ?_) (fun c11 => ?_)
      · replace V := V.1 c11
        refine rn_aload_n dX12_law_33 rfl rfl ?_
        refine rn_iload_n dX12_law_34 rfl rfl ?_
        refine rn_iload_n dX12_law_35 rfl rfl ?_
        refine rn_iload_n dX12_law_36 rfl rfl ?_
        refine rn_iload dX12_law_37 rfl ?_
        refine rn_cV (M' := mX12_textGives) (n := 4) (av := [.inl a1, .inl a2, .inl a3, .inl a4]) (S := []) (rc := 0) (rs := 0) (mc := 0) (ms := 0) (a := 94) (ci := 11) (r := (RX12, TX12, 38)) dX12_law_39 pa_X12_textGives (Nat.le_refl _) rfl (Nat.le_of_ble_eq_true rfl) ml_X12_157 im_X12_textGives se_X12_textGives rfl rfl rfl (Ev.mono V ?_)
        rintro v sh1 h12 ⟨rfl, Rh12, x13, rfl, V⟩
        show Rn G (d + 1) 0 0 mX12_law 42 [(0, .inr (.inr (some 94))), (1, .inl a1), (2, .inl a2), (3, .inl a3), (4, .inl a4)] [.inl x13] SH h12 (QI Q)
        exact rn_iret dX12_law_42 rfl ⟨rfl, Rh12, _, rfl, V⟩
      · replace V := V.2 c11
        refine rn_aload_n dX12_law_27 rfl rfl ?_
        refine rn_iconst (v := 1) dX12_law_28 (by decide) ?_
        refine rn_cV (M' := mX12_finds) (n := 1) (av := [.inl 1]) (S := []) (rc := 0) (rs := 0) (mc := 0) (ms := 0) (a := 94) (ci := 11) (r := (RX12, TX12, 38)) dX12_law_29 pa_X12_finds (Nat.le_refl _) rfl (Nat.le_of_ble_eq_true rfl) ml_X12_143 im_X12_finds se_X12_finds rfl rfl rfl (Ev.mono V ?_)
        rintro v sh1 h14 ⟨rfl, Rh14, x15, rfl, V⟩
        show Rn G (d + 1) 0 0 mX12_law 32 [(0, .inr (.inr (some 94))), (1, .inl a1), (2, .inl a2), (3, .inl a3), (4, .inl a4)] [.inl x15] SH h14 (QI Q)
        exact rn_iret dX12_law_32 rfl ⟨rfl, Rh14, _, rfl, V⟩
set_option maxRecDepth 100000 in
set_option maxHeartbeats 4000000 in
theorem vc_X12_runs {G : GT} {d : Nat} {a1 : Int32}  {h : Hp} {Q : Int32 → Hp → Prop} (hR : RF h) (V : EvI G d mX12_of [.inr (.inr (some 94)), .inl a1, .inl 1] h (fun x2 h1 => EvI G d mX12_of [.inr (.inr (some 94)), .inl a1, .inl 0] h1 (fun x4 h3 => ((((x4).toInt = 1 + (0 : Nat) → ((1 ≤ (5 + x2) → Q (5 + x2) h3) ∧ (¬ 1 ≤ (5 + x2) → Q 1 h3))) ∧ ((x4).toInt = 1 + (1 : Nat) → ((1 ≤ (5 - (x2 / 2)) → Q (5 - (x2 / 2)) h3) ∧ (¬ 1 ≤ (5 - (x2 / 2)) → Q 1 h3))) ∧ ((x4).toInt = 1 + (2 : Nat) → Q 1 h3) ∧ ((x4).toInt = 1 + (3 : Nat) → ((1 ≤ (2 * (5 + x2)) → Q (2 * (5 + x2)) h3) ∧ (¬ 1 ≤ (2 * (5 + x2)) → Q 1 h3))) ∧ ((x4).toInt = 1 + (4 : Nat) → ((1 ≤ ((5 - (x2 / 2)) / 2) → Q ((5 - (x2 / 2)) / 2) h3) ∧ (¬ 1 ≤ ((5 - (x2 / 2)) / 2) → Q 1 h3))) ∧ ((x4).toInt = 1 + (5 : Nat) → ((1 ≤ (1 + x2) → Q (1 + x2) h3) ∧ (¬ 1 ≤ (1 + x2) → Q 1 h3)))) ∧ ((x4).toInt < 1 ∨ 6 < (x4).toInt → Q 5 h3))))) : EvI G (d + 1) mX12_runs [.inr (.inr (some 94)), .inl a1] h Q := by
  refine Ev.of rfl (fun _ => Nat.le_of_ble_eq_true rfl) ?_
  show Rn G (d + 1) 0 0 mX12_runs 0 [(0, .inr (.inr (some 94))), (1, .inl a1)] [] SH h (QI Q)
  refine rn_aload_n dX12_runs_0 rfl rfl ?_
  refine rn_iload_n dX12_runs_1 rfl rfl ?_
  refine rn_iconst (v := 1) dX12_runs_2 (by decide) ?_
  refine rn_cV (M' := mX12_of) (n := 2) (av := [.inl a1, .inl 1]) (S := []) (rc := 0) (rs := 0) (mc := 0) (ms := 0) (a := 94) (ci := 11) (r := (RX12, TX12, 38)) dX12_runs_3 pa_X12_of (Nat.le_refl _) rfl (Nat.le_of_ble_eq_true rfl) ml_X12_161 im_X12_of se_X12_of rfl rfl rfl (Ev.mono V ?_)
  rintro v sh1 h1 ⟨rfl, Rh1, x2, rfl, V⟩
  show Rn G (d + 1) 0 0 mX12_runs 6 [(0, .inr (.inr (some 94))), (1, .inl a1)] [.inl x2] SH h1 (QI Q)
  refine rn_istore_n (L' := [(2, .inl x2), (0, .inr (.inr (some 94))), (1, .inl a1)]) dX12_runs_6 rfl (Nat.le_of_ble_eq_true rfl) rfl ?_
  refine rn_iconst (v := 5) dX12_runs_7 (by decide) ?_
  refine rn_istore_n (L' := [(3, .inl 5), (2, .inl x2), (0, .inr (.inr (some 94))), (1, .inl a1)]) dX12_runs_8 rfl (Nat.le_of_ble_eq_true rfl) rfl ?_
  refine rn_aload_n dX12_runs_9 rfl rfl ?_
  refine rn_iload_n dX12_runs_10 rfl rfl ?_
  refine rn_iconst (v := 0) dX12_runs_11 (by decide) ?_
  refine rn_cV (M' := mX12_of) (n := 2) (av := [.inl a1, .inl 0]) (S := []) (rc := 0) (rs := 0) (mc := 0) (ms := 0) (a := 94) (ci := 11) (r := (RX12, TX12, 38)) dX12_runs_12 pa_X12_of (Nat.le_refl _) rfl (Nat.le_of_ble_eq_true rfl) ml_X12_161 im_X12_of se_X12_of rfl rfl rfl (Ev.mono V ?_)
  rintro v sh1 h3 ⟨rfl, Rh3, x4, rfl, V⟩
  show Rn G (d + 1) 0 0 mX12_runs 15 [(3, .inl 5), (2, .inl x2), (0, .inr (.inr (some 94))), (1, .inl a1)] [.inl x4] SH h3 (QI Q)
  refine rn_tsw (td := 100) [52, 59, 68, 73, 82, 93] dX12_runs_15 (by decide) (by decide +kernel) (by decide) (fun i6 hi c5 => ?_) (fun c5 => ?_)
  · replace V := V.1
    match i6, hi, c5 with
    | 0, _, c5 =>
      replace V := V.1 c5
      show Rn G (d + 1) 0 0 mX12_runs 52 [(3, .inl 5), (2, .inl x2), (0, .inr (.inr (some 94))), (1, .inl a1)] [] SH h3 (QI Q)
      refine rn_iconst (v := 5) dX12_runs_52 (by decide) ?_
      refine rn_iload_n dX12_runs_53 rfl rfl ?_
      refine rn_iadd dX12_runs_54 ?_
      refine rn_istore_n (L' := [(3, .inl (5 + x2)), (2, .inl x2), (0, .inr (.inr (some 94))), (1, .inl a1)]) dX12_runs_55 rfl (Nat.le_of_ble_eq_true rfl) rfl ?_
      refine rn_goto (tgt := 100) dX12_runs_56 (by decide) ?_
      refine rn_iload_n dX12_runs_100 rfl rfl ?_
      refine rn_iconst (v := 1) dX12_runs_101 (by decide) ?_
      refine rn_icmp_ge (tgt := 109) dX12_runs_102 (by decide) (fun c7 => ?_) (fun c7 => ?_)
      · replace V := V.1 c7
        refine rn_iload_n dX12_runs_109 rfl rfl ?_
        exact rn_iret dX12_runs_110 rfl ⟨rfl, Rh3, _, rfl, V⟩
      · replace V := V.2 c7
        refine rn_iconst (v := 1) dX12_runs_105 (by decide) ?_
        refine rn_goto (tgt := 110) dX12_runs_106 (by decide) ?_
        exact rn_iret dX12_runs_110 rfl ⟨rfl, Rh3, _, rfl, V⟩
    | 1, _, c5 =>
      replace V := V.2.1 c5
      show Rn G (d + 1) 0 0 mX12_runs 59 [(3, .inl 5), (2, .inl x2), (0, .inr (.inr (some 94))), (1, .inl a1)] [] SH h3 (QI Q)
      refine rn_iconst (v := 5) dX12_runs_59 (by decide) ?_
      refine rn_iload_n dX12_runs_60 rfl rfl ?_
      refine rn_iconst (v := 2) dX12_runs_61 (by decide) ?_
      refine rn_idiv dX12_runs_62 (by decide) ?_
      refine rn_isub dX12_runs_63 ?_
      refine rn_istore_n (L' := [(3, .inl (5 - (x2 / 2))), (2, .inl x2), (0, .inr (.inr (some 94))), (1, .inl a1)]) dX12_runs_64 rfl (Nat.le_of_ble_eq_true rfl) rfl ?_
      refine rn_goto (tgt := 100) dX12_runs_65 (by decide) ?_
      refine rn_iload_n dX12_runs_100 rfl rfl ?_
      refine rn_iconst (v := 1) dX12_runs_101 (by decide) ?_
      refine rn_icmp_ge (tgt := 109) dX12_runs_102 (by decide) (fun c8 => ?_) (fun c8 => ?_)
      · replace V := V.1 c8
        refine rn_iload_n dX12_runs_109 rfl rfl ?_
        exact rn_iret dX12_runs_110 rfl ⟨rfl, Rh3, _, rfl, V⟩
      · replace V := V.2 c8
        refine rn_iconst (v := 1) dX12_runs_105 (by decide) ?_
        refine rn_goto (tgt := 110) dX12_runs_106 (by decide) ?_
        exact rn_iret dX12_runs_110 rfl ⟨rfl, Rh3, _, rfl, V⟩
    | 2, _, c5 =>
      replace V := V.2.2.1 c5
      show Rn G (d + 1) 0 0 mX12_runs 68 [(3, .inl 5), (2, .inl x2), (0, .inr (.inr (some 94))), (1, .inl a1)] [] SH h3 (QI Q)
      refine rn_iconst (v := 1) dX12_runs_68 (by decide) ?_
      refine rn_istore_n (L' := [(3, .inl 1), (2, .inl x2), (0, .inr (.inr (some 94))), (1, .inl a1)]) dX12_runs_69 rfl (Nat.le_of_ble_eq_true rfl) rfl ?_
      refine rn_goto (tgt := 100) dX12_runs_70 (by decide) ?_
      refine rn_iload_n dX12_runs_100 rfl rfl ?_
      refine rn_iconst (v := 1) dX12_runs_101 (by decide) ?_
      refine rn_icmp_ge (tgt := 109) dX12_runs_102 (by decide) (fun c9 => ?_) (fun c9 => ?_)
      rotate_left
      · exact absurd (by decide) c9
      refine rn_iload_n dX12_runs_109 rfl rfl ?_
      exact rn_iret dX12_runs_110 rfl ⟨rfl, Rh3, _, rfl, V⟩
    | 3, _, c5 =>
      replace V := V.2.2.2.1 c5
      show Rn G (d + 1) 0 0 mX12_runs 73 [(3, .inl 5), (2, .inl x2), (0, .inr (.inr (some 94))), (1, .inl a1)] [] SH h3 (QI Q)
      refine rn_iconst (v := 2) dX12_runs_73 (by decide) ?_
      refine rn_iconst (v := 5) dX12_runs_74 (by decide) ?_
      refine rn_iload_n dX12_runs_75 rfl rfl ?_
      refine rn_iadd dX12_runs_76 ?_
      refine rn_imul dX12_runs_77 ?_
      refine rn_istore_n (L' := [(3, .inl (2 * (5 + x2))), (2, .inl x2), (0, .inr (.inr (some 94))), (1, .inl a1)]) dX12_runs_78 rfl (Nat.le_of_ble_eq_true rfl) rfl ?_
      refine rn_goto (tgt := 100) dX12_runs_79 (by decide) ?_
      refine rn_iload_n dX12_runs_100 rfl rfl ?_
      refine rn_iconst (v := 1) dX12_runs_101 (by decide) ?_
      refine rn_icmp_ge (tgt := 109) dX12_runs_102 (by decide) (fun c10 => ?_) (fun c10 => ?_)
      · replace V := V.1 c10
        refine rn_iload_n dX12_runs_109 rfl rfl ?_
        exact rn_iret dX12_runs_110 rfl ⟨rfl, Rh3, _, rfl, V⟩
      · replace V := V.2 c10
        refine rn_iconst (v := 1) dX12_runs_105 (by decide) ?_
        refine rn_goto (tgt := 110) dX12_runs_106 (by decide) ?_
        exact rn_iret dX12_runs_110 rfl ⟨rfl, Rh3, _, rfl, V⟩
    | 4, _, c5 =>
      replace V := V.2.2.2.2.1 c5
      show Rn G (d + 1) 0 0 mX12_runs 82 [(3, .inl 5), (2, .inl x2), (0, .inr (.inr (some 94))), (1, .inl a1)] [] SH h3 (QI Q)
      refine rn_iconst (v := 5) dX12_runs_82 (by decide) ?_
      refine rn_iload_n dX12_runs_83 rfl rfl ?_
      refine rn_iconst (v := 2) dX12_runs_84 (by decide) ?_
      refine rn_idiv dX12_runs_85 (by decide) ?_
      refine rn_isub dX12_runs_86 ?_
      refine rn_iconst (v := 2) dX12_runs_87 (by decide) ?_
      refine rn_idiv dX12_runs_88 (by decide) ?_
      refine rn_istore_n (L' := [(3, .inl ((5 - (x2 / 2)) / 2)), (2, .inl x2), (0, .inr (.inr (some 94))), (1, .inl a1)]) dX12_runs_89 rfl (Nat.le_of_ble_eq_true rfl) rfl ?_
      refine rn_goto (tgt := 100) dX12_runs_90 (by decide) ?_
      refine rn_iload_n dX12_runs_100 rfl rfl ?_
      refine rn_iconst (v := 1) dX12_runs_101 (by decide) ?_
      refine rn_icmp_ge (tgt := 109) dX12_runs_102 (by decide) (fun c11 => ?_) (fun c11 => ?_)
      · replace V := V.1 c11
        refine rn_iload_n dX12_runs_109 rfl rfl ?_
        exact rn_iret dX12_runs_110 rfl ⟨rfl, Rh3, _, rfl, V⟩
      · replace V := V.2 c11
        refine rn_iconst (v := 1) dX12_runs_105 (by decide) ?_
        refine rn_goto (tgt := 110) dX12_runs_106 (by decide) ?_
        exact rn_iret dX12_runs_110 rfl ⟨rfl, Rh3, _, rfl, V⟩
    | 5, _, c5 =>
      replace V := V.2.2.2.2.2 c5
      show Rn G (d + 1) 0 0 mX12_runs 93 [(3, .inl 5), (2, .inl x2), (0, .inr (.inr (some 94))), (1, .inl a1)] [] SH h3 (QI Q)
      refine rn_iconst (v := 1) dX12_runs_93 (by decide) ?_
      refine rn_iload_n dX12_runs_94 rfl rfl ?_
      refine rn_iadd dX12_runs_95 ?_
      refine rn_istore_n (L' := [(3, .inl (1 + x2)), (2, .inl x2), (0, .inr (.inr (some 94))), (1, .inl a1)]) dX12_runs_96 rfl (Nat.le_of_ble_eq_true rfl) rfl ?_
      refine rn_goto (tgt := 100) dX12_runs_97 (by decide) ?_
      refine rn_iload_n dX12_runs_100 rfl rfl ?_
      refine rn_iconst (v := 1) dX12_runs_101 (by decide) ?_
      refine rn_icmp_ge (tgt := 109) dX12_runs_102 (by decide) (fun c12 => ?_) (fun c12 => ?_)
      · replace V := V.1 c12
        refine rn_iload_n dX12_runs_109 rfl rfl ?_
        exact rn_iret dX12_runs_110 rfl ⟨rfl, Rh3, _, rfl, V⟩
      · replace V := V.2 c12
        refine rn_iconst (v := 1) dX12_runs_105 (by decide) ?_
        refine rn_goto (tgt := 110) dX12_runs_106 (by decide) ?_
        exact rn_iret dX12_runs_110 rfl ⟨rfl, Rh3, _, rfl, V⟩
    | n + 6, hi, _ => exact absurd hi (by simp)
  · replace V := V.2 c5
    refine rn_iload_n dX12_runs_100 rfl rfl ?_
    refine rn_iconst (v := 1) dX12_runs_101 (by decide) ?_
    refine rn_icmp_ge (tgt := 109) dX12_runs_102 (by decide) (fun c13 => ?_) (fun c13 => ?_)
    rotate_left
    · exact absurd (by decide) c13
    refine rn_iload_n dX12_runs_109 rfl rfl ?_
    exact rn_iret dX12_runs_110 rfl ⟨rfl, Rh3, _, rfl, V⟩
set_option maxRecDepth 100000 in
set_option maxHeartbeats 4000000 in
theorem vc_X12_drips {G : GT} {d : Nat} {a1 : Int32}  {h : Hp} {Q : Int32 → Hp → Prop} (hR : RF h) (V : EvI G d mX12_of [.inr (.inr (some 94)), .inl a1, .inl 0] h (fun x2 h1 => EvI G d mX12_of [.inr (.inr (some 94)), .inl a1, .inl 1] h1 (fun x4 h3 => ((¬ x2 = 1 → ((¬ x2 = 4 → ((x2 = 3 → Q 1 h3) ∧ (¬ x2 = 3 → ((¬ x2 = 6 → Q 0 h3) ∧ (x2 = 6 → Q 1 h3))))) ∧ (x2 = 4 → Q ((x4 / 2) + 1) h3))) ∧ (x2 = 1 → Q (x4 / 2) h3))))) : EvI G (d + 1) mX12_drips [.inr (.inr (some 94)), .inl a1] h Q := by
  refine Ev.of rfl (fun _ => Nat.le_of_ble_eq_true rfl) ?_
  show Rn G (d + 1) 0 0 mX12_drips 0 [(0, .inr (.inr (some 94))), (1, .inl a1)] [] SH h (QI Q)
  refine rn_aload_n dX12_drips_0 rfl rfl ?_
  refine rn_iload_n dX12_drips_1 rfl rfl ?_
  refine rn_iconst (v := 0) dX12_drips_2 (by decide) ?_
  refine rn_cV (M' := mX12_of) (n := 2) (av := [.inl a1, .inl 0]) (S := []) (rc := 0) (rs := 0) (mc := 0) (ms := 0) (a := 94) (ci := 11) (r := (RX12, TX12, 38)) dX12_drips_3 pa_X12_of (Nat.le_refl _) rfl (Nat.le_of_ble_eq_true rfl) ml_X12_161 im_X12_of se_X12_of rfl rfl rfl (Ev.mono V ?_)
  rintro v sh1 h1 ⟨rfl, Rh1, x2, rfl, V⟩
  show Rn G (d + 1) 0 0 mX12_drips 6 [(0, .inr (.inr (some 94))), (1, .inl a1)] [.inl x2] SH h1 (QI Q)
  refine rn_istore_n (L' := [(2, .inl x2), (0, .inr (.inr (some 94))), (1, .inl a1)]) dX12_drips_6 rfl (Nat.le_of_ble_eq_true rfl) rfl ?_
  refine rn_aload_n dX12_drips_7 rfl rfl ?_
  refine rn_iload_n dX12_drips_8 rfl rfl ?_
  refine rn_iconst (v := 1) dX12_drips_9 (by decide) ?_
  refine rn_cV (M' := mX12_of) (n := 2) (av := [.inl a1, .inl 1]) (S := []) (rc := 0) (rs := 0) (mc := 0) (ms := 0) (a := 94) (ci := 11) (r := (RX12, TX12, 38)) dX12_drips_10 pa_X12_of (Nat.le_refl _) rfl (Nat.le_of_ble_eq_true rfl) ml_X12_161 im_X12_of se_X12_of rfl rfl rfl (Ev.mono V ?_)
  rintro v sh1 h3 ⟨rfl, Rh3, x4, rfl, V⟩
  show Rn G (d + 1) 0 0 mX12_drips 13 [(2, .inl x2), (0, .inr (.inr (some 94))), (1, .inl a1)] [.inl x4] SH h3 (QI Q)
  refine rn_iconst (v := 2) dX12_drips_13 (by decide) ?_
  refine rn_idiv dX12_drips_14 (by decide) ?_
  refine rn_istore_n (L' := [(3, .inl (x4 / 2)), (2, .inl x2), (0, .inr (.inr (some 94))), (1, .inl a1)]) dX12_drips_15 rfl (Nat.le_of_ble_eq_true rfl) rfl ?_
  refine rn_iload_n dX12_drips_16 rfl rfl ?_
  refine rn_iconst (v := 1) dX12_drips_17 (by decide) ?_
  refine rn_icmp_ne (tgt := 25) dX12_drips_18 (by decide) (fun c5 => ?_) (fun c5 => ?_)
  · replace V := V.1 c5
    refine rn_iload_n dX12_drips_25 rfl rfl ?_
    refine rn_iconst (v := 4) dX12_drips_26 (by decide) ?_
    refine rn_icmp_ne (tgt := 36) dX12_drips_27 (by decide) (fun c6 => ?_) (fun c6 => ?_)
    · replace V := V.1 c6
      refine rn_iload_n dX12_drips_36 rfl rfl ?_
      refine rn_iconst (v := 3) dX12_drips_37 (by decide) ?_
      refine rn_icmp_eq (tgt := 47) dX12_drips_38 (by decide) (fun c7 => ?_) (fun c7 => ?_)
      · replace V := V.1 c7
        refine rn_iconst (v := 1) dX12_drips_47 (by decide) ?_
        refine rn_goto (tgt := 52) dX12_drips_48 (by decide) ?_
        exact rn_iret dX12_drips_52 rfl ⟨rfl, Rh3, _, rfl, V⟩
      · replace V := V.2 c7
        refine rn_iload_n dX12_drips_41 rfl rfl ?_
        refine rn_bipush (v := 6) dX12_drips_42 (by decide) ?_
        refine rn_icmp_ne (tgt := 51) dX12_drips_44 (by decide) (fun c8 => ?_) (fun c8 => ?_)
        · replace V := V.1 c8
          refine rn_iconst (v := 0) dX12_drips_51 (by decide) ?_
          exact rn_iret dX12_drips_52 rfl ⟨rfl, Rh3, _, rfl, V⟩
        · replace V := V.2 c8
          refine rn_iconst (v := 1) dX12_drips_47 (by decide) ?_
          refine rn_goto (tgt := 52) dX12_drips_48 (by decide) ?_
          exact rn_iret dX12_drips_52 rfl ⟨rfl, Rh3, _, rfl, V⟩
    · replace V := V.2 c6
      refine rn_iload_n dX12_drips_30 rfl rfl ?_
      refine rn_iconst (v := 1) dX12_drips_31 (by decide) ?_
      refine rn_iadd dX12_drips_32 ?_
      refine rn_goto (tgt := 52) dX12_drips_33 (by decide) ?_
      exact rn_iret dX12_drips_52 rfl ⟨rfl, Rh3, _, rfl, V⟩
  · replace V := V.2 c5
    refine rn_iload_n dX12_drips_21 rfl rfl ?_
    refine rn_goto (tgt := 52) dX12_drips_22 (by decide) ?_
    exact rn_iret dX12_drips_52 rfl ⟨rfl, Rh3, _, rfl, V⟩
set_option maxRecDepth 100000 in
set_option maxHeartbeats 4000000 in
theorem vc_X12_above {G : GT} {d : Nat} {a0 : Int32}  {h : Hp} {Q : Int32 → Hp → Prop} (hR : RF h) (V : ((4 ≤ a0 → Q (a0 - 3) h) ∧ (¬ 4 ≤ a0 → Q 0 h))) : EvI G (d + 1) mX12_above [.inl a0] h Q := by
  refine Ev.of rfl (fun _ => Nat.le_of_ble_eq_true rfl) ?_
  show Rn G (d + 1) 0 0 mX12_above 0 [(0, .inl a0)] [] SH h (QI Q)
  refine rn_iload_n dX12_above_0 rfl rfl ?_
  refine rn_iconst (v := 4) dX12_above_1 (by decide) ?_
  refine rn_icmp_ge (tgt := 9) dX12_above_2 (by decide) (fun c1 => ?_) (fun c1 => ?_)
  · replace V := V.1 c1
    refine rn_iload_n dX12_above_9 rfl rfl ?_
    refine rn_iconst (v := 3) dX12_above_10 (by decide) ?_
    refine rn_isub dX12_above_11 ?_
    exact rn_iret dX12_above_12 rfl ⟨rfl, hR, _, rfl, V⟩
  · replace V := V.2 c1
    refine rn_iconst (v := 0) dX12_above_5 (by decide) ?_
    refine rn_goto (tgt := 12) dX12_above_6 (by decide) ?_
    exact rn_iret dX12_above_12 rfl ⟨rfl, hR, _, rfl, V⟩
set_option maxRecDepth 100000 in
set_option maxHeartbeats 4000000 in
theorem vc_X12_party {G : GT} {d : Nat} {a1 : Int32} {a2 : Int32}  {h : Hp} {Q : Int32 → Hp → Prop} (hR : RF h) (V : EvI G d mX12_in [.inr (.inl (Int32.toInt64 a1)), .inr (.inl 0), .inr (.inl 69)] h (fun x2 h1 => ((x2 = 0 → EvI G d mX12_finds [.inr (.inr (some 94)), .inl 1] h1 (fun x5 h4 => Q x5 h4)) ∧ (¬ x2 = 0 → EvI G d mX12_in [.inr (.inl (Int32.toInt64 a2)), .inr (.inl 1), .inr (.inl 999)] h1 (fun x7 h6 => ((¬ x7 = 0 → ((¬ h6.1 95 0 = 4 → EvV G d mX12_sets [.inr (.inr (some 94)), .inl (h6.1 95 0), .inl 0, .inl (a1 / 10)] (sI h6 95 0 (h6.1 95 0 + 1)) (fun h10 => EvV G d mX12_sets [.inr (.inr (some 94)), .inl (h6.1 95 0), .inl 1, .inl (a1 - a1 / 10 * 10)] h10 (fun h11 => EvV G d mX12_sets [.inr (.inr (some 94)), .inl (h6.1 95 0), .inl 2, .inl a2] h11 (fun h12 => EvV G d mX12_sets [.inr (.inr (some 94)), .inl (h6.1 95 0), .inl 3, .inl 0] h12 (fun h13 => EvV G d mX12_sets [.inr (.inr (some 94)), .inl (h6.1 95 0), .inl 4, .inl 0] h13 (fun h14 => Q (h6.1 95 0) h14)))))) ∧ (h6.1 95 0 = 4 → EvI G d mX12_finds [.inr (.inr (some 94)), .inl 4] h6 (fun x16 h15 => Q x16 h15)))) ∧ (x7 = 0 → EvI G d mX12_finds [.inr (.inr (some 94)), .inl 1] h6 (fun x18 h17 => Q x18 h17)))))))) : EvI G (d + 1) mX12_party [.inr (.inr (some 94)), .inl a1, .inl a2] h Q := by
  refine Ev.of rfl (fun _ => Nat.le_of_ble_eq_true rfl) ?_
  show Rn G (d + 1) 0 0 mX12_party 0 [(0, .inr (.inr (some 94))), (1, .inl a1), (2, .inl a2)] [] SH h (QI Q)
  refine rn_iload_n dX12_party_0 rfl rfl ?_
  refine rn_i2l dX12_party_1 ?_
  refine rn_lconst (v := 0) dX12_party_2 rfl ?_
  refine rn_ldc2 (v := 69) dX12_party_3 cw_X12_165 ?_
  refine rn_cS (M' := mX12_in) (n := 3) (av := [.inr (.inl (Int32.toInt64 a1)), .inr (.inl 0), .inr (.inl 69)]) (S := []) (rc := 0) (rs := 0) (mc := 0) (ms := 0) dX12_party_6 pa_X12_in (Nat.le_refl _) rfl (Nat.le_of_ble_eq_true rfl) ml_X12_80 ss_X12_in rfl (Ev.mono V ?_)
  rintro v sh1 h1 ⟨rfl, Rh1, x2, rfl, V⟩
  show Rn G (d + 1) 0 0 mX12_party 9 [(0, .inr (.inr (some 94))), (1, .inl a1), (2, .inl a2)] [.inl x2] SH h1 (QI Q)
  refine rn_if_eq (tgt := 24) dX12_party_9 (by decide) (fun c3 => ?_) (fun c3 => ?_)
  · replace V := V.1 c3
    refine rn_aload_n dX12_party_24 rfl rfl ?_
    refine rn_iconst (v := 1) dX12_party_25 (by decide) ?_
    refine rn_cV (M' := mX12_finds) (n := 1) (av := [.inl 1]) (S := []) (rc := 0) (rs := 0) (mc := 0) (ms := 0) (a := 94) (ci := 11) (r := (RX12, TX12, 38)) dX12_party_26 pa_X12_finds (Nat.le_refl _) rfl (Nat.le_of_ble_eq_true rfl) ml_X12_143 im_X12_finds se_X12_finds rfl rfl rfl (Ev.mono V ?_)
    rintro v sh1 h4 ⟨rfl, Rh4, x5, rfl, V⟩
    show Rn G (d + 1) 0 0 mX12_party 29 [(0, .inr (.inr (some 94))), (1, .inl a1), (2, .inl a2)] [.inl x5] SH h4 (QI Q)
    exact rn_iret dX12_party_29 rfl ⟨rfl, Rh4, _, rfl, V⟩
  · replace V := V.2 c3
    refine rn_iload_n dX12_party_12 rfl rfl ?_
    refine rn_i2l dX12_party_13 ?_
    refine rn_lconst (v := 1) dX12_party_14 rfl ?_
    refine rn_ldc2 (v := 999) dX12_party_15 cw_X12_155 ?_
    refine rn_cS (M' := mX12_in) (n := 3) (av := [.inr (.inl (Int32.toInt64 a2)), .inr (.inl 1), .inr (.inl 999)]) (S := []) (rc := 0) (rs := 0) (mc := 0) (ms := 0) dX12_party_18 pa_X12_in (Nat.le_refl _) rfl (Nat.le_of_ble_eq_true rfl) ml_X12_80 ss_X12_in rfl (Ev.mono V ?_)
    rintro v sh1 h6 ⟨rfl, Rh6, x7, rfl, V⟩
    show Rn G (d + 1) 0 0 mX12_party 21 [(0, .inr (.inr (some 94))), (1, .inl a1), (2, .inl a2)] [.inl x7] SH h6 (QI Q)
    refine rn_if_ne (tgt := 30) dX12_party_21 (by decide) (fun c8 => ?_) (fun c8 => ?_)
    · replace V := V.1 c8
      refine rn_aload_n dX12_party_30 rfl rfl ?_
      refine rn_get (v := .inr (.inr (some 95))) dX12_party_31 fl_X12_7 rfl rfl (congrArg (fun z => (Sum.inr (Sum.inr z) : MV)) (rf_94_0 Rh6)) ?_
      refine rn_iconst (v := 0) dX12_party_34 (by decide) ?_
      refine rn_iald (k := 0) dX12_party_35 rfl (by decide) (by unfold vp_in; decide) ?_
      refine rn_iconst (v := 4) dX12_party_36 (by decide) ?_
      refine rn_icmp_ne (tgt := 46) dX12_party_37 (by decide) (fun c9 => ?_) (fun c9 => ?_)
      · replace V := V.1 c9
        refine rn_aload_n dX12_party_46 rfl rfl ?_
        refine rn_get (v := .inr (.inr (some 95))) dX12_party_47 fl_X12_7 rfl rfl (congrArg (fun z => (Sum.inr (Sum.inr z) : MV)) (rf_94_0 Rh6)) ?_
        refine rn_iconst (v := 0) dX12_party_50 (by decide) ?_
        refine rn_iald (k := 0) dX12_party_51 rfl (by decide) (by unfold vp_in; decide) ?_
        refine rn_istore_n (L' := [(3, .inl (h6.1 95 0)), (0, .inr (.inr (some 94))), (1, .inl a1), (2, .inl a2)]) dX12_party_52 rfl (Nat.le_of_ble_eq_true rfl) rfl ?_
        refine rn_aload_n dX12_party_53 rfl rfl ?_
        refine rn_get (v := .inr (.inr (some 95))) dX12_party_54 fl_X12_7 rfl rfl (congrArg (fun z => (Sum.inr (Sum.inr z) : MV)) (rf_94_0 Rh6)) ?_
        refine rn_iconst (v := 0) dX12_party_57 (by decide) ?_
        refine rn_dup2 dX12_party_58 rfl rfl ?_
        refine rn_iald (k := 0) dX12_party_59 rfl (by decide) (by unfold vp_in; decide) ?_
        refine rn_iconst (v := 1) dX12_party_60 (by decide) ?_
        refine rn_iadd dX12_party_61 ?_
        refine rn_iast (k := 0) dX12_party_62 rfl (by decide) (by unfold vp_in; decide) ?_
        refine rn_aload_n dX12_party_63 rfl rfl ?_
        refine rn_iload_n dX12_party_64 rfl rfl ?_
        refine rn_iconst (v := 0) dX12_party_65 (by decide) ?_
        refine rn_iload_n dX12_party_66 rfl rfl ?_
        refine rn_bipush (v := 10) dX12_party_67 (by decide) ?_
        refine rn_idiv dX12_party_69 (by decide) ?_
        refine rn_cV (M' := mX12_sets) (n := 3) (av := [.inl (h6.1 95 0), .inl 0, .inl (a1 / 10)]) (S := []) (rc := 0) (rs := 0) (mc := 0) (ms := 0) (a := 94) (ci := 11) (r := (RX12, TX12, 38)) dX12_party_70 pa_X12_sets (Nat.le_refl _) rfl (Nat.le_of_ble_eq_true rfl) ml_X12_167 im_X12_sets se_X12_sets rfl rfl rfl (Ev.mono V ?_)
        rintro v sh1 h10 ⟨rfl, Rh10, rfl, V⟩
        show Rn G (d + 1) 0 0 mX12_party 73 [(3, .inl (h6.1 95 0)), (0, .inr (.inr (some 94))), (1, .inl a1), (2, .inl a2)] [] SH h10 (QI Q)
        refine rn_aload_n dX12_party_73 rfl rfl ?_
        refine rn_iload_n dX12_party_74 rfl rfl ?_
        refine rn_iconst (v := 1) dX12_party_75 (by decide) ?_
        refine rn_iload_n dX12_party_76 rfl rfl ?_
        refine rn_bipush (v := 10) dX12_party_77 (by decide) ?_
        refine rn_irem dX12_party_79 (by decide) ?_
        refine rn_cV (M' := mX12_sets) (n := 3) (av := [.inl (h6.1 95 0), .inl 1, .inl (a1 - a1 / 10 * 10)]) (S := []) (rc := 0) (rs := 0) (mc := 0) (ms := 0) (a := 94) (ci := 11) (r := (RX12, TX12, 38)) dX12_party_80 pa_X12_sets (Nat.le_refl _) rfl (Nat.le_of_ble_eq_true rfl) ml_X12_167 im_X12_sets se_X12_sets rfl rfl rfl (Ev.mono V ?_)
        rintro v sh1 h11 ⟨rfl, Rh11, rfl, V⟩
        show Rn G (d + 1) 0 0 mX12_party 83 [(3, .inl (h6.1 95 0)), (0, .inr (.inr (some 94))), (1, .inl a1), (2, .inl a2)] [] SH h11 (QI Q)
        refine rn_aload_n dX12_party_83 rfl rfl ?_
        refine rn_iload_n dX12_party_84 rfl rfl ?_
        refine rn_iconst (v := 2) dX12_party_85 (by decide) ?_
        refine rn_iload_n dX12_party_86 rfl rfl ?_
        refine rn_cV (M' := mX12_sets) (n := 3) (av := [.inl (h6.1 95 0), .inl 2, .inl a2]) (S := []) (rc := 0) (rs := 0) (mc := 0) (ms := 0) (a := 94) (ci := 11) (r := (RX12, TX12, 38)) dX12_party_87 pa_X12_sets (Nat.le_refl _) rfl (Nat.le_of_ble_eq_true rfl) ml_X12_167 im_X12_sets se_X12_sets rfl rfl rfl (Ev.mono V ?_)
        rintro v sh1 h12 ⟨rfl, Rh12, rfl, V⟩
        show Rn G (d + 1) 0 0 mX12_party 90 [(3, .inl (h6.1 95 0)), (0, .inr (.inr (some 94))), (1, .inl a1), (2, .inl a2)] [] SH h12 (QI Q)
        refine rn_aload_n dX12_party_90 rfl rfl ?_
        refine rn_iload_n dX12_party_91 rfl rfl ?_
        refine rn_iconst (v := 3) dX12_party_92 (by decide) ?_
        refine rn_iconst (v := 0) dX12_party_93 (by decide) ?_
        refine rn_cV (M' := mX12_sets) (n := 3) (av := [.inl (h6.1 95 0), .inl 3, .inl 0]) (S := []) (rc := 0) (rs := 0) (mc := 0) (ms := 0) (a := 94) (ci := 11) (r := (RX12, TX12, 38)) dX12_party_94 pa_X12_sets (Nat.le_refl _) rfl (Nat.le_of_ble_eq_true rfl) ml_X12_167 im_X12_sets se_X12_sets rfl rfl rfl (Ev.mono V ?_)
        rintro v sh1 h13 ⟨rfl, Rh13, rfl, V⟩
        show Rn G (d + 1) 0 0 mX12_party 97 [(3, .inl (h6.1 95 0)), (0, .inr (.inr (some 94))), (1, .inl a1), (2, .inl a2)] [] SH h13 (QI Q)
        refine rn_aload_n dX12_party_97 rfl rfl ?_
        refine rn_iload_n dX12_party_98 rfl rfl ?_
        refine rn_iconst (v := 4) dX12_party_99 (by decide) ?_
        refine rn_iconst (v := 0) dX12_party_100 (by decide) ?_
        refine rn_cV (M' := mX12_sets) (n := 3) (av := [.inl (h6.1 95 0), .inl 4, .inl 0]) (S := []) (rc := 0) (rs := 0) (mc := 0) (ms := 0) (a := 94) (ci := 11) (r := (RX12, TX12, 38)) dX12_party_101 pa_X12_sets (Nat.le_refl _) rfl (Nat.le_of_ble_eq_true rfl) ml_X12_167 im_X12_sets se_X12_sets rfl rfl rfl (Ev.mono V ?_)
        rintro v sh1 h14 ⟨rfl, Rh14, rfl, V⟩
        show Rn G (d + 1) 0 0 mX12_party 104 [(3, .inl (h6.1 95 0)), (0, .inr (.inr (some 94))), (1, .inl a1), (2, .inl a2)] [] SH h14 (QI Q)
        refine rn_iload_n dX12_party_104 rfl rfl ?_
        exact rn_iret dX12_party_105 rfl ⟨rfl, Rh14, _, rfl, V⟩
      · replace V := V.2 c9
        refine rn_aload_n dX12_party_40 rfl rfl ?_
        refine rn_iconst (v := 4) dX12_party_41 (by decide) ?_
        refine rn_cV (M' := mX12_finds) (n := 1) (av := [.inl 4]) (S := []) (rc := 0) (rs := 0) (mc := 0) (ms := 0) (a := 94) (ci := 11) (r := (RX12, TX12, 38)) dX12_party_42 pa_X12_finds (Nat.le_refl _) rfl (Nat.le_of_ble_eq_true rfl) ml_X12_143 im_X12_finds se_X12_finds rfl rfl rfl (Ev.mono V ?_)
        rintro v sh1 h15 ⟨rfl, Rh15, x16, rfl, V⟩
        show Rn G (d + 1) 0 0 mX12_party 45 [(0, .inr (.inr (some 94))), (1, .inl a1), (2, .inl a2)] [.inl x16] SH h15 (QI Q)
        exact rn_iret dX12_party_45 rfl ⟨rfl, Rh15, _, rfl, V⟩
    · replace V := V.2 c8
      refine rn_aload_n dX12_party_24 rfl rfl ?_
      refine rn_iconst (v := 1) dX12_party_25 (by decide) ?_
      refine rn_cV (M' := mX12_finds) (n := 1) (av := [.inl 1]) (S := []) (rc := 0) (rs := 0) (mc := 0) (ms := 0) (a := 94) (ci := 11) (r := (RX12, TX12, 38)) dX12_party_26 pa_X12_finds (Nat.le_refl _) rfl (Nat.le_of_ble_eq_true rfl) ml_X12_143 im_X12_finds se_X12_finds rfl rfl rfl (Ev.mono V ?_)
      rintro v sh1 h17 ⟨rfl, Rh17, x18, rfl, V⟩
      show Rn G (d + 1) 0 0 mX12_party 29 [(0, .inr (.inr (some 94))), (1, .inl a1), (2, .inl a2)] [.inl x18] SH h17 (QI Q)
      exact rn_iret dX12_party_29 rfl ⟨rfl, Rh17, _, rfl, V⟩
def Rg_X12_saidOf_4 (G : GT) (d : Nat) (l1 : Int32) (l2 : Int32) (l3 : Int32) (h : Hp) (Q : Int32 → Hp → Prop) : Prop := Rn G (d + 1) 0 0 mX12_saidOf 4 [(0, .inr (.inr (some 94))), (1, .inl l1), (2, .inl l2), (3, .inl l3)] [] SH h (QI Q)
set_option maxRecDepth 100000 in
set_option maxHeartbeats 4000000 in
theorem vc_X12_saidOf_4 {G : GT} {d : Nat} {l1 : Int32} {l2 : Int32} {l3 : Int32}  {h : Hp} {Q : Int32 → Hp → Prop} (hR : RF h) (V : ((h.1 95 1 ≤ l3 → Q l2 h) ∧ (¬ h.1 95 1 ≤ l3 → EvI G d mX12_its [.inr (.inr (some 94)), .inl l3, .inl 0] h (fun x3 h2 => ((¬ x3 = l1 → Rg_X12_saidOf_4 G d l1 (l2 + 0) (l3 + 1) h2 Q) ∧ (x3 = l1 → EvI G d mX12_its [.inr (.inr (some 94)), .inl l3, .inl 4] h2 (fun x6 h5 => ((¬ x6 = 1 → Rg_X12_saidOf_4 G d l1 (l2 + 0) (l3 + 1) h5 Q) ∧ (x6 = 1 → Rg_X12_saidOf_4 G d l1 (l2 + 1) (l3 + 1) h5 Q))))))))) : Rg_X12_saidOf_4 G d l1 l2 l3 h Q := by
  show Rn G (d + 1) 0 0 mX12_saidOf 4 [(0, .inr (.inr (some 94))), (1, .inl l1), (2, .inl l2), (3, .inl l3)] [] SH h (QI Q)
  refine rn_iload_n dX12_saidOf_4 rfl rfl ?_
  refine rn_aload_n dX12_saidOf_5 rfl rfl ?_
  refine rn_get (v := .inr (.inr (some 95))) dX12_saidOf_6 fl_X12_7 rfl rfl (congrArg (fun z => (Sum.inr (Sum.inr z) : MV)) (rf_94_0 hR)) ?_
  refine rn_iconst (v := 1) dX12_saidOf_9 (by decide) ?_
  refine rn_iald (k := 1) dX12_saidOf_10 rfl (by decide) (by unfold vp_in; decide) ?_
  refine rn_icmp_ge (tgt := 48) dX12_saidOf_11 (by decide) (fun c1 => ?_) (fun c1 => ?_)
  · replace V := V.1 c1
    refine rn_iload_n dX12_saidOf_48 rfl rfl ?_
    exact rn_iret dX12_saidOf_49 rfl ⟨rfl, hR, _, rfl, V⟩
  · replace V := V.2 c1
    refine rn_iload_n dX12_saidOf_14 rfl rfl ?_
    refine rn_aload_n dX12_saidOf_15 rfl rfl ?_
    refine rn_iload_n dX12_saidOf_16 rfl rfl ?_
    refine rn_iconst (v := 0) dX12_saidOf_17 (by decide) ?_
    refine rn_cV (M' := mX12_its) (n := 2) (av := [.inl l3, .inl 0]) (S := [.inl l2]) (rc := 0) (rs := 0) (mc := 0) (ms := 0) (a := 94) (ci := 11) (r := (RX12, TX12, 38)) dX12_saidOf_18 pa_X12_its (Nat.le_refl _) rfl (Nat.le_of_ble_eq_true rfl) ml_X12_171 im_X12_its se_X12_its rfl rfl rfl (Ev.mono V ?_)
    rintro v sh1 h2 ⟨rfl, Rh2, x3, rfl, V⟩
    show Rn G (d + 1) 0 0 mX12_saidOf 21 [(0, .inr (.inr (some 94))), (1, .inl l1), (2, .inl l2), (3, .inl l3)] [.inl x3, .inl l2] SH h2 (QI Q)
    refine rn_iload_n dX12_saidOf_21 rfl rfl ?_
    refine rn_icmp_ne (tgt := 39) dX12_saidOf_22 (by decide) (fun c4 => ?_) (fun c4 => ?_)
    · replace V := V.1 c4
      refine rn_iconst (v := 0) dX12_saidOf_39 (by decide) ?_
      refine rn_iadd dX12_saidOf_40 ?_
      refine rn_istore_n (L' := [(2, .inl (l2 + 0)), (0, .inr (.inr (some 94))), (1, .inl l1), (3, .inl l3)]) dX12_saidOf_41 rfl (Nat.le_of_ble_eq_true rfl) rfl ?_
      refine rn_iinc (L' := [(3, .inl (l3 + 1)), (2, .inl (l2 + 0)), (0, .inr (.inr (some 94))), (1, .inl l1)]) dX12_saidOf_42 rfl (v := (l3 + 1)) rfl (Nat.le_of_ble_eq_true rfl) rfl ?_
      refine rn_goto (tgt := 4) dX12_saidOf_45 (by decide) ?_
      refine rn_sub [2, 3, 1, 0] (L' := [(0, .inr (.inr (some 94))), (1, .inl l1), (2, .inl (l2 + 0)), (3, .inl (l3 + 1))]) rfl ?_
      exact V
    · replace V := V.2 c4
      refine rn_aload_n dX12_saidOf_25 rfl rfl ?_
      refine rn_iload_n dX12_saidOf_26 rfl rfl ?_
      refine rn_iconst (v := 4) dX12_saidOf_27 (by decide) ?_
      refine rn_cV (M' := mX12_its) (n := 2) (av := [.inl l3, .inl 4]) (S := [.inl l2]) (rc := 0) (rs := 0) (mc := 0) (ms := 0) (a := 94) (ci := 11) (r := (RX12, TX12, 38)) dX12_saidOf_28 pa_X12_its (Nat.le_refl _) rfl (Nat.le_of_ble_eq_true rfl) ml_X12_171 im_X12_its se_X12_its rfl rfl rfl (Ev.mono V ?_)
      rintro v sh1 h5 ⟨rfl, Rh5, x6, rfl, V⟩
      show Rn G (d + 1) 0 0 mX12_saidOf 31 [(0, .inr (.inr (some 94))), (1, .inl l1), (2, .inl l2), (3, .inl l3)] [.inl x6, .inl l2] SH h5 (QI Q)
      refine rn_iconst (v := 1) dX12_saidOf_31 (by decide) ?_
      refine rn_icmp_ne (tgt := 39) dX12_saidOf_32 (by decide) (fun c7 => ?_) (fun c7 => ?_)
      · replace V := V.1 c7
        refine rn_iconst (v := 0) dX12_saidOf_39 (by decide) ?_
        refine rn_iadd dX12_saidOf_40 ?_
        refine rn_istore_n (L' := [(2, .inl (l2 + 0)), (0, .inr (.inr (some 94))), (1, .inl l1), (3, .inl l3)]) dX12_saidOf_41 rfl (Nat.le_of_ble_eq_true rfl) rfl ?_
        refine rn_iinc (L' := [(3, .inl (l3 + 1)), (2, .inl (l2 + 0)), (0, .inr (.inr (some 94))), (1, .inl l1)]) dX12_saidOf_42 rfl (v := (l3 + 1)) rfl (Nat.le_of_ble_eq_true rfl) rfl ?_
        refine rn_goto (tgt := 4) dX12_saidOf_45 (by decide) ?_
        refine rn_sub [2, 3, 1, 0] (L' := [(0, .inr (.inr (some 94))), (1, .inl l1), (2, .inl (l2 + 0)), (3, .inl (l3 + 1))]) rfl ?_
        exact V
      · replace V := V.2 c7
        refine rn_iconst (v := 1) dX12_saidOf_35 (by decide) ?_
        refine rn_goto (tgt := 40) dX12_saidOf_36 (by decide) ?_
        refine rn_iadd dX12_saidOf_40 ?_
        refine rn_istore_n (L' := [(2, .inl (l2 + 1)), (0, .inr (.inr (some 94))), (1, .inl l1), (3, .inl l3)]) dX12_saidOf_41 rfl (Nat.le_of_ble_eq_true rfl) rfl ?_
        refine rn_iinc (L' := [(3, .inl (l3 + 1)), (2, .inl (l2 + 1)), (0, .inr (.inr (some 94))), (1, .inl l1)]) dX12_saidOf_42 rfl (v := (l3 + 1)) rfl (Nat.le_of_ble_eq_true rfl) rfl ?_
        refine rn_goto (tgt := 4) dX12_saidOf_45 (by decide) ?_
        refine rn_sub [2, 3, 1, 0] (L' := [(0, .inr (.inr (some 94))), (1, .inl l1), (2, .inl (l2 + 1)), (3, .inl (l3 + 1))]) rfl ?_
        exact V
set_option maxRecDepth 100000 in
set_option maxHeartbeats 4000000 in
theorem vc_X12_saidOf {G : GT} {d : Nat} {a1 : Int32}  {h : Hp} {Q : Int32 → Hp → Prop} (hR : RF h) (V : Rg_X12_saidOf_4 G d a1 0 0 h Q) : EvI G (d + 1) mX12_saidOf [.inr (.inr (some 94)), .inl a1] h Q := by
  refine Ev.of rfl (fun _ => Nat.le_of_ble_eq_true rfl) ?_
  show Rn G (d + 1) 0 0 mX12_saidOf 0 [(0, .inr (.inr (some 94))), (1, .inl a1)] [] SH h (QI Q)
  refine rn_iconst (v := 0) dX12_saidOf_0 (by decide) ?_
  refine rn_istore_n (L' := [(2, .inl 0), (0, .inr (.inr (some 94))), (1, .inl a1)]) dX12_saidOf_1 rfl (Nat.le_of_ble_eq_true rfl) rfl ?_
  refine rn_iconst (v := 0) dX12_saidOf_2 (by decide) ?_
  refine rn_istore_n (L' := [(3, .inl 0), (2, .inl 0), (0, .inr (.inr (some 94))), (1, .inl a1)]) dX12_saidOf_3 rfl (Nat.le_of_ble_eq_true rfl) rfl ?_
  refine rn_sub [2, 3, 1, 0] (L' := [(0, .inr (.inr (some 94))), (1, .inl a1), (2, .inl 0), (3, .inl 0)]) rfl ?_
  exact V
set_option maxRecDepth 100000 in
set_option maxHeartbeats 4000000 in
theorem vc_X12_ofParty {G : GT} {d : Nat} {a1 : Int32} {a2 : Int32}  {h : Hp} {Q : Int32 → Hp → Prop} (hR : RF h) (V : EvI G d mX12_isParty [.inr (.inr (some 94)), .inl a1] h (fun x2 h1 => ((x2 = 0 → EvI G d mX12_finds [.inr (.inr (some 94)), .inl 1] h1 (fun x5 h4 => Q x5 h4)) ∧ (¬ x2 = 0 → EvI G d mX12_in [.inr (.inl (Int32.toInt64 a2)), .inr (.inl 0), .inr (.inl 7)] h1 (fun x7 h6 => ((¬ x7 = 0 → ((5 ≤ a2 → ((¬ a2 = 5 → ((¬ a2 = 6 → EvI G d mX12_saidOf [.inr (.inr (some 94)), .inl a1] h6 (fun x13 h12 => Q x13 h12)) ∧ (a2 = 6 → EvI G d mX12_drips [.inr (.inr (some 94)), .inl a1] h6 (fun x15 h14 => Q x15 h14)))) ∧ (a2 = 5 → EvI G d mX12_runs [.inr (.inr (some 94)), .inl a1] h6 (fun x17 h16 => Q x17 h16)))) ∧ (¬ 5 ≤ a2 → EvI G d mX12_of [.inr (.inr (some 94)), .inl a1, .inl a2] h6 (fun x19 h18 => Q x19 h18)))) ∧ (x7 = 0 → EvI G d mX12_finds [.inr (.inr (some 94)), .inl 1] h6 (fun x21 h20 => Q x21 h20)))))))) : EvI G (d + 1) mX12_ofParty [.inr (.inr (some 94)), .inl a1, .inl a2] h Q := by
  refine Ev.of rfl (fun _ => Nat.le_of_ble_eq_true rfl) ?_
  show Rn G (d + 1) 0 0 mX12_ofParty 0 [(0, .inr (.inr (some 94))), (1, .inl a1), (2, .inl a2)] [] SH h (QI Q)
  refine rn_aload_n dX12_ofParty_0 rfl rfl ?_
  refine rn_iload_n dX12_ofParty_1 rfl rfl ?_
  refine rn_cV (M' := mX12_isParty) (n := 1) (av := [.inl a1]) (S := []) (rc := 0) (rs := 0) (mc := 0) (ms := 0) (a := 94) (ci := 11) (r := (RX12, TX12, 38)) dX12_ofParty_2 pa_X12_isParty (Nat.le_refl _) rfl (Nat.le_of_ble_eq_true rfl) ml_X12_174 im_X12_isParty se_X12_isParty rfl rfl rfl (Ev.mono V ?_)
  rintro v sh1 h1 ⟨rfl, Rh1, x2, rfl, V⟩
  show Rn G (d + 1) 0 0 mX12_ofParty 5 [(0, .inr (.inr (some 94))), (1, .inl a1), (2, .inl a2)] [.inl x2] SH h1 (QI Q)
  refine rn_if_eq (tgt := 20) dX12_ofParty_5 (by decide) (fun c3 => ?_) (fun c3 => ?_)
  · replace V := V.1 c3
    refine rn_aload_n dX12_ofParty_20 rfl rfl ?_
    refine rn_iconst (v := 1) dX12_ofParty_21 (by decide) ?_
    refine rn_cV (M' := mX12_finds) (n := 1) (av := [.inl 1]) (S := []) (rc := 0) (rs := 0) (mc := 0) (ms := 0) (a := 94) (ci := 11) (r := (RX12, TX12, 38)) dX12_ofParty_22 pa_X12_finds (Nat.le_refl _) rfl (Nat.le_of_ble_eq_true rfl) ml_X12_143 im_X12_finds se_X12_finds rfl rfl rfl (Ev.mono V ?_)
    rintro v sh1 h4 ⟨rfl, Rh4, x5, rfl, V⟩
    show Rn G (d + 1) 0 0 mX12_ofParty 25 [(0, .inr (.inr (some 94))), (1, .inl a1), (2, .inl a2)] [.inl x5] SH h4 (QI Q)
    exact rn_iret dX12_ofParty_25 rfl ⟨rfl, Rh4, _, rfl, V⟩
  · replace V := V.2 c3
    refine rn_iload_n dX12_ofParty_8 rfl rfl ?_
    refine rn_i2l dX12_ofParty_9 ?_
    refine rn_lconst (v := 0) dX12_ofParty_10 rfl ?_
    refine rn_ldc2 (v := 7) dX12_ofParty_11 cw_X12_177 ?_
    refine rn_cS (M' := mX12_in) (n := 3) (av := [.inr (.inl (Int32.toInt64 a2)), .inr (.inl 0), .inr (.inl 7)]) (S := []) (rc := 0) (rs := 0) (mc := 0) (ms := 0) dX12_ofParty_14 pa_X12_in (Nat.le_refl _) rfl (Nat.le_of_ble_eq_true rfl) ml_X12_80 ss_X12_in rfl (Ev.mono V ?_)
    rintro v sh1 h6 ⟨rfl, Rh6, x7, rfl, V⟩
    show Rn G (d + 1) 0 0 mX12_ofParty 17 [(0, .inr (.inr (some 94))), (1, .inl a1), (2, .inl a2)] [.inl x7] SH h6 (QI Q)
    refine rn_if_ne (tgt := 26) dX12_ofParty_17 (by decide) (fun c8 => ?_) (fun c8 => ?_)
    · replace V := V.1 c8
      refine rn_iload_n dX12_ofParty_26 rfl rfl ?_
      refine rn_iconst (v := 5) dX12_ofParty_27 (by decide) ?_
      refine rn_icmp_ge (tgt := 40) dX12_ofParty_28 (by decide) (fun c9 => ?_) (fun c9 => ?_)
      · replace V := V.1 c9
        refine rn_iload_n dX12_ofParty_40 rfl rfl ?_
        refine rn_iconst (v := 5) dX12_ofParty_41 (by decide) ?_
        refine rn_icmp_ne (tgt := 53) dX12_ofParty_42 (by decide) (fun c10 => ?_) (fun c10 => ?_)
        · replace V := V.1 c10
          refine rn_iload_n dX12_ofParty_53 rfl rfl ?_
          refine rn_bipush (v := 6) dX12_ofParty_54 (by decide) ?_
          refine rn_icmp_ne (tgt := 67) dX12_ofParty_56 (by decide) (fun c11 => ?_) (fun c11 => ?_)
          · replace V := V.1 c11
            refine rn_aload_n dX12_ofParty_67 rfl rfl ?_
            refine rn_iload_n dX12_ofParty_68 rfl rfl ?_
            refine rn_cV (M' := mX12_saidOf) (n := 1) (av := [.inl a1]) (S := []) (rc := 0) (rs := 0) (mc := 0) (ms := 0) (a := 94) (ci := 11) (r := (RX12, TX12, 38)) dX12_ofParty_69 pa_X12_saidOf (Nat.le_refl _) rfl (Nat.le_of_ble_eq_true rfl) ml_X12_185 im_X12_saidOf se_X12_saidOf rfl rfl rfl (Ev.mono V ?_)
            rintro v sh1 h12 ⟨rfl, Rh12, x13, rfl, V⟩
            show Rn G (d + 1) 0 0 mX12_ofParty 72 [(0, .inr (.inr (some 94))), (1, .inl a1), (2, .inl a2)] [.inl x13] SH h12 (QI Q)
            exact rn_iret dX12_ofParty_72 rfl ⟨rfl, Rh12, _, rfl, V⟩
          · replace V := V.2 c11
            refine rn_aload_n dX12_ofParty_59 rfl rfl ?_
            refine rn_iload_n dX12_ofParty_60 rfl rfl ?_
            refine rn_cV (M' := mX12_drips) (n := 1) (av := [.inl a1]) (S := []) (rc := 0) (rs := 0) (mc := 0) (ms := 0) (a := 94) (ci := 11) (r := (RX12, TX12, 38)) dX12_ofParty_61 pa_X12_drips (Nat.le_refl _) rfl (Nat.le_of_ble_eq_true rfl) ml_X12_182 im_X12_drips se_X12_drips rfl rfl rfl (Ev.mono V ?_)
            rintro v sh1 h14 ⟨rfl, Rh14, x15, rfl, V⟩
            show Rn G (d + 1) 0 0 mX12_ofParty 64 [(0, .inr (.inr (some 94))), (1, .inl a1), (2, .inl a2)] [.inl x15] SH h14 (QI Q)
            refine rn_goto (tgt := 72) dX12_ofParty_64 (by decide) ?_
            exact rn_iret dX12_ofParty_72 rfl ⟨rfl, Rh14, _, rfl, V⟩
        · replace V := V.2 c10
          refine rn_aload_n dX12_ofParty_45 rfl rfl ?_
          refine rn_iload_n dX12_ofParty_46 rfl rfl ?_
          refine rn_cV (M' := mX12_runs) (n := 1) (av := [.inl a1]) (S := []) (rc := 0) (rs := 0) (mc := 0) (ms := 0) (a := 94) (ci := 11) (r := (RX12, TX12, 38)) dX12_ofParty_47 pa_X12_runs (Nat.le_refl _) rfl (Nat.le_of_ble_eq_true rfl) ml_X12_179 im_X12_runs se_X12_runs rfl rfl rfl (Ev.mono V ?_)
          rintro v sh1 h16 ⟨rfl, Rh16, x17, rfl, V⟩
          show Rn G (d + 1) 0 0 mX12_ofParty 50 [(0, .inr (.inr (some 94))), (1, .inl a1), (2, .inl a2)] [.inl x17] SH h16 (QI Q)
          refine rn_goto (tgt := 72) dX12_ofParty_50 (by decide) ?_
          exact rn_iret dX12_ofParty_72 rfl ⟨rfl, Rh16, _, rfl, V⟩
      · replace V := V.2 c9
        refine rn_aload_n dX12_ofParty_31 rfl rfl ?_
        refine rn_iload_n dX12_ofParty_32 rfl rfl ?_
        refine rn_iload_n dX12_ofParty_33 rfl rfl ?_
        refine rn_cV (M' := mX12_of) (n := 2) (av := [.inl a1, .inl a2]) (S := []) (rc := 0) (rs := 0) (mc := 0) (ms := 0) (a := 94) (ci := 11) (r := (RX12, TX12, 38)) dX12_ofParty_34 pa_X12_of (Nat.le_refl _) rfl (Nat.le_of_ble_eq_true rfl) ml_X12_161 im_X12_of se_X12_of rfl rfl rfl (Ev.mono V ?_)
        rintro v sh1 h18 ⟨rfl, Rh18, x19, rfl, V⟩
        show Rn G (d + 1) 0 0 mX12_ofParty 37 [(0, .inr (.inr (some 94))), (1, .inl a1), (2, .inl a2)] [.inl x19] SH h18 (QI Q)
        refine rn_goto (tgt := 72) dX12_ofParty_37 (by decide) ?_
        exact rn_iret dX12_ofParty_72 rfl ⟨rfl, Rh18, _, rfl, V⟩
    · replace V := V.2 c8
      refine rn_aload_n dX12_ofParty_20 rfl rfl ?_
      refine rn_iconst (v := 1) dX12_ofParty_21 (by decide) ?_
      refine rn_cV (M' := mX12_finds) (n := 1) (av := [.inl 1]) (S := []) (rc := 0) (rs := 0) (mc := 0) (ms := 0) (a := 94) (ci := 11) (r := (RX12, TX12, 38)) dX12_ofParty_22 pa_X12_finds (Nat.le_refl _) rfl (Nat.le_of_ble_eq_true rfl) ml_X12_143 im_X12_finds se_X12_finds rfl rfl rfl (Ev.mono V ?_)
      rintro v sh1 h20 ⟨rfl, Rh20, x21, rfl, V⟩
      show Rn G (d + 1) 0 0 mX12_ofParty 25 [(0, .inr (.inr (some 94))), (1, .inl a1), (2, .inl a2)] [.inl x21] SH h20 (QI Q)
      exact rn_iret dX12_ofParty_25 rfl ⟨rfl, Rh20, _, rfl, V⟩
set_option maxRecDepth 100000 in
set_option maxHeartbeats 4000000 in
theorem vc_X12_become {G : GT} {d : Nat} {a1 : Int32} {a2 : Int32}  {h : Hp} {Q : Int32 → Hp → Prop} (hR : RF h) (V : EvI G d mX12_isParty [.inr (.inr (some 94)), .inl a1] h (fun x2 h1 => ((x2 = 0 → EvI G d mX12_finds [.inr (.inr (some 94)), .inl 1] h1 (fun x5 h4 => Q x5 h4)) ∧ (¬ x2 = 0 → EvI G d mX12_in [.inr (.inl (Int32.toInt64 a2)), .inr (.inl 0), .inr (.inl 69)] h1 (fun x7 h6 => ((¬ x7 = 0 → EvI G d mX12_of [.inr (.inr (some 94)), .inl a1, .inl 0] h6 (fun x10 h9 => EvV G d mX12_sets [.inr (.inr (some 94)), .inl a1, .inl 0, .inl (a2 / 10)] h9 (fun h11 => EvV G d mX12_sets [.inr (.inr (some 94)), .inl a1, .inl 1, .inl (a2 - a2 / 10 * 10)] h11 (fun h12 => Q x10 h12)))) ∧ (x7 = 0 → EvI G d mX12_finds [.inr (.inr (some 94)), .inl 1] h6 (fun x14 h13 => Q x14 h13)))))))) : EvI G (d + 1) mX12_become [.inr (.inr (some 94)), .inl a1, .inl a2] h Q := by
  refine Ev.of rfl (fun _ => Nat.le_of_ble_eq_true rfl) ?_
  show Rn G (d + 1) 0 0 mX12_become 0 [(0, .inr (.inr (some 94))), (1, .inl a1), (2, .inl a2)] [] SH h (QI Q)
  refine rn_aload_n dX12_become_0 rfl rfl ?_
  refine rn_iload_n dX12_become_1 rfl rfl ?_
  refine rn_cV (M' := mX12_isParty) (n := 1) (av := [.inl a1]) (S := []) (rc := 0) (rs := 0) (mc := 0) (ms := 0) (a := 94) (ci := 11) (r := (RX12, TX12, 38)) dX12_become_2 pa_X12_isParty (Nat.le_refl _) rfl (Nat.le_of_ble_eq_true rfl) ml_X12_174 im_X12_isParty se_X12_isParty rfl rfl rfl (Ev.mono V ?_)
  rintro v sh1 h1 ⟨rfl, Rh1, x2, rfl, V⟩
  show Rn G (d + 1) 0 0 mX12_become 5 [(0, .inr (.inr (some 94))), (1, .inl a1), (2, .inl a2)] [.inl x2] SH h1 (QI Q)
  refine rn_if_eq (tgt := 20) dX12_become_5 (by decide) (fun c3 => ?_) (fun c3 => ?_)
  · replace V := V.1 c3
    refine rn_aload_n dX12_become_20 rfl rfl ?_
    refine rn_iconst (v := 1) dX12_become_21 (by decide) ?_
    refine rn_cV (M' := mX12_finds) (n := 1) (av := [.inl 1]) (S := []) (rc := 0) (rs := 0) (mc := 0) (ms := 0) (a := 94) (ci := 11) (r := (RX12, TX12, 38)) dX12_become_22 pa_X12_finds (Nat.le_refl _) rfl (Nat.le_of_ble_eq_true rfl) ml_X12_143 im_X12_finds se_X12_finds rfl rfl rfl (Ev.mono V ?_)
    rintro v sh1 h4 ⟨rfl, Rh4, x5, rfl, V⟩
    show Rn G (d + 1) 0 0 mX12_become 25 [(0, .inr (.inr (some 94))), (1, .inl a1), (2, .inl a2)] [.inl x5] SH h4 (QI Q)
    exact rn_iret dX12_become_25 rfl ⟨rfl, Rh4, _, rfl, V⟩
  · replace V := V.2 c3
    refine rn_iload_n dX12_become_8 rfl rfl ?_
    refine rn_i2l dX12_become_9 ?_
    refine rn_lconst (v := 0) dX12_become_10 rfl ?_
    refine rn_ldc2 (v := 69) dX12_become_11 cw_X12_165 ?_
    refine rn_cS (M' := mX12_in) (n := 3) (av := [.inr (.inl (Int32.toInt64 a2)), .inr (.inl 0), .inr (.inl 69)]) (S := []) (rc := 0) (rs := 0) (mc := 0) (ms := 0) dX12_become_14 pa_X12_in (Nat.le_refl _) rfl (Nat.le_of_ble_eq_true rfl) ml_X12_80 ss_X12_in rfl (Ev.mono V ?_)
    rintro v sh1 h6 ⟨rfl, Rh6, x7, rfl, V⟩
    show Rn G (d + 1) 0 0 mX12_become 17 [(0, .inr (.inr (some 94))), (1, .inl a1), (2, .inl a2)] [.inl x7] SH h6 (QI Q)
    refine rn_if_ne (tgt := 26) dX12_become_17 (by decide) (fun c8 => ?_) (fun c8 => ?_)
    · replace V := V.1 c8
      refine rn_aload_n dX12_become_26 rfl rfl ?_
      refine rn_iload_n dX12_become_27 rfl rfl ?_
      refine rn_iconst (v := 0) dX12_become_28 (by decide) ?_
      refine rn_cV (M' := mX12_of) (n := 2) (av := [.inl a1, .inl 0]) (S := []) (rc := 0) (rs := 0) (mc := 0) (ms := 0) (a := 94) (ci := 11) (r := (RX12, TX12, 38)) dX12_become_29 pa_X12_of (Nat.le_refl _) rfl (Nat.le_of_ble_eq_true rfl) ml_X12_161 im_X12_of se_X12_of rfl rfl rfl (Ev.mono V ?_)
      rintro v sh1 h9 ⟨rfl, Rh9, x10, rfl, V⟩
      show Rn G (d + 1) 0 0 mX12_become 32 [(0, .inr (.inr (some 94))), (1, .inl a1), (2, .inl a2)] [.inl x10] SH h9 (QI Q)
      refine rn_istore_n (L' := [(3, .inl x10), (0, .inr (.inr (some 94))), (1, .inl a1), (2, .inl a2)]) dX12_become_32 rfl (Nat.le_of_ble_eq_true rfl) rfl ?_
      refine rn_aload_n dX12_become_33 rfl rfl ?_
      refine rn_iload_n dX12_become_34 rfl rfl ?_
      refine rn_iconst (v := 0) dX12_become_35 (by decide) ?_
      refine rn_iload_n dX12_become_36 rfl rfl ?_
      refine rn_bipush (v := 10) dX12_become_37 (by decide) ?_
      refine rn_idiv dX12_become_39 (by decide) ?_
      refine rn_cV (M' := mX12_sets) (n := 3) (av := [.inl a1, .inl 0, .inl (a2 / 10)]) (S := []) (rc := 0) (rs := 0) (mc := 0) (ms := 0) (a := 94) (ci := 11) (r := (RX12, TX12, 38)) dX12_become_40 pa_X12_sets (Nat.le_refl _) rfl (Nat.le_of_ble_eq_true rfl) ml_X12_167 im_X12_sets se_X12_sets rfl rfl rfl (Ev.mono V ?_)
      rintro v sh1 h11 ⟨rfl, Rh11, rfl, V⟩
      show Rn G (d + 1) 0 0 mX12_become 43 [(3, .inl x10), (0, .inr (.inr (some 94))), (1, .inl a1), (2, .inl a2)] [] SH h11 (QI Q)
      refine rn_aload_n dX12_become_43 rfl rfl ?_
      refine rn_iload_n dX12_become_44 rfl rfl ?_
      refine rn_iconst (v := 1) dX12_become_45 (by decide) ?_
      refine rn_iload_n dX12_become_46 rfl rfl ?_
      refine rn_bipush (v := 10) dX12_become_47 (by decide) ?_
      refine rn_irem dX12_become_49 (by decide) ?_
      refine rn_cV (M' := mX12_sets) (n := 3) (av := [.inl a1, .inl 1, .inl (a2 - a2 / 10 * 10)]) (S := []) (rc := 0) (rs := 0) (mc := 0) (ms := 0) (a := 94) (ci := 11) (r := (RX12, TX12, 38)) dX12_become_50 pa_X12_sets (Nat.le_refl _) rfl (Nat.le_of_ble_eq_true rfl) ml_X12_167 im_X12_sets se_X12_sets rfl rfl rfl (Ev.mono V ?_)
      rintro v sh1 h12 ⟨rfl, Rh12, rfl, V⟩
      show Rn G (d + 1) 0 0 mX12_become 53 [(3, .inl x10), (0, .inr (.inr (some 94))), (1, .inl a1), (2, .inl a2)] [] SH h12 (QI Q)
      refine rn_iload_n dX12_become_53 rfl rfl ?_
      exact rn_iret dX12_become_54 rfl ⟨rfl, Rh12, _, rfl, V⟩
    · replace V := V.2 c8
      refine rn_aload_n dX12_become_20 rfl rfl ?_
      refine rn_iconst (v := 1) dX12_become_21 (by decide) ?_
      refine rn_cV (M' := mX12_finds) (n := 1) (av := [.inl 1]) (S := []) (rc := 0) (rs := 0) (mc := 0) (ms := 0) (a := 94) (ci := 11) (r := (RX12, TX12, 38)) dX12_become_22 pa_X12_finds (Nat.le_refl _) rfl (Nat.le_of_ble_eq_true rfl) ml_X12_143 im_X12_finds se_X12_finds rfl rfl rfl (Ev.mono V ?_)
      rintro v sh1 h13 ⟨rfl, Rh13, x14, rfl, V⟩
      show Rn G (d + 1) 0 0 mX12_become 25 [(0, .inr (.inr (some 94))), (1, .inl a1), (2, .inl a2)] [.inl x14] SH h13 (QI Q)
      exact rn_iret dX12_become_25 rfl ⟨rfl, Rh13, _, rfl, V⟩
set_option maxRecDepth 100000 in
set_option maxHeartbeats 4000000 in
theorem vc_X12_as {G : GT} {d : Nat} {a1 : Int32} {a2 : Int32}  {h : Hp} {Q : Int32 → Hp → Prop} (hR : RF h) (V : EvI G d mX12_isParty [.inr (.inr (some 94)), .inl a1] h (fun x2 h1 => ((x2 = 0 → EvI G d mX12_finds [.inr (.inr (some 94)), .inl 1] h1 (fun x5 h4 => Q x5 h4)) ∧ (¬ x2 = 0 → EvI G d mX12_in [.inr (.inl (Int32.toInt64 a2)), .inr (.inl 0), .inr (.inl 6)] h1 (fun x7 h6 => ((¬ x7 = 0 → EvI G d mX12_of [.inr (.inr (some 94)), .inl a1, .inl 0] h6 (fun x10 h9 => ((a2 = 0 → EvI G d mX12_of [.inr (.inr (some 94)), .inl a1, .inl 1] h9 (fun x13 h12 => Q x13 h12)) ∧ (¬ a2 = 0 → ((a2 = x10 → EvI G d mX12_of [.inr (.inr (some 94)), .inl a1, .inl 1] h9 (fun x16 h15 => Q x16 h15)) ∧ (¬ a2 = x10 → EvI G d mX12_above [.inl x10] h9 (fun x18 h17 => ((¬ a2 = x18 → EvI G d mX12_finds [.inr (.inr (some 94)), .inl 5] h17 (fun x21 h20 => Q x21 h20)) ∧ (a2 = x18 → EvI G d mX12_of [.inr (.inr (some 94)), .inl a1, .inl 1] h17 (fun x23 h22 => Q x23 h22)))))))))) ∧ (x7 = 0 → EvI G d mX12_finds [.inr (.inr (some 94)), .inl 1] h6 (fun x25 h24 => Q x25 h24)))))))) : EvI G (d + 1) mX12_as [.inr (.inr (some 94)), .inl a1, .inl a2] h Q := by
  refine Ev.of rfl (fun _ => Nat.le_of_ble_eq_true rfl) ?_
  show Rn G (d + 1) 0 0 mX12_as 0 [(0, .inr (.inr (some 94))), (1, .inl a1), (2, .inl a2)] [] SH h (QI Q)
  refine rn_aload_n dX12_as_0 rfl rfl ?_
  refine rn_iload_n dX12_as_1 rfl rfl ?_
  refine rn_cV (M' := mX12_isParty) (n := 1) (av := [.inl a1]) (S := []) (rc := 0) (rs := 0) (mc := 0) (ms := 0) (a := 94) (ci := 11) (r := (RX12, TX12, 38)) dX12_as_2 pa_X12_isParty (Nat.le_refl _) rfl (Nat.le_of_ble_eq_true rfl) ml_X12_174 im_X12_isParty se_X12_isParty rfl rfl rfl (Ev.mono V ?_)
  rintro v sh1 h1 ⟨rfl, Rh1, x2, rfl, V⟩
  show Rn G (d + 1) 0 0 mX12_as 5 [(0, .inr (.inr (some 94))), (1, .inl a1), (2, .inl a2)] [.inl x2] SH h1 (QI Q)
  refine rn_if_eq (tgt := 20) dX12_as_5 (by decide) (fun c3 => ?_) (fun c3 => ?_)
  · replace V := V.1 c3
    refine rn_aload_n dX12_as_20 rfl rfl ?_
    refine rn_iconst (v := 1) dX12_as_21 (by decide) ?_
    refine rn_cV (M' := mX12_finds) (n := 1) (av := [.inl 1]) (S := []) (rc := 0) (rs := 0) (mc := 0) (ms := 0) (a := 94) (ci := 11) (r := (RX12, TX12, 38)) dX12_as_22 pa_X12_finds (Nat.le_refl _) rfl (Nat.le_of_ble_eq_true rfl) ml_X12_143 im_X12_finds se_X12_finds rfl rfl rfl (Ev.mono V ?_)
    rintro v sh1 h4 ⟨rfl, Rh4, x5, rfl, V⟩
    show Rn G (d + 1) 0 0 mX12_as 25 [(0, .inr (.inr (some 94))), (1, .inl a1), (2, .inl a2)] [.inl x5] SH h4 (QI Q)
    exact rn_iret dX12_as_25 rfl ⟨rfl, Rh4, _, rfl, V⟩
  · replace V := V.2 c3
    refine rn_iload_n dX12_as_8 rfl rfl ?_
    refine rn_i2l dX12_as_9 ?_
    refine rn_lconst (v := 0) dX12_as_10 rfl ?_
    refine rn_ldc2 (v := 6) dX12_as_11 cw_X12_188 ?_
    refine rn_cS (M' := mX12_in) (n := 3) (av := [.inr (.inl (Int32.toInt64 a2)), .inr (.inl 0), .inr (.inl 6)]) (S := []) (rc := 0) (rs := 0) (mc := 0) (ms := 0) dX12_as_14 pa_X12_in (Nat.le_refl _) rfl (Nat.le_of_ble_eq_true rfl) ml_X12_80 ss_X12_in rfl (Ev.mono V ?_)
    rintro v sh1 h6 ⟨rfl, Rh6, x7, rfl, V⟩
    show Rn G (d + 1) 0 0 mX12_as 17 [(0, .inr (.inr (some 94))), (1, .inl a1), (2, .inl a2)] [.inl x7] SH h6 (QI Q)
    refine rn_if_ne (tgt := 26) dX12_as_17 (by decide) (fun c8 => ?_) (fun c8 => ?_)
    · replace V := V.1 c8
      refine rn_aload_n dX12_as_26 rfl rfl ?_
      refine rn_iload_n dX12_as_27 rfl rfl ?_
      refine rn_iconst (v := 0) dX12_as_28 (by decide) ?_
      refine rn_cV (M' := mX12_of) (n := 2) (av := [.inl a1, .inl 0]) (S := []) (rc := 0) (rs := 0) (mc := 0) (ms := 0) (a := 94) (ci := 11) (r := (RX12, TX12, 38)) dX12_as_29 pa_X12_of (Nat.le_refl _) rfl (Nat.le_of_ble_eq_true rfl) ml_X12_161 im_X12_of se_X12_of rfl rfl rfl (Ev.mono V ?_)
      rintro v sh1 h9 ⟨rfl, Rh9, x10, rfl, V⟩
      show Rn G (d + 1) 0 0 mX12_as 32 [(0, .inr (.inr (some 94))), (1, .inl a1), (2, .inl a2)] [.inl x10] SH h9 (QI Q)
      refine rn_istore_n (L' := [(3, .inl x10), (0, .inr (.inr (some 94))), (1, .inl a1), (2, .inl a2)]) dX12_as_32 rfl (Nat.le_of_ble_eq_true rfl) rfl ?_
      refine rn_iload_n dX12_as_33 rfl rfl ?_
      refine rn_if_eq (tgt := 50) dX12_as_34 (by decide) (fun c11 => ?_) (fun c11 => ?_)
      · replace V := V.1 c11
        refine rn_aload_n dX12_as_50 rfl rfl ?_
        refine rn_iload_n dX12_as_51 rfl rfl ?_
        refine rn_iconst (v := 1) dX12_as_52 (by decide) ?_
        refine rn_cV (M' := mX12_of) (n := 2) (av := [.inl a1, .inl 1]) (S := []) (rc := 0) (rs := 0) (mc := 0) (ms := 0) (a := 94) (ci := 11) (r := (RX12, TX12, 38)) dX12_as_53 pa_X12_of (Nat.le_refl _) rfl (Nat.le_of_ble_eq_true rfl) ml_X12_161 im_X12_of se_X12_of rfl rfl rfl (Ev.mono V ?_)
        rintro v sh1 h12 ⟨rfl, Rh12, x13, rfl, V⟩
        show Rn G (d + 1) 0 0 mX12_as 56 [(3, .inl x10), (0, .inr (.inr (some 94))), (1, .inl a1), (2, .inl a2)] [.inl x13] SH h12 (QI Q)
        refine rn_goto (tgt := 64) dX12_as_56 (by decide) ?_
        exact rn_iret dX12_as_64 rfl ⟨rfl, Rh12, _, rfl, V⟩
      · replace V := V.2 c11
        refine rn_iload_n dX12_as_37 rfl rfl ?_
        refine rn_iload_n dX12_as_38 rfl rfl ?_
        refine rn_icmp_eq (tgt := 50) dX12_as_39 (by decide) (fun c14 => ?_) (fun c14 => ?_)
        · replace V := V.1 c14
          refine rn_aload_n dX12_as_50 rfl rfl ?_
          refine rn_iload_n dX12_as_51 rfl rfl ?_
          refine rn_iconst (v := 1) dX12_as_52 (by decide) ?_
          refine rn_cV (M' := mX12_of) (n := 2) (av := [.inl a1, .inl 1]) (S := []) (rc := 0) (rs := 0) (mc := 0) (ms := 0) (a := 94) (ci := 11) (r := (RX12, TX12, 38)) dX12_as_53 pa_X12_of (Nat.le_refl _) rfl (Nat.le_of_ble_eq_true rfl) ml_X12_161 im_X12_of se_X12_of rfl rfl rfl (Ev.mono V ?_)
          rintro v sh1 h15 ⟨rfl, Rh15, x16, rfl, V⟩
          show Rn G (d + 1) 0 0 mX12_as 56 [(3, .inl x10), (0, .inr (.inr (some 94))), (1, .inl a1), (2, .inl a2)] [.inl x16] SH h15 (QI Q)
          refine rn_goto (tgt := 64) dX12_as_56 (by decide) ?_
          exact rn_iret dX12_as_64 rfl ⟨rfl, Rh15, _, rfl, V⟩
        · replace V := V.2 c14
          refine rn_iload_n dX12_as_42 rfl rfl ?_
          refine rn_iload_n dX12_as_43 rfl rfl ?_
          refine rn_cS (M' := mX12_above) (n := 1) (av := [.inl x10]) (S := [.inl a2]) (rc := 0) (rs := 0) (mc := 0) (ms := 0) dX12_as_44 pa_X12_above (Nat.le_refl _) rfl (Nat.le_of_ble_eq_true rfl) ml_X12_190 ss_X12_above rfl (Ev.mono V ?_)
          rintro v sh1 h17 ⟨rfl, Rh17, x18, rfl, V⟩
          show Rn G (d + 1) 0 0 mX12_as 47 [(3, .inl x10), (0, .inr (.inr (some 94))), (1, .inl a1), (2, .inl a2)] [.inl x18, .inl a2] SH h17 (QI Q)
          refine rn_icmp_ne (tgt := 59) dX12_as_47 (by decide) (fun c19 => ?_) (fun c19 => ?_)
          · replace V := V.1 c19
            refine rn_aload_n dX12_as_59 rfl rfl ?_
            refine rn_iconst (v := 5) dX12_as_60 (by decide) ?_
            refine rn_cV (M' := mX12_finds) (n := 1) (av := [.inl 5]) (S := []) (rc := 0) (rs := 0) (mc := 0) (ms := 0) (a := 94) (ci := 11) (r := (RX12, TX12, 38)) dX12_as_61 pa_X12_finds (Nat.le_refl _) rfl (Nat.le_of_ble_eq_true rfl) ml_X12_143 im_X12_finds se_X12_finds rfl rfl rfl (Ev.mono V ?_)
            rintro v sh1 h20 ⟨rfl, Rh20, x21, rfl, V⟩
            show Rn G (d + 1) 0 0 mX12_as 64 [(3, .inl x10), (0, .inr (.inr (some 94))), (1, .inl a1), (2, .inl a2)] [.inl x21] SH h20 (QI Q)
            exact rn_iret dX12_as_64 rfl ⟨rfl, Rh20, _, rfl, V⟩
          · replace V := V.2 c19
            refine rn_aload_n dX12_as_50 rfl rfl ?_
            refine rn_iload_n dX12_as_51 rfl rfl ?_
            refine rn_iconst (v := 1) dX12_as_52 (by decide) ?_
            refine rn_cV (M' := mX12_of) (n := 2) (av := [.inl a1, .inl 1]) (S := []) (rc := 0) (rs := 0) (mc := 0) (ms := 0) (a := 94) (ci := 11) (r := (RX12, TX12, 38)) dX12_as_53 pa_X12_of (Nat.le_refl _) rfl (Nat.le_of_ble_eq_true rfl) ml_X12_161 im_X12_of se_X12_of rfl rfl rfl (Ev.mono V ?_)
            rintro v sh1 h22 ⟨rfl, Rh22, x23, rfl, V⟩
            show Rn G (d + 1) 0 0 mX12_as 56 [(3, .inl x10), (0, .inr (.inr (some 94))), (1, .inl a1), (2, .inl a2)] [.inl x23] SH h22 (QI Q)
            refine rn_goto (tgt := 64) dX12_as_56 (by decide) ?_
            exact rn_iret dX12_as_64 rfl ⟨rfl, Rh22, _, rfl, V⟩
    · replace V := V.2 c8
      refine rn_aload_n dX12_as_20 rfl rfl ?_
      refine rn_iconst (v := 1) dX12_as_21 (by decide) ?_
      refine rn_cV (M' := mX12_finds) (n := 1) (av := [.inl 1]) (S := []) (rc := 0) (rs := 0) (mc := 0) (ms := 0) (a := 94) (ci := 11) (r := (RX12, TX12, 38)) dX12_as_22 pa_X12_finds (Nat.le_refl _) rfl (Nat.le_of_ble_eq_true rfl) ml_X12_143 im_X12_finds se_X12_finds rfl rfl rfl (Ev.mono V ?_)
      rintro v sh1 h24 ⟨rfl, Rh24, x25, rfl, V⟩
      show Rn G (d + 1) 0 0 mX12_as 25 [(0, .inr (.inr (some 94))), (1, .inl a1), (2, .inl a2)] [.inl x25] SH h24 (QI Q)
      exact rn_iret dX12_as_25 rfl ⟨rfl, Rh24, _, rfl, V⟩
set_option maxRecDepth 100000 in
set_option maxHeartbeats 4000000 in
theorem vc_X12_word {G : GT} {d : Nat} {a1 : Int32} {a2 : Int32} {a3 : Int32} {a4 : Int32}  {h : Hp} {Q : Int32 → Hp → Prop} (hR : RF h) (V : EvI G d mX12_isParty [.inr (.inr (some 94)), .inl a1] h (fun x2 h1 => ((x2 = 0 → EvI G d mX12_finds [.inr (.inr (some 94)), .inl 1] h1 (fun x5 h4 => Q x5 h4)) ∧ (¬ x2 = 0 → EvI G d mX12_in [.inr (.inl (Int32.toInt64 a2)), .inr (.inl 1), .inr (.inl 30)] h1 (fun x7 h6 => ((x7 = 0 → EvI G d mX12_finds [.inr (.inr (some 94)), .inl 1] h6 (fun x10 h9 => Q x10 h9)) ∧ (¬ x7 = 0 → EvI G d mX12_in [.inr (.inl (Int32.toInt64 a3)), .inr (.inl 0), .inr (.inl 99)] h6 (fun x12 h11 => ((x12 = 0 → EvI G d mX12_finds [.inr (.inr (some 94)), .inl 1] h11 (fun x15 h14 => Q x15 h14)) ∧ (¬ x12 = 0 → EvI G d mX12_in [.inr (.inl (Int32.toInt64 a4)), .inr (.inl (-1)), .inr (.inl (Int32.toInt64 (h11.1 95 1 - 1)))] h11 (fun x17 h16 => ((¬ x17 = 0 → ((¬ h16.1 95 1 = 12 → EvV G d mX12_puts [.inr (.inr (some 94)), .inl (h16.1 95 1), .inl 0, .inl a1] (sI h16 95 1 (h16.1 95 1 + 1)) (fun h20 => EvV G d mX12_puts [.inr (.inr (some 94)), .inl (h16.1 95 1), .inl 1, .inl a2] h20 (fun h21 => EvV G d mX12_puts [.inr (.inr (some 94)), .inl (h16.1 95 1), .inl 2, .inl a3] h21 (fun h22 => EvV G d mX12_puts [.inr (.inr (some 94)), .inl (h16.1 95 1), .inl 3, .inl a4] h22 (fun h23 => EvV G d mX12_puts [.inr (.inr (some 94)), .inl (h16.1 95 1), .inl 4, .inl 0] h23 (fun h24 => Q (h16.1 95 1) h24)))))) ∧ (h16.1 95 1 = 12 → EvI G d mX12_finds [.inr (.inr (some 94)), .inl 4] h16 (fun x26 h25 => Q x26 h25)))) ∧ (x17 = 0 → EvI G d mX12_finds [.inr (.inr (some 94)), .inl 1] h16 (fun x28 h27 => Q x28 h27)))))))))))))) : EvI G (d + 1) mX12_word [.inr (.inr (some 94)), .inl a1, .inl a2, .inl a3, .inl a4] h Q := by
  refine Ev.of rfl (fun _ => Nat.le_of_ble_eq_true rfl) ?_
  show Rn G (d + 1) 0 0 mX12_word 0 [(0, .inr (.inr (some 94))), (1, .inl a1), (2, .inl a2), (3, .inl a3), (4, .inl a4)] [] SH h (QI Q)
  refine rn_aload_n dX12_word_0 rfl rfl ?_
  refine rn_iload_n dX12_word_1 rfl rfl ?_
  refine rn_cV (M' := mX12_isParty) (n := 1) (av := [.inl a1]) (S := []) (rc := 0) (rs := 0) (mc := 0) (ms := 0) (a := 94) (ci := 11) (r := (RX12, TX12, 38)) dX12_word_2 pa_X12_isParty (Nat.le_refl _) rfl (Nat.le_of_ble_eq_true rfl) ml_X12_174 im_X12_isParty se_X12_isParty rfl rfl rfl (Ev.mono V ?_)
  rintro v sh1 h1 ⟨rfl, Rh1, x2, rfl, V⟩
  show Rn G (d + 1) 0 0 mX12_word 5 [(0, .inr (.inr (some 94))), (1, .inl a1), (2, .inl a2), (3, .inl a3), (4, .inl a4)] [.inl x2] SH h1 (QI Q)
  refine rn_if_eq (tgt := 53) dX12_word_5 (by decide) (fun c3 => ?_) (fun c3 => ?_)
  · replace V := V.1 c3
    refine rn_aload_n dX12_word_53 rfl rfl ?_
    refine rn_iconst (v := 1) dX12_word_54 (by decide) ?_
    refine rn_cV (M' := mX12_finds) (n := 1) (av := [.inl 1]) (S := []) (rc := 0) (rs := 0) (mc := 0) (ms := 0) (a := 94) (ci := 11) (r := (RX12, TX12, 38)) dX12_word_55 pa_X12_finds (Nat.le_refl _) rfl (Nat.le_of_ble_eq_true rfl) ml_X12_143 im_X12_finds se_X12_finds rfl rfl rfl (Ev.mono V ?_)
    rintro v sh1 h4 ⟨rfl, Rh4, x5, rfl, V⟩
    show Rn G (d + 1) 0 0 mX12_word 58 [(0, .inr (.inr (some 94))), (1, .inl a1), (2, .inl a2), (3, .inl a3), (4, .inl a4)] [.inl x5] SH h4 (QI Q)
    exact rn_iret dX12_word_58 rfl ⟨rfl, Rh4, _, rfl, V⟩
  · replace V := V.2 c3
    refine rn_iload_n dX12_word_8 rfl rfl ?_
    refine rn_i2l dX12_word_9 ?_
    refine rn_lconst (v := 1) dX12_word_10 rfl ?_
    refine rn_ldc2 (v := 30) dX12_word_11 cw_X12_193 ?_
    refine rn_cS (M' := mX12_in) (n := 3) (av := [.inr (.inl (Int32.toInt64 a2)), .inr (.inl 1), .inr (.inl 30)]) (S := []) (rc := 0) (rs := 0) (mc := 0) (ms := 0) dX12_word_14 pa_X12_in (Nat.le_refl _) rfl (Nat.le_of_ble_eq_true rfl) ml_X12_80 ss_X12_in rfl (Ev.mono V ?_)
    rintro v sh1 h6 ⟨rfl, Rh6, x7, rfl, V⟩
    show Rn G (d + 1) 0 0 mX12_word 17 [(0, .inr (.inr (some 94))), (1, .inl a1), (2, .inl a2), (3, .inl a3), (4, .inl a4)] [.inl x7] SH h6 (QI Q)
    refine rn_if_eq (tgt := 53) dX12_word_17 (by decide) (fun c8 => ?_) (fun c8 => ?_)
    · replace V := V.1 c8
      refine rn_aload_n dX12_word_53 rfl rfl ?_
      refine rn_iconst (v := 1) dX12_word_54 (by decide) ?_
      refine rn_cV (M' := mX12_finds) (n := 1) (av := [.inl 1]) (S := []) (rc := 0) (rs := 0) (mc := 0) (ms := 0) (a := 94) (ci := 11) (r := (RX12, TX12, 38)) dX12_word_55 pa_X12_finds (Nat.le_refl _) rfl (Nat.le_of_ble_eq_true rfl) ml_X12_143 im_X12_finds se_X12_finds rfl rfl rfl (Ev.mono V ?_)
      rintro v sh1 h9 ⟨rfl, Rh9, x10, rfl, V⟩
      show Rn G (d + 1) 0 0 mX12_word 58 [(0, .inr (.inr (some 94))), (1, .inl a1), (2, .inl a2), (3, .inl a3), (4, .inl a4)] [.inl x10] SH h9 (QI Q)
      exact rn_iret dX12_word_58 rfl ⟨rfl, Rh9, _, rfl, V⟩
    · replace V := V.2 c8
      refine rn_iload_n dX12_word_20 rfl rfl ?_
      refine rn_i2l dX12_word_21 ?_
      refine rn_lconst (v := 0) dX12_word_22 rfl ?_
      refine rn_ldc2 (v := 99) dX12_word_23 cw_X12_195 ?_
      refine rn_cS (M' := mX12_in) (n := 3) (av := [.inr (.inl (Int32.toInt64 a3)), .inr (.inl 0), .inr (.inl 99)]) (S := []) (rc := 0) (rs := 0) (mc := 0) (ms := 0) dX12_word_26 pa_X12_in (Nat.le_refl _) rfl (Nat.le_of_ble_eq_true rfl) ml_X12_80 ss_X12_in rfl (Ev.mono V ?_)
      rintro v sh1 h11 ⟨rfl, Rh11, x12, rfl, V⟩
      show Rn G (d + 1) 0 0 mX12_word 29 [(0, .inr (.inr (some 94))), (1, .inl a1), (2, .inl a2), (3, .inl a3), (4, .inl a4)] [.inl x12] SH h11 (QI Q)
      refine rn_if_eq (tgt := 53) dX12_word_29 (by decide) (fun c13 => ?_) (fun c13 => ?_)
      · replace V := V.1 c13
        refine rn_aload_n dX12_word_53 rfl rfl ?_
        refine rn_iconst (v := 1) dX12_word_54 (by decide) ?_
        refine rn_cV (M' := mX12_finds) (n := 1) (av := [.inl 1]) (S := []) (rc := 0) (rs := 0) (mc := 0) (ms := 0) (a := 94) (ci := 11) (r := (RX12, TX12, 38)) dX12_word_55 pa_X12_finds (Nat.le_refl _) rfl (Nat.le_of_ble_eq_true rfl) ml_X12_143 im_X12_finds se_X12_finds rfl rfl rfl (Ev.mono V ?_)
        rintro v sh1 h14 ⟨rfl, Rh14, x15, rfl, V⟩
        show Rn G (d + 1) 0 0 mX12_word 58 [(0, .inr (.inr (some 94))), (1, .inl a1), (2, .inl a2), (3, .inl a3), (4, .inl a4)] [.inl x15] SH h14 (QI Q)
        exact rn_iret dX12_word_58 rfl ⟨rfl, Rh14, _, rfl, V⟩
      · replace V := V.2 c13
        refine rn_iload dX12_word_32 rfl ?_
        refine rn_i2l dX12_word_34 ?_
        refine rn_ldc2 (v := (-1)) dX12_word_35 cw_X12_197 ?_
        refine rn_aload_n dX12_word_38 rfl rfl ?_
        refine rn_get (v := .inr (.inr (some 95))) dX12_word_39 fl_X12_7 rfl rfl (congrArg (fun z => (Sum.inr (Sum.inr z) : MV)) (rf_94_0 Rh11)) ?_
        refine rn_iconst (v := 1) dX12_word_42 (by decide) ?_
        refine rn_iald (k := 1) dX12_word_43 rfl (by decide) (by unfold vp_in; decide) ?_
        refine rn_iconst (v := 1) dX12_word_44 (by decide) ?_
        refine rn_isub dX12_word_45 ?_
        refine rn_i2l dX12_word_46 ?_
        refine rn_cS (M' := mX12_in) (n := 3) (av := [.inr (.inl (Int32.toInt64 a4)), .inr (.inl (-1)), .inr (.inl (Int32.toInt64 (h11.1 95 1 - 1)))]) (S := []) (rc := 0) (rs := 0) (mc := 0) (ms := 0) dX12_word_47 pa_X12_in (Nat.le_refl _) rfl (Nat.le_of_ble_eq_true rfl) ml_X12_80 ss_X12_in rfl (Ev.mono V ?_)
        rintro v sh1 h16 ⟨rfl, Rh16, x17, rfl, V⟩
        show Rn G (d + 1) 0 0 mX12_word 50 [(0, .inr (.inr (some 94))), (1, .inl a1), (2, .inl a2), (3, .inl a3), (4, .inl a4)] [.inl x17] SH h16 (QI Q)
        refine rn_if_ne (tgt := 59) dX12_word_50 (by decide) (fun c18 => ?_) (fun c18 => ?_)
        · replace V := V.1 c18
          refine rn_aload_n dX12_word_59 rfl rfl ?_
          refine rn_get (v := .inr (.inr (some 95))) dX12_word_60 fl_X12_7 rfl rfl (congrArg (fun z => (Sum.inr (Sum.inr z) : MV)) (rf_94_0 Rh16)) ?_
          refine rn_iconst (v := 1) dX12_word_63 (by decide) ?_
          refine rn_iald (k := 1) dX12_word_64 rfl (by decide) (by unfold vp_in; decide) ?_
          refine rn_bipush (v := 12) dX12_word_65 (by decide) ?_
          refine rn_icmp_ne (tgt := 76) dX12_word_67 (by decide) (fun c19 => ?_) (fun c19 => ?_)
          · replace V := V.1 c19
            refine rn_aload_n dX12_word_76 rfl rfl ?_
            refine rn_get (v := .inr (.inr (some 95))) dX12_word_77 fl_X12_7 rfl rfl (congrArg (fun z => (Sum.inr (Sum.inr z) : MV)) (rf_94_0 Rh16)) ?_
            refine rn_iconst (v := 1) dX12_word_80 (by decide) ?_
            refine rn_iald (k := 1) dX12_word_81 rfl (by decide) (by unfold vp_in; decide) ?_
            refine rn_istore (L' := [(5, .inl (h16.1 95 1)), (0, .inr (.inr (some 94))), (1, .inl a1), (2, .inl a2), (3, .inl a3), (4, .inl a4)]) dX12_word_82 (Nat.le_of_ble_eq_true rfl) rfl ?_
            refine rn_aload_n dX12_word_84 rfl rfl ?_
            refine rn_get (v := .inr (.inr (some 95))) dX12_word_85 fl_X12_7 rfl rfl (congrArg (fun z => (Sum.inr (Sum.inr z) : MV)) (rf_94_0 Rh16)) ?_
            refine rn_iconst (v := 1) dX12_word_88 (by decide) ?_
            refine rn_dup2 dX12_word_89 rfl rfl ?_
            refine rn_iald (k := 1) dX12_word_90 rfl (by decide) (by unfold vp_in; decide) ?_
            refine rn_iconst (v := 1) dX12_word_91 (by decide) ?_
            refine rn_iadd dX12_word_92 ?_
            refine rn_iast (k := 1) dX12_word_93 rfl (by decide) (by unfold vp_in; decide) ?_
            refine rn_aload_n dX12_word_94 rfl rfl ?_
            refine rn_iload dX12_word_95 rfl ?_
            refine rn_iconst (v := 0) dX12_word_97 (by decide) ?_
            refine rn_iload_n dX12_word_98 rfl rfl ?_
            refine rn_cV (M' := mX12_puts) (n := 3) (av := [.inl (h16.1 95 1), .inl 0, .inl a1]) (S := []) (rc := 0) (rs := 0) (mc := 0) (ms := 0) (a := 94) (ci := 11) (r := (RX12, TX12, 38)) dX12_word_99 pa_X12_puts (Nat.le_refl _) rfl (Nat.le_of_ble_eq_true rfl) ml_X12_199 im_X12_puts se_X12_puts rfl rfl rfl (Ev.mono V ?_)
            rintro v sh1 h20 ⟨rfl, Rh20, rfl, V⟩
            show Rn G (d + 1) 0 0 mX12_word 102 [(5, .inl (h16.1 95 1)), (0, .inr (.inr (some 94))), (1, .inl a1), (2, .inl a2), (3, .inl a3), (4, .inl a4)] [] SH h20 (QI Q)
            refine rn_aload_n dX12_word_102 rfl rfl ?_
            refine rn_iload dX12_word_103 rfl ?_
            refine rn_iconst (v := 1) dX12_word_105 (by decide) ?_
            refine rn_iload_n dX12_word_106 rfl rfl ?_
            refine rn_cV (M' := mX12_puts) (n := 3) (av := [.inl (h16.1 95 1), .inl 1, .inl a2]) (S := []) (rc := 0) (rs := 0) (mc := 0) (ms := 0) (a := 94) (ci := 11) (r := (RX12, TX12, 38)) dX12_word_107 pa_X12_puts (Nat.le_refl _) rfl (Nat.le_of_ble_eq_true rfl) ml_X12_199 im_X12_puts se_X12_puts rfl rfl rfl (Ev.mono V ?_)
            rintro v sh1 h21 ⟨rfl, Rh21, rfl, V⟩
            show Rn G (d + 1) 0 0 mX12_word 110 [(5, .inl (h16.1 95 1)), (0, .inr (.inr (some 94))), (1, .inl a1), (2, .inl a2), (3, .inl a3), (4, .inl a4)] [] SH h21 (QI Q)
            refine rn_aload_n dX12_word_110 rfl rfl ?_
            refine rn_iload dX12_word_111 rfl ?_
            refine rn_iconst (v := 2) dX12_word_113 (by decide) ?_
            refine rn_iload_n dX12_word_114 rfl rfl ?_
            refine rn_cV (M' := mX12_puts) (n := 3) (av := [.inl (h16.1 95 1), .inl 2, .inl a3]) (S := []) (rc := 0) (rs := 0) (mc := 0) (ms := 0) (a := 94) (ci := 11) (r := (RX12, TX12, 38)) dX12_word_115 pa_X12_puts (Nat.le_refl _) rfl (Nat.le_of_ble_eq_true rfl) ml_X12_199 im_X12_puts se_X12_puts rfl rfl rfl (Ev.mono V ?_)
            rintro v sh1 h22 ⟨rfl, Rh22, rfl, V⟩
            show Rn G (d + 1) 0 0 mX12_word 118 [(5, .inl (h16.1 95 1)), (0, .inr (.inr (some 94))), (1, .inl a1), (2, .inl a2), (3, .inl a3), (4, .inl a4)] [] SH h22 (QI Q)
            refine rn_aload_n dX12_word_118 rfl rfl ?_
            refine rn_iload dX12_word_119 rfl ?_
            refine rn_iconst (v := 3) dX12_word_121 (by decide) ?_
            refine rn_iload dX12_word_122 rfl ?_
            refine rn_cV (M' := mX12_puts) (n := 3) (av := [.inl (h16.1 95 1), .inl 3, .inl a4]) (S := []) (rc := 0) (rs := 0) (mc := 0) (ms := 0) (a := 94) (ci := 11) (r := (RX12, TX12, 38)) dX12_word_124 pa_X12_puts (Nat.le_refl _) rfl (Nat.le_of_ble_eq_true rfl) ml_X12_199 im_X12_puts se_X12_puts rfl rfl rfl (Ev.mono V ?_)
            rintro v sh1 h23 ⟨rfl, Rh23, rfl, V⟩
            show Rn G (d + 1) 0 0 mX12_word 127 [(5, .inl (h16.1 95 1)), (0, .inr (.inr (some 94))), (1, .inl a1), (2, .inl a2), (3, .inl a3), (4, .inl a4)] [] SH h23 (QI Q)
            refine rn_aload_n dX12_word_127 rfl rfl ?_
            refine rn_iload dX12_word_128 rfl ?_
            refine rn_iconst (v := 4) dX12_word_130 (by decide) ?_
            refine rn_iconst (v := 0) dX12_word_131 (by decide) ?_
            refine rn_cV (M' := mX12_puts) (n := 3) (av := [.inl (h16.1 95 1), .inl 4, .inl 0]) (S := []) (rc := 0) (rs := 0) (mc := 0) (ms := 0) (a := 94) (ci := 11) (r := (RX12, TX12, 38)) dX12_word_132 pa_X12_puts (Nat.le_refl _) rfl (Nat.le_of_ble_eq_true rfl) ml_X12_199 im_X12_puts se_X12_puts rfl rfl rfl (Ev.mono V ?_)
            rintro v sh1 h24 ⟨rfl, Rh24, rfl, V⟩
            show Rn G (d + 1) 0 0 mX12_word 135 [(5, .inl (h16.1 95 1)), (0, .inr (.inr (some 94))), (1, .inl a1), (2, .inl a2), (3, .inl a3), (4, .inl a4)] [] SH h24 (QI Q)
            refine rn_iload dX12_word_135 rfl ?_
            exact rn_iret dX12_word_137 rfl ⟨rfl, Rh24, _, rfl, V⟩
          · replace V := V.2 c19
            refine rn_aload_n dX12_word_70 rfl rfl ?_
            refine rn_iconst (v := 4) dX12_word_71 (by decide) ?_
            refine rn_cV (M' := mX12_finds) (n := 1) (av := [.inl 4]) (S := []) (rc := 0) (rs := 0) (mc := 0) (ms := 0) (a := 94) (ci := 11) (r := (RX12, TX12, 38)) dX12_word_72 pa_X12_finds (Nat.le_refl _) rfl (Nat.le_of_ble_eq_true rfl) ml_X12_143 im_X12_finds se_X12_finds rfl rfl rfl (Ev.mono V ?_)
            rintro v sh1 h25 ⟨rfl, Rh25, x26, rfl, V⟩
            show Rn G (d + 1) 0 0 mX12_word 75 [(0, .inr (.inr (some 94))), (1, .inl a1), (2, .inl a2), (3, .inl a3), (4, .inl a4)] [.inl x26] SH h25 (QI Q)
            exact rn_iret dX12_word_75 rfl ⟨rfl, Rh25, _, rfl, V⟩
        · replace V := V.2 c18
          refine rn_aload_n dX12_word_53 rfl rfl ?_
          refine rn_iconst (v := 1) dX12_word_54 (by decide) ?_
          refine rn_cV (M' := mX12_finds) (n := 1) (av := [.inl 1]) (S := []) (rc := 0) (rs := 0) (mc := 0) (ms := 0) (a := 94) (ci := 11) (r := (RX12, TX12, 38)) dX12_word_55 pa_X12_finds (Nat.le_refl _) rfl (Nat.le_of_ble_eq_true rfl) ml_X12_143 im_X12_finds se_X12_finds rfl rfl rfl (Ev.mono V ?_)
          rintro v sh1 h27 ⟨rfl, Rh27, x28, rfl, V⟩
          show Rn G (d + 1) 0 0 mX12_word 58 [(0, .inr (.inr (some 94))), (1, .inl a1), (2, .inl a2), (3, .inl a3), (4, .inl a4)] [.inl x28] SH h27 (QI Q)
          exact rn_iret dX12_word_58 rfl ⟨rfl, Rh27, _, rfl, V⟩
set_option maxRecDepth 100000 in
set_option maxHeartbeats 4000000 in
theorem vc_X12_ofWord {G : GT} {d : Nat} {a1 : Int32} {a2 : Int32}  {h : Hp} {Q : Int32 → Hp → Prop} (hR : RF h) (V : EvI G d mX12_isWord [.inr (.inr (some 94)), .inl a1] h (fun x2 h1 => ((x2 = 0 → EvI G d mX12_finds [.inr (.inr (some 94)), .inl 1] h1 (fun x5 h4 => Q x5 h4)) ∧ (¬ x2 = 0 → EvI G d mX12_in [.inr (.inl (Int32.toInt64 a2)), .inr (.inl 0), .inr (.inl 4)] h1 (fun x7 h6 => ((x7 = 0 → EvI G d mX12_finds [.inr (.inr (some 94)), .inl 1] h6 (fun x10 h9 => Q x10 h9)) ∧ (¬ x7 = 0 → EvI G d mX12_its [.inr (.inr (some 94)), .inl a1, .inl a2] h6 (fun x12 h11 => Q x12 h11)))))))) : EvI G (d + 1) mX12_ofWord [.inr (.inr (some 94)), .inl a1, .inl a2] h Q := by
  refine Ev.of rfl (fun _ => Nat.le_of_ble_eq_true rfl) ?_
  show Rn G (d + 1) 0 0 mX12_ofWord 0 [(0, .inr (.inr (some 94))), (1, .inl a1), (2, .inl a2)] [] SH h (QI Q)
  refine rn_aload_n dX12_ofWord_0 rfl rfl ?_
  refine rn_iload_n dX12_ofWord_1 rfl rfl ?_
  refine rn_cV (M' := mX12_isWord) (n := 1) (av := [.inl a1]) (S := []) (rc := 0) (rs := 0) (mc := 0) (ms := 0) (a := 94) (ci := 11) (r := (RX12, TX12, 38)) dX12_ofWord_2 pa_X12_isWord (Nat.le_refl _) rfl (Nat.le_of_ble_eq_true rfl) ml_X12_202 im_X12_isWord se_X12_isWord rfl rfl rfl (Ev.mono V ?_)
  rintro v sh1 h1 ⟨rfl, Rh1, x2, rfl, V⟩
  show Rn G (d + 1) 0 0 mX12_ofWord 5 [(0, .inr (.inr (some 94))), (1, .inl a1), (2, .inl a2)] [.inl x2] SH h1 (QI Q)
  refine rn_if_eq (tgt := 29) dX12_ofWord_5 (by decide) (fun c3 => ?_) (fun c3 => ?_)
  · replace V := V.1 c3
    refine rn_aload_n dX12_ofWord_29 rfl rfl ?_
    refine rn_iconst (v := 1) dX12_ofWord_30 (by decide) ?_
    refine rn_cV (M' := mX12_finds) (n := 1) (av := [.inl 1]) (S := []) (rc := 0) (rs := 0) (mc := 0) (ms := 0) (a := 94) (ci := 11) (r := (RX12, TX12, 38)) dX12_ofWord_31 pa_X12_finds (Nat.le_refl _) rfl (Nat.le_of_ble_eq_true rfl) ml_X12_143 im_X12_finds se_X12_finds rfl rfl rfl (Ev.mono V ?_)
    rintro v sh1 h4 ⟨rfl, Rh4, x5, rfl, V⟩
    show Rn G (d + 1) 0 0 mX12_ofWord 34 [(0, .inr (.inr (some 94))), (1, .inl a1), (2, .inl a2)] [.inl x5] SH h4 (QI Q)
    exact rn_iret dX12_ofWord_34 rfl ⟨rfl, Rh4, _, rfl, V⟩
  · replace V := V.2 c3
    refine rn_iload_n dX12_ofWord_8 rfl rfl ?_
    refine rn_i2l dX12_ofWord_9 ?_
    refine rn_lconst (v := 0) dX12_ofWord_10 rfl ?_
    refine rn_ldc2 (v := 4) dX12_ofWord_11 cw_X12_205 ?_
    refine rn_cS (M' := mX12_in) (n := 3) (av := [.inr (.inl (Int32.toInt64 a2)), .inr (.inl 0), .inr (.inl 4)]) (S := []) (rc := 0) (rs := 0) (mc := 0) (ms := 0) dX12_ofWord_14 pa_X12_in (Nat.le_refl _) rfl (Nat.le_of_ble_eq_true rfl) ml_X12_80 ss_X12_in rfl (Ev.mono V ?_)
    rintro v sh1 h6 ⟨rfl, Rh6, x7, rfl, V⟩
    show Rn G (d + 1) 0 0 mX12_ofWord 17 [(0, .inr (.inr (some 94))), (1, .inl a1), (2, .inl a2)] [.inl x7] SH h6 (QI Q)
    refine rn_if_eq (tgt := 29) dX12_ofWord_17 (by decide) (fun c8 => ?_) (fun c8 => ?_)
    · replace V := V.1 c8
      refine rn_aload_n dX12_ofWord_29 rfl rfl ?_
      refine rn_iconst (v := 1) dX12_ofWord_30 (by decide) ?_
      refine rn_cV (M' := mX12_finds) (n := 1) (av := [.inl 1]) (S := []) (rc := 0) (rs := 0) (mc := 0) (ms := 0) (a := 94) (ci := 11) (r := (RX12, TX12, 38)) dX12_ofWord_31 pa_X12_finds (Nat.le_refl _) rfl (Nat.le_of_ble_eq_true rfl) ml_X12_143 im_X12_finds se_X12_finds rfl rfl rfl (Ev.mono V ?_)
      rintro v sh1 h9 ⟨rfl, Rh9, x10, rfl, V⟩
      show Rn G (d + 1) 0 0 mX12_ofWord 34 [(0, .inr (.inr (some 94))), (1, .inl a1), (2, .inl a2)] [.inl x10] SH h9 (QI Q)
      exact rn_iret dX12_ofWord_34 rfl ⟨rfl, Rh9, _, rfl, V⟩
    · replace V := V.2 c8
      refine rn_aload_n dX12_ofWord_20 rfl rfl ?_
      refine rn_iload_n dX12_ofWord_21 rfl rfl ?_
      refine rn_iload_n dX12_ofWord_22 rfl rfl ?_
      refine rn_cV (M' := mX12_its) (n := 2) (av := [.inl a1, .inl a2]) (S := []) (rc := 0) (rs := 0) (mc := 0) (ms := 0) (a := 94) (ci := 11) (r := (RX12, TX12, 38)) dX12_ofWord_23 pa_X12_its (Nat.le_refl _) rfl (Nat.le_of_ble_eq_true rfl) ml_X12_171 im_X12_its se_X12_its rfl rfl rfl (Ev.mono V ?_)
      rintro v sh1 h11 ⟨rfl, Rh11, x12, rfl, V⟩
      show Rn G (d + 1) 0 0 mX12_ofWord 26 [(0, .inr (.inr (some 94))), (1, .inl a1), (2, .inl a2)] [.inl x12] SH h11 (QI Q)
      refine rn_goto (tgt := 34) dX12_ofWord_26 (by decide) ?_
      exact rn_iret dX12_ofWord_34 rfl ⟨rfl, Rh11, _, rfl, V⟩
set_option maxRecDepth 100000 in
set_option maxHeartbeats 4000000 in
theorem vc_X12_set {G : GT} {d : Nat} {a1 : Int32} {a2 : Int32} {a3 : Int32}  {h : Hp} {Q : Int32 → Hp → Prop} (hR : RF h) (V : EvI G d mX12_isWord [.inr (.inr (some 94)), .inl a1] h (fun x2 h1 => ((x2 = 0 → EvI G d mX12_finds [.inr (.inr (some 94)), .inl 1] h1 (fun x5 h4 => Q x5 h4)) ∧ (¬ x2 = 0 → EvI G d mX12_in [.inr (.inl (Int32.toInt64 a2)), .inr (.inl 1), .inr (.inl 2)] h1 (fun x7 h6 => ((x7 = 0 → EvI G d mX12_finds [.inr (.inr (some 94)), .inl 1] h6 (fun x10 h9 => Q x10 h9)) ∧ (¬ x7 = 0 → ((¬ a2 = 1 → ((¬ a2 = 1 → EvI G d mX12_in [.inr (.inl (Int32.toInt64 a3)), .inr (.inl 0), .inr (.inl 99)] h6 (fun x14 h13 => ((¬ x14 = 0 → EvI G d mX12_its [.inr (.inr (some 94)), .inl a1, .inl 4] h13 (fun x17 h16 => ((¬ x17 = 0 → EvI G d mX12_finds [.inr (.inr (some 94)), .inl 3] h16 (fun x20 h19 => Q x20 h19)) ∧ (x17 = 0 → ((¬ h16.1 95 6 = (a1 + 1) → EvI G d mX12_its [.inr (.inr (some 94)), .inl a1, .inl a2] h16 (fun x23 h22 => EvV G d mX12_puts [.inr (.inr (some 94)), .inl a1, .inl a2, .inl a3] h22 (fun h24 => Q x23 h24))) ∧ (h16.1 95 6 = (a1 + 1) → EvI G d mX12_finds [.inr (.inr (some 94)), .inl 3] h16 (fun x26 h25 => Q x26 h25))))))) ∧ (x14 = 0 → EvI G d mX12_finds [.inr (.inr (some 94)), .inl 1] h13 (fun x28 h27 => Q x28 h27))))) ∧ (a2 = 1 → EvI G d mX12_in [.inr (.inl (Int32.toInt64 a3)), .inr (.inl 0), .inr (.inl 30)] h6 (fun x30 h29 => ((¬ x30 = 0 → EvI G d mX12_its [.inr (.inr (some 94)), .inl a1, .inl 4] h29 (fun x33 h32 => ((¬ x33 = 0 → EvI G d mX12_finds [.inr (.inr (some 94)), .inl 3] h32 (fun x36 h35 => Q x36 h35)) ∧ (x33 = 0 → ((¬ h32.1 95 6 = (a1 + 1) → EvI G d mX12_its [.inr (.inr (some 94)), .inl a1, .inl a2] h32 (fun x39 h38 => EvV G d mX12_puts [.inr (.inr (some 94)), .inl a1, .inl a2, .inl a3] h38 (fun h40 => Q x39 h40))) ∧ (h32.1 95 6 = (a1 + 1) → EvI G d mX12_finds [.inr (.inr (some 94)), .inl 3] h32 (fun x42 h41 => Q x42 h41))))))) ∧ (x30 = 0 → EvI G d mX12_finds [.inr (.inr (some 94)), .inl 1] h29 (fun x44 h43 => Q x44 h43))))))) ∧ (a2 = 1 → ((¬ a2 = 1 → EvI G d mX12_in [.inr (.inl (Int32.toInt64 a3)), .inr (.inl 1), .inr (.inl 99)] h6 (fun x47 h46 => ((¬ x47 = 0 → EvI G d mX12_its [.inr (.inr (some 94)), .inl a1, .inl 4] h46 (fun x50 h49 => ((¬ x50 = 0 → EvI G d mX12_finds [.inr (.inr (some 94)), .inl 3] h49 (fun x53 h52 => Q x53 h52)) ∧ (x50 = 0 → ((¬ h49.1 95 6 = (a1 + 1) → EvI G d mX12_its [.inr (.inr (some 94)), .inl a1, .inl a2] h49 (fun x56 h55 => EvV G d mX12_puts [.inr (.inr (some 94)), .inl a1, .inl a2, .inl a3] h55 (fun h57 => Q x56 h57))) ∧ (h49.1 95 6 = (a1 + 1) → EvI G d mX12_finds [.inr (.inr (some 94)), .inl 3] h49 (fun x59 h58 => Q x59 h58))))))) ∧ (x47 = 0 → EvI G d mX12_finds [.inr (.inr (some 94)), .inl 1] h46 (fun x61 h60 => Q x61 h60))))) ∧ (a2 = 1 → EvI G d mX12_in [.inr (.inl (Int32.toInt64 a3)), .inr (.inl 1), .inr (.inl 30)] h6 (fun x63 h62 => ((¬ x63 = 0 → EvI G d mX12_its [.inr (.inr (some 94)), .inl a1, .inl 4] h62 (fun x66 h65 => ((¬ x66 = 0 → EvI G d mX12_finds [.inr (.inr (some 94)), .inl 3] h65 (fun x69 h68 => Q x69 h68)) ∧ (x66 = 0 → ((¬ h65.1 95 6 = (a1 + 1) → EvI G d mX12_its [.inr (.inr (some 94)), .inl a1, .inl a2] h65 (fun x72 h71 => EvV G d mX12_puts [.inr (.inr (some 94)), .inl a1, .inl a2, .inl a3] h71 (fun h73 => Q x72 h73))) ∧ (h65.1 95 6 = (a1 + 1) → EvI G d mX12_finds [.inr (.inr (some 94)), .inl 3] h65 (fun x75 h74 => Q x75 h74))))))) ∧ (x63 = 0 → EvI G d mX12_finds [.inr (.inr (some 94)), .inl 1] h62 (fun x77 h76 => Q x77 h76))))))))))))))) : EvI G (d + 1) mX12_set [.inr (.inr (some 94)), .inl a1, .inl a2, .inl a3] h Q := by
  refine Ev.of rfl (fun _ => Nat.le_of_ble_eq_true rfl) ?_
  show Rn G (d + 1) 0 0 mX12_set 0 [(0, .inr (.inr (some 94))), (1, .inl a1), (2, .inl a2), (3, .inl a3)] [] SH h (QI Q)
  refine rn_aload_n dX12_set_0 rfl rfl ?_
  refine rn_iload_n dX12_set_1 rfl rfl ?_
  refine rn_cV (M' := mX12_isWord) (n := 1) (av := [.inl a1]) (S := []) (rc := 0) (rs := 0) (mc := 0) (ms := 0) (a := 94) (ci := 11) (r := (RX12, TX12, 38)) dX12_set_2 pa_X12_isWord (Nat.le_refl _) rfl (Nat.le_of_ble_eq_true rfl) ml_X12_202 im_X12_isWord se_X12_isWord rfl rfl rfl (Ev.mono V ?_)
  rintro v sh1 h1 ⟨rfl, Rh1, x2, rfl, V⟩
  show Rn G (d + 1) 0 0 mX12_set 5 [(0, .inr (.inr (some 94))), (1, .inl a1), (2, .inl a2), (3, .inl a3)] [.inl x2] SH h1 (QI Q)
  refine rn_if_eq (tgt := 52) dX12_set_5 (by decide) (fun c3 => ?_) (fun c3 => ?_)
  · replace V := V.1 c3
    refine rn_aload_n dX12_set_52 rfl rfl ?_
    refine rn_iconst (v := 1) dX12_set_53 (by decide) ?_
    refine rn_cV (M' := mX12_finds) (n := 1) (av := [.inl 1]) (S := []) (rc := 0) (rs := 0) (mc := 0) (ms := 0) (a := 94) (ci := 11) (r := (RX12, TX12, 38)) dX12_set_54 pa_X12_finds (Nat.le_refl _) rfl (Nat.le_of_ble_eq_true rfl) ml_X12_143 im_X12_finds se_X12_finds rfl rfl rfl (Ev.mono V ?_)
    rintro v sh1 h4 ⟨rfl, Rh4, x5, rfl, V⟩
    show Rn G (d + 1) 0 0 mX12_set 57 [(0, .inr (.inr (some 94))), (1, .inl a1), (2, .inl a2), (3, .inl a3)] [.inl x5] SH h4 (QI Q)
    exact rn_iret dX12_set_57 rfl ⟨rfl, Rh4, _, rfl, V⟩
  · replace V := V.2 c3
    refine rn_iload_n dX12_set_8 rfl rfl ?_
    refine rn_i2l dX12_set_9 ?_
    refine rn_lconst (v := 1) dX12_set_10 rfl ?_
    refine rn_ldc2 (v := 2) dX12_set_11 cw_X12_207 ?_
    refine rn_cS (M' := mX12_in) (n := 3) (av := [.inr (.inl (Int32.toInt64 a2)), .inr (.inl 1), .inr (.inl 2)]) (S := []) (rc := 0) (rs := 0) (mc := 0) (ms := 0) dX12_set_14 pa_X12_in (Nat.le_refl _) rfl (Nat.le_of_ble_eq_true rfl) ml_X12_80 ss_X12_in rfl (Ev.mono V ?_)
    rintro v sh1 h6 ⟨rfl, Rh6, x7, rfl, V⟩
    show Rn G (d + 1) 0 0 mX12_set 17 [(0, .inr (.inr (some 94))), (1, .inl a1), (2, .inl a2), (3, .inl a3)] [.inl x7] SH h6 (QI Q)
    refine rn_if_eq (tgt := 52) dX12_set_17 (by decide) (fun c8 => ?_) (fun c8 => ?_)
    · replace V := V.1 c8
      refine rn_aload_n dX12_set_52 rfl rfl ?_
      refine rn_iconst (v := 1) dX12_set_53 (by decide) ?_
      refine rn_cV (M' := mX12_finds) (n := 1) (av := [.inl 1]) (S := []) (rc := 0) (rs := 0) (mc := 0) (ms := 0) (a := 94) (ci := 11) (r := (RX12, TX12, 38)) dX12_set_54 pa_X12_finds (Nat.le_refl _) rfl (Nat.le_of_ble_eq_true rfl) ml_X12_143 im_X12_finds se_X12_finds rfl rfl rfl (Ev.mono V ?_)
      rintro v sh1 h9 ⟨rfl, Rh9, x10, rfl, V⟩
      show Rn G (d + 1) 0 0 mX12_set 57 [(0, .inr (.inr (some 94))), (1, .inl a1), (2, .inl a2), (3, .inl a3)] [.inl x10] SH h9 (QI Q)
      exact rn_iret dX12_set_57 rfl ⟨rfl, Rh9, _, rfl, V⟩
    · replace V := V.2 c8
      refine rn_iload_n dX12_set_20 rfl rfl ?_
      refine rn_i2l dX12_set_21 ?_
      refine rn_iload_n dX12_set_22 rfl rfl ?_
      refine rn_iconst (v := 1) dX12_set_23 (by decide) ?_
      refine rn_icmp_ne (tgt := 31) dX12_set_24 (by decide) (fun c11 => ?_) (fun c11 => ?_)
      · replace V := V.1 c11
        refine rn_lconst (v := 0) dX12_set_31 rfl ?_
        refine rn_iload_n dX12_set_32 rfl rfl ?_
        refine rn_iconst (v := 1) dX12_set_33 (by decide) ?_
        refine rn_icmp_ne (tgt := 43) dX12_set_34 (by decide) (fun c12 => ?_) (fun c12 => ?_)
        · replace V := V.1 c12
          refine rn_ldc2 (v := 99) dX12_set_43 cw_X12_195 ?_
          refine rn_cS (M' := mX12_in) (n := 3) (av := [.inr (.inl (Int32.toInt64 a3)), .inr (.inl 0), .inr (.inl 99)]) (S := []) (rc := 0) (rs := 0) (mc := 0) (ms := 0) dX12_set_46 pa_X12_in (Nat.le_refl _) rfl (Nat.le_of_ble_eq_true rfl) ml_X12_80 ss_X12_in rfl (Ev.mono V ?_)
          rintro v sh1 h13 ⟨rfl, Rh13, x14, rfl, V⟩
          show Rn G (d + 1) 0 0 mX12_set 49 [(0, .inr (.inr (some 94))), (1, .inl a1), (2, .inl a2), (3, .inl a3)] [.inl x14] SH h13 (QI Q)
          refine rn_if_ne (tgt := 58) dX12_set_49 (by decide) (fun c15 => ?_) (fun c15 => ?_)
          · replace V := V.1 c15
            refine rn_aload_n dX12_set_58 rfl rfl ?_
            refine rn_iload_n dX12_set_59 rfl rfl ?_
            refine rn_iconst (v := 4) dX12_set_60 (by decide) ?_
            refine rn_cV (M' := mX12_its) (n := 2) (av := [.inl a1, .inl 4]) (S := []) (rc := 0) (rs := 0) (mc := 0) (ms := 0) (a := 94) (ci := 11) (r := (RX12, TX12, 38)) dX12_set_61 pa_X12_its (Nat.le_refl _) rfl (Nat.le_of_ble_eq_true rfl) ml_X12_171 im_X12_its se_X12_its rfl rfl rfl (Ev.mono V ?_)
            rintro v sh1 h16 ⟨rfl, Rh16, x17, rfl, V⟩
            show Rn G (d + 1) 0 0 mX12_set 64 [(0, .inr (.inr (some 94))), (1, .inl a1), (2, .inl a2), (3, .inl a3)] [.inl x17] SH h16 (QI Q)
            refine rn_if_ne (tgt := 80) dX12_set_64 (by decide) (fun c18 => ?_) (fun c18 => ?_)
            · replace V := V.1 c18
              refine rn_aload_n dX12_set_80 rfl rfl ?_
              refine rn_iconst (v := 3) dX12_set_81 (by decide) ?_
              refine rn_cV (M' := mX12_finds) (n := 1) (av := [.inl 3]) (S := []) (rc := 0) (rs := 0) (mc := 0) (ms := 0) (a := 94) (ci := 11) (r := (RX12, TX12, 38)) dX12_set_82 pa_X12_finds (Nat.le_refl _) rfl (Nat.le_of_ble_eq_true rfl) ml_X12_143 im_X12_finds se_X12_finds rfl rfl rfl (Ev.mono V ?_)
              rintro v sh1 h19 ⟨rfl, Rh19, x20, rfl, V⟩
              show Rn G (d + 1) 0 0 mX12_set 85 [(0, .inr (.inr (some 94))), (1, .inl a1), (2, .inl a2), (3, .inl a3)] [.inl x20] SH h19 (QI Q)
              exact rn_iret dX12_set_85 rfl ⟨rfl, Rh19, _, rfl, V⟩
            · replace V := V.2 c18
              refine rn_aload_n dX12_set_67 rfl rfl ?_
              refine rn_get (v := .inr (.inr (some 95))) dX12_set_68 fl_X12_7 rfl rfl (congrArg (fun z => (Sum.inr (Sum.inr z) : MV)) (rf_94_0 Rh16)) ?_
              refine rn_bipush (v := 6) dX12_set_71 (by decide) ?_
              refine rn_iald (k := 6) dX12_set_73 rfl (by decide) (by unfold vp_in; decide) ?_
              refine rn_iload_n dX12_set_74 rfl rfl ?_
              refine rn_iconst (v := 1) dX12_set_75 (by decide) ?_
              refine rn_iadd dX12_set_76 ?_
              refine rn_icmp_ne (tgt := 86) dX12_set_77 (by decide) (fun c21 => ?_) (fun c21 => ?_)
              · replace V := V.1 c21
                refine rn_aload_n dX12_set_86 rfl rfl ?_
                refine rn_iload_n dX12_set_87 rfl rfl ?_
                refine rn_iload_n dX12_set_88 rfl rfl ?_
                refine rn_cV (M' := mX12_its) (n := 2) (av := [.inl a1, .inl a2]) (S := []) (rc := 0) (rs := 0) (mc := 0) (ms := 0) (a := 94) (ci := 11) (r := (RX12, TX12, 38)) dX12_set_89 pa_X12_its (Nat.le_refl _) rfl (Nat.le_of_ble_eq_true rfl) ml_X12_171 im_X12_its se_X12_its rfl rfl rfl (Ev.mono V ?_)
                rintro v sh1 h22 ⟨rfl, Rh22, x23, rfl, V⟩
                show Rn G (d + 1) 0 0 mX12_set 92 [(0, .inr (.inr (some 94))), (1, .inl a1), (2, .inl a2), (3, .inl a3)] [.inl x23] SH h22 (QI Q)
                refine rn_istore (L' := [(4, .inl x23), (0, .inr (.inr (some 94))), (1, .inl a1), (2, .inl a2), (3, .inl a3)]) dX12_set_92 (Nat.le_of_ble_eq_true rfl) rfl ?_
                refine rn_aload_n dX12_set_94 rfl rfl ?_
                refine rn_iload_n dX12_set_95 rfl rfl ?_
                refine rn_iload_n dX12_set_96 rfl rfl ?_
                refine rn_iload_n dX12_set_97 rfl rfl ?_
                refine rn_cV (M' := mX12_puts) (n := 3) (av := [.inl a1, .inl a2, .inl a3]) (S := []) (rc := 0) (rs := 0) (mc := 0) (ms := 0) (a := 94) (ci := 11) (r := (RX12, TX12, 38)) dX12_set_98 pa_X12_puts (Nat.le_refl _) rfl (Nat.le_of_ble_eq_true rfl) ml_X12_199 im_X12_puts se_X12_puts rfl rfl rfl (Ev.mono V ?_)
                rintro v sh1 h24 ⟨rfl, Rh24, rfl, V⟩
                show Rn G (d + 1) 0 0 mX12_set 101 [(4, .inl x23), (0, .inr (.inr (some 94))), (1, .inl a1), (2, .inl a2), (3, .inl a3)] [] SH h24 (QI Q)
                refine rn_iload dX12_set_101 rfl ?_
                exact rn_iret dX12_set_103 rfl ⟨rfl, Rh24, _, rfl, V⟩
              · replace V := V.2 c21
                refine rn_aload_n dX12_set_80 rfl rfl ?_
                refine rn_iconst (v := 3) dX12_set_81 (by decide) ?_
                refine rn_cV (M' := mX12_finds) (n := 1) (av := [.inl 3]) (S := []) (rc := 0) (rs := 0) (mc := 0) (ms := 0) (a := 94) (ci := 11) (r := (RX12, TX12, 38)) dX12_set_82 pa_X12_finds (Nat.le_refl _) rfl (Nat.le_of_ble_eq_true rfl) ml_X12_143 im_X12_finds se_X12_finds rfl rfl rfl (Ev.mono V ?_)
                rintro v sh1 h25 ⟨rfl, Rh25, x26, rfl, V⟩
                show Rn G (d + 1) 0 0 mX12_set 85 [(0, .inr (.inr (some 94))), (1, .inl a1), (2, .inl a2), (3, .inl a3)] [.inl x26] SH h25 (QI Q)
                exact rn_iret dX12_set_85 rfl ⟨rfl, Rh25, _, rfl, V⟩
          · replace V := V.2 c15
            refine rn_aload_n dX12_set_52 rfl rfl ?_
            refine rn_iconst (v := 1) dX12_set_53 (by decide) ?_
            refine rn_cV (M' := mX12_finds) (n := 1) (av := [.inl 1]) (S := []) (rc := 0) (rs := 0) (mc := 0) (ms := 0) (a := 94) (ci := 11) (r := (RX12, TX12, 38)) dX12_set_54 pa_X12_finds (Nat.le_refl _) rfl (Nat.le_of_ble_eq_true rfl) ml_X12_143 im_X12_finds se_X12_finds rfl rfl rfl (Ev.mono V ?_)
            rintro v sh1 h27 ⟨rfl, Rh27, x28, rfl, V⟩
            show Rn G (d + 1) 0 0 mX12_set 57 [(0, .inr (.inr (some 94))), (1, .inl a1), (2, .inl a2), (3, .inl a3)] [.inl x28] SH h27 (QI Q)
            exact rn_iret dX12_set_57 rfl ⟨rfl, Rh27, _, rfl, V⟩
        · replace V := V.2 c12
          refine rn_ldc2 (v := 30) dX12_set_37 cw_X12_193 ?_
          refine rn_goto (tgt := 46) dX12_set_40 (by decide) ?_
          refine rn_cS (M' := mX12_in) (n := 3) (av := [.inr (.inl (Int32.toInt64 a3)), .inr (.inl 0), .inr (.inl 30)]) (S := []) (rc := 0) (rs := 0) (mc := 0) (ms := 0) dX12_set_46 pa_X12_in (Nat.le_refl _) rfl (Nat.le_of_ble_eq_true rfl) ml_X12_80 ss_X12_in rfl (Ev.mono V ?_)
          rintro v sh1 h29 ⟨rfl, Rh29, x30, rfl, V⟩
          show Rn G (d + 1) 0 0 mX12_set 49 [(0, .inr (.inr (some 94))), (1, .inl a1), (2, .inl a2), (3, .inl a3)] [.inl x30] SH h29 (QI Q)
          refine rn_if_ne (tgt := 58) dX12_set_49 (by decide) (fun c31 => ?_) (fun c31 => ?_)
          · replace V := V.1 c31
            refine rn_aload_n dX12_set_58 rfl rfl ?_
            refine rn_iload_n dX12_set_59 rfl rfl ?_
            refine rn_iconst (v := 4) dX12_set_60 (by decide) ?_
            refine rn_cV (M' := mX12_its) (n := 2) (av := [.inl a1, .inl 4]) (S := []) (rc := 0) (rs := 0) (mc := 0) (ms := 0) (a := 94) (ci := 11) (r := (RX12, TX12, 38)) dX12_set_61 pa_X12_its (Nat.le_refl _) rfl (Nat.le_of_ble_eq_true rfl) ml_X12_171 im_X12_its se_X12_its rfl rfl rfl (Ev.mono V ?_)
            rintro v sh1 h32 ⟨rfl, Rh32, x33, rfl, V⟩
            show Rn G (d + 1) 0 0 mX12_set 64 [(0, .inr (.inr (some 94))), (1, .inl a1), (2, .inl a2), (3, .inl a3)] [.inl x33] SH h32 (QI Q)
            refine rn_if_ne (tgt := 80) dX12_set_64 (by decide) (fun c34 => ?_) (fun c34 => ?_)
            · replace V := V.1 c34
              refine rn_aload_n dX12_set_80 rfl rfl ?_
              refine rn_iconst (v := 3) dX12_set_81 (by decide) ?_
              refine rn_cV (M' := mX12_finds) (n := 1) (av := [.inl 3]) (S := []) (rc := 0) (rs := 0) (mc := 0) (ms := 0) (a := 94) (ci := 11) (r := (RX12, TX12, 38)) dX12_set_82 pa_X12_finds (Nat.le_refl _) rfl (Nat.le_of_ble_eq_true rfl) ml_X12_143 im_X12_finds se_X12_finds rfl rfl rfl (Ev.mono V ?_)
              rintro v sh1 h35 ⟨rfl, Rh35, x36, rfl, V⟩
              show Rn G (d + 1) 0 0 mX12_set 85 [(0, .inr (.inr (some 94))), (1, .inl a1), (2, .inl a2), (3, .inl a3)] [.inl x36] SH h35 (QI Q)
              exact rn_iret dX12_set_85 rfl ⟨rfl, Rh35, _, rfl, V⟩
            · replace V := V.2 c34
              refine rn_aload_n dX12_set_67 rfl rfl ?_
              refine rn_get (v := .inr (.inr (some 95))) dX12_set_68 fl_X12_7 rfl rfl (congrArg (fun z => (Sum.inr (Sum.inr z) : MV)) (rf_94_0 Rh32)) ?_
              refine rn_bipush (v := 6) dX12_set_71 (by decide) ?_
              refine rn_iald (k := 6) dX12_set_73 rfl (by decide) (by unfold vp_in; decide) ?_
              refine rn_iload_n dX12_set_74 rfl rfl ?_
              refine rn_iconst (v := 1) dX12_set_75 (by decide) ?_
              refine rn_iadd dX12_set_76 ?_
              refine rn_icmp_ne (tgt := 86) dX12_set_77 (by decide) (fun c37 => ?_) (fun c37 => ?_)
              · replace V := V.1 c37
                refine rn_aload_n dX12_set_86 rfl rfl ?_
                refine rn_iload_n dX12_set_87 rfl rfl ?_
                refine rn_iload_n dX12_set_88 rfl rfl ?_
                refine rn_cV (M' := mX12_its) (n := 2) (av := [.inl a1, .inl a2]) (S := []) (rc := 0) (rs := 0) (mc := 0) (ms := 0) (a := 94) (ci := 11) (r := (RX12, TX12, 38)) dX12_set_89 pa_X12_its (Nat.le_refl _) rfl (Nat.le_of_ble_eq_true rfl) ml_X12_171 im_X12_its se_X12_its rfl rfl rfl (Ev.mono V ?_)
                rintro v sh1 h38 ⟨rfl, Rh38, x39, rfl, V⟩
                show Rn G (d + 1) 0 0 mX12_set 92 [(0, .inr (.inr (some 94))), (1, .inl a1), (2, .inl a2), (3, .inl a3)] [.inl x39] SH h38 (QI Q)
                refine rn_istore (L' := [(4, .inl x39), (0, .inr (.inr (some 94))), (1, .inl a1), (2, .inl a2), (3, .inl a3)]) dX12_set_92 (Nat.le_of_ble_eq_true rfl) rfl ?_
                refine rn_aload_n dX12_set_94 rfl rfl ?_
                refine rn_iload_n dX12_set_95 rfl rfl ?_
                refine rn_iload_n dX12_set_96 rfl rfl ?_
                refine rn_iload_n dX12_set_97 rfl rfl ?_
                refine rn_cV (M' := mX12_puts) (n := 3) (av := [.inl a1, .inl a2, .inl a3]) (S := []) (rc := 0) (rs := 0) (mc := 0) (ms := 0) (a := 94) (ci := 11) (r := (RX12, TX12, 38)) dX12_set_98 pa_X12_puts (Nat.le_refl _) rfl (Nat.le_of_ble_eq_true rfl) ml_X12_199 im_X12_puts se_X12_puts rfl rfl rfl (Ev.mono V ?_)
                rintro v sh1 h40 ⟨rfl, Rh40, rfl, V⟩
                show Rn G (d + 1) 0 0 mX12_set 101 [(4, .inl x39), (0, .inr (.inr (some 94))), (1, .inl a1), (2, .inl a2), (3, .inl a3)] [] SH h40 (QI Q)
                refine rn_iload dX12_set_101 rfl ?_
                exact rn_iret dX12_set_103 rfl ⟨rfl, Rh40, _, rfl, V⟩
              · replace V := V.2 c37
                refine rn_aload_n dX12_set_80 rfl rfl ?_
                refine rn_iconst (v := 3) dX12_set_81 (by decide) ?_
                refine rn_cV (M' := mX12_finds) (n := 1) (av := [.inl 3]) (S := []) (rc := 0) (rs := 0) (mc := 0) (ms := 0) (a := 94) (ci := 11) (r := (RX12, TX12, 38)) dX12_set_82 pa_X12_finds (Nat.le_refl _) rfl (Nat.le_of_ble_eq_true rfl) ml_X12_143 im_X12_finds se_X12_finds rfl rfl rfl (Ev.mono V ?_)
                rintro v sh1 h41 ⟨rfl, Rh41, x42, rfl, V⟩
                show Rn G (d + 1) 0 0 mX12_set 85 [(0, .inr (.inr (some 94))), (1, .inl a1), (2, .inl a2), (3, .inl a3)] [.inl x42] SH h41 (QI Q)
                exact rn_iret dX12_set_85 rfl ⟨rfl, Rh41, _, rfl, V⟩
          · replace V := V.2 c31
            refine rn_aload_n dX12_set_52 rfl rfl ?_
            refine rn_iconst (v := 1) dX12_set_53 (by decide) ?_
            refine rn_cV (M' := mX12_finds) (n := 1) (av := [.inl 1]) (S := []) (rc := 0) (rs := 0) (mc := 0) (ms := 0) (a := 94) (ci := 11) (r := (RX12, TX12, 38)) dX12_set_54 pa_X12_finds (Nat.le_refl _) rfl (Nat.le_of_ble_eq_true rfl) ml_X12_143 im_X12_finds se_X12_finds rfl rfl rfl (Ev.mono V ?_)
            rintro v sh1 h43 ⟨rfl, Rh43, x44, rfl, V⟩
            show Rn G (d + 1) 0 0 mX12_set 57 [(0, .inr (.inr (some 94))), (1, .inl a1), (2, .inl a2), (3, .inl a3)] [.inl x44] SH h43 (QI Q)
            exact rn_iret dX12_set_57 rfl ⟨rfl, Rh43, _, rfl, V⟩
      · replace V := V.2 c11
        refine rn_lconst (v := 1) dX12_set_27 rfl ?_
        refine rn_goto (tgt := 32) dX12_set_28 (by decide) ?_
        refine rn_iload_n dX12_set_32 rfl rfl ?_
        refine rn_iconst (v := 1) dX12_set_33 (by decide) ?_
        refine rn_icmp_ne (tgt := 43) dX12_set_34 (by decide) (fun c45 => ?_) (fun c45 => ?_)
        · replace V := V.1 c45
          refine rn_ldc2 (v := 99) dX12_set_43 cw_X12_195 ?_
          refine rn_cS (M' := mX12_in) (n := 3) (av := [.inr (.inl (Int32.toInt64 a3)), .inr (.inl 1), .inr (.inl 99)]) (S := []) (rc := 0) (rs := 0) (mc := 0) (ms := 0) dX12_set_46 pa_X12_in (Nat.le_refl _) rfl (Nat.le_of_ble_eq_true rfl) ml_X12_80 ss_X12_in rfl (Ev.mono V ?_)
          rintro v sh1 h46 ⟨rfl, Rh46, x47, rfl, V⟩
          show Rn G (d + 1) 0 0 mX12_set 49 [(0, .inr (.inr (some 94))), (1, .inl a1), (2, .inl a2), (3, .inl a3)] [.inl x47] SH h46 (QI Q)
          refine rn_if_ne (tgt := 58) dX12_set_49 (by decide) (fun c48 => ?_) (fun c48 => ?_)
          · replace V := V.1 c48
            refine rn_aload_n dX12_set_58 rfl rfl ?_
            refine rn_iload_n dX12_set_59 rfl rfl ?_
            refine rn_iconst (v := 4) dX12_set_60 (by decide) ?_
            refine rn_cV (M' := mX12_its) (n := 2) (av := [.inl a1, .inl 4]) (S := []) (rc := 0) (rs := 0) (mc := 0) (ms := 0) (a := 94) (ci := 11) (r := (RX12, TX12, 38)) dX12_set_61 pa_X12_its (Nat.le_refl _) rfl (Nat.le_of_ble_eq_true rfl) ml_X12_171 im_X12_its se_X12_its rfl rfl rfl (Ev.mono V ?_)
            rintro v sh1 h49 ⟨rfl, Rh49, x50, rfl, V⟩
            show Rn G (d + 1) 0 0 mX12_set 64 [(0, .inr (.inr (some 94))), (1, .inl a1), (2, .inl a2), (3, .inl a3)] [.inl x50] SH h49 (QI Q)
            refine rn_if_ne (tgt := 80) dX12_set_64 (by decide) (fun c51 => ?_) (fun c51 => ?_)
            · replace V := V.1 c51
              refine rn_aload_n dX12_set_80 rfl rfl ?_
              refine rn_iconst (v := 3) dX12_set_81 (by decide) ?_
              refine rn_cV (M' := mX12_finds) (n := 1) (av := [.inl 3]) (S := []) (rc := 0) (rs := 0) (mc := 0) (ms := 0) (a := 94) (ci := 11) (r := (RX12, TX12, 38)) dX12_set_82 pa_X12_finds (Nat.le_refl _) rfl (Nat.le_of_ble_eq_true rfl) ml_X12_143 im_X12_finds se_X12_finds rfl rfl rfl (Ev.mono V ?_)
              rintro v sh1 h52 ⟨rfl, Rh52, x53, rfl, V⟩
              show Rn G (d + 1) 0 0 mX12_set 85 [(0, .inr (.inr (some 94))), (1, .inl a1), (2, .inl a2), (3, .inl a3)] [.inl x53] SH h52 (QI Q)
              exact rn_iret dX12_set_85 rfl ⟨rfl, Rh52, _, rfl, V⟩
            · replace V := V.2 c51
              refine rn_aload_n dX12_set_67 rfl rfl ?_
              refine rn_get (v := .inr (.inr (some 95))) dX12_set_68 fl_X12_7 rfl rfl (congrArg (fun z => (Sum.inr (Sum.inr z) : MV)) (rf_94_0 Rh49)) ?_
              refine rn_bipush (v := 6) dX12_set_71 (by decide) ?_
              refine rn_iald (k := 6) dX12_set_73 rfl (by decide) (by unfold vp_in; decide) ?_
              refine rn_iload_n dX12_set_74 rfl rfl ?_
              refine rn_iconst (v := 1) dX12_set_75 (by decide) ?_
              refine rn_iadd dX12_set_76 ?_
              refine rn_icmp_ne (tgt := 86) dX12_set_77 (by decide) (fun c54 => ?_) (fun c54 => ?_)
              · replace V := V.1 c54
                refine rn_aload_n dX12_set_86 rfl rfl ?_
                refine rn_iload_n dX12_set_87 rfl rfl ?_
                refine rn_iload_n dX12_set_88 rfl rfl ?_
                refine rn_cV (M' := mX12_its) (n := 2) (av := [.inl a1, .inl a2]) (S := []) (rc := 0) (rs := 0) (mc := 0) (ms := 0) (a := 94) (ci := 11) (r := (RX12, TX12, 38)) dX12_set_89 pa_X12_its (Nat.le_refl _) rfl (Nat.le_of_ble_eq_true rfl) ml_X12_171 im_X12_its se_X12_its rfl rfl rfl (Ev.mono V ?_)
                rintro v sh1 h55 ⟨rfl, Rh55, x56, rfl, V⟩
                show Rn G (d + 1) 0 0 mX12_set 92 [(0, .inr (.inr (some 94))), (1, .inl a1), (2, .inl a2), (3, .inl a3)] [.inl x56] SH h55 (QI Q)
                refine rn_istore (L' := [(4, .inl x56), (0, .inr (.inr (some 94))), (1, .inl a1), (2, .inl a2), (3, .inl a3)]) dX12_set_92 (Nat.le_of_ble_eq_true rfl) rfl ?_
                refine rn_aload_n dX12_set_94 rfl rfl ?_
                refine rn_iload_n dX12_set_95 rfl rfl ?_
                refine rn_iload_n dX12_set_96 rfl rfl ?_
                refine rn_iload_n dX12_set_97 rfl rfl ?_
                refine rn_cV (M' := mX12_puts) (n := 3) (av := [.inl a1, .inl a2, .inl a3]) (S := []) (rc := 0) (rs := 0) (mc := 0) (ms := 0) (a := 94) (ci := 11) (r := (RX12, TX12, 38)) dX12_set_98 pa_X12_puts (Nat.le_refl _) rfl (Nat.le_of_ble_eq_true rfl) ml_X12_199 im_X12_puts se_X12_puts rfl rfl rfl (Ev.mono V ?_)
                rintro v sh1 h57 ⟨rfl, Rh57, rfl, V⟩
                show Rn G (d + 1) 0 0 mX12_set 101 [(4, .inl x56), (0, .inr (.inr (some 94))), (1, .inl a1), (2, .inl a2), (3, .inl a3)] [] SH h57 (QI Q)
                refine rn_iload dX12_set_101 rfl ?_
                exact rn_iret dX12_set_103 rfl ⟨rfl, Rh57, _, rfl, V⟩
              · replace V := V.2 c54
                refine rn_aload_n dX12_set_80 rfl rfl ?_
                refine rn_iconst (v := 3) dX12_set_81 (by decide) ?_
                refine rn_cV (M' := mX12_finds) (n := 1) (av := [.inl 3]) (S := []) (rc := 0) (rs := 0) (mc := 0) (ms := 0) (a := 94) (ci := 11) (r := (RX12, TX12, 38)) dX12_set_82 pa_X12_finds (Nat.le_refl _) rfl (Nat.le_of_ble_eq_true rfl) ml_X12_143 im_X12_finds se_X12_finds rfl rfl rfl (Ev.mono V ?_)
                rintro v sh1 h58 ⟨rfl, Rh58, x59, rfl, V⟩
                show Rn G (d + 1) 0 0 mX12_set 85 [(0, .inr (.inr (some 94))), (1, .inl a1), (2, .inl a2), (3, .inl a3)] [.inl x59] SH h58 (QI Q)
                exact rn_iret dX12_set_85 rfl ⟨rfl, Rh58, _, rfl, V⟩
          · replace V := V.2 c48
            refine rn_aload_n dX12_set_52 rfl rfl ?_
            refine rn_iconst (v := 1) dX12_set_53 (by decide) ?_
            refine rn_cV (M' := mX12_finds) (n := 1) (av := [.inl 1]) (S := []) (rc := 0) (rs := 0) (mc := 0) (ms := 0) (a := 94) (ci := 11) (r := (RX12, TX12, 38)) dX12_set_54 pa_X12_finds (Nat.le_refl _) rfl (Nat.le_of_ble_eq_true rfl) ml_X12_143 im_X12_finds se_X12_finds rfl rfl rfl (Ev.mono V ?_)
            rintro v sh1 h60 ⟨rfl, Rh60, x61, rfl, V⟩
            show Rn G (d + 1) 0 0 mX12_set 57 [(0, .inr (.inr (some 94))), (1, .inl a1), (2, .inl a2), (3, .inl a3)] [.inl x61] SH h60 (QI Q)
            exact rn_iret dX12_set_57 rfl ⟨rfl, Rh60, _, rfl, V⟩
        · replace V := V.2 c45
          refine rn_ldc2 (v := 30) dX12_set_37 cw_X12_193 ?_
          refine rn_goto (tgt := 46) dX12_set_40 (by decide) ?_
          refine rn_cS (M' := mX12_in) (n := 3) (av := [.inr (.inl (Int32.toInt64 a3)), .inr (.inl 1), .inr (.inl 30)]) (S := []) (rc := 0) (rs := 0) (mc := 0) (ms := 0) dX12_set_46 pa_X12_in (Nat.le_refl _) rfl (Nat.le_of_ble_eq_true rfl) ml_X12_80 ss_X12_in rfl (Ev.mono V ?_)
          rintro v sh1 h62 ⟨rfl, Rh62, x63, rfl, V⟩
          show Rn G (d + 1) 0 0 mX12_set 49 [(0, .inr (.inr (some 94))), (1, .inl a1), (2, .inl a2), (3, .inl a3)] [.inl x63] SH h62 (QI Q)
          refine rn_if_ne (tgt := 58) dX12_set_49 (by decide) (fun c64 => ?_) (fun c64 => ?_)
          · replace V := V.1 c64
            refine rn_aload_n dX12_set_58 rfl rfl ?_
            refine rn_iload_n dX12_set_59 rfl rfl ?_
            refine rn_iconst (v := 4) dX12_set_60 (by decide) ?_
            refine rn_cV (M' := mX12_its) (n := 2) (av := [.inl a1, .inl 4]) (S := []) (rc := 0) (rs := 0) (mc := 0) (ms := 0) (a := 94) (ci := 11) (r := (RX12, TX12, 38)) dX12_set_61 pa_X12_its (Nat.le_refl _) rfl (Nat.le_of_ble_eq_true rfl) ml_X12_171 im_X12_its se_X12_its rfl rfl rfl (Ev.mono V ?_)
            rintro v sh1 h65 ⟨rfl, Rh65, x66, rfl, V⟩
            show Rn G (d + 1) 0 0 mX12_set 64 [(0, .inr (.inr (some 94))), (1, .inl a1), (2, .inl a2), (3, .inl a3)] [.inl x66] SH h65 (QI Q)
            refine rn_if_ne (tgt := 80) dX12_set_64 (by decide) (fun c67 => ?_) (fun c67 => ?_)
            · replace V := V.1 c67
              refine rn_aload_n dX12_set_80 rfl rfl ?_
              refine rn_iconst (v := 3) dX12_set_81 (by decide) ?_
              refine rn_cV (M' := mX12_finds) (n := 1) (av := [.inl 3]) (S := []) (rc := 0) (rs := 0) (mc := 0) (ms := 0) (a := 94) (ci := 11) (r := (RX12, TX12, 38)) dX12_set_82 pa_X12_finds (Nat.le_refl _) rfl (Nat.le_of_ble_eq_true rfl) ml_X12_143 im_X12_finds se_X12_finds rfl rfl rfl (Ev.mono V ?_)
              rintro v sh1 h68 ⟨rfl, Rh68, x69, rfl, V⟩
              show Rn G (d + 1) 0 0 mX12_set 85 [(0, .inr (.inr (some 94))), (1, .inl a1), (2, .inl a2), (3, .inl a3)] [.inl x69] SH h68 (QI Q)
              exact rn_iret dX12_set_85 rfl ⟨rfl, Rh68, _, rfl, V⟩
            · replace V := V.2 c67
              refine rn_aload_n dX12_set_67 rfl rfl ?_
              refine rn_get (v := .inr (.inr (some 95))) dX12_set_68 fl_X12_7 rfl rfl (congrArg (fun z => (Sum.inr (Sum.inr z) : MV)) (rf_94_0 Rh65)) ?_
              refine rn_bipush (v := 6) dX12_set_71 (by decide) ?_
              refine rn_iald (k := 6) dX12_set_73 rfl (by decide) (by unfold vp_in; decide) ?_
              refine rn_iload_n dX12_set_74 rfl rfl ?_
              refine rn_iconst (v := 1) dX12_set_75 (by decide) ?_
              refine rn_iadd dX12_set_76 ?_
              refine rn_icmp_ne (tgt := 86) dX12_set_77 (by decide) (fun c70 => ?_) (fun c70 => ?_)
              · replace V := V.1 c70
                refine rn_aload_n dX12_set_86 rfl rfl ?_
                refine rn_iload_n dX12_set_87 rfl rfl ?_
                refine rn_iload_n dX12_set_88 rfl rfl ?_
                refine rn_cV (M' := mX12_its) (n := 2) (av := [.inl a1, .inl a2]) (S := []) (rc := 0) (rs := 0) (mc := 0) (ms := 0) (a := 94) (ci := 11) (r := (RX12, TX12, 38)) dX12_set_89 pa_X12_its (Nat.le_refl _) rfl (Nat.le_of_ble_eq_true rfl) ml_X12_171 im_X12_its se_X12_its rfl rfl rfl (Ev.mono V ?_)
                rintro v sh1 h71 ⟨rfl, Rh71, x72, rfl, V⟩
                show Rn G (d + 1) 0 0 mX12_set 92 [(0, .inr (.inr (some 94))), (1, .inl a1), (2, .inl a2), (3, .inl a3)] [.inl x72] SH h71 (QI Q)
                refine rn_istore (L' := [(4, .inl x72), (0, .inr (.inr (some 94))), (1, .inl a1), (2, .inl a2), (3, .inl a3)]) dX12_set_92 (Nat.le_of_ble_eq_true rfl) rfl ?_
                refine rn_aload_n dX12_set_94 rfl rfl ?_
                refine rn_iload_n dX12_set_95 rfl rfl ?_
                refine rn_iload_n dX12_set_96 rfl rfl ?_
                refine rn_iload_n dX12_set_97 rfl rfl ?_
                refine rn_cV (M' := mX12_puts) (n := 3) (av := [.inl a1, .inl a2, .inl a3]) (S := []) (rc := 0) (rs := 0) (mc := 0) (ms := 0) (a := 94) (ci := 11) (r := (RX12, TX12, 38)) dX12_set_98 pa_X12_puts (Nat.le_refl _) rfl (Nat.le_of_ble_eq_true rfl) ml_X12_199 im_X12_puts se_X12_puts rfl rfl rfl (Ev.mono V ?_)
                rintro v sh1 h73 ⟨rfl, Rh73, rfl, V⟩
                show Rn G (d + 1) 0 0 mX12_set 101 [(4, .inl x72), (0, .inr (.inr (some 94))), (1, .inl a1), (2, .inl a2), (3, .inl a3)] [] SH h73 (QI Q)
                refine rn_iload dX12_set_101 rfl ?_
                exact rn_iret dX12_set_103 rfl ⟨rfl, Rh73, _, rfl, V⟩
              · replace V := V.2 c70
                refine rn_aload_n dX12_set_80 rfl rfl ?_
                refine rn_iconst (v := 3) dX12_set_81 (by decide) ?_
                refine rn_cV (M' := mX12_finds) (n := 1) (av := [.inl 3]) (S := []) (rc := 0) (rs := 0) (mc := 0) (ms := 0) (a := 94) (ci := 11) (r := (RX12, TX12, 38)) dX12_set_82 pa_X12_finds (Nat.le_refl _) rfl (Nat.le_of_ble_eq_true rfl) ml_X12_143 im_X12_finds se_X12_finds rfl rfl rfl (Ev.mono V ?_)
                rintro v sh1 h74 ⟨rfl, Rh74, x75, rfl, V⟩
                show Rn G (d + 1) 0 0 mX12_set 85 [(0, .inr (.inr (some 94))), (1, .inl a1), (2, .inl a2), (3, .inl a3)] [.inl x75] SH h74 (QI Q)
                exact rn_iret dX12_set_85 rfl ⟨rfl, Rh74, _, rfl, V⟩
          · replace V := V.2 c64
            refine rn_aload_n dX12_set_52 rfl rfl ?_
            refine rn_iconst (v := 1) dX12_set_53 (by decide) ?_
            refine rn_cV (M' := mX12_finds) (n := 1) (av := [.inl 1]) (S := []) (rc := 0) (rs := 0) (mc := 0) (ms := 0) (a := 94) (ci := 11) (r := (RX12, TX12, 38)) dX12_set_54 pa_X12_finds (Nat.le_refl _) rfl (Nat.le_of_ble_eq_true rfl) ml_X12_143 im_X12_finds se_X12_finds rfl rfl rfl (Ev.mono V ?_)
            rintro v sh1 h76 ⟨rfl, Rh76, x77, rfl, V⟩
            show Rn G (d + 1) 0 0 mX12_set 57 [(0, .inr (.inr (some 94))), (1, .inl a1), (2, .inl a2), (3, .inl a3)] [.inl x77] SH h76 (QI Q)
            exact rn_iret dX12_set_57 rfl ⟨rfl, Rh76, _, rfl, V⟩
set_option maxRecDepth 100000 in
set_option maxHeartbeats 4000000 in
theorem vc_X12_spills {G : GT} {d : Nat} {a1 : Int32}  {h : Hp} {Q : Hp → Prop} (hR : RF h) (V : (((h.1 95 4 + a1) ≤ 999999 → Q (sI h 95 4 (h.1 95 4 + a1))) ∧ (¬ (h.1 95 4 + a1) ≤ 999999 → Q (sI h 95 4 999999)))) : EvV G (d + 1) mX12_spills [.inr (.inr (some 94)), .inl a1] h Q := by
  refine Ev.of rfl (fun _ => Nat.le_of_ble_eq_true rfl) ?_
  show Rn G (d + 1) 0 0 mX12_spills 0 [(0, .inr (.inr (some 94))), (1, .inl a1)] [] SH h (QV Q)
  refine rn_aload_n dX12_spills_0 rfl rfl ?_
  refine rn_get (v := .inr (.inr (some 95))) dX12_spills_1 fl_X12_7 rfl rfl (congrArg (fun z => (Sum.inr (Sum.inr z) : MV)) (rf_94_0 hR)) ?_
  refine rn_iconst (v := 4) dX12_spills_4 (by decide) ?_
  refine rn_aload_n dX12_spills_5 rfl rfl ?_
  refine rn_get (v := .inr (.inr (some 95))) dX12_spills_6 fl_X12_7 rfl rfl (congrArg (fun z => (Sum.inr (Sum.inr z) : MV)) (rf_94_0 hR)) ?_
  refine rn_iconst (v := 4) dX12_spills_9 (by decide) ?_
  refine rn_iald (k := 4) dX12_spills_10 rfl (by decide) (by unfold vp_in; decide) ?_
  refine rn_iload_n dX12_spills_11 rfl rfl ?_
  refine rn_iadd dX12_spills_12 ?_
  refine rn_ldc (v := 999999) dX12_spills_13 cw_X12_209 ?_
  refine rn_icmp_le (tgt := 23) dX12_spills_15 (by decide) (fun c1 => ?_) (fun c1 => ?_)
  · replace V := V.1 c1
    refine rn_aload_n dX12_spills_23 rfl rfl ?_
    refine rn_get (v := .inr (.inr (some 95))) dX12_spills_24 fl_X12_7 rfl rfl (congrArg (fun z => (Sum.inr (Sum.inr z) : MV)) (rf_94_0 hR)) ?_
    refine rn_iconst (v := 4) dX12_spills_27 (by decide) ?_
    refine rn_iald (k := 4) dX12_spills_28 rfl (by decide) (by unfold vp_in; decide) ?_
    refine rn_iload_n dX12_spills_29 rfl rfl ?_
    refine rn_iadd dX12_spills_30 ?_
    refine rn_iast (k := 4) dX12_spills_31 rfl (by decide) (by unfold vp_in; decide) ?_
    exact rn_vret dX12_spills_32 rfl ⟨rfl, hR, rfl, V⟩
  · replace V := V.2 c1
    refine rn_ldc (v := 999999) dX12_spills_18 cw_X12_209 ?_
    refine rn_goto (tgt := 31) dX12_spills_20 (by decide) ?_
    refine rn_iast (k := 4) dX12_spills_31 rfl (by decide) (by unfold vp_in; decide) ?_
    exact rn_vret dX12_spills_32 rfl ⟨rfl, hR, rfl, V⟩
set_option maxRecDepth 100000 in
set_option maxHeartbeats 4000000 in
theorem vc_X12_loses {G : GT} {d : Nat} {a1 : Int32} {a2 : Int32}  {h : Hp} {Q : Int32 → Hp → Prop} (hR : RF h) (V : EvI G d mX12_of [.inr (.inr (some 94)), .inl a1, .inl 3] h (fun x2 h1 => ((x2 ≤ a2 → EvV G d mX12_sets [.inr (.inr (some 94)), .inl a1, .inl 3, .inl (x2 - x2)] h1 (fun h4 => Q x2 h4)) ∧ (¬ x2 ≤ a2 → EvV G d mX12_sets [.inr (.inr (some 94)), .inl a1, .inl 3, .inl (x2 - a2)] h1 (fun h5 => Q a2 h5))))) : EvI G (d + 1) mX12_loses [.inr (.inr (some 94)), .inl a1, .inl a2] h Q := by
  refine Ev.of rfl (fun _ => Nat.le_of_ble_eq_true rfl) ?_
  show Rn G (d + 1) 0 0 mX12_loses 0 [(0, .inr (.inr (some 94))), (1, .inl a1), (2, .inl a2)] [] SH h (QI Q)
  refine rn_aload_n dX12_loses_0 rfl rfl ?_
  refine rn_iload_n dX12_loses_1 rfl rfl ?_
  refine rn_iconst (v := 3) dX12_loses_2 (by decide) ?_
  refine rn_cV (M' := mX12_of) (n := 2) (av := [.inl a1, .inl 3]) (S := []) (rc := 0) (rs := 0) (mc := 0) (ms := 0) (a := 94) (ci := 11) (r := (RX12, TX12, 38)) dX12_loses_3 pa_X12_of (Nat.le_refl _) rfl (Nat.le_of_ble_eq_true rfl) ml_X12_161 im_X12_of se_X12_of rfl rfl rfl (Ev.mono V ?_)
  rintro v sh1 h1 ⟨rfl, Rh1, x2, rfl, V⟩
  show Rn G (d + 1) 0 0 mX12_loses 6 [(0, .inr (.inr (some 94))), (1, .inl a1), (2, .inl a2)] [.inl x2] SH h1 (QI Q)
  refine rn_istore_n (L' := [(3, .inl x2), (0, .inr (.inr (some 94))), (1, .inl a1), (2, .inl a2)]) dX12_loses_6 rfl (Nat.le_of_ble_eq_true rfl) rfl ?_
  refine rn_iload_n dX12_loses_7 rfl rfl ?_
  refine rn_iload_n dX12_loses_8 rfl rfl ?_
  refine rn_icmp_ge (tgt := 16) dX12_loses_9 (by decide) (fun c3 => ?_) (fun c3 => ?_)
  · replace V := V.1 c3
    refine rn_iload_n dX12_loses_16 rfl rfl ?_
    refine rn_istore (L' := [(4, .inl x2), (3, .inl x2), (0, .inr (.inr (some 94))), (1, .inl a1), (2, .inl a2)]) dX12_loses_17 (Nat.le_of_ble_eq_true rfl) rfl ?_
    refine rn_aload_n dX12_loses_19 rfl rfl ?_
    refine rn_iload_n dX12_loses_20 rfl rfl ?_
    refine rn_iconst (v := 3) dX12_loses_21 (by decide) ?_
    refine rn_iload_n dX12_loses_22 rfl rfl ?_
    refine rn_iload dX12_loses_23 rfl ?_
    refine rn_isub dX12_loses_25 ?_
    refine rn_cV (M' := mX12_sets) (n := 3) (av := [.inl a1, .inl 3, .inl (x2 - x2)]) (S := []) (rc := 0) (rs := 0) (mc := 0) (ms := 0) (a := 94) (ci := 11) (r := (RX12, TX12, 38)) dX12_loses_26 pa_X12_sets (Nat.le_refl _) rfl (Nat.le_of_ble_eq_true rfl) ml_X12_167 im_X12_sets se_X12_sets rfl rfl rfl (Ev.mono V ?_)
    rintro v sh1 h4 ⟨rfl, Rh4, rfl, V⟩
    show Rn G (d + 1) 0 0 mX12_loses 29 [(4, .inl x2), (3, .inl x2), (0, .inr (.inr (some 94))), (1, .inl a1), (2, .inl a2)] [] SH h4 (QI Q)
    refine rn_iload dX12_loses_29 rfl ?_
    exact rn_iret dX12_loses_31 rfl ⟨rfl, Rh4, _, rfl, V⟩
  · replace V := V.2 c3
    refine rn_iload_n dX12_loses_12 rfl rfl ?_
    refine rn_goto (tgt := 17) dX12_loses_13 (by decide) ?_
    refine rn_istore (L' := [(4, .inl a2), (3, .inl x2), (0, .inr (.inr (some 94))), (1, .inl a1), (2, .inl a2)]) dX12_loses_17 (Nat.le_of_ble_eq_true rfl) rfl ?_
    refine rn_aload_n dX12_loses_19 rfl rfl ?_
    refine rn_iload_n dX12_loses_20 rfl rfl ?_
    refine rn_iconst (v := 3) dX12_loses_21 (by decide) ?_
    refine rn_iload_n dX12_loses_22 rfl rfl ?_
    refine rn_iload dX12_loses_23 rfl ?_
    refine rn_isub dX12_loses_25 ?_
    refine rn_cV (M' := mX12_sets) (n := 3) (av := [.inl a1, .inl 3, .inl (x2 - a2)]) (S := []) (rc := 0) (rs := 0) (mc := 0) (ms := 0) (a := 94) (ci := 11) (r := (RX12, TX12, 38)) dX12_loses_26 pa_X12_sets (Nat.le_refl _) rfl (Nat.le_of_ble_eq_true rfl) ml_X12_167 im_X12_sets se_X12_sets rfl rfl rfl (Ev.mono V ?_)
    rintro v sh1 h5 ⟨rfl, Rh5, rfl, V⟩
    show Rn G (d + 1) 0 0 mX12_loses 29 [(4, .inl a2), (3, .inl x2), (0, .inr (.inr (some 94))), (1, .inl a1), (2, .inl a2)] [] SH h5 (QI Q)
    refine rn_iload dX12_loses_29 rfl ?_
    exact rn_iret dX12_loses_31 rfl ⟨rfl, Rh5, _, rfl, V⟩
set_option maxRecDepth 100000 in
set_option maxHeartbeats 4000000 in
theorem vc_X12_fetch {G : GT} {d : Nat} {a1 : Int32} {a2 : Int32}  {h : Hp} {Q : Int32 → Hp → Prop} (hR : RF h) (V : EvI G d mX12_isParty [.inr (.inr (some 94)), .inl a1] h (fun x2 h1 => ((x2 = 0 → EvI G d mX12_finds [.inr (.inr (some 94)), .inl 1] h1 (fun x5 h4 => Q x5 h4)) ∧ (¬ x2 = 0 → EvI G d mX12_in [.inr (.inl (Int32.toInt64 a2)), .inr (.inl 1), .inr (.inl 999)] h1 (fun x7 h6 => ((¬ x7 = 0 → EvI G d mX12_of [.inr (.inr (some 94)), .inl a1, .inl 3] h6 (fun x10 h9 => EvI G d mX12_of [.inr (.inr (some 94)), .inl a1, .inl 2] h9 (fun x12 h11 => EvI G d mX12_held [.inl (x10 + a2), .inl 0, .inl x12] h11 (fun x14 h13 => EvV G d mX12_sets [.inr (.inr (some 94)), .inl a1, .inl 3, .inl x14] h13 (fun h15 => EvI G d mX12_of [.inr (.inr (some 94)), .inl a1, .inl 3] h15 (fun x17 h16 => Q x17 h16)))))) ∧ (x7 = 0 → EvI G d mX12_finds [.inr (.inr (some 94)), .inl 1] h6 (fun x19 h18 => Q x19 h18)))))))) : EvI G (d + 1) mX12_fetch [.inr (.inr (some 94)), .inl a1, .inl a2] h Q := by
  refine Ev.of rfl (fun _ => Nat.le_of_ble_eq_true rfl) ?_
  show Rn G (d + 1) 0 0 mX12_fetch 0 [(0, .inr (.inr (some 94))), (1, .inl a1), (2, .inl a2)] [] SH h (QI Q)
  refine rn_aload_n dX12_fetch_0 rfl rfl ?_
  refine rn_iload_n dX12_fetch_1 rfl rfl ?_
  refine rn_cV (M' := mX12_isParty) (n := 1) (av := [.inl a1]) (S := []) (rc := 0) (rs := 0) (mc := 0) (ms := 0) (a := 94) (ci := 11) (r := (RX12, TX12, 38)) dX12_fetch_2 pa_X12_isParty (Nat.le_refl _) rfl (Nat.le_of_ble_eq_true rfl) ml_X12_174 im_X12_isParty se_X12_isParty rfl rfl rfl (Ev.mono V ?_)
  rintro v sh1 h1 ⟨rfl, Rh1, x2, rfl, V⟩
  show Rn G (d + 1) 0 0 mX12_fetch 5 [(0, .inr (.inr (some 94))), (1, .inl a1), (2, .inl a2)] [.inl x2] SH h1 (QI Q)
  refine rn_if_eq (tgt := 20) dX12_fetch_5 (by decide) (fun c3 => ?_) (fun c3 => ?_)
  · replace V := V.1 c3
    refine rn_aload_n dX12_fetch_20 rfl rfl ?_
    refine rn_iconst (v := 1) dX12_fetch_21 (by decide) ?_
    refine rn_cV (M' := mX12_finds) (n := 1) (av := [.inl 1]) (S := []) (rc := 0) (rs := 0) (mc := 0) (ms := 0) (a := 94) (ci := 11) (r := (RX12, TX12, 38)) dX12_fetch_22 pa_X12_finds (Nat.le_refl _) rfl (Nat.le_of_ble_eq_true rfl) ml_X12_143 im_X12_finds se_X12_finds rfl rfl rfl (Ev.mono V ?_)
    rintro v sh1 h4 ⟨rfl, Rh4, x5, rfl, V⟩
    show Rn G (d + 1) 0 0 mX12_fetch 25 [(0, .inr (.inr (some 94))), (1, .inl a1), (2, .inl a2)] [.inl x5] SH h4 (QI Q)
    exact rn_iret dX12_fetch_25 rfl ⟨rfl, Rh4, _, rfl, V⟩
  · replace V := V.2 c3
    refine rn_iload_n dX12_fetch_8 rfl rfl ?_
    refine rn_i2l dX12_fetch_9 ?_
    refine rn_lconst (v := 1) dX12_fetch_10 rfl ?_
    refine rn_ldc2 (v := 999) dX12_fetch_11 cw_X12_155 ?_
    refine rn_cS (M' := mX12_in) (n := 3) (av := [.inr (.inl (Int32.toInt64 a2)), .inr (.inl 1), .inr (.inl 999)]) (S := []) (rc := 0) (rs := 0) (mc := 0) (ms := 0) dX12_fetch_14 pa_X12_in (Nat.le_refl _) rfl (Nat.le_of_ble_eq_true rfl) ml_X12_80 ss_X12_in rfl (Ev.mono V ?_)
    rintro v sh1 h6 ⟨rfl, Rh6, x7, rfl, V⟩
    show Rn G (d + 1) 0 0 mX12_fetch 17 [(0, .inr (.inr (some 94))), (1, .inl a1), (2, .inl a2)] [.inl x7] SH h6 (QI Q)
    refine rn_if_ne (tgt := 26) dX12_fetch_17 (by decide) (fun c8 => ?_) (fun c8 => ?_)
    · replace V := V.1 c8
      refine rn_aload_n dX12_fetch_26 rfl rfl ?_
      refine rn_iload_n dX12_fetch_27 rfl rfl ?_
      refine rn_iconst (v := 3) dX12_fetch_28 (by decide) ?_
      refine rn_aload_n dX12_fetch_29 rfl rfl ?_
      refine rn_iload_n dX12_fetch_30 rfl rfl ?_
      refine rn_iconst (v := 3) dX12_fetch_31 (by decide) ?_
      refine rn_cV (M' := mX12_of) (n := 2) (av := [.inl a1, .inl 3]) (S := [.inl 3, .inl a1, .inr (.inr (some 94))]) (rc := 0) (rs := 0) (mc := 0) (ms := 0) (a := 94) (ci := 11) (r := (RX12, TX12, 38)) dX12_fetch_32 pa_X12_of (Nat.le_refl _) rfl (Nat.le_of_ble_eq_true rfl) ml_X12_161 im_X12_of se_X12_of rfl rfl rfl (Ev.mono V ?_)
      rintro v sh1 h9 ⟨rfl, Rh9, x10, rfl, V⟩
      show Rn G (d + 1) 0 0 mX12_fetch 35 [(0, .inr (.inr (some 94))), (1, .inl a1), (2, .inl a2)] [.inl x10, .inl 3, .inl a1, .inr (.inr (some 94))] SH h9 (QI Q)
      refine rn_iload_n dX12_fetch_35 rfl rfl ?_
      refine rn_iadd dX12_fetch_36 ?_
      refine rn_iconst (v := 0) dX12_fetch_37 (by decide) ?_
      refine rn_aload_n dX12_fetch_38 rfl rfl ?_
      refine rn_iload_n dX12_fetch_39 rfl rfl ?_
      refine rn_iconst (v := 2) dX12_fetch_40 (by decide) ?_
      refine rn_cV (M' := mX12_of) (n := 2) (av := [.inl a1, .inl 2]) (S := [.inl 0, .inl (x10 + a2), .inl 3, .inl a1, .inr (.inr (some 94))]) (rc := 0) (rs := 0) (mc := 0) (ms := 0) (a := 94) (ci := 11) (r := (RX12, TX12, 38)) dX12_fetch_41 pa_X12_of (Nat.le_refl _) rfl (Nat.le_of_ble_eq_true rfl) ml_X12_161 im_X12_of se_X12_of rfl rfl rfl (Ev.mono V ?_)
      rintro v sh1 h11 ⟨rfl, Rh11, x12, rfl, V⟩
      show Rn G (d + 1) 0 0 mX12_fetch 44 [(0, .inr (.inr (some 94))), (1, .inl a1), (2, .inl a2)] [.inl x12, .inl 0, .inl (x10 + a2), .inl 3, .inl a1, .inr (.inr (some 94))] SH h11 (QI Q)
      refine rn_cS (M' := mX12_held) (n := 3) (av := [.inl (x10 + a2), .inl 0, .inl x12]) (S := [.inl 3, .inl a1, .inr (.inr (some 94))]) (rc := 0) (rs := 0) (mc := 0) (ms := 0) dX12_fetch_44 pa_X12_held (Nat.le_refl _) rfl (Nat.le_of_ble_eq_true rfl) ml_X12_152 ss_X12_held rfl (Ev.mono V ?_)
      rintro v sh1 h13 ⟨rfl, Rh13, x14, rfl, V⟩
      show Rn G (d + 1) 0 0 mX12_fetch 47 [(0, .inr (.inr (some 94))), (1, .inl a1), (2, .inl a2)] [.inl x14, .inl 3, .inl a1, .inr (.inr (some 94))] SH h13 (QI Q)
      refine rn_cV (M' := mX12_sets) (n := 3) (av := [.inl a1, .inl 3, .inl x14]) (S := []) (rc := 0) (rs := 0) (mc := 0) (ms := 0) (a := 94) (ci := 11) (r := (RX12, TX12, 38)) dX12_fetch_47 pa_X12_sets (Nat.le_refl _) rfl (Nat.le_of_ble_eq_true rfl) ml_X12_167 im_X12_sets se_X12_sets rfl rfl rfl (Ev.mono V ?_)
      rintro v sh1 h15 ⟨rfl, Rh15, rfl, V⟩
      show Rn G (d + 1) 0 0 mX12_fetch 50 [(0, .inr (.inr (some 94))), (1, .inl a1), (2, .inl a2)] [] SH h15 (QI Q)
      refine rn_aload_n dX12_fetch_50 rfl rfl ?_
      refine rn_iload_n dX12_fetch_51 rfl rfl ?_
      refine rn_iconst (v := 3) dX12_fetch_52 (by decide) ?_
      refine rn_cV (M' := mX12_of) (n := 2) (av := [.inl a1, .inl 3]) (S := []) (rc := 0) (rs := 0) (mc := 0) (ms := 0) (a := 94) (ci := 11) (r := (RX12, TX12, 38)) dX12_fetch_53 pa_X12_of (Nat.le_refl _) rfl (Nat.le_of_ble_eq_true rfl) ml_X12_161 im_X12_of se_X12_of rfl rfl rfl (Ev.mono V ?_)
      rintro v sh1 h16 ⟨rfl, Rh16, x17, rfl, V⟩
      show Rn G (d + 1) 0 0 mX12_fetch 56 [(0, .inr (.inr (some 94))), (1, .inl a1), (2, .inl a2)] [.inl x17] SH h16 (QI Q)
      exact rn_iret dX12_fetch_56 rfl ⟨rfl, Rh16, _, rfl, V⟩
    · replace V := V.2 c8
      refine rn_aload_n dX12_fetch_20 rfl rfl ?_
      refine rn_iconst (v := 1) dX12_fetch_21 (by decide) ?_
      refine rn_cV (M' := mX12_finds) (n := 1) (av := [.inl 1]) (S := []) (rc := 0) (rs := 0) (mc := 0) (ms := 0) (a := 94) (ci := 11) (r := (RX12, TX12, 38)) dX12_fetch_22 pa_X12_finds (Nat.le_refl _) rfl (Nat.le_of_ble_eq_true rfl) ml_X12_143 im_X12_finds se_X12_finds rfl rfl rfl (Ev.mono V ?_)
      rintro v sh1 h18 ⟨rfl, Rh18, x19, rfl, V⟩
      show Rn G (d + 1) 0 0 mX12_fetch 25 [(0, .inr (.inr (some 94))), (1, .inl a1), (2, .inl a2)] [.inl x19] SH h18 (QI Q)
      exact rn_iret dX12_fetch_25 rfl ⟨rfl, Rh18, _, rfl, V⟩
set_option maxRecDepth 100000 in
set_option maxHeartbeats 4000000 in
theorem vc_X12_pour {G : GT} {d : Nat} {a1 : Int32} {a2 : Int32} {a3 : Int32}  {h : Hp} {Q : Int32 → Hp → Prop} (hR : RF h) (V : EvI G d mX12_isParty [.inr (.inr (some 94)), .inl a1] h (fun x2 h1 => ((x2 = 0 → EvI G d mX12_finds [.inr (.inr (some 94)), .inl 1] h1 (fun x5 h4 => Q x5 h4)) ∧ (¬ x2 = 0 → EvI G d mX12_isParty [.inr (.inr (some 94)), .inl a2] h1 (fun x7 h6 => ((x7 = 0 → EvI G d mX12_finds [.inr (.inr (some 94)), .inl 1] h6 (fun x10 h9 => Q x10 h9)) ∧ (¬ x7 = 0 → ((a1 = a2 → EvI G d mX12_finds [.inr (.inr (some 94)), .inl 1] h6 (fun x13 h12 => Q x13 h12)) ∧ (¬ a1 = a2 → EvI G d mX12_in [.inr (.inl (Int32.toInt64 a3)), .inr (.inl 1), .inr (.inl 999)] h6 (fun x15 h14 => ((¬ x15 = 0 → EvI G d mX12_of [.inr (.inr (some 94)), .inl a1, .inl 3] h14 (fun x18 h17 => ((a3 ≤ x18 → EvI G d mX12_of [.inr (.inr (some 94)), .inl a2, .inl 3] h17 (fun x21 h20 => EvI G d mX12_of [.inr (.inr (some 94)), .inl a2, .inl 2] h20 (fun x23 h22 => (((x21 + a3) ≤ x23 → EvI G d mX12_of [.inr (.inr (some 94)), .inl a2, .inl 3] h22 (fun x26 h25 => EvI G d mX12_loses [.inr (.inr (some 94)), .inl a1, .inl a3] h25 (fun x28 h27 => EvV G d mX12_sets [.inr (.inr (some 94)), .inl a2, .inl 3, .inl (x26 + x28)] h27 (fun h29 => EvI G d mX12_of [.inr (.inr (some 94)), .inl a2, .inl 3] h29 (fun x31 h30 => Q x31 h30))))) ∧ (¬ (x21 + a3) ≤ x23 → EvI G d mX12_finds [.inr (.inr (some 94)), .inl 4] h22 (fun x33 h32 => Q x33 h32)))))) ∧ (¬ a3 ≤ x18 → EvI G d mX12_finds [.inr (.inr (some 94)), .inl 3] h17 (fun x35 h34 => Q x35 h34))))) ∧ (x15 = 0 → EvI G d mX12_finds [.inr (.inr (some 94)), .inl 1] h14 (fun x37 h36 => Q x37 h36))))))))))))) : EvI G (d + 1) mX12_pour [.inr (.inr (some 94)), .inl a1, .inl a2, .inl a3] h Q := by
  refine Ev.of rfl (fun _ => Nat.le_of_ble_eq_true rfl) ?_
  show Rn G (d + 1) 0 0 mX12_pour 0 [(0, .inr (.inr (some 94))), (1, .inl a1), (2, .inl a2), (3, .inl a3)] [] SH h (QI Q)
  refine rn_aload_n dX12_pour_0 rfl rfl ?_
  refine rn_iload_n dX12_pour_1 rfl rfl ?_
  refine rn_cV (M' := mX12_isParty) (n := 1) (av := [.inl a1]) (S := []) (rc := 0) (rs := 0) (mc := 0) (ms := 0) (a := 94) (ci := 11) (r := (RX12, TX12, 38)) dX12_pour_2 pa_X12_isParty (Nat.le_refl _) rfl (Nat.le_of_ble_eq_true rfl) ml_X12_174 im_X12_isParty se_X12_isParty rfl rfl rfl (Ev.mono V ?_)
  rintro v sh1 h1 ⟨rfl, Rh1, x2, rfl, V⟩
  show Rn G (d + 1) 0 0 mX12_pour 5 [(0, .inr (.inr (some 94))), (1, .inl a1), (2, .inl a2), (3, .inl a3)] [.inl x2] SH h1 (QI Q)
  refine rn_if_eq (tgt := 33) dX12_pour_5 (by decide) (fun c3 => ?_) (fun c3 => ?_)
  · replace V := V.1 c3
    refine rn_aload_n dX12_pour_33 rfl rfl ?_
    refine rn_iconst (v := 1) dX12_pour_34 (by decide) ?_
    refine rn_cV (M' := mX12_finds) (n := 1) (av := [.inl 1]) (S := []) (rc := 0) (rs := 0) (mc := 0) (ms := 0) (a := 94) (ci := 11) (r := (RX12, TX12, 38)) dX12_pour_35 pa_X12_finds (Nat.le_refl _) rfl (Nat.le_of_ble_eq_true rfl) ml_X12_143 im_X12_finds se_X12_finds rfl rfl rfl (Ev.mono V ?_)
    rintro v sh1 h4 ⟨rfl, Rh4, x5, rfl, V⟩
    show Rn G (d + 1) 0 0 mX12_pour 38 [(0, .inr (.inr (some 94))), (1, .inl a1), (2, .inl a2), (3, .inl a3)] [.inl x5] SH h4 (QI Q)
    exact rn_iret dX12_pour_38 rfl ⟨rfl, Rh4, _, rfl, V⟩
  · replace V := V.2 c3
    refine rn_aload_n dX12_pour_8 rfl rfl ?_
    refine rn_iload_n dX12_pour_9 rfl rfl ?_
    refine rn_cV (M' := mX12_isParty) (n := 1) (av := [.inl a2]) (S := []) (rc := 0) (rs := 0) (mc := 0) (ms := 0) (a := 94) (ci := 11) (r := (RX12, TX12, 38)) dX12_pour_10 pa_X12_isParty (Nat.le_refl _) rfl (Nat.le_of_ble_eq_true rfl) ml_X12_174 im_X12_isParty se_X12_isParty rfl rfl rfl (Ev.mono V ?_)
    rintro v sh1 h6 ⟨rfl, Rh6, x7, rfl, V⟩
    show Rn G (d + 1) 0 0 mX12_pour 13 [(0, .inr (.inr (some 94))), (1, .inl a1), (2, .inl a2), (3, .inl a3)] [.inl x7] SH h6 (QI Q)
    refine rn_if_eq (tgt := 33) dX12_pour_13 (by decide) (fun c8 => ?_) (fun c8 => ?_)
    · replace V := V.1 c8
      refine rn_aload_n dX12_pour_33 rfl rfl ?_
      refine rn_iconst (v := 1) dX12_pour_34 (by decide) ?_
      refine rn_cV (M' := mX12_finds) (n := 1) (av := [.inl 1]) (S := []) (rc := 0) (rs := 0) (mc := 0) (ms := 0) (a := 94) (ci := 11) (r := (RX12, TX12, 38)) dX12_pour_35 pa_X12_finds (Nat.le_refl _) rfl (Nat.le_of_ble_eq_true rfl) ml_X12_143 im_X12_finds se_X12_finds rfl rfl rfl (Ev.mono V ?_)
      rintro v sh1 h9 ⟨rfl, Rh9, x10, rfl, V⟩
      show Rn G (d + 1) 0 0 mX12_pour 38 [(0, .inr (.inr (some 94))), (1, .inl a1), (2, .inl a2), (3, .inl a3)] [.inl x10] SH h9 (QI Q)
      exact rn_iret dX12_pour_38 rfl ⟨rfl, Rh9, _, rfl, V⟩
    · replace V := V.2 c8
      refine rn_iload_n dX12_pour_16 rfl rfl ?_
      refine rn_iload_n dX12_pour_17 rfl rfl ?_
      refine rn_icmp_eq (tgt := 33) dX12_pour_18 (by decide) (fun c11 => ?_) (fun c11 => ?_)
      · replace V := V.1 c11
        refine rn_aload_n dX12_pour_33 rfl rfl ?_
        refine rn_iconst (v := 1) dX12_pour_34 (by decide) ?_
        refine rn_cV (M' := mX12_finds) (n := 1) (av := [.inl 1]) (S := []) (rc := 0) (rs := 0) (mc := 0) (ms := 0) (a := 94) (ci := 11) (r := (RX12, TX12, 38)) dX12_pour_35 pa_X12_finds (Nat.le_refl _) rfl (Nat.le_of_ble_eq_true rfl) ml_X12_143 im_X12_finds se_X12_finds rfl rfl rfl (Ev.mono V ?_)
        rintro v sh1 h12 ⟨rfl, Rh12, x13, rfl, V⟩
        show Rn G (d + 1) 0 0 mX12_pour 38 [(0, .inr (.inr (some 94))), (1, .inl a1), (2, .inl a2), (3, .inl a3)] [.inl x13] SH h12 (QI Q)
        exact rn_iret dX12_pour_38 rfl ⟨rfl, Rh12, _, rfl, V⟩
      · replace V := V.2 c11
        refine rn_iload_n dX12_pour_21 rfl rfl ?_
        refine rn_i2l dX12_pour_22 ?_
        refine rn_lconst (v := 1) dX12_pour_23 rfl ?_
        refine rn_ldc2 (v := 999) dX12_pour_24 cw_X12_155 ?_
        refine rn_cS (M' := mX12_in) (n := 3) (av := [.inr (.inl (Int32.toInt64 a3)), .inr (.inl 1), .inr (.inl 999)]) (S := []) (rc := 0) (rs := 0) (mc := 0) (ms := 0) dX12_pour_27 pa_X12_in (Nat.le_refl _) rfl (Nat.le_of_ble_eq_true rfl) ml_X12_80 ss_X12_in rfl (Ev.mono V ?_)
        rintro v sh1 h14 ⟨rfl, Rh14, x15, rfl, V⟩
        show Rn G (d + 1) 0 0 mX12_pour 30 [(0, .inr (.inr (some 94))), (1, .inl a1), (2, .inl a2), (3, .inl a3)] [.inl x15] SH h14 (QI Q)
        refine rn_if_ne (tgt := 39) dX12_pour_30 (by decide) (fun c16 => ?_) (fun c16 => ?_)
        · replace V := V.1 c16
          refine rn_aload_n dX12_pour_39 rfl rfl ?_
          refine rn_iload_n dX12_pour_40 rfl rfl ?_
          refine rn_iconst (v := 3) dX12_pour_41 (by decide) ?_
          refine rn_cV (M' := mX12_of) (n := 2) (av := [.inl a1, .inl 3]) (S := []) (rc := 0) (rs := 0) (mc := 0) (ms := 0) (a := 94) (ci := 11) (r := (RX12, TX12, 38)) dX12_pour_42 pa_X12_of (Nat.le_refl _) rfl (Nat.le_of_ble_eq_true rfl) ml_X12_161 im_X12_of se_X12_of rfl rfl rfl (Ev.mono V ?_)
          rintro v sh1 h17 ⟨rfl, Rh17, x18, rfl, V⟩
          show Rn G (d + 1) 0 0 mX12_pour 45 [(0, .inr (.inr (some 94))), (1, .inl a1), (2, .inl a2), (3, .inl a3)] [.inl x18] SH h17 (QI Q)
          refine rn_iload_n dX12_pour_45 rfl rfl ?_
          refine rn_icmp_ge (tgt := 55) dX12_pour_46 (by decide) (fun c19 => ?_) (fun c19 => ?_)
          · replace V := V.1 c19
            refine rn_aload_n dX12_pour_55 rfl rfl ?_
            refine rn_iload_n dX12_pour_56 rfl rfl ?_
            refine rn_iconst (v := 3) dX12_pour_57 (by decide) ?_
            refine rn_cV (M' := mX12_of) (n := 2) (av := [.inl a2, .inl 3]) (S := []) (rc := 0) (rs := 0) (mc := 0) (ms := 0) (a := 94) (ci := 11) (r := (RX12, TX12, 38)) dX12_pour_58 pa_X12_of (Nat.le_refl _) rfl (Nat.le_of_ble_eq_true rfl) ml_X12_161 im_X12_of se_X12_of rfl rfl rfl (Ev.mono V ?_)
            rintro v sh1 h20 ⟨rfl, Rh20, x21, rfl, V⟩
            show Rn G (d + 1) 0 0 mX12_pour 61 [(0, .inr (.inr (some 94))), (1, .inl a1), (2, .inl a2), (3, .inl a3)] [.inl x21] SH h20 (QI Q)
            refine rn_iload_n dX12_pour_61 rfl rfl ?_
            refine rn_iadd dX12_pour_62 ?_
            refine rn_aload_n dX12_pour_63 rfl rfl ?_
            refine rn_iload_n dX12_pour_64 rfl rfl ?_
            refine rn_iconst (v := 2) dX12_pour_65 (by decide) ?_
            refine rn_cV (M' := mX12_of) (n := 2) (av := [.inl a2, .inl 2]) (S := [.inl (x21 + a3)]) (rc := 0) (rs := 0) (mc := 0) (ms := 0) (a := 94) (ci := 11) (r := (RX12, TX12, 38)) dX12_pour_66 pa_X12_of (Nat.le_refl _) rfl (Nat.le_of_ble_eq_true rfl) ml_X12_161 im_X12_of se_X12_of rfl rfl rfl (Ev.mono V ?_)
            rintro v sh1 h22 ⟨rfl, Rh22, x23, rfl, V⟩
            show Rn G (d + 1) 0 0 mX12_pour 69 [(0, .inr (.inr (some 94))), (1, .inl a1), (2, .inl a2), (3, .inl a3)] [.inl x23, .inl (x21 + a3)] SH h22 (QI Q)
            refine rn_icmp_le (tgt := 78) dX12_pour_69 (by decide) (fun c24 => ?_) (fun c24 => ?_)
            · replace V := V.1 c24
              refine rn_aload_n dX12_pour_78 rfl rfl ?_
              refine rn_iload_n dX12_pour_79 rfl rfl ?_
              refine rn_iconst (v := 3) dX12_pour_80 (by decide) ?_
              refine rn_aload_n dX12_pour_81 rfl rfl ?_
              refine rn_iload_n dX12_pour_82 rfl rfl ?_
              refine rn_iconst (v := 3) dX12_pour_83 (by decide) ?_
              refine rn_cV (M' := mX12_of) (n := 2) (av := [.inl a2, .inl 3]) (S := [.inl 3, .inl a2, .inr (.inr (some 94))]) (rc := 0) (rs := 0) (mc := 0) (ms := 0) (a := 94) (ci := 11) (r := (RX12, TX12, 38)) dX12_pour_84 pa_X12_of (Nat.le_refl _) rfl (Nat.le_of_ble_eq_true rfl) ml_X12_161 im_X12_of se_X12_of rfl rfl rfl (Ev.mono V ?_)
              rintro v sh1 h25 ⟨rfl, Rh25, x26, rfl, V⟩
              show Rn G (d + 1) 0 0 mX12_pour 87 [(0, .inr (.inr (some 94))), (1, .inl a1), (2, .inl a2), (3, .inl a3)] [.inl x26, .inl 3, .inl a2, .inr (.inr (some 94))] SH h25 (QI Q)
              refine rn_aload_n dX12_pour_87 rfl rfl ?_
              refine rn_iload_n dX12_pour_88 rfl rfl ?_
              refine rn_iload_n dX12_pour_89 rfl rfl ?_
              refine rn_cV (M' := mX12_loses) (n := 2) (av := [.inl a1, .inl a3]) (S := [.inl x26, .inl 3, .inl a2, .inr (.inr (some 94))]) (rc := 0) (rs := 0) (mc := 0) (ms := 0) (a := 94) (ci := 11) (r := (RX12, TX12, 38)) dX12_pour_90 pa_X12_loses (Nat.le_refl _) rfl (Nat.le_of_ble_eq_true rfl) ml_X12_210 im_X12_loses se_X12_loses rfl rfl rfl (Ev.mono V ?_)
              rintro v sh1 h27 ⟨rfl, Rh27, x28, rfl, V⟩
              show Rn G (d + 1) 0 0 mX12_pour 93 [(0, .inr (.inr (some 94))), (1, .inl a1), (2, .inl a2), (3, .inl a3)] [.inl x28, .inl x26, .inl 3, .inl a2, .inr (.inr (some 94))] SH h27 (QI Q)
              refine rn_iadd dX12_pour_93 ?_
              refine rn_cV (M' := mX12_sets) (n := 3) (av := [.inl a2, .inl 3, .inl (x26 + x28)]) (S := []) (rc := 0) (rs := 0) (mc := 0) (ms := 0) (a := 94) (ci := 11) (r := (RX12, TX12, 38)) dX12_pour_94 pa_X12_sets (Nat.le_refl _) rfl (Nat.le_of_ble_eq_true rfl) ml_X12_167 im_X12_sets se_X12_sets rfl rfl rfl (Ev.mono V ?_)
              rintro v sh1 h29 ⟨rfl, Rh29, rfl, V⟩
              show Rn G (d + 1) 0 0 mX12_pour 97 [(0, .inr (.inr (some 94))), (1, .inl a1), (2, .inl a2), (3, .inl a3)] [] SH h29 (QI Q)
              refine rn_aload_n dX12_pour_97 rfl rfl ?_
              refine rn_iload_n dX12_pour_98 rfl rfl ?_
              refine rn_iconst (v := 3) dX12_pour_99 (by decide) ?_
              refine rn_cV (M' := mX12_of) (n := 2) (av := [.inl a2, .inl 3]) (S := []) (rc := 0) (rs := 0) (mc := 0) (ms := 0) (a := 94) (ci := 11) (r := (RX12, TX12, 38)) dX12_pour_100 pa_X12_of (Nat.le_refl _) rfl (Nat.le_of_ble_eq_true rfl) ml_X12_161 im_X12_of se_X12_of rfl rfl rfl (Ev.mono V ?_)
              rintro v sh1 h30 ⟨rfl, Rh30, x31, rfl, V⟩
              show Rn G (d + 1) 0 0 mX12_pour 103 [(0, .inr (.inr (some 94))), (1, .inl a1), (2, .inl a2), (3, .inl a3)] [.inl x31] SH h30 (QI Q)
              exact rn_iret dX12_pour_103 rfl ⟨rfl, Rh30, _, rfl, V⟩
            · replace V := V.2 c24
              refine rn_aload_n dX12_pour_72 rfl rfl ?_
              refine rn_iconst (v := 4) dX12_pour_73 (by decide) ?_
              refine rn_cV (M' := mX12_finds) (n := 1) (av := [.inl 4]) (S := []) (rc := 0) (rs := 0) (mc := 0) (ms := 0) (a := 94) (ci := 11) (r := (RX12, TX12, 38)) dX12_pour_74 pa_X12_finds (Nat.le_refl _) rfl (Nat.le_of_ble_eq_true rfl) ml_X12_143 im_X12_finds se_X12_finds rfl rfl rfl (Ev.mono V ?_)
              rintro v sh1 h32 ⟨rfl, Rh32, x33, rfl, V⟩
              show Rn G (d + 1) 0 0 mX12_pour 77 [(0, .inr (.inr (some 94))), (1, .inl a1), (2, .inl a2), (3, .inl a3)] [.inl x33] SH h32 (QI Q)
              exact rn_iret dX12_pour_77 rfl ⟨rfl, Rh32, _, rfl, V⟩
          · replace V := V.2 c19
            refine rn_aload_n dX12_pour_49 rfl rfl ?_
            refine rn_iconst (v := 3) dX12_pour_50 (by decide) ?_
            refine rn_cV (M' := mX12_finds) (n := 1) (av := [.inl 3]) (S := []) (rc := 0) (rs := 0) (mc := 0) (ms := 0) (a := 94) (ci := 11) (r := (RX12, TX12, 38)) dX12_pour_51 pa_X12_finds (Nat.le_refl _) rfl (Nat.le_of_ble_eq_true rfl) ml_X12_143 im_X12_finds se_X12_finds rfl rfl rfl (Ev.mono V ?_)
            rintro v sh1 h34 ⟨rfl, Rh34, x35, rfl, V⟩
            show Rn G (d + 1) 0 0 mX12_pour 54 [(0, .inr (.inr (some 94))), (1, .inl a1), (2, .inl a2), (3, .inl a3)] [.inl x35] SH h34 (QI Q)
            exact rn_iret dX12_pour_54 rfl ⟨rfl, Rh34, _, rfl, V⟩
        · replace V := V.2 c16
          refine rn_aload_n dX12_pour_33 rfl rfl ?_
          refine rn_iconst (v := 1) dX12_pour_34 (by decide) ?_
          refine rn_cV (M' := mX12_finds) (n := 1) (av := [.inl 1]) (S := []) (rc := 0) (rs := 0) (mc := 0) (ms := 0) (a := 94) (ci := 11) (r := (RX12, TX12, 38)) dX12_pour_35 pa_X12_finds (Nat.le_refl _) rfl (Nat.le_of_ble_eq_true rfl) ml_X12_143 im_X12_finds se_X12_finds rfl rfl rfl (Ev.mono V ?_)
          rintro v sh1 h36 ⟨rfl, Rh36, x37, rfl, V⟩
          show Rn G (d + 1) 0 0 mX12_pour 38 [(0, .inr (.inr (some 94))), (1, .inl a1), (2, .inl a2), (3, .inl a3)] [.inl x37] SH h36 (QI Q)
          exact rn_iret dX12_pour_38 rfl ⟨rfl, Rh36, _, rfl, V⟩
set_option maxRecDepth 100000 in
set_option maxHeartbeats 4000000 in
theorem vc_X12_speaks {G : GT} {d : Nat}   {h : Hp} {Q : Int32 → Hp → Prop} (hR : RF h) (V : ((¬ h.1 95 6 = 0 → EvI G d mX12_its [.inr (.inr (some 94)), .inl (h.1 95 6 - 1), .inl 0] h (fun x3 h2 => Q x3 h2)) ∧ (h.1 95 6 = 0 → Q (-1) h))) : EvI G (d + 1) mX12_speaks [.inr (.inr (some 94))] h Q := by
  refine Ev.of rfl (fun _ => Nat.le_of_ble_eq_true rfl) ?_
  show Rn G (d + 1) 0 0 mX12_speaks 0 [(0, .inr (.inr (some 94)))] [] SH h (QI Q)
  refine rn_aload_n dX12_speaks_0 rfl rfl ?_
  refine rn_get (v := .inr (.inr (some 95))) dX12_speaks_1 fl_X12_7 rfl rfl (congrArg (fun z => (Sum.inr (Sum.inr z) : MV)) (rf_94_0 hR)) ?_
  refine rn_bipush (v := 6) dX12_speaks_4 (by decide) ?_
  refine rn_iald (k := 6) dX12_speaks_6 rfl (by decide) (by unfold vp_in; decide) ?_
  refine rn_if_ne (tgt := 14) dX12_speaks_7 (by decide) (fun c1 => ?_) (fun c1 => ?_)
  · replace V := V.1 c1
    refine rn_aload_n dX12_speaks_14 rfl rfl ?_
    refine rn_aload_n dX12_speaks_15 rfl rfl ?_
    refine rn_get (v := .inr (.inr (some 95))) dX12_speaks_16 fl_X12_7 rfl rfl (congrArg (fun z => (Sum.inr (Sum.inr z) : MV)) (rf_94_0 hR)) ?_
    refine rn_bipush (v := 6) dX12_speaks_19 (by decide) ?_
    refine rn_iald (k := 6) dX12_speaks_21 rfl (by decide) (by unfold vp_in; decide) ?_
    refine rn_iconst (v := 1) dX12_speaks_22 (by decide) ?_
    refine rn_isub dX12_speaks_23 ?_
    refine rn_iconst (v := 0) dX12_speaks_24 (by decide) ?_
    refine rn_cV (M' := mX12_its) (n := 2) (av := [.inl (h.1 95 6 - 1), .inl 0]) (S := []) (rc := 0) (rs := 0) (mc := 0) (ms := 0) (a := 94) (ci := 11) (r := (RX12, TX12, 38)) dX12_speaks_25 pa_X12_its (Nat.le_refl _) rfl (Nat.le_of_ble_eq_true rfl) ml_X12_171 im_X12_its se_X12_its rfl rfl rfl (Ev.mono V ?_)
    rintro v sh1 h2 ⟨rfl, Rh2, x3, rfl, V⟩
    show Rn G (d + 1) 0 0 mX12_speaks 28 [(0, .inr (.inr (some 94)))] [.inl x3] SH h2 (QI Q)
    exact rn_iret dX12_speaks_28 rfl ⟨rfl, Rh2, _, rfl, V⟩
  · replace V := V.2 c1
    refine rn_iconst (v := (-1)) dX12_speaks_10 (by decide) ?_
    refine rn_goto (tgt := 28) dX12_speaks_11 (by decide) ?_
    exact rn_iret dX12_speaks_28 rfl ⟨rfl, hR, _, rfl, V⟩
set_option maxRecDepth 100000 in
set_option maxHeartbeats 4000000 in
theorem vc_X12_object {G : GT} {d : Nat} {a1 : Int32} {a2 : Int32}  {h : Hp} {Q : Int32 → Hp → Prop} (hR : RF h) (V : EvI G d mX12_isParty [.inr (.inr (some 94)), .inl a1] h (fun x2 h1 => ((x2 = 0 → EvI G d mX12_finds [.inr (.inr (some 94)), .inl 1] h1 (fun x5 h4 => Q x5 h4)) ∧ (¬ x2 = 0 → EvI G d mX12_in [.inr (.inl (Int32.toInt64 a2)), .inr (.inl 1), .inr (.inl 99)] h1 (fun x7 h6 => ((¬ x7 = 0 → EvI G d mX12_speaks [.inr (.inr (some 94))] h6 (fun x10 h9 => ((x10 < 0 → EvI G d mX12_finds [.inr (.inr (some 94)), .inl 3] h9 (fun x13 h12 => Q x13 h12)) ∧ (¬ x10 < 0 → ((x10 = a1 → EvI G d mX12_finds [.inr (.inr (some 94)), .inl 3] h9 (fun x16 h15 => Q x16 h15)) ∧ (¬ x10 = a1 → EvI G d mX12_of [.inr (.inr (some 94)), .inl a1, .inl 3] h9 (fun x18 h17 => ((a2 ≤ x18 → EvI G d mX12_loses [.inr (.inr (some 94)), .inl a1, .inl a2] h17 (fun x21 h20 => EvV G d mX12_spills [.inr (.inr (some 94)), .inl x21] h20 (fun h22 => EvI G d mX12_loses [.inr (.inr (some 94)), .inl x10, .inl (2 * a2)] h22 (fun x24 h23 => EvV G d mX12_spills [.inr (.inr (some 94)), .inl x24] h23 (fun h25 => EvI G d mX12_of [.inr (.inr (some 94)), .inl x10, .inl 3] h25 (fun x27 h26 => Q x27 h26)))))) ∧ (¬ a2 ≤ x18 → EvI G d mX12_finds [.inr (.inr (some 94)), .inl 3] h17 (fun x29 h28 => Q x29 h28)))))))))) ∧ (x7 = 0 → EvI G d mX12_finds [.inr (.inr (some 94)), .inl 1] h6 (fun x31 h30 => Q x31 h30)))))))) : EvI G (d + 1) mX12_object [.inr (.inr (some 94)), .inl a1, .inl a2] h Q := by
  refine Ev.of rfl (fun _ => Nat.le_of_ble_eq_true rfl) ?_
  show Rn G (d + 1) 0 0 mX12_object 0 [(0, .inr (.inr (some 94))), (1, .inl a1), (2, .inl a2)] [] SH h (QI Q)
  refine rn_aload_n dX12_object_0 rfl rfl ?_
  refine rn_iload_n dX12_object_1 rfl rfl ?_
  refine rn_cV (M' := mX12_isParty) (n := 1) (av := [.inl a1]) (S := []) (rc := 0) (rs := 0) (mc := 0) (ms := 0) (a := 94) (ci := 11) (r := (RX12, TX12, 38)) dX12_object_2 pa_X12_isParty (Nat.le_refl _) rfl (Nat.le_of_ble_eq_true rfl) ml_X12_174 im_X12_isParty se_X12_isParty rfl rfl rfl (Ev.mono V ?_)
  rintro v sh1 h1 ⟨rfl, Rh1, x2, rfl, V⟩
  show Rn G (d + 1) 0 0 mX12_object 5 [(0, .inr (.inr (some 94))), (1, .inl a1), (2, .inl a2)] [.inl x2] SH h1 (QI Q)
  refine rn_if_eq (tgt := 20) dX12_object_5 (by decide) (fun c3 => ?_) (fun c3 => ?_)
  · replace V := V.1 c3
    refine rn_aload_n dX12_object_20 rfl rfl ?_
    refine rn_iconst (v := 1) dX12_object_21 (by decide) ?_
    refine rn_cV (M' := mX12_finds) (n := 1) (av := [.inl 1]) (S := []) (rc := 0) (rs := 0) (mc := 0) (ms := 0) (a := 94) (ci := 11) (r := (RX12, TX12, 38)) dX12_object_22 pa_X12_finds (Nat.le_refl _) rfl (Nat.le_of_ble_eq_true rfl) ml_X12_143 im_X12_finds se_X12_finds rfl rfl rfl (Ev.mono V ?_)
    rintro v sh1 h4 ⟨rfl, Rh4, x5, rfl, V⟩
    show Rn G (d + 1) 0 0 mX12_object 25 [(0, .inr (.inr (some 94))), (1, .inl a1), (2, .inl a2)] [.inl x5] SH h4 (QI Q)
    exact rn_iret dX12_object_25 rfl ⟨rfl, Rh4, _, rfl, V⟩
  · replace V := V.2 c3
    refine rn_iload_n dX12_object_8 rfl rfl ?_
    refine rn_i2l dX12_object_9 ?_
    refine rn_lconst (v := 1) dX12_object_10 rfl ?_
    refine rn_ldc2 (v := 99) dX12_object_11 cw_X12_195 ?_
    refine rn_cS (M' := mX12_in) (n := 3) (av := [.inr (.inl (Int32.toInt64 a2)), .inr (.inl 1), .inr (.inl 99)]) (S := []) (rc := 0) (rs := 0) (mc := 0) (ms := 0) dX12_object_14 pa_X12_in (Nat.le_refl _) rfl (Nat.le_of_ble_eq_true rfl) ml_X12_80 ss_X12_in rfl (Ev.mono V ?_)
    rintro v sh1 h6 ⟨rfl, Rh6, x7, rfl, V⟩
    show Rn G (d + 1) 0 0 mX12_object 17 [(0, .inr (.inr (some 94))), (1, .inl a1), (2, .inl a2)] [.inl x7] SH h6 (QI Q)
    refine rn_if_ne (tgt := 26) dX12_object_17 (by decide) (fun c8 => ?_) (fun c8 => ?_)
    · replace V := V.1 c8
      refine rn_aload_n dX12_object_26 rfl rfl ?_
      refine rn_cV (M' := mX12_speaks) (n := 0) (av := []) (S := []) (rc := 0) (rs := 0) (mc := 0) (ms := 0) (a := 94) (ci := 11) (r := (RX12, TX12, 38)) dX12_object_27 pa_X12_speaks (Nat.le_refl _) rfl (Nat.le_of_ble_eq_true rfl) ml_X12_213 im_X12_speaks se_X12_speaks rfl rfl rfl (Ev.mono V ?_)
      rintro v sh1 h9 ⟨rfl, Rh9, x10, rfl, V⟩
      show Rn G (d + 1) 0 0 mX12_object 30 [(0, .inr (.inr (some 94))), (1, .inl a1), (2, .inl a2)] [.inl x10] SH h9 (QI Q)
      refine rn_istore_n (L' := [(3, .inl x10), (0, .inr (.inr (some 94))), (1, .inl a1), (2, .inl a2)]) dX12_object_30 rfl (Nat.le_of_ble_eq_true rfl) rfl ?_
      refine rn_iload_n dX12_object_31 rfl rfl ?_
      refine rn_if_lt (tgt := 50) dX12_object_32 (by decide) (fun c11 => ?_) (fun c11 => ?_)
      · replace V := V.1 c11
        refine rn_aload_n dX12_object_50 rfl rfl ?_
        refine rn_iconst (v := 3) dX12_object_51 (by decide) ?_
        refine rn_cV (M' := mX12_finds) (n := 1) (av := [.inl 3]) (S := []) (rc := 0) (rs := 0) (mc := 0) (ms := 0) (a := 94) (ci := 11) (r := (RX12, TX12, 38)) dX12_object_52 pa_X12_finds (Nat.le_refl _) rfl (Nat.le_of_ble_eq_true rfl) ml_X12_143 im_X12_finds se_X12_finds rfl rfl rfl (Ev.mono V ?_)
        rintro v sh1 h12 ⟨rfl, Rh12, x13, rfl, V⟩
        show Rn G (d + 1) 0 0 mX12_object 55 [(3, .inl x10), (0, .inr (.inr (some 94))), (1, .inl a1), (2, .inl a2)] [.inl x13] SH h12 (QI Q)
        exact rn_iret dX12_object_55 rfl ⟨rfl, Rh12, _, rfl, V⟩
      · replace V := V.2 c11
        refine rn_iload_n dX12_object_35 rfl rfl ?_
        refine rn_iload_n dX12_object_36 rfl rfl ?_
        refine rn_icmp_eq (tgt := 50) dX12_object_37 (by decide) (fun c14 => ?_) (fun c14 => ?_)
        · replace V := V.1 c14
          refine rn_aload_n dX12_object_50 rfl rfl ?_
          refine rn_iconst (v := 3) dX12_object_51 (by decide) ?_
          refine rn_cV (M' := mX12_finds) (n := 1) (av := [.inl 3]) (S := []) (rc := 0) (rs := 0) (mc := 0) (ms := 0) (a := 94) (ci := 11) (r := (RX12, TX12, 38)) dX12_object_52 pa_X12_finds (Nat.le_refl _) rfl (Nat.le_of_ble_eq_true rfl) ml_X12_143 im_X12_finds se_X12_finds rfl rfl rfl (Ev.mono V ?_)
          rintro v sh1 h15 ⟨rfl, Rh15, x16, rfl, V⟩
          show Rn G (d + 1) 0 0 mX12_object 55 [(3, .inl x10), (0, .inr (.inr (some 94))), (1, .inl a1), (2, .inl a2)] [.inl x16] SH h15 (QI Q)
          exact rn_iret dX12_object_55 rfl ⟨rfl, Rh15, _, rfl, V⟩
        · replace V := V.2 c14
          refine rn_aload_n dX12_object_40 rfl rfl ?_
          refine rn_iload_n dX12_object_41 rfl rfl ?_
          refine rn_iconst (v := 3) dX12_object_42 (by decide) ?_
          refine rn_cV (M' := mX12_of) (n := 2) (av := [.inl a1, .inl 3]) (S := []) (rc := 0) (rs := 0) (mc := 0) (ms := 0) (a := 94) (ci := 11) (r := (RX12, TX12, 38)) dX12_object_43 pa_X12_of (Nat.le_refl _) rfl (Nat.le_of_ble_eq_true rfl) ml_X12_161 im_X12_of se_X12_of rfl rfl rfl (Ev.mono V ?_)
          rintro v sh1 h17 ⟨rfl, Rh17, x18, rfl, V⟩
          show Rn G (d + 1) 0 0 mX12_object 46 [(3, .inl x10), (0, .inr (.inr (some 94))), (1, .inl a1), (2, .inl a2)] [.inl x18] SH h17 (QI Q)
          refine rn_iload_n dX12_object_46 rfl rfl ?_
          refine rn_icmp_ge (tgt := 56) dX12_object_47 (by decide) (fun c19 => ?_) (fun c19 => ?_)
          · replace V := V.1 c19
            refine rn_aload_n dX12_object_56 rfl rfl ?_
            refine rn_aload_n dX12_object_57 rfl rfl ?_
            refine rn_iload_n dX12_object_58 rfl rfl ?_
            refine rn_iload_n dX12_object_59 rfl rfl ?_
            refine rn_cV (M' := mX12_loses) (n := 2) (av := [.inl a1, .inl a2]) (S := [.inr (.inr (some 94))]) (rc := 0) (rs := 0) (mc := 0) (ms := 0) (a := 94) (ci := 11) (r := (RX12, TX12, 38)) dX12_object_60 pa_X12_loses (Nat.le_refl _) rfl (Nat.le_of_ble_eq_true rfl) ml_X12_210 im_X12_loses se_X12_loses rfl rfl rfl (Ev.mono V ?_)
            rintro v sh1 h20 ⟨rfl, Rh20, x21, rfl, V⟩
            show Rn G (d + 1) 0 0 mX12_object 63 [(3, .inl x10), (0, .inr (.inr (some 94))), (1, .inl a1), (2, .inl a2)] [.inl x21, .inr (.inr (some 94))] SH h20 (QI Q)
            refine rn_cV (M' := mX12_spills) (n := 1) (av := [.inl x21]) (S := []) (rc := 0) (rs := 0) (mc := 0) (ms := 0) (a := 94) (ci := 11) (r := (RX12, TX12, 38)) dX12_object_63 pa_X12_spills (Nat.le_refl _) rfl (Nat.le_of_ble_eq_true rfl) ml_X12_216 im_X12_spills se_X12_spills rfl rfl rfl (Ev.mono V ?_)
            rintro v sh1 h22 ⟨rfl, Rh22, rfl, V⟩
            show Rn G (d + 1) 0 0 mX12_object 66 [(3, .inl x10), (0, .inr (.inr (some 94))), (1, .inl a1), (2, .inl a2)] [] SH h22 (QI Q)
            refine rn_aload_n dX12_object_66 rfl rfl ?_
            refine rn_aload_n dX12_object_67 rfl rfl ?_
            refine rn_iload_n dX12_object_68 rfl rfl ?_
            refine rn_iconst (v := 2) dX12_object_69 (by decide) ?_
            refine rn_iload_n dX12_object_70 rfl rfl ?_
            refine rn_imul dX12_object_71 ?_
            refine rn_cV (M' := mX12_loses) (n := 2) (av := [.inl x10, .inl (2 * a2)]) (S := [.inr (.inr (some 94))]) (rc := 0) (rs := 0) (mc := 0) (ms := 0) (a := 94) (ci := 11) (r := (RX12, TX12, 38)) dX12_object_72 pa_X12_loses (Nat.le_refl _) rfl (Nat.le_of_ble_eq_true rfl) ml_X12_210 im_X12_loses se_X12_loses rfl rfl rfl (Ev.mono V ?_)
            rintro v sh1 h23 ⟨rfl, Rh23, x24, rfl, V⟩
            show Rn G (d + 1) 0 0 mX12_object 75 [(3, .inl x10), (0, .inr (.inr (some 94))), (1, .inl a1), (2, .inl a2)] [.inl x24, .inr (.inr (some 94))] SH h23 (QI Q)
            refine rn_cV (M' := mX12_spills) (n := 1) (av := [.inl x24]) (S := []) (rc := 0) (rs := 0) (mc := 0) (ms := 0) (a := 94) (ci := 11) (r := (RX12, TX12, 38)) dX12_object_75 pa_X12_spills (Nat.le_refl _) rfl (Nat.le_of_ble_eq_true rfl) ml_X12_216 im_X12_spills se_X12_spills rfl rfl rfl (Ev.mono V ?_)
            rintro v sh1 h25 ⟨rfl, Rh25, rfl, V⟩
            show Rn G (d + 1) 0 0 mX12_object 78 [(3, .inl x10), (0, .inr (.inr (some 94))), (1, .inl a1), (2, .inl a2)] [] SH h25 (QI Q)
            refine rn_aload_n dX12_object_78 rfl rfl ?_
            refine rn_iload_n dX12_object_79 rfl rfl ?_
            refine rn_iconst (v := 3) dX12_object_80 (by decide) ?_
            refine rn_cV (M' := mX12_of) (n := 2) (av := [.inl x10, .inl 3]) (S := []) (rc := 0) (rs := 0) (mc := 0) (ms := 0) (a := 94) (ci := 11) (r := (RX12, TX12, 38)) dX12_object_81 pa_X12_of (Nat.le_refl _) rfl (Nat.le_of_ble_eq_true rfl) ml_X12_161 im_X12_of se_X12_of rfl rfl rfl (Ev.mono V ?_)
            rintro v sh1 h26 ⟨rfl, Rh26, x27, rfl, V⟩
            show Rn G (d + 1) 0 0 mX12_object 84 [(3, .inl x10), (0, .inr (.inr (some 94))), (1, .inl a1), (2, .inl a2)] [.inl x27] SH h26 (QI Q)
            exact rn_iret dX12_object_84 rfl ⟨rfl, Rh26, _, rfl, V⟩
          · replace V := V.2 c19
            refine rn_aload_n dX12_object_50 rfl rfl ?_
            refine rn_iconst (v := 3) dX12_object_51 (by decide) ?_
            refine rn_cV (M' := mX12_finds) (n := 1) (av := [.inl 3]) (S := []) (rc := 0) (rs := 0) (mc := 0) (ms := 0) (a := 94) (ci := 11) (r := (RX12, TX12, 38)) dX12_object_52 pa_X12_finds (Nat.le_refl _) rfl (Nat.le_of_ble_eq_true rfl) ml_X12_143 im_X12_finds se_X12_finds rfl rfl rfl (Ev.mono V ?_)
            rintro v sh1 h28 ⟨rfl, Rh28, x29, rfl, V⟩
            show Rn G (d + 1) 0 0 mX12_object 55 [(3, .inl x10), (0, .inr (.inr (some 94))), (1, .inl a1), (2, .inl a2)] [.inl x29] SH h28 (QI Q)
            exact rn_iret dX12_object_55 rfl ⟨rfl, Rh28, _, rfl, V⟩
    · replace V := V.2 c8
      refine rn_aload_n dX12_object_20 rfl rfl ?_
      refine rn_iconst (v := 1) dX12_object_21 (by decide) ?_
      refine rn_cV (M' := mX12_finds) (n := 1) (av := [.inl 1]) (S := []) (rc := 0) (rs := 0) (mc := 0) (ms := 0) (a := 94) (ci := 11) (r := (RX12, TX12, 38)) dX12_object_22 pa_X12_finds (Nat.le_refl _) rfl (Nat.le_of_ble_eq_true rfl) ml_X12_143 im_X12_finds se_X12_finds rfl rfl rfl (Ev.mono V ?_)
      rintro v sh1 h30 ⟨rfl, Rh30, x31, rfl, V⟩
      show Rn G (d + 1) 0 0 mX12_object 25 [(0, .inr (.inr (some 94))), (1, .inl a1), (2, .inl a2)] [.inl x31] SH h30 (QI Q)
      exact rn_iret dX12_object_25 rfl ⟨rfl, Rh30, _, rfl, V⟩
set_option maxRecDepth 100000 in
set_option maxHeartbeats 4000000 in
theorem vc_X12_thumb {G : GT} {d : Nat} {a1 : Int32}  {h : Hp} {Q : Int32 → Hp → Prop} (hR : RF h) (V : EvI G d mX12_in [.inr (.inl (Int32.toInt64 a1)), .inr (.inl 0), .inr (.inl 1)] h (fun x2 h1 => ((¬ x2 = 0 → Q (h1.1 95 5) (sI h1 95 5 a1)) ∧ (x2 = 0 → EvI G d mX12_finds [.inr (.inr (some 94)), .inl 1] h1 (fun x5 h4 => Q x5 h4))))) : EvI G (d + 1) mX12_thumb [.inr (.inr (some 94)), .inl a1] h Q := by
  refine Ev.of rfl (fun _ => Nat.le_of_ble_eq_true rfl) ?_
  show Rn G (d + 1) 0 0 mX12_thumb 0 [(0, .inr (.inr (some 94))), (1, .inl a1)] [] SH h (QI Q)
  refine rn_iload_n dX12_thumb_0 rfl rfl ?_
  refine rn_i2l dX12_thumb_1 ?_
  refine rn_lconst (v := 0) dX12_thumb_2 rfl ?_
  refine rn_lconst (v := 1) dX12_thumb_3 rfl ?_
  refine rn_cS (M' := mX12_in) (n := 3) (av := [.inr (.inl (Int32.toInt64 a1)), .inr (.inl 0), .inr (.inl 1)]) (S := []) (rc := 0) (rs := 0) (mc := 0) (ms := 0) dX12_thumb_4 pa_X12_in (Nat.le_refl _) rfl (Nat.le_of_ble_eq_true rfl) ml_X12_80 ss_X12_in rfl (Ev.mono V ?_)
  rintro v sh1 h1 ⟨rfl, Rh1, x2, rfl, V⟩
  show Rn G (d + 1) 0 0 mX12_thumb 7 [(0, .inr (.inr (some 94))), (1, .inl a1)] [.inl x2] SH h1 (QI Q)
  refine rn_if_ne (tgt := 16) dX12_thumb_7 (by decide) (fun c3 => ?_) (fun c3 => ?_)
  · replace V := V.1 c3
    refine rn_aload_n dX12_thumb_16 rfl rfl ?_
    refine rn_get (v := .inr (.inr (some 95))) dX12_thumb_17 fl_X12_7 rfl rfl (congrArg (fun z => (Sum.inr (Sum.inr z) : MV)) (rf_94_0 Rh1)) ?_
    refine rn_iconst (v := 5) dX12_thumb_20 (by decide) ?_
    refine rn_iald (k := 5) dX12_thumb_21 rfl (by decide) (by unfold vp_in; decide) ?_
    refine rn_istore_n (L' := [(2, .inl (h1.1 95 5)), (0, .inr (.inr (some 94))), (1, .inl a1)]) dX12_thumb_22 rfl (Nat.le_of_ble_eq_true rfl) rfl ?_
    refine rn_aload_n dX12_thumb_23 rfl rfl ?_
    refine rn_get (v := .inr (.inr (some 95))) dX12_thumb_24 fl_X12_7 rfl rfl (congrArg (fun z => (Sum.inr (Sum.inr z) : MV)) (rf_94_0 Rh1)) ?_
    refine rn_iconst (v := 5) dX12_thumb_27 (by decide) ?_
    refine rn_iload_n dX12_thumb_28 rfl rfl ?_
    refine rn_iast (k := 5) dX12_thumb_29 rfl (by decide) (by unfold vp_in; decide) ?_
    refine rn_iload_n dX12_thumb_30 rfl rfl ?_
    exact rn_iret dX12_thumb_31 rfl ⟨rfl, Rh1, _, rfl, V⟩
  · replace V := V.2 c3
    refine rn_aload_n dX12_thumb_10 rfl rfl ?_
    refine rn_iconst (v := 1) dX12_thumb_11 (by decide) ?_
    refine rn_cV (M' := mX12_finds) (n := 1) (av := [.inl 1]) (S := []) (rc := 0) (rs := 0) (mc := 0) (ms := 0) (a := 94) (ci := 11) (r := (RX12, TX12, 38)) dX12_thumb_12 pa_X12_finds (Nat.le_refl _) rfl (Nat.le_of_ble_eq_true rfl) ml_X12_143 im_X12_finds se_X12_finds rfl rfl rfl (Ev.mono V ?_)
    rintro v sh1 h4 ⟨rfl, Rh4, x5, rfl, V⟩
    show Rn G (d + 1) 0 0 mX12_thumb 15 [(0, .inr (.inr (some 94))), (1, .inl a1)] [.inl x5] SH h4 (QI Q)
    exact rn_iret dX12_thumb_15 rfl ⟨rfl, Rh4, _, rfl, V⟩
set_option maxRecDepth 100000 in
set_option maxHeartbeats 4000000 in
theorem vc_X12_isReady {G : GT} {d : Nat} {a1 : Int32}  {h : Hp} {Q : Int32 → Hp → Prop} (hR : RF h) (V : EvI G d mX12_its [.inr (.inr (some 94)), .inl a1, .inl 3] h (fun x2 h1 => EvI G d mX12_its [.inr (.inr (some 94)), .inl a1, .inl 4] h1 (fun x4 h3 => ((¬ x4 = 0 → Q 0 h3) ∧ (x4 = 0 → ((x2 < 0 → Q 1 h3) ∧ (¬ x2 < 0 → EvI G d mX12_its [.inr (.inr (some 94)), .inl x2, .inl 4] h3 (fun x8 h7 => ((¬ x8 = 1 → Q 0 h7) ∧ (x8 = 1 → Q 1 h7)))))))))) : EvI G (d + 1) mX12_isReady [.inr (.inr (some 94)), .inl a1] h Q := by
  refine Ev.of rfl (fun _ => Nat.le_of_ble_eq_true rfl) ?_
  show Rn G (d + 1) 0 0 mX12_isReady 0 [(0, .inr (.inr (some 94))), (1, .inl a1)] [] SH h (QI Q)
  refine rn_aload_n dX12_isReady_0 rfl rfl ?_
  refine rn_iload_n dX12_isReady_1 rfl rfl ?_
  refine rn_iconst (v := 3) dX12_isReady_2 (by decide) ?_
  refine rn_cV (M' := mX12_its) (n := 2) (av := [.inl a1, .inl 3]) (S := []) (rc := 0) (rs := 0) (mc := 0) (ms := 0) (a := 94) (ci := 11) (r := (RX12, TX12, 38)) dX12_isReady_3 pa_X12_its (Nat.le_refl _) rfl (Nat.le_of_ble_eq_true rfl) ml_X12_171 im_X12_its se_X12_its rfl rfl rfl (Ev.mono V ?_)
  rintro v sh1 h1 ⟨rfl, Rh1, x2, rfl, V⟩
  show Rn G (d + 1) 0 0 mX12_isReady 6 [(0, .inr (.inr (some 94))), (1, .inl a1)] [.inl x2] SH h1 (QI Q)
  refine rn_istore_n (L' := [(2, .inl x2), (0, .inr (.inr (some 94))), (1, .inl a1)]) dX12_isReady_6 rfl (Nat.le_of_ble_eq_true rfl) rfl ?_
  refine rn_aload_n dX12_isReady_7 rfl rfl ?_
  refine rn_iload_n dX12_isReady_8 rfl rfl ?_
  refine rn_iconst (v := 4) dX12_isReady_9 (by decide) ?_
  refine rn_cV (M' := mX12_its) (n := 2) (av := [.inl a1, .inl 4]) (S := []) (rc := 0) (rs := 0) (mc := 0) (ms := 0) (a := 94) (ci := 11) (r := (RX12, TX12, 38)) dX12_isReady_10 pa_X12_its (Nat.le_refl _) rfl (Nat.le_of_ble_eq_true rfl) ml_X12_171 im_X12_its se_X12_its rfl rfl rfl (Ev.mono V ?_)
  rintro v sh1 h3 ⟨rfl, Rh3, x4, rfl, V⟩
  show Rn G (d + 1) 0 0 mX12_isReady 13 [(2, .inl x2), (0, .inr (.inr (some 94))), (1, .inl a1)] [.inl x4] SH h3 (QI Q)
  refine rn_if_ne (tgt := 34) dX12_isReady_13 (by decide) (fun c5 => ?_) (fun c5 => ?_)
  · replace V := V.1 c5
    refine rn_iconst (v := 0) dX12_isReady_34 (by decide) ?_
    exact rn_zret dX12_isReady_35 rfl (by decide) ⟨rfl, Rh3, _, rfl, V⟩
  · replace V := V.2 c5
    refine rn_iload_n dX12_isReady_16 rfl rfl ?_
    refine rn_if_lt (tgt := 30) dX12_isReady_17 (by decide) (fun c6 => ?_) (fun c6 => ?_)
    · replace V := V.1 c6
      refine rn_iconst (v := 1) dX12_isReady_30 (by decide) ?_
      refine rn_goto (tgt := 35) dX12_isReady_31 (by decide) ?_
      exact rn_zret dX12_isReady_35 rfl (by decide) ⟨rfl, Rh3, _, rfl, V⟩
    · replace V := V.2 c6
      refine rn_aload_n dX12_isReady_20 rfl rfl ?_
      refine rn_iload_n dX12_isReady_21 rfl rfl ?_
      refine rn_iconst (v := 4) dX12_isReady_22 (by decide) ?_
      refine rn_cV (M' := mX12_its) (n := 2) (av := [.inl x2, .inl 4]) (S := []) (rc := 0) (rs := 0) (mc := 0) (ms := 0) (a := 94) (ci := 11) (r := (RX12, TX12, 38)) dX12_isReady_23 pa_X12_its (Nat.le_refl _) rfl (Nat.le_of_ble_eq_true rfl) ml_X12_171 im_X12_its se_X12_its rfl rfl rfl (Ev.mono V ?_)
      rintro v sh1 h7 ⟨rfl, Rh7, x8, rfl, V⟩
      show Rn G (d + 1) 0 0 mX12_isReady 26 [(2, .inl x2), (0, .inr (.inr (some 94))), (1, .inl a1)] [.inl x8] SH h7 (QI Q)
      refine rn_iconst (v := 1) dX12_isReady_26 (by decide) ?_
      refine rn_icmp_ne (tgt := 34) dX12_isReady_27 (by decide) (fun c9 => ?_) (fun c9 => ?_)
      · replace V := V.1 c9
        refine rn_iconst (v := 0) dX12_isReady_34 (by decide) ?_
        exact rn_zret dX12_isReady_35 rfl (by decide) ⟨rfl, Rh7, _, rfl, V⟩
      · replace V := V.2 c9
        refine rn_iconst (v := 1) dX12_isReady_30 (by decide) ?_
        refine rn_goto (tgt := 35) dX12_isReady_31 (by decide) ?_
        exact rn_zret dX12_isReady_35 rfl (by decide) ⟨rfl, Rh7, _, rfl, V⟩
set_option maxRecDepth 100000 in
set_option maxHeartbeats 4000000 in
theorem vc_X12_begins {G : GT} {d : Nat} {a1 : Int32}  {h : Hp} {Q : Hp → Prop} (hR : RF h) (V : EvI G d mX12_its [.inr (.inr (some 94)), .inl a1, .inl 1] (sI h 95 6 (a1 + 1)) (fun x2 h1 => Q (sI h1 95 7 x2))) : EvV G (d + 1) mX12_begins [.inr (.inr (some 94)), .inl a1] h Q := by
  refine Ev.of rfl (fun _ => Nat.le_of_ble_eq_true rfl) ?_
  show Rn G (d + 1) 0 0 mX12_begins 0 [(0, .inr (.inr (some 94))), (1, .inl a1)] [] SH h (QV Q)
  refine rn_aload_n dX12_begins_0 rfl rfl ?_
  refine rn_get (v := .inr (.inr (some 95))) dX12_begins_1 fl_X12_7 rfl rfl (congrArg (fun z => (Sum.inr (Sum.inr z) : MV)) (rf_94_0 hR)) ?_
  refine rn_bipush (v := 6) dX12_begins_4 (by decide) ?_
  refine rn_iload_n dX12_begins_6 rfl rfl ?_
  refine rn_iconst (v := 1) dX12_begins_7 (by decide) ?_
  refine rn_iadd dX12_begins_8 ?_
  refine rn_iast (k := 6) dX12_begins_9 rfl (by decide) (by unfold vp_in; decide) ?_
  refine rn_aload_n dX12_begins_10 rfl rfl ?_
  refine rn_get (v := .inr (.inr (some 95))) dX12_begins_11 fl_X12_7 rfl rfl (congrArg (fun z => (Sum.inr (Sum.inr z) : MV)) (rf_94_0 hR)) ?_
  refine rn_bipush (v := 7) dX12_begins_14 (by decide) ?_
  refine rn_aload_n dX12_begins_16 rfl rfl ?_
  refine rn_iload_n dX12_begins_17 rfl rfl ?_
  refine rn_iconst (v := 1) dX12_begins_18 (by decide) ?_
  refine rn_cV (M' := mX12_its) (n := 2) (av := [.inl a1, .inl 1]) (S := [.inl 7, .inr (.inr (some 95))]) (rc := 0) (rs := 0) (mc := 0) (ms := 0) (a := 94) (ci := 11) (r := (RX12, TX12, 38)) dX12_begins_19 pa_X12_its (Nat.le_refl _) rfl (Nat.le_of_ble_eq_true rfl) ml_X12_171 im_X12_its se_X12_its rfl rfl rfl (Ev.mono V ?_)
  rintro v sh1 h1 ⟨rfl, Rh1, x2, rfl, V⟩
  show Rn G (d + 1) 0 0 mX12_begins 22 [(0, .inr (.inr (some 94))), (1, .inl a1)] [.inl x2, .inl 7, .inr (.inr (some 95))] SH h1 (QV Q)
  refine rn_iast (k := 7) dX12_begins_22 rfl (by decide) (by unfold vp_in; decide) ?_
  exact rn_vret dX12_begins_23 rfl ⟨rfl, Rh1, rfl, V⟩
set_option maxRecDepth 100000 in
set_option maxHeartbeats 4000000 in
theorem vc_X12_ends {G : GT} {d : Nat} {a1 : Int32}  {h : Hp} {Q : Hp → Prop} (hR : RF h) (V : EvV G d mX12_puts [.inr (.inr (some 94)), .inl (h.1 95 6 - 1), .inl 4, .inl a1] h (fun h1 => Q (sI (sI h1 95 6 0) 95 7 0))) : EvV G (d + 1) mX12_ends [.inr (.inr (some 94)), .inl a1] h Q := by
  refine Ev.of rfl (fun _ => Nat.le_of_ble_eq_true rfl) ?_
  show Rn G (d + 1) 0 0 mX12_ends 0 [(0, .inr (.inr (some 94))), (1, .inl a1)] [] SH h (QV Q)
  refine rn_aload_n dX12_ends_0 rfl rfl ?_
  refine rn_aload_n dX12_ends_1 rfl rfl ?_
  refine rn_get (v := .inr (.inr (some 95))) dX12_ends_2 fl_X12_7 rfl rfl (congrArg (fun z => (Sum.inr (Sum.inr z) : MV)) (rf_94_0 hR)) ?_
  refine rn_bipush (v := 6) dX12_ends_5 (by decide) ?_
  refine rn_iald (k := 6) dX12_ends_7 rfl (by decide) (by unfold vp_in; decide) ?_
  refine rn_iconst (v := 1) dX12_ends_8 (by decide) ?_
  refine rn_isub dX12_ends_9 ?_
  refine rn_iconst (v := 4) dX12_ends_10 (by decide) ?_
  refine rn_iload_n dX12_ends_11 rfl rfl ?_
  refine rn_cV (M' := mX12_puts) (n := 3) (av := [.inl (h.1 95 6 - 1), .inl 4, .inl a1]) (S := []) (rc := 0) (rs := 0) (mc := 0) (ms := 0) (a := 94) (ci := 11) (r := (RX12, TX12, 38)) dX12_ends_12 pa_X12_puts (Nat.le_refl _) rfl (Nat.le_of_ble_eq_true rfl) ml_X12_199 im_X12_puts se_X12_puts rfl rfl rfl (Ev.mono V ?_)
  rintro v sh1 h1 ⟨rfl, Rh1, rfl, V⟩
  show Rn G (d + 1) 0 0 mX12_ends 15 [(0, .inr (.inr (some 94))), (1, .inl a1)] [] SH h1 (QV Q)
  refine rn_aload_n dX12_ends_15 rfl rfl ?_
  refine rn_get (v := .inr (.inr (some 95))) dX12_ends_16 fl_X12_7 rfl rfl (congrArg (fun z => (Sum.inr (Sum.inr z) : MV)) (rf_94_0 Rh1)) ?_
  refine rn_bipush (v := 6) dX12_ends_19 (by decide) ?_
  refine rn_iconst (v := 0) dX12_ends_21 (by decide) ?_
  refine rn_iast (k := 6) dX12_ends_22 rfl (by decide) (by unfold vp_in; decide) ?_
  refine rn_aload_n dX12_ends_23 rfl rfl ?_
  refine rn_get (v := .inr (.inr (some 95))) dX12_ends_24 fl_X12_7 rfl rfl (congrArg (fun z => (Sum.inr (Sum.inr z) : MV)) (rf_94_0 Rh1)) ?_
  refine rn_bipush (v := 7) dX12_ends_27 (by decide) ?_
  refine rn_iconst (v := 0) dX12_ends_29 (by decide) ?_
  refine rn_iast (k := 7) dX12_ends_30 rfl (by decide) (by unfold vp_in; decide) ?_
  exact rn_vret dX12_ends_31 rfl ⟨rfl, Rh1, rfl, V⟩
set_option maxRecDepth 100000 in
set_option maxHeartbeats 4000000 in
theorem vc_X12_say {G : GT} {d : Nat} {a1 : Int32}  {h : Hp} {Q : Int32 → Hp → Prop} (hR : RF h) (V : EvI G d mX12_isWord [.inr (.inr (some 94)), .inl a1] h (fun x2 h1 => ((¬ x2 = 0 → ((0 < h1.1 95 6 → EvI G d mX12_finds [.inr (.inr (some 94)), .inl 3] h1 (fun x6 h5 => Q x6 h5)) ∧ (¬ 0 < h1.1 95 6 → EvI G d mX12_isReady [.inr (.inr (some 94)), .inl a1] h1 (fun x8 h7 => ((¬ x8 = 0 → EvV G d mX12_begins [.inr (.inr (some 94)), .inl a1] h7 (fun h10 => Q (h10.1 95 7) h10)) ∧ (x8 = 0 → EvI G d mX12_finds [.inr (.inr (some 94)), .inl 3] h7 (fun x12 h11 => Q x12 h11))))))) ∧ (x2 = 0 → EvI G d mX12_finds [.inr (.inr (some 94)), .inl 1] h1 (fun x14 h13 => Q x14 h13))))) : EvI G (d + 1) mX12_say [.inr (.inr (some 94)), .inl a1] h Q := by
  refine Ev.of rfl (fun _ => Nat.le_of_ble_eq_true rfl) ?_
  show Rn G (d + 1) 0 0 mX12_say 0 [(0, .inr (.inr (some 94))), (1, .inl a1)] [] SH h (QI Q)
  refine rn_aload_n dX12_say_0 rfl rfl ?_
  refine rn_iload_n dX12_say_1 rfl rfl ?_
  refine rn_cV (M' := mX12_isWord) (n := 1) (av := [.inl a1]) (S := []) (rc := 0) (rs := 0) (mc := 0) (ms := 0) (a := 94) (ci := 11) (r := (RX12, TX12, 38)) dX12_say_2 pa_X12_isWord (Nat.le_refl _) rfl (Nat.le_of_ble_eq_true rfl) ml_X12_202 im_X12_isWord se_X12_isWord rfl rfl rfl (Ev.mono V ?_)
  rintro v sh1 h1 ⟨rfl, Rh1, x2, rfl, V⟩
  show Rn G (d + 1) 0 0 mX12_say 5 [(0, .inr (.inr (some 94))), (1, .inl a1)] [.inl x2] SH h1 (QI Q)
  refine rn_if_ne (tgt := 14) dX12_say_5 (by decide) (fun c3 => ?_) (fun c3 => ?_)
  · replace V := V.1 c3
    refine rn_aload_n dX12_say_14 rfl rfl ?_
    refine rn_get (v := .inr (.inr (some 95))) dX12_say_15 fl_X12_7 rfl rfl (congrArg (fun z => (Sum.inr (Sum.inr z) : MV)) (rf_94_0 Rh1)) ?_
    refine rn_bipush (v := 6) dX12_say_18 (by decide) ?_
    refine rn_iald (k := 6) dX12_say_20 rfl (by decide) (by unfold vp_in; decide) ?_
    refine rn_if_gt (tgt := 32) dX12_say_21 (by decide) (fun c4 => ?_) (fun c4 => ?_)
    · replace V := V.1 c4
      refine rn_aload_n dX12_say_32 rfl rfl ?_
      refine rn_iconst (v := 3) dX12_say_33 (by decide) ?_
      refine rn_cV (M' := mX12_finds) (n := 1) (av := [.inl 3]) (S := []) (rc := 0) (rs := 0) (mc := 0) (ms := 0) (a := 94) (ci := 11) (r := (RX12, TX12, 38)) dX12_say_34 pa_X12_finds (Nat.le_refl _) rfl (Nat.le_of_ble_eq_true rfl) ml_X12_143 im_X12_finds se_X12_finds rfl rfl rfl (Ev.mono V ?_)
      rintro v sh1 h5 ⟨rfl, Rh5, x6, rfl, V⟩
      show Rn G (d + 1) 0 0 mX12_say 37 [(0, .inr (.inr (some 94))), (1, .inl a1)] [.inl x6] SH h5 (QI Q)
      exact rn_iret dX12_say_37 rfl ⟨rfl, Rh5, _, rfl, V⟩
    · replace V := V.2 c4
      refine rn_aload_n dX12_say_24 rfl rfl ?_
      refine rn_iload_n dX12_say_25 rfl rfl ?_
      refine rn_cV (M' := mX12_isReady) (n := 1) (av := [.inl a1]) (S := []) (rc := 0) (rs := 0) (mc := 0) (ms := 0) (a := 94) (ci := 11) (r := (RX12, TX12, 38)) dX12_say_26 pa_X12_isReady (Nat.le_refl _) rfl (Nat.le_of_ble_eq_true rfl) ml_X12_220 im_X12_isReady se_X12_isReady rfl rfl rfl (Ev.mono V ?_)
      rintro v sh1 h7 ⟨rfl, Rh7, x8, rfl, V⟩
      show Rn G (d + 1) 0 0 mX12_say 29 [(0, .inr (.inr (some 94))), (1, .inl a1)] [.inl x8] SH h7 (QI Q)
      refine rn_if_ne (tgt := 38) dX12_say_29 (by decide) (fun c9 => ?_) (fun c9 => ?_)
      · replace V := V.1 c9
        refine rn_aload_n dX12_say_38 rfl rfl ?_
        refine rn_iload_n dX12_say_39 rfl rfl ?_
        refine rn_cV (M' := mX12_begins) (n := 1) (av := [.inl a1]) (S := []) (rc := 0) (rs := 0) (mc := 0) (ms := 0) (a := 94) (ci := 11) (r := (RX12, TX12, 38)) dX12_say_40 pa_X12_begins (Nat.le_refl _) rfl (Nat.le_of_ble_eq_true rfl) ml_X12_223 im_X12_begins se_X12_begins rfl rfl rfl (Ev.mono V ?_)
        rintro v sh1 h10 ⟨rfl, Rh10, rfl, V⟩
        show Rn G (d + 1) 0 0 mX12_say 43 [(0, .inr (.inr (some 94))), (1, .inl a1)] [] SH h10 (QI Q)
        refine rn_aload_n dX12_say_43 rfl rfl ?_
        refine rn_get (v := .inr (.inr (some 95))) dX12_say_44 fl_X12_7 rfl rfl (congrArg (fun z => (Sum.inr (Sum.inr z) : MV)) (rf_94_0 Rh10)) ?_
        refine rn_bipush (v := 7) dX12_say_47 (by decide) ?_
        refine rn_iald (k := 7) dX12_say_49 rfl (by decide) (by unfold vp_in; decide) ?_
        exact rn_iret dX12_say_50 rfl ⟨rfl, Rh10, _, rfl, V⟩
      · replace V := V.2 c9
        refine rn_aload_n dX12_say_32 rfl rfl ?_
        refine rn_iconst (v := 3) dX12_say_33 (by decide) ?_
        refine rn_cV (M' := mX12_finds) (n := 1) (av := [.inl 3]) (S := []) (rc := 0) (rs := 0) (mc := 0) (ms := 0) (a := 94) (ci := 11) (r := (RX12, TX12, 38)) dX12_say_34 pa_X12_finds (Nat.le_refl _) rfl (Nat.le_of_ble_eq_true rfl) ml_X12_143 im_X12_finds se_X12_finds rfl rfl rfl (Ev.mono V ?_)
        rintro v sh1 h11 ⟨rfl, Rh11, x12, rfl, V⟩
        show Rn G (d + 1) 0 0 mX12_say 37 [(0, .inr (.inr (some 94))), (1, .inl a1)] [.inl x12] SH h11 (QI Q)
        exact rn_iret dX12_say_37 rfl ⟨rfl, Rh11, _, rfl, V⟩
  · replace V := V.2 c3
    refine rn_aload_n dX12_say_8 rfl rfl ?_
    refine rn_iconst (v := 1) dX12_say_9 (by decide) ?_
    refine rn_cV (M' := mX12_finds) (n := 1) (av := [.inl 1]) (S := []) (rc := 0) (rs := 0) (mc := 0) (ms := 0) (a := 94) (ci := 11) (r := (RX12, TX12, 38)) dX12_say_10 pa_X12_finds (Nat.le_refl _) rfl (Nat.le_of_ble_eq_true rfl) ml_X12_143 im_X12_finds se_X12_finds rfl rfl rfl (Ev.mono V ?_)
    rintro v sh1 h13 ⟨rfl, Rh13, x14, rfl, V⟩
    show Rn G (d + 1) 0 0 mX12_say 13 [(0, .inr (.inr (some 94))), (1, .inl a1)] [.inl x14] SH h13 (QI Q)
    exact rn_iret dX12_say_13 rfl ⟨rfl, Rh13, _, rfl, V⟩
set_option maxRecDepth 100000 in
set_option maxHeartbeats 4000000 in
theorem vc_X12_stop {G : GT} {d : Nat}   {h : Hp} {Q : Int32 → Hp → Prop} (hR : RF h) (V : ((¬ h.1 95 6 = 0 → EvV G d mX12_ends [.inr (.inr (some 94)), .inl 2] h (fun h2 => Q (h.1 95 6 - 1) h2)) ∧ (h.1 95 6 = 0 → EvI G d mX12_finds [.inr (.inr (some 94)), .inl 2] h (fun x4 h3 => Q x4 h3)))) : EvI G (d + 1) mX12_stop [.inr (.inr (some 94))] h Q := by
  refine Ev.of rfl (fun _ => Nat.le_of_ble_eq_true rfl) ?_
  show Rn G (d + 1) 0 0 mX12_stop 0 [(0, .inr (.inr (some 94)))] [] SH h (QI Q)
  refine rn_aload_n dX12_stop_0 rfl rfl ?_
  refine rn_get (v := .inr (.inr (some 95))) dX12_stop_1 fl_X12_7 rfl rfl (congrArg (fun z => (Sum.inr (Sum.inr z) : MV)) (rf_94_0 hR)) ?_
  refine rn_bipush (v := 6) dX12_stop_4 (by decide) ?_
  refine rn_iald (k := 6) dX12_stop_6 rfl (by decide) (by unfold vp_in; decide) ?_
  refine rn_if_ne (tgt := 16) dX12_stop_7 (by decide) (fun c1 => ?_) (fun c1 => ?_)
  · replace V := V.1 c1
    refine rn_aload_n dX12_stop_16 rfl rfl ?_
    refine rn_get (v := .inr (.inr (some 95))) dX12_stop_17 fl_X12_7 rfl rfl (congrArg (fun z => (Sum.inr (Sum.inr z) : MV)) (rf_94_0 hR)) ?_
    refine rn_bipush (v := 6) dX12_stop_20 (by decide) ?_
    refine rn_iald (k := 6) dX12_stop_22 rfl (by decide) (by unfold vp_in; decide) ?_
    refine rn_iconst (v := 1) dX12_stop_23 (by decide) ?_
    refine rn_isub dX12_stop_24 ?_
    refine rn_istore_n (L' := [(1, .inl (h.1 95 6 - 1)), (0, .inr (.inr (some 94)))]) dX12_stop_25 rfl (Nat.le_of_ble_eq_true rfl) rfl ?_
    refine rn_aload_n dX12_stop_26 rfl rfl ?_
    refine rn_iconst (v := 2) dX12_stop_27 (by decide) ?_
    refine rn_cV (M' := mX12_ends) (n := 1) (av := [.inl 2]) (S := []) (rc := 0) (rs := 0) (mc := 0) (ms := 0) (a := 94) (ci := 11) (r := (RX12, TX12, 38)) dX12_stop_28 pa_X12_ends (Nat.le_refl _) rfl (Nat.le_of_ble_eq_true rfl) ml_X12_226 im_X12_ends se_X12_ends rfl rfl rfl (Ev.mono V ?_)
    rintro v sh1 h2 ⟨rfl, Rh2, rfl, V⟩
    show Rn G (d + 1) 0 0 mX12_stop 31 [(1, .inl (h.1 95 6 - 1)), (0, .inr (.inr (some 94)))] [] SH h2 (QI Q)
    refine rn_iload_n dX12_stop_31 rfl rfl ?_
    exact rn_iret dX12_stop_32 rfl ⟨rfl, Rh2, _, rfl, V⟩
  · replace V := V.2 c1
    refine rn_aload_n dX12_stop_10 rfl rfl ?_
    refine rn_iconst (v := 2) dX12_stop_11 (by decide) ?_
    refine rn_cV (M' := mX12_finds) (n := 1) (av := [.inl 2]) (S := []) (rc := 0) (rs := 0) (mc := 0) (ms := 0) (a := 94) (ci := 11) (r := (RX12, TX12, 38)) dX12_stop_12 pa_X12_finds (Nat.le_refl _) rfl (Nat.le_of_ble_eq_true rfl) ml_X12_143 im_X12_finds se_X12_finds rfl rfl rfl (Ev.mono V ?_)
    rintro v sh1 h3 ⟨rfl, Rh3, x4, rfl, V⟩
    show Rn G (d + 1) 0 0 mX12_stop 15 [(0, .inr (.inr (some 94)))] [.inl x4] SH h3 (QI Q)
    exact rn_iret dX12_stop_15 rfl ⟨rfl, Rh3, _, rfl, V⟩
set_option maxRecDepth 100000 in
set_option maxHeartbeats 4000000 in
theorem vc_X12_earOf {G : GT} {d : Nat} {a1 : Int32} {a2 : Int32}  {h : Hp} {Q : Int32 → Hp → Prop} (hR : RF h) (V : EvI G d mX12_its [.inr (.inr (some 94)), .inl a1, .inl 2] h (fun x2 h1 => EvI G d mX12_its [.inr (.inr (some 94)), .inl a1, .inl 1] h1 (fun x4 h3 => EvI G d mX12_textGives [.inr (.inr (some 94)), .inl 0, .inl x2, .inl x4, .inl a2] h3 (fun x6 h5 => Q x6 h5)))) : EvI G (d + 1) mX12_earOf [.inr (.inr (some 94)), .inl a1, .inl a2] h Q := by
  refine Ev.of rfl (fun _ => Nat.le_of_ble_eq_true rfl) ?_
  show Rn G (d + 1) 0 0 mX12_earOf 0 [(0, .inr (.inr (some 94))), (1, .inl a1), (2, .inl a2)] [] SH h (QI Q)
  refine rn_aload_n dX12_earOf_0 rfl rfl ?_
  refine rn_iconst (v := 0) dX12_earOf_1 (by decide) ?_
  refine rn_aload_n dX12_earOf_2 rfl rfl ?_
  refine rn_iload_n dX12_earOf_3 rfl rfl ?_
  refine rn_iconst (v := 2) dX12_earOf_4 (by decide) ?_
  refine rn_cV (M' := mX12_its) (n := 2) (av := [.inl a1, .inl 2]) (S := [.inl 0, .inr (.inr (some 94))]) (rc := 0) (rs := 0) (mc := 0) (ms := 0) (a := 94) (ci := 11) (r := (RX12, TX12, 38)) dX12_earOf_5 pa_X12_its (Nat.le_refl _) rfl (Nat.le_of_ble_eq_true rfl) ml_X12_171 im_X12_its se_X12_its rfl rfl rfl (Ev.mono V ?_)
  rintro v sh1 h1 ⟨rfl, Rh1, x2, rfl, V⟩
  show Rn G (d + 1) 0 0 mX12_earOf 8 [(0, .inr (.inr (some 94))), (1, .inl a1), (2, .inl a2)] [.inl x2, .inl 0, .inr (.inr (some 94))] SH h1 (QI Q)
  refine rn_aload_n dX12_earOf_8 rfl rfl ?_
  refine rn_iload_n dX12_earOf_9 rfl rfl ?_
  refine rn_iconst (v := 1) dX12_earOf_10 (by decide) ?_
  refine rn_cV (M' := mX12_its) (n := 2) (av := [.inl a1, .inl 1]) (S := [.inl x2, .inl 0, .inr (.inr (some 94))]) (rc := 0) (rs := 0) (mc := 0) (ms := 0) (a := 94) (ci := 11) (r := (RX12, TX12, 38)) dX12_earOf_11 pa_X12_its (Nat.le_refl _) rfl (Nat.le_of_ble_eq_true rfl) ml_X12_171 im_X12_its se_X12_its rfl rfl rfl (Ev.mono V ?_)
  rintro v sh1 h3 ⟨rfl, Rh3, x4, rfl, V⟩
  show Rn G (d + 1) 0 0 mX12_earOf 14 [(0, .inr (.inr (some 94))), (1, .inl a1), (2, .inl a2)] [.inl x4, .inl x2, .inl 0, .inr (.inr (some 94))] SH h3 (QI Q)
  refine rn_iload_n dX12_earOf_14 rfl rfl ?_
  refine rn_cV (M' := mX12_textGives) (n := 4) (av := [.inl 0, .inl x2, .inl x4, .inl a2]) (S := []) (rc := 0) (rs := 0) (mc := 0) (ms := 0) (a := 94) (ci := 11) (r := (RX12, TX12, 38)) dX12_earOf_15 pa_X12_textGives (Nat.le_refl _) rfl (Nat.le_of_ble_eq_true rfl) ml_X12_157 im_X12_textGives se_X12_textGives rfl rfl rfl (Ev.mono V ?_)
  rintro v sh1 h5 ⟨rfl, Rh5, x6, rfl, V⟩
  show Rn G (d + 1) 0 0 mX12_earOf 18 [(0, .inr (.inr (some 94))), (1, .inl a1), (2, .inl a2)] [.inl x6] SH h5 (QI Q)
  exact rn_iret dX12_earOf_18 rfl ⟨rfl, Rh5, _, rfl, V⟩
def Rg_X12_aSecond_52 (G : GT) (d : Nat) (l1 : Int32) (l2 : Int32) (l3 : Int32) (h : Hp) (Q : Hp → Prop) : Prop := Rn G (d + 1) 0 0 mX12_aSecond 52 [(0, .inr (.inr (some 94))), (1, .inl l1), (2, .inl l2), (3, .inl l3)] [] SH h (QV Q)
set_option maxRecDepth 100000 in
set_option maxHeartbeats 4000000 in
theorem vc_X12_aSecond_52 {G : GT} {d : Nat} {l1 : Int32} {l2 : Int32} {l3 : Int32}  {h : Hp} {Q : Hp → Prop} (hR : RF h) (V : ((h.1 95 0 ≤ l3 → ((0 ≤ l1 → ((¬ l2 = 0 → ((¬ (h.1 95 7 - 1) = 0 → Q (sI h 95 7 (h.1 95 7 - 1))) ∧ ((h.1 95 7 - 1) = 0 → EvI G d mX12_of [.inr (.inr (some 94)), .inl l1, .inl 4] (sI h 95 7 (h.1 95 7 - 1)) (fun x15 h14 => EvI G d mX12_of [.inr (.inr (some 94)), .inl l1, .inl 4] h14 (fun x17 h16 => EvI G d mX12_earOf [.inr (.inr (some 94)), .inl (h14.1 95 6 - 1), .inl x17] h16 (fun x19 h18 => EvI G d mX12_held [.inl (x15 + x19), .inl 0, .inl 99999] h18 (fun x21 h20 => EvV G d mX12_sets [.inr (.inr (some 94)), .inl l1, .inl 4, .inl x21] h20 (fun h22 => EvV G d mX12_ends [.inr (.inr (some 94)), .inl 1] h22 (fun h23 => Q h23))))))))) ∧ (l2 = 0 → EvV G d mX12_ends [.inr (.inr (some 94)), .inl 2] h (fun h24 => Q h24)))) ∧ (¬ 0 ≤ l1 → Q h))) ∧ (¬ h.1 95 0 ≤ l3 → ((¬ l3 = l1 → EvI G d mX12_drips [.inr (.inr (some 94)), .inl l3] h (fun x27 h26 => EvI G d mX12_loses [.inr (.inr (some 94)), .inl l3, .inl x27] h26 (fun x29 h28 => EvV G d mX12_spills [.inr (.inr (some 94)), .inl x29] h28 (fun h30 => Rg_X12_aSecond_52 G d l1 l2 (l3 + 1) h30 Q)))) ∧ (l3 = l1 → EvI G d mX12_runs [.inr (.inr (some 94)), .inl l3] h (fun x32 h31 => EvI G d mX12_loses [.inr (.inr (some 94)), .inl l3, .inl x32] h31 (fun x34 h33 => EvV G d mX12_spills [.inr (.inr (some 94)), .inl x34] h33 (fun h35 => Rg_X12_aSecond_52 G d l1 l2 (l3 + 1) h35 Q)))))))) : Rg_X12_aSecond_52 G d l1 l2 l3 h Q := by
  show Rn G (d + 1) 0 0 mX12_aSecond 52 [(0, .inr (.inr (some 94))), (1, .inl l1), (2, .inl l2), (3, .inl l3)] [] SH h (QV Q)
  refine rn_iload_n dX12_aSecond_52 rfl rfl ?_
  refine rn_aload_n dX12_aSecond_53 rfl rfl ?_
  refine rn_get (v := .inr (.inr (some 95))) dX12_aSecond_54 fl_X12_7 rfl rfl (congrArg (fun z => (Sum.inr (Sum.inr z) : MV)) (rf_94_0 hR)) ?_
  refine rn_iconst (v := 0) dX12_aSecond_57 (by decide) ?_
  refine rn_iald (k := 0) dX12_aSecond_58 rfl (by decide) (by unfold vp_in; decide) ?_
  refine rn_icmp_ge (tgt := 95) dX12_aSecond_59 (by decide) (fun c10 => ?_) (fun c10 => ?_)
  · replace V := V.1 c10
    refine rn_iload_n dX12_aSecond_95 rfl rfl ?_
    refine rn_if_ge (tgt := 100) dX12_aSecond_96 (by decide) (fun c11 => ?_) (fun c11 => ?_)
    · replace V := V.1 c11
      refine rn_iload_n dX12_aSecond_100 rfl rfl ?_
      refine rn_if_ne (tgt := 110) dX12_aSecond_101 (by decide) (fun c12 => ?_) (fun c12 => ?_)
      · replace V := V.1 c12
        refine rn_aload_n dX12_aSecond_110 rfl rfl ?_
        refine rn_get (v := .inr (.inr (some 95))) dX12_aSecond_111 fl_X12_7 rfl rfl (congrArg (fun z => (Sum.inr (Sum.inr z) : MV)) (rf_94_0 hR)) ?_
        refine rn_bipush (v := 7) dX12_aSecond_114 (by decide) ?_
        refine rn_dup2 dX12_aSecond_116 rfl rfl ?_
        refine rn_iald (k := 7) dX12_aSecond_117 rfl (by decide) (by unfold vp_in; decide) ?_
        refine rn_iconst (v := 1) dX12_aSecond_118 (by decide) ?_
        refine rn_isub dX12_aSecond_119 ?_
        refine rn_iast (k := 7) dX12_aSecond_120 rfl (by decide) (by unfold vp_in; decide) ?_
        refine rn_aload_n dX12_aSecond_121 rfl rfl ?_
        refine rn_get (v := .inr (.inr (some 95))) dX12_aSecond_122 fl_X12_7 rfl rfl (congrArg (fun z => (Sum.inr (Sum.inr z) : MV)) (rf_94_0 hR)) ?_
        refine rn_bipush (v := 7) dX12_aSecond_125 (by decide) ?_
        refine rn_iald (k := 7) dX12_aSecond_127 rfl (by decide) (by unfold vp_in; decide) ?_
        refine rn_if_ne (tgt := 174) dX12_aSecond_128 (by decide) (fun c13 => ?_) (fun c13 => ?_)
        · replace V := V.1 c13
          exact rn_vret dX12_aSecond_174 rfl ⟨rfl, hR, rfl, V⟩
        · replace V := V.2 c13
          refine rn_aload_n dX12_aSecond_131 rfl rfl ?_
          refine rn_iload_n dX12_aSecond_132 rfl rfl ?_
          refine rn_iconst (v := 4) dX12_aSecond_133 (by decide) ?_
          refine rn_aload_n dX12_aSecond_134 rfl rfl ?_
          refine rn_iload_n dX12_aSecond_135 rfl rfl ?_
          refine rn_iconst (v := 4) dX12_aSecond_136 (by decide) ?_
          refine rn_cV (M' := mX12_of) (n := 2) (av := [.inl l1, .inl 4]) (S := [.inl 4, .inl l1, .inr (.inr (some 94))]) (rc := 0) (rs := 0) (mc := 0) (ms := 0) (a := 94) (ci := 11) (r := (RX12, TX12, 38)) dX12_aSecond_137 pa_X12_of (Nat.le_refl _) rfl (Nat.le_of_ble_eq_true rfl) ml_X12_161 im_X12_of se_X12_of rfl rfl rfl (Ev.mono V ?_)
          rintro v sh1 h14 ⟨rfl, Rh14, x15, rfl, V⟩
          show Rn G (d + 1) 0 0 mX12_aSecond 140 [(0, .inr (.inr (some 94))), (1, .inl l1), (2, .inl l2), (3, .inl l3)] [.inl x15, .inl 4, .inl l1, .inr (.inr (some 94))] SH h14 (QV Q)
          refine rn_aload_n dX12_aSecond_140 rfl rfl ?_
          refine rn_aload_n dX12_aSecond_141 rfl rfl ?_
          refine rn_get (v := .inr (.inr (some 95))) dX12_aSecond_142 fl_X12_7 rfl rfl (congrArg (fun z => (Sum.inr (Sum.inr z) : MV)) (rf_94_0 Rh14)) ?_
          refine rn_bipush (v := 6) dX12_aSecond_145 (by decide) ?_
          refine rn_iald (k := 6) dX12_aSecond_147 rfl (by decide) (by unfold vp_in; decide) ?_
          refine rn_iconst (v := 1) dX12_aSecond_148 (by decide) ?_
          refine rn_isub dX12_aSecond_149 ?_
          refine rn_aload_n dX12_aSecond_150 rfl rfl ?_
          refine rn_iload_n dX12_aSecond_151 rfl rfl ?_
          refine rn_iconst (v := 4) dX12_aSecond_152 (by decide) ?_
          refine rn_cV (M' := mX12_of) (n := 2) (av := [.inl l1, .inl 4]) (S := [.inl (h14.1 95 6 - 1), .inr (.inr (some 94)), .inl x15, .inl 4, .inl l1, .inr (.inr (some 94))]) (rc := 0) (rs := 0) (mc := 0) (ms := 0) (a := 94) (ci := 11) (r := (RX12, TX12, 38)) dX12_aSecond_153 pa_X12_of (Nat.le_refl _) rfl (Nat.le_of_ble_eq_true rfl) ml_X12_161 im_X12_of se_X12_of rfl rfl rfl (Ev.mono V ?_)
          rintro v sh1 h16 ⟨rfl, Rh16, x17, rfl, V⟩
          show Rn G (d + 1) 0 0 mX12_aSecond 156 [(0, .inr (.inr (some 94))), (1, .inl l1), (2, .inl l2), (3, .inl l3)] [.inl x17, .inl (h14.1 95 6 - 1), .inr (.inr (some 94)), .inl x15, .inl 4, .inl l1, .inr (.inr (some 94))] SH h16 (QV Q)
          refine rn_cV (M' := mX12_earOf) (n := 2) (av := [.inl (h14.1 95 6 - 1), .inl x17]) (S := [.inl x15, .inl 4, .inl l1, .inr (.inr (some 94))]) (rc := 0) (rs := 0) (mc := 0) (ms := 0) (a := 94) (ci := 11) (r := (RX12, TX12, 38)) dX12_aSecond_156 pa_X12_earOf (Nat.le_refl _) rfl (Nat.le_of_ble_eq_true rfl) ml_X12_229 im_X12_earOf se_X12_earOf rfl rfl rfl (Ev.mono V ?_)
          rintro v sh1 h18 ⟨rfl, Rh18, x19, rfl, V⟩
          show Rn G (d + 1) 0 0 mX12_aSecond 159 [(0, .inr (.inr (some 94))), (1, .inl l1), (2, .inl l2), (3, .inl l3)] [.inl x19, .inl x15, .inl 4, .inl l1, .inr (.inr (some 94))] SH h18 (QV Q)
          refine rn_iadd dX12_aSecond_159 ?_
          refine rn_iconst (v := 0) dX12_aSecond_160 (by decide) ?_
          refine rn_ldc (v := 99999) dX12_aSecond_161 cw_X12_232 ?_
          refine rn_cS (M' := mX12_held) (n := 3) (av := [.inl (x15 + x19), .inl 0, .inl 99999]) (S := [.inl 4, .inl l1, .inr (.inr (some 94))]) (rc := 0) (rs := 0) (mc := 0) (ms := 0) dX12_aSecond_163 pa_X12_held (Nat.le_refl _) rfl (Nat.le_of_ble_eq_true rfl) ml_X12_152 ss_X12_held rfl (Ev.mono V ?_)
          rintro v sh1 h20 ⟨rfl, Rh20, x21, rfl, V⟩
          show Rn G (d + 1) 0 0 mX12_aSecond 166 [(0, .inr (.inr (some 94))), (1, .inl l1), (2, .inl l2), (3, .inl l3)] [.inl x21, .inl 4, .inl l1, .inr (.inr (some 94))] SH h20 (QV Q)
          refine rn_cV (M' := mX12_sets) (n := 3) (av := [.inl l1, .inl 4, .inl x21]) (S := []) (rc := 0) (rs := 0) (mc := 0) (ms := 0) (a := 94) (ci := 11) (r := (RX12, TX12, 38)) dX12_aSecond_166 pa_X12_sets (Nat.le_refl _) rfl (Nat.le_of_ble_eq_true rfl) ml_X12_167 im_X12_sets se_X12_sets rfl rfl rfl (Ev.mono V ?_)
          rintro v sh1 h22 ⟨rfl, Rh22, rfl, V⟩
          show Rn G (d + 1) 0 0 mX12_aSecond 169 [(0, .inr (.inr (some 94))), (1, .inl l1), (2, .inl l2), (3, .inl l3)] [] SH h22 (QV Q)
          refine rn_aload_n dX12_aSecond_169 rfl rfl ?_
          refine rn_iconst (v := 1) dX12_aSecond_170 (by decide) ?_
          refine rn_cV (M' := mX12_ends) (n := 1) (av := [.inl 1]) (S := []) (rc := 0) (rs := 0) (mc := 0) (ms := 0) (a := 94) (ci := 11) (r := (RX12, TX12, 38)) dX12_aSecond_171 pa_X12_ends (Nat.le_refl _) rfl (Nat.le_of_ble_eq_true rfl) ml_X12_226 im_X12_ends se_X12_ends rfl rfl rfl (Ev.mono V ?_)
          rintro v sh1 h23 ⟨rfl, Rh23, rfl, V⟩
          show Rn G (d + 1) 0 0 mX12_aSecond 174 [(0, .inr (.inr (some 94))), (1, .inl l1), (2, .inl l2), (3, .inl l3)] [] SH h23 (QV Q)
          exact rn_vret dX12_aSecond_174 rfl ⟨rfl, Rh23, rfl, V⟩
      · replace V := V.2 c12
        refine rn_aload_n dX12_aSecond_104 rfl rfl ?_
        refine rn_iconst (v := 2) dX12_aSecond_105 (by decide) ?_
        refine rn_cV (M' := mX12_ends) (n := 1) (av := [.inl 2]) (S := []) (rc := 0) (rs := 0) (mc := 0) (ms := 0) (a := 94) (ci := 11) (r := (RX12, TX12, 38)) dX12_aSecond_106 pa_X12_ends (Nat.le_refl _) rfl (Nat.le_of_ble_eq_true rfl) ml_X12_226 im_X12_ends se_X12_ends rfl rfl rfl (Ev.mono V ?_)
        rintro v sh1 h24 ⟨rfl, Rh24, rfl, V⟩
        show Rn G (d + 1) 0 0 mX12_aSecond 109 [(0, .inr (.inr (some 94))), (1, .inl l1), (2, .inl l2), (3, .inl l3)] [] SH h24 (QV Q)
        exact rn_vret dX12_aSecond_109 rfl ⟨rfl, Rh24, rfl, V⟩
    · replace V := V.2 c11
      exact rn_vret dX12_aSecond_99 rfl ⟨rfl, hR, rfl, V⟩
  · replace V := V.2 c10
    refine rn_aload_n dX12_aSecond_62 rfl rfl ?_
    refine rn_aload_n dX12_aSecond_63 rfl rfl ?_
    refine rn_iload_n dX12_aSecond_64 rfl rfl ?_
    refine rn_iload_n dX12_aSecond_65 rfl rfl ?_
    refine rn_iload_n dX12_aSecond_66 rfl rfl ?_
    refine rn_icmp_ne (tgt := 78) dX12_aSecond_67 (by decide) (fun c25 => ?_) (fun c25 => ?_)
    · replace V := V.1 c25
      refine rn_aload_n dX12_aSecond_78 rfl rfl ?_
      refine rn_iload_n dX12_aSecond_79 rfl rfl ?_
      refine rn_cV (M' := mX12_drips) (n := 1) (av := [.inl l3]) (S := [.inl l3, .inr (.inr (some 94)), .inr (.inr (some 94))]) (rc := 0) (rs := 0) (mc := 0) (ms := 0) (a := 94) (ci := 11) (r := (RX12, TX12, 38)) dX12_aSecond_80 pa_X12_drips (Nat.le_refl _) rfl (Nat.le_of_ble_eq_true rfl) ml_X12_182 im_X12_drips se_X12_drips rfl rfl rfl (Ev.mono V ?_)
      rintro v sh1 h26 ⟨rfl, Rh26, x27, rfl, V⟩
      show Rn G (d + 1) 0 0 mX12_aSecond 83 [(0, .inr (.inr (some 94))), (1, .inl l1), (2, .inl l2), (3, .inl l3)] [.inl x27, .inl l3, .inr (.inr (some 94)), .inr (.inr (some 94))] SH h26 (QV Q)
      refine rn_cV (M' := mX12_loses) (n := 2) (av := [.inl l3, .inl x27]) (S := [.inr (.inr (some 94))]) (rc := 0) (rs := 0) (mc := 0) (ms := 0) (a := 94) (ci := 11) (r := (RX12, TX12, 38)) dX12_aSecond_83 pa_X12_loses (Nat.le_refl _) rfl (Nat.le_of_ble_eq_true rfl) ml_X12_210 im_X12_loses se_X12_loses rfl rfl rfl (Ev.mono V ?_)
      rintro v sh1 h28 ⟨rfl, Rh28, x29, rfl, V⟩
      show Rn G (d + 1) 0 0 mX12_aSecond 86 [(0, .inr (.inr (some 94))), (1, .inl l1), (2, .inl l2), (3, .inl l3)] [.inl x29, .inr (.inr (some 94))] SH h28 (QV Q)
      refine rn_cV (M' := mX12_spills) (n := 1) (av := [.inl x29]) (S := []) (rc := 0) (rs := 0) (mc := 0) (ms := 0) (a := 94) (ci := 11) (r := (RX12, TX12, 38)) dX12_aSecond_86 pa_X12_spills (Nat.le_refl _) rfl (Nat.le_of_ble_eq_true rfl) ml_X12_216 im_X12_spills se_X12_spills rfl rfl rfl (Ev.mono V ?_)
      rintro v sh1 h30 ⟨rfl, Rh30, rfl, V⟩
      show Rn G (d + 1) 0 0 mX12_aSecond 89 [(0, .inr (.inr (some 94))), (1, .inl l1), (2, .inl l2), (3, .inl l3)] [] SH h30 (QV Q)
      refine rn_iinc (L' := [(3, .inl (l3 + 1)), (0, .inr (.inr (some 94))), (1, .inl l1), (2, .inl l2)]) dX12_aSecond_89 rfl (v := (l3 + 1)) rfl (Nat.le_of_ble_eq_true rfl) rfl ?_
      refine rn_goto (tgt := 52) dX12_aSecond_92 (by decide) ?_
      refine rn_sub [1, 2, 3, 0] (L' := [(0, .inr (.inr (some 94))), (1, .inl l1), (2, .inl l2), (3, .inl (l3 + 1))]) rfl ?_
      exact V
    · replace V := V.2 c25
      refine rn_aload_n dX12_aSecond_70 rfl rfl ?_
      refine rn_iload_n dX12_aSecond_71 rfl rfl ?_
      refine rn_cV (M' := mX12_runs) (n := 1) (av := [.inl l3]) (S := [.inl l3, .inr (.inr (some 94)), .inr (.inr (some 94))]) (rc := 0) (rs := 0) (mc := 0) (ms := 0) (a := 94) (ci := 11) (r := (RX12, TX12, 38)) dX12_aSecond_72 pa_X12_runs (Nat.le_refl _) rfl (Nat.le_of_ble_eq_true rfl) ml_X12_179 im_X12_runs se_X12_runs rfl rfl rfl (Ev.mono V ?_)
      rintro v sh1 h31 ⟨rfl, Rh31, x32, rfl, V⟩
      show Rn G (d + 1) 0 0 mX12_aSecond 75 [(0, .inr (.inr (some 94))), (1, .inl l1), (2, .inl l2), (3, .inl l3)] [.inl x32, .inl l3, .inr (.inr (some 94)), .inr (.inr (some 94))] SH h31 (QV Q)
      refine rn_goto (tgt := 83) dX12_aSecond_75 (by decide) ?_
      refine rn_cV (M' := mX12_loses) (n := 2) (av := [.inl l3, .inl x32]) (S := [.inr (.inr (some 94))]) (rc := 0) (rs := 0) (mc := 0) (ms := 0) (a := 94) (ci := 11) (r := (RX12, TX12, 38)) dX12_aSecond_83 pa_X12_loses (Nat.le_refl _) rfl (Nat.le_of_ble_eq_true rfl) ml_X12_210 im_X12_loses se_X12_loses rfl rfl rfl (Ev.mono V ?_)
      rintro v sh1 h33 ⟨rfl, Rh33, x34, rfl, V⟩
      show Rn G (d + 1) 0 0 mX12_aSecond 86 [(0, .inr (.inr (some 94))), (1, .inl l1), (2, .inl l2), (3, .inl l3)] [.inl x34, .inr (.inr (some 94))] SH h33 (QV Q)
      refine rn_cV (M' := mX12_spills) (n := 1) (av := [.inl x34]) (S := []) (rc := 0) (rs := 0) (mc := 0) (ms := 0) (a := 94) (ci := 11) (r := (RX12, TX12, 38)) dX12_aSecond_86 pa_X12_spills (Nat.le_refl _) rfl (Nat.le_of_ble_eq_true rfl) ml_X12_216 im_X12_spills se_X12_spills rfl rfl rfl (Ev.mono V ?_)
      rintro v sh1 h35 ⟨rfl, Rh35, rfl, V⟩
      show Rn G (d + 1) 0 0 mX12_aSecond 89 [(0, .inr (.inr (some 94))), (1, .inl l1), (2, .inl l2), (3, .inl l3)] [] SH h35 (QV Q)
      refine rn_iinc (L' := [(3, .inl (l3 + 1)), (0, .inr (.inr (some 94))), (1, .inl l1), (2, .inl l2)]) dX12_aSecond_89 rfl (v := (l3 + 1)) rfl (Nat.le_of_ble_eq_true rfl) rfl ?_
      refine rn_goto (tgt := 52) dX12_aSecond_92 (by decide) ?_
      refine rn_sub [1, 2, 3, 0] (L' := [(0, .inr (.inr (some 94))), (1, .inl l1), (2, .inl l2), (3, .inl (l3 + 1))]) rfl ?_
      exact V
set_option maxRecDepth 100000 in
set_option maxHeartbeats 4000000 in
theorem vc_X12_aSecond {G : GT} {d : Nat}   {h : Hp} {Q : Hp → Prop} (hR : RF h) (V : ((¬ h.1 95 5 = 1 → EvI G d mX12_speaks [.inr (.inr (some 94))] (sI h 95 3 (h.1 95 3 + 1)) (fun x3 h2 => ((x3 < 0 → Rg_X12_aSecond_52 G d x3 1 0 h2 Q) ∧ (¬ x3 < 0 → EvI G d mX12_of [.inr (.inr (some 94)), .inl x3, .inl 3] h2 (fun x6 h5 => EvI G d mX12_runs [.inr (.inr (some 94)), .inl x3] h5 (fun x8 h7 => ((x6 < x8 → Rg_X12_aSecond_52 G d x3 0 0 h7 Q) ∧ (¬ x6 < x8 → Rg_X12_aSecond_52 G d x3 1 0 h7 Q)))))))) ∧ (h.1 95 5 = 1 → Q (sI h 95 3 (h.1 95 3 + 1))))) : EvV G (d + 1) mX12_aSecond [.inr (.inr (some 94))] h Q := by
  refine Ev.of rfl (fun _ => Nat.le_of_ble_eq_true rfl) ?_
  show Rn G (d + 1) 0 0 mX12_aSecond 0 [(0, .inr (.inr (some 94)))] [] SH h (QV Q)
  refine rn_aload_n dX12_aSecond_0 rfl rfl ?_
  refine rn_get (v := .inr (.inr (some 95))) dX12_aSecond_1 fl_X12_7 rfl rfl (congrArg (fun z => (Sum.inr (Sum.inr z) : MV)) (rf_94_0 hR)) ?_
  refine rn_iconst (v := 3) dX12_aSecond_4 (by decide) ?_
  refine rn_dup2 dX12_aSecond_5 rfl rfl ?_
  refine rn_iald (k := 3) dX12_aSecond_6 rfl (by decide) (by unfold vp_in; decide) ?_
  refine rn_iconst (v := 1) dX12_aSecond_7 (by decide) ?_
  refine rn_iadd dX12_aSecond_8 ?_
  refine rn_iast (k := 3) dX12_aSecond_9 rfl (by decide) (by unfold vp_in; decide) ?_
  refine rn_aload_n dX12_aSecond_10 rfl rfl ?_
  refine rn_get (v := .inr (.inr (some 95))) dX12_aSecond_11 fl_X12_7 rfl rfl (congrArg (fun z => (Sum.inr (Sum.inr z) : MV)) (rf_94_0 hR)) ?_
  refine rn_iconst (v := 5) dX12_aSecond_14 (by decide) ?_
  refine rn_iald (k := 5) dX12_aSecond_15 rfl (by decide) (by unfold vp_in; decide) ?_
  refine rn_iconst (v := 1) dX12_aSecond_16 (by decide) ?_
  refine rn_icmp_ne (tgt := 21) dX12_aSecond_17 (by decide) (fun c1 => ?_) (fun c1 => ?_)
  · replace V := V.1 c1
    refine rn_aload_n dX12_aSecond_21 rfl rfl ?_
    refine rn_cV (M' := mX12_speaks) (n := 0) (av := []) (S := []) (rc := 0) (rs := 0) (mc := 0) (ms := 0) (a := 94) (ci := 11) (r := (RX12, TX12, 38)) dX12_aSecond_22 pa_X12_speaks (Nat.le_refl _) rfl (Nat.le_of_ble_eq_true rfl) ml_X12_213 im_X12_speaks se_X12_speaks rfl rfl rfl (Ev.mono V ?_)
    rintro v sh1 h2 ⟨rfl, Rh2, x3, rfl, V⟩
    show Rn G (d + 1) 0 0 mX12_aSecond 25 [(0, .inr (.inr (some 94)))] [.inl x3] SH h2 (QV Q)
    refine rn_istore_n (L' := [(1, .inl x3), (0, .inr (.inr (some 94)))]) dX12_aSecond_25 rfl (Nat.le_of_ble_eq_true rfl) rfl ?_
    refine rn_iload_n dX12_aSecond_26 rfl rfl ?_
    refine rn_if_lt (tgt := 44) dX12_aSecond_27 (by decide) (fun c4 => ?_) (fun c4 => ?_)
    · replace V := V.1 c4
      refine rn_iconst (v := 1) dX12_aSecond_44 (by decide) ?_
      refine rn_goto (tgt := 49) dX12_aSecond_45 (by decide) ?_
      refine rn_istore_n (L' := [(2, .inl 1), (1, .inl x3), (0, .inr (.inr (some 94)))]) dX12_aSecond_49 rfl (Nat.le_of_ble_eq_true rfl) rfl ?_
      refine rn_iconst (v := 0) dX12_aSecond_50 (by decide) ?_
      refine rn_istore_n (L' := [(3, .inl 0), (2, .inl 1), (1, .inl x3), (0, .inr (.inr (some 94)))]) dX12_aSecond_51 rfl (Nat.le_of_ble_eq_true rfl) rfl ?_
      refine rn_sub [3, 2, 1, 0] (L' := [(0, .inr (.inr (some 94))), (1, .inl x3), (2, .inl 1), (3, .inl 0)]) rfl ?_
      exact V
    · replace V := V.2 c4
      refine rn_aload_n dX12_aSecond_30 rfl rfl ?_
      refine rn_iload_n dX12_aSecond_31 rfl rfl ?_
      refine rn_iconst (v := 3) dX12_aSecond_32 (by decide) ?_
      refine rn_cV (M' := mX12_of) (n := 2) (av := [.inl x3, .inl 3]) (S := []) (rc := 0) (rs := 0) (mc := 0) (ms := 0) (a := 94) (ci := 11) (r := (RX12, TX12, 38)) dX12_aSecond_33 pa_X12_of (Nat.le_refl _) rfl (Nat.le_of_ble_eq_true rfl) ml_X12_161 im_X12_of se_X12_of rfl rfl rfl (Ev.mono V ?_)
      rintro v sh1 h5 ⟨rfl, Rh5, x6, rfl, V⟩
      show Rn G (d + 1) 0 0 mX12_aSecond 36 [(1, .inl x3), (0, .inr (.inr (some 94)))] [.inl x6] SH h5 (QV Q)
      refine rn_aload_n dX12_aSecond_36 rfl rfl ?_
      refine rn_iload_n dX12_aSecond_37 rfl rfl ?_
      refine rn_cV (M' := mX12_runs) (n := 1) (av := [.inl x3]) (S := [.inl x6]) (rc := 0) (rs := 0) (mc := 0) (ms := 0) (a := 94) (ci := 11) (r := (RX12, TX12, 38)) dX12_aSecond_38 pa_X12_runs (Nat.le_refl _) rfl (Nat.le_of_ble_eq_true rfl) ml_X12_179 im_X12_runs se_X12_runs rfl rfl rfl (Ev.mono V ?_)
      rintro v sh1 h7 ⟨rfl, Rh7, x8, rfl, V⟩
      show Rn G (d + 1) 0 0 mX12_aSecond 41 [(1, .inl x3), (0, .inr (.inr (some 94)))] [.inl x8, .inl x6] SH h7 (QV Q)
      refine rn_icmp_lt (tgt := 48) dX12_aSecond_41 (by decide) (fun c9 => ?_) (fun c9 => ?_)
      · replace V := V.1 c9
        refine rn_iconst (v := 0) dX12_aSecond_48 (by decide) ?_
        refine rn_istore_n (L' := [(2, .inl 0), (1, .inl x3), (0, .inr (.inr (some 94)))]) dX12_aSecond_49 rfl (Nat.le_of_ble_eq_true rfl) rfl ?_
        refine rn_iconst (v := 0) dX12_aSecond_50 (by decide) ?_
        refine rn_istore_n (L' := [(3, .inl 0), (2, .inl 0), (1, .inl x3), (0, .inr (.inr (some 94)))]) dX12_aSecond_51 rfl (Nat.le_of_ble_eq_true rfl) rfl ?_
        refine rn_sub [3, 2, 1, 0] (L' := [(0, .inr (.inr (some 94))), (1, .inl x3), (2, .inl 0), (3, .inl 0)]) rfl ?_
        exact V
      · replace V := V.2 c9
        refine rn_iconst (v := 1) dX12_aSecond_44 (by decide) ?_
        refine rn_goto (tgt := 49) dX12_aSecond_45 (by decide) ?_
        refine rn_istore_n (L' := [(2, .inl 1), (1, .inl x3), (0, .inr (.inr (some 94)))]) dX12_aSecond_49 rfl (Nat.le_of_ble_eq_true rfl) rfl ?_
        refine rn_iconst (v := 0) dX12_aSecond_50 (by decide) ?_
        refine rn_istore_n (L' := [(3, .inl 0), (2, .inl 1), (1, .inl x3), (0, .inr (.inr (some 94)))]) dX12_aSecond_51 rfl (Nat.le_of_ble_eq_true rfl) rfl ?_
        refine rn_sub [3, 2, 1, 0] (L' := [(0, .inr (.inr (some 94))), (1, .inl x3), (2, .inl 1), (3, .inl 0)]) rfl ?_
        exact V
  · replace V := V.2 c1
    exact rn_vret dX12_aSecond_20 rfl ⟨rfl, hR, rfl, V⟩
def Rg_X12_seconds_39 (G : GT) (d : Nat) (l1 : Int32) (l2 : Int32) (h : Hp) (Q : Int32 → Hp → Prop) : Prop := Rn G (d + 1) 0 0 mX12_seconds 39 [(0, .inr (.inr (some 94))), (1, .inl l1), (2, .inl l2)] [] SH h (QI Q)
set_option maxRecDepth 100000 in
set_option maxHeartbeats 4000000 in
theorem vc_X12_seconds_39 {G : GT} {d : Nat} {l1 : Int32} {l2 : Int32}  {h : Hp} {Q : Int32 → Hp → Prop} (hR : RF h) (V : ((l1 ≤ l2 → Q (h.1 95 4) h) ∧ (¬ l1 ≤ l2 → EvV G d mX12_aSecond [.inr (.inr (some 94))] h (fun h10 => Rg_X12_seconds_39 G d l1 (l2 + 1) h10 Q)))) : Rg_X12_seconds_39 G d l1 l2 h Q := by
  show Rn G (d + 1) 0 0 mX12_seconds 39 [(0, .inr (.inr (some 94))), (1, .inl l1), (2, .inl l2)] [] SH h (QI Q)
  refine rn_iload_n dX12_seconds_39 rfl rfl ?_
  refine rn_iload_n dX12_seconds_40 rfl rfl ?_
  refine rn_icmp_ge (tgt := 54) dX12_seconds_41 (by decide) (fun c9 => ?_) (fun c9 => ?_)
  · replace V := V.1 c9
    refine rn_aload_n dX12_seconds_54 rfl rfl ?_
    refine rn_get (v := .inr (.inr (some 95))) dX12_seconds_55 fl_X12_7 rfl rfl (congrArg (fun z => (Sum.inr (Sum.inr z) : MV)) (rf_94_0 hR)) ?_
    refine rn_iconst (v := 4) dX12_seconds_58 (by decide) ?_
    refine rn_iald (k := 4) dX12_seconds_59 rfl (by decide) (by unfold vp_in; decide) ?_
    exact rn_iret dX12_seconds_60 rfl ⟨rfl, hR, _, rfl, V⟩
  · replace V := V.2 c9
    refine rn_aload_n dX12_seconds_44 rfl rfl ?_
    refine rn_cV (M' := mX12_aSecond) (n := 0) (av := []) (S := []) (rc := 0) (rs := 0) (mc := 0) (ms := 0) (a := 94) (ci := 11) (r := (RX12, TX12, 38)) dX12_seconds_45 pa_X12_aSecond (Nat.le_refl _) rfl (Nat.le_of_ble_eq_true rfl) ml_X12_235 im_X12_aSecond se_X12_aSecond rfl rfl rfl (Ev.mono V ?_)
    rintro v sh1 h10 ⟨rfl, Rh10, rfl, V⟩
    show Rn G (d + 1) 0 0 mX12_seconds 48 [(0, .inr (.inr (some 94))), (1, .inl l1), (2, .inl l2)] [] SH h10 (QI Q)
    refine rn_iinc (L' := [(2, .inl (l2 + 1)), (0, .inr (.inr (some 94))), (1, .inl l1)]) dX12_seconds_48 rfl (v := (l2 + 1)) rfl (Nat.le_of_ble_eq_true rfl) rfl ?_
    refine rn_goto (tgt := 39) dX12_seconds_51 (by decide) ?_
    refine rn_sub [1, 2, 0] (L' := [(0, .inr (.inr (some 94))), (1, .inl l1), (2, .inl (l2 + 1))]) rfl ?_
    exact V
set_option maxRecDepth 100000 in
set_option maxHeartbeats 4000000 in
theorem vc_X12_seconds {G : GT} {d : Nat} {a1 : Int32}  {h : Hp} {Q : Int32 → Hp → Prop} (hR : RF h) (V : EvI G d mX12_in [.inr (.inl (Int32.toInt64 a1)), .inr (.inl 1), .inr (.inl 300)] h (fun x2 h1 => ((¬ x2 = 0 → (((h1.1 95 3 + a1) ≤ 99999 → Rg_X12_seconds_39 G d a1 0 h1 Q) ∧ (¬ (h1.1 95 3 + a1) ≤ 99999 → EvI G d mX12_finds [.inr (.inr (some 94)), .inl 3] h1 (fun x6 h5 => Q x6 h5)))) ∧ (x2 = 0 → EvI G d mX12_finds [.inr (.inr (some 94)), .inl 1] h1 (fun x8 h7 => Q x8 h7))))) : EvI G (d + 1) mX12_seconds [.inr (.inr (some 94)), .inl a1] h Q := by
  refine Ev.of rfl (fun _ => Nat.le_of_ble_eq_true rfl) ?_
  show Rn G (d + 1) 0 0 mX12_seconds 0 [(0, .inr (.inr (some 94))), (1, .inl a1)] [] SH h (QI Q)
  refine rn_iload_n dX12_seconds_0 rfl rfl ?_
  refine rn_i2l dX12_seconds_1 ?_
  refine rn_lconst (v := 1) dX12_seconds_2 rfl ?_
  refine rn_ldc2 (v := 300) dX12_seconds_3 cw_X12_233 ?_
  refine rn_cS (M' := mX12_in) (n := 3) (av := [.inr (.inl (Int32.toInt64 a1)), .inr (.inl 1), .inr (.inl 300)]) (S := []) (rc := 0) (rs := 0) (mc := 0) (ms := 0) dX12_seconds_6 pa_X12_in (Nat.le_refl _) rfl (Nat.le_of_ble_eq_true rfl) ml_X12_80 ss_X12_in rfl (Ev.mono V ?_)
  rintro v sh1 h1 ⟨rfl, Rh1, x2, rfl, V⟩
  show Rn G (d + 1) 0 0 mX12_seconds 9 [(0, .inr (.inr (some 94))), (1, .inl a1)] [.inl x2] SH h1 (QI Q)
  refine rn_if_ne (tgt := 18) dX12_seconds_9 (by decide) (fun c3 => ?_) (fun c3 => ?_)
  · replace V := V.1 c3
    refine rn_aload_n dX12_seconds_18 rfl rfl ?_
    refine rn_get (v := .inr (.inr (some 95))) dX12_seconds_19 fl_X12_7 rfl rfl (congrArg (fun z => (Sum.inr (Sum.inr z) : MV)) (rf_94_0 Rh1)) ?_
    refine rn_iconst (v := 3) dX12_seconds_22 (by decide) ?_
    refine rn_iald (k := 3) dX12_seconds_23 rfl (by decide) (by unfold vp_in; decide) ?_
    refine rn_iload_n dX12_seconds_24 rfl rfl ?_
    refine rn_iadd dX12_seconds_25 ?_
    refine rn_ldc (v := 99999) dX12_seconds_26 cw_X12_232 ?_
    refine rn_icmp_le (tgt := 37) dX12_seconds_28 (by decide) (fun c4 => ?_) (fun c4 => ?_)
    · replace V := V.1 c4
      refine rn_iconst (v := 0) dX12_seconds_37 (by decide) ?_
      refine rn_istore_n (L' := [(2, .inl 0), (0, .inr (.inr (some 94))), (1, .inl a1)]) dX12_seconds_38 rfl (Nat.le_of_ble_eq_true rfl) rfl ?_
      refine rn_sub [1, 2, 0] (L' := [(0, .inr (.inr (some 94))), (1, .inl a1), (2, .inl 0)]) rfl ?_
      exact V
    · replace V := V.2 c4
      refine rn_aload_n dX12_seconds_31 rfl rfl ?_
      refine rn_iconst (v := 3) dX12_seconds_32 (by decide) ?_
      refine rn_cV (M' := mX12_finds) (n := 1) (av := [.inl 3]) (S := []) (rc := 0) (rs := 0) (mc := 0) (ms := 0) (a := 94) (ci := 11) (r := (RX12, TX12, 38)) dX12_seconds_33 pa_X12_finds (Nat.le_refl _) rfl (Nat.le_of_ble_eq_true rfl) ml_X12_143 im_X12_finds se_X12_finds rfl rfl rfl (Ev.mono V ?_)
      rintro v sh1 h5 ⟨rfl, Rh5, x6, rfl, V⟩
      show Rn G (d + 1) 0 0 mX12_seconds 36 [(0, .inr (.inr (some 94))), (1, .inl a1)] [.inl x6] SH h5 (QI Q)
      exact rn_iret dX12_seconds_36 rfl ⟨rfl, Rh5, _, rfl, V⟩
  · replace V := V.2 c3
    refine rn_aload_n dX12_seconds_12 rfl rfl ?_
    refine rn_iconst (v := 1) dX12_seconds_13 (by decide) ?_
    refine rn_cV (M' := mX12_finds) (n := 1) (av := [.inl 1]) (S := []) (rc := 0) (rs := 0) (mc := 0) (ms := 0) (a := 94) (ci := 11) (r := (RX12, TX12, 38)) dX12_seconds_14 pa_X12_finds (Nat.le_refl _) rfl (Nat.le_of_ble_eq_true rfl) ml_X12_143 im_X12_finds se_X12_finds rfl rfl rfl (Ev.mono V ?_)
    rintro v sh1 h7 ⟨rfl, Rh7, x8, rfl, V⟩
    show Rn G (d + 1) 0 0 mX12_seconds 17 [(0, .inr (.inr (some 94))), (1, .inl a1)] [.inl x8] SH h7 (QI Q)
    exact rn_iret dX12_seconds_17 rfl ⟨rfl, Rh7, _, rfl, V⟩
set_option maxRecDepth 100000 in
set_option maxHeartbeats 4000000 in
theorem vc_X12_drawn {G : GT} {d : Nat}   {h : Hp} {Q : Int32 → Hp → Prop} (hR : RF h) (V : Q ((Int32.toUInt32 ((h.1 95 2 * 1103515245) + 12345) >>> (Int32.toUInt32 8 &&& Int32.toUInt32 31)).toInt32) (sI h 95 2 ((h.1 95 2 * 1103515245) + 12345))) : EvI G (d + 1) mX12_drawn [.inr (.inr (some 94))] h Q := by
  refine Ev.of rfl (fun _ => Nat.le_of_ble_eq_true rfl) ?_
  show Rn G (d + 1) 0 0 mX12_drawn 0 [(0, .inr (.inr (some 94)))] [] SH h (QI Q)
  refine rn_aload_n dX12_drawn_0 rfl rfl ?_
  refine rn_get (v := .inr (.inr (some 95))) dX12_drawn_1 fl_X12_7 rfl rfl (congrArg (fun z => (Sum.inr (Sum.inr z) : MV)) (rf_94_0 hR)) ?_
  refine rn_iconst (v := 2) dX12_drawn_4 (by decide) ?_
  refine rn_aload_n dX12_drawn_5 rfl rfl ?_
  refine rn_get (v := .inr (.inr (some 95))) dX12_drawn_6 fl_X12_7 rfl rfl (congrArg (fun z => (Sum.inr (Sum.inr z) : MV)) (rf_94_0 hR)) ?_
  refine rn_iconst (v := 2) dX12_drawn_9 (by decide) ?_
  refine rn_iald (k := 2) dX12_drawn_10 rfl (by decide) (by unfold vp_in; decide) ?_
  refine rn_ldc (v := 1103515245) dX12_drawn_11 cw_X12_238 ?_
  refine rn_imul dX12_drawn_13 ?_
  refine rn_sipush (v := 12345) dX12_drawn_14 (by decide) ?_
  refine rn_iadd dX12_drawn_17 ?_
  refine rn_iast (k := 2) dX12_drawn_18 rfl (by decide) (by unfold vp_in; decide) ?_
  refine rn_aload_n dX12_drawn_19 rfl rfl ?_
  refine rn_get (v := .inr (.inr (some 95))) dX12_drawn_20 fl_X12_7 rfl rfl (congrArg (fun z => (Sum.inr (Sum.inr z) : MV)) (rf_94_0 hR)) ?_
  refine rn_iconst (v := 2) dX12_drawn_23 (by decide) ?_
  refine rn_iald (k := 2) dX12_drawn_24 rfl (by decide) (by unfold vp_in; decide) ?_
  refine rn_bipush (v := 8) dX12_drawn_25 (by decide) ?_
  refine rn_iushr dX12_drawn_27 ?_
  exact rn_iret dX12_drawn_28 rfl ⟨rfl, hR, _, rfl, V⟩
def Rg_X12_loose_39 (G : GT) (d : Nat) (l1 : Int32) (l2 : Int32) (h : Hp) (Q : Int32 → Hp → Prop) : Prop := Rn G (d + 1) 0 0 mX12_loose 39 [(0, .inr (.inr (some 94))), (1, .inl l1), (2, .inl l2)] [] SH h (QI Q)
set_option maxRecDepth 100000 in
set_option maxHeartbeats 4000000 in
theorem vc_X12_loose_39 {G : GT} {d : Nat} {l1 : Int32} {l2 : Int32}  {h : Hp} {Q : Int32 → Hp → Prop} (hR : RF h) (V : ((l1 ≤ l2 → Q (h.1 95 4) h) ∧ (¬ l1 ≤ l2 → EvI G d mX12_drawn [.inr (.inr (some 94))] h (fun x11 h10 => EvI G d mX12_drawn [.inr (.inr (some 94))] h10 (fun x13 h12 => EvI G d mX12_isParty [.inr (.inr (some 94)), .inl (x11 - x11 / 4 * 4)] h12 (fun x15 h14 => ((x15 = 0 → EvV G d mX12_aSecond [.inr (.inr (some 94))] h14 (fun h17 => Rg_X12_loose_39 G d l1 (l2 + 1) h17 Q)) ∧ (¬ x15 = 0 → EvI G d mX12_loses [.inr (.inr (some 94)), .inl (x11 - x11 / 4 * 4), .inl (x13 - x13 / 6 * 6)] h14 (fun x19 h18 => EvV G d mX12_aSecond [.inr (.inr (some 94))] h18 (fun h20 => Rg_X12_loose_39 G d l1 (l2 + 1) h20 Q)))))))))) : Rg_X12_loose_39 G d l1 l2 h Q := by
  show Rn G (d + 1) 0 0 mX12_loose 39 [(0, .inr (.inr (some 94))), (1, .inl l1), (2, .inl l2)] [] SH h (QI Q)
  refine rn_iload_n dX12_loose_39 rfl rfl ?_
  refine rn_iload_n dX12_loose_40 rfl rfl ?_
  refine rn_icmp_ge (tgt := 91) dX12_loose_41 (by decide) (fun c9 => ?_) (fun c9 => ?_)
  · replace V := V.1 c9
    refine rn_aload_n dX12_loose_91 rfl rfl ?_
    refine rn_get (v := .inr (.inr (some 95))) dX12_loose_92 fl_X12_7 rfl rfl (congrArg (fun z => (Sum.inr (Sum.inr z) : MV)) (rf_94_0 hR)) ?_
    refine rn_iconst (v := 4) dX12_loose_95 (by decide) ?_
    refine rn_iald (k := 4) dX12_loose_96 rfl (by decide) (by unfold vp_in; decide) ?_
    exact rn_iret dX12_loose_97 rfl ⟨rfl, hR, _, rfl, V⟩
  · replace V := V.2 c9
    refine rn_aload_n dX12_loose_44 rfl rfl ?_
    refine rn_cV (M' := mX12_drawn) (n := 0) (av := []) (S := []) (rc := 0) (rs := 0) (mc := 0) (ms := 0) (a := 94) (ci := 11) (r := (RX12, TX12, 38)) dX12_loose_45 pa_X12_drawn (Nat.le_refl _) rfl (Nat.le_of_ble_eq_true rfl) ml_X12_239 im_X12_drawn se_X12_drawn rfl rfl rfl (Ev.mono V ?_)
    rintro v sh1 h10 ⟨rfl, Rh10, x11, rfl, V⟩
    show Rn G (d + 1) 0 0 mX12_loose 48 [(0, .inr (.inr (some 94))), (1, .inl l1), (2, .inl l2)] [.inl x11] SH h10 (QI Q)
    refine rn_iconst (v := 4) dX12_loose_48 (by decide) ?_
    refine rn_irem dX12_loose_49 (by decide) ?_
    refine rn_istore_n (L' := [(3, .inl (x11 - x11 / 4 * 4)), (0, .inr (.inr (some 94))), (1, .inl l1), (2, .inl l2)]) dX12_loose_50 rfl (Nat.le_of_ble_eq_true rfl) rfl ?_
    refine rn_aload_n dX12_loose_51 rfl rfl ?_
    refine rn_cV (M' := mX12_drawn) (n := 0) (av := []) (S := []) (rc := 0) (rs := 0) (mc := 0) (ms := 0) (a := 94) (ci := 11) (r := (RX12, TX12, 38)) dX12_loose_52 pa_X12_drawn (Nat.le_refl _) rfl (Nat.le_of_ble_eq_true rfl) ml_X12_239 im_X12_drawn se_X12_drawn rfl rfl rfl (Ev.mono V ?_)
    rintro v sh1 h12 ⟨rfl, Rh12, x13, rfl, V⟩
    show Rn G (d + 1) 0 0 mX12_loose 55 [(3, .inl (x11 - x11 / 4 * 4)), (0, .inr (.inr (some 94))), (1, .inl l1), (2, .inl l2)] [.inl x13] SH h12 (QI Q)
    refine rn_bipush (v := 6) dX12_loose_55 (by decide) ?_
    refine rn_irem dX12_loose_57 (by decide) ?_
    refine rn_istore (L' := [(4, .inl (x13 - x13 / 6 * 6)), (3, .inl (x11 - x11 / 4 * 4)), (0, .inr (.inr (some 94))), (1, .inl l1), (2, .inl l2)]) dX12_loose_58 (Nat.le_of_ble_eq_true rfl) rfl ?_
    refine rn_aload_n dX12_loose_60 rfl rfl ?_
    refine rn_iload_n dX12_loose_61 rfl rfl ?_
    refine rn_cV (M' := mX12_isParty) (n := 1) (av := [.inl (x11 - x11 / 4 * 4)]) (S := []) (rc := 0) (rs := 0) (mc := 0) (ms := 0) (a := 94) (ci := 11) (r := (RX12, TX12, 38)) dX12_loose_62 pa_X12_isParty (Nat.le_refl _) rfl (Nat.le_of_ble_eq_true rfl) ml_X12_174 im_X12_isParty se_X12_isParty rfl rfl rfl (Ev.mono V ?_)
    rintro v sh1 h14 ⟨rfl, Rh14, x15, rfl, V⟩
    show Rn G (d + 1) 0 0 mX12_loose 65 [(4, .inl (x13 - x13 / 6 * 6)), (3, .inl (x11 - x11 / 4 * 4)), (0, .inr (.inr (some 94))), (1, .inl l1), (2, .inl l2)] [.inl x15] SH h14 (QI Q)
    refine rn_if_eq (tgt := 78) dX12_loose_65 (by decide) (fun c16 => ?_) (fun c16 => ?_)
    · replace V := V.1 c16
      refine rn_iconst (v := 0) dX12_loose_78 (by decide) ?_
      refine rn_istore (L' := [(5, .inl 0), (4, .inl (x13 - x13 / 6 * 6)), (3, .inl (x11 - x11 / 4 * 4)), (0, .inr (.inr (some 94))), (1, .inl l1), (2, .inl l2)]) dX12_loose_79 (Nat.le_of_ble_eq_true rfl) rfl ?_
      refine rn_aload_n dX12_loose_81 rfl rfl ?_
      refine rn_cV (M' := mX12_aSecond) (n := 0) (av := []) (S := []) (rc := 0) (rs := 0) (mc := 0) (ms := 0) (a := 94) (ci := 11) (r := (RX12, TX12, 38)) dX12_loose_82 pa_X12_aSecond (Nat.le_refl _) rfl (Nat.le_of_ble_eq_true rfl) ml_X12_235 im_X12_aSecond se_X12_aSecond rfl rfl rfl (Ev.mono V ?_)
      rintro v sh1 h17 ⟨rfl, Rh17, rfl, V⟩
      show Rn G (d + 1) 0 0 mX12_loose 85 [(5, .inl 0), (4, .inl (x13 - x13 / 6 * 6)), (3, .inl (x11 - x11 / 4 * 4)), (0, .inr (.inr (some 94))), (1, .inl l1), (2, .inl l2)] [] SH h17 (QI Q)
      refine rn_iinc (L' := [(2, .inl (l2 + 1)), (5, .inl 0), (4, .inl (x13 - x13 / 6 * 6)), (3, .inl (x11 - x11 / 4 * 4)), (0, .inr (.inr (some 94))), (1, .inl l1)]) dX12_loose_85 rfl (v := (l2 + 1)) rfl (Nat.le_of_ble_eq_true rfl) rfl ?_
      refine rn_goto (tgt := 39) dX12_loose_88 (by decide) ?_
      refine rn_sub [4, 5, 0] (L' := [(0, .inr (.inr (some 94))), (1, .inl l1), (2, .inl (l2 + 1))]) rfl ?_
      exact V
    · replace V := V.2 c16
      refine rn_aload_n dX12_loose_68 rfl rfl ?_
      refine rn_iload_n dX12_loose_69 rfl rfl ?_
      refine rn_iload dX12_loose_70 rfl ?_
      refine rn_cV (M' := mX12_loses) (n := 2) (av := [.inl (x11 - x11 / 4 * 4), .inl (x13 - x13 / 6 * 6)]) (S := []) (rc := 0) (rs := 0) (mc := 0) (ms := 0) (a := 94) (ci := 11) (r := (RX12, TX12, 38)) dX12_loose_72 pa_X12_loses (Nat.le_refl _) rfl (Nat.le_of_ble_eq_true rfl) ml_X12_210 im_X12_loses se_X12_loses rfl rfl rfl (Ev.mono V ?_)
      rintro v sh1 h18 ⟨rfl, Rh18, x19, rfl, V⟩
      show Rn G (d + 1) 0 0 mX12_loose 75 [(4, .inl (x13 - x13 / 6 * 6)), (3, .inl (x11 - x11 / 4 * 4)), (0, .inr (.inr (some 94))), (1, .inl l1), (2, .inl l2)] [.inl x19] SH h18 (QI Q)
      refine rn_goto (tgt := 79) dX12_loose_75 (by decide) ?_
      refine rn_istore (L' := [(5, .inl x19), (4, .inl (x13 - x13 / 6 * 6)), (3, .inl (x11 - x11 / 4 * 4)), (0, .inr (.inr (some 94))), (1, .inl l1), (2, .inl l2)]) dX12_loose_79 (Nat.le_of_ble_eq_true rfl) rfl ?_
      refine rn_aload_n dX12_loose_81 rfl rfl ?_
      refine rn_cV (M' := mX12_aSecond) (n := 0) (av := []) (S := []) (rc := 0) (rs := 0) (mc := 0) (ms := 0) (a := 94) (ci := 11) (r := (RX12, TX12, 38)) dX12_loose_82 pa_X12_aSecond (Nat.le_refl _) rfl (Nat.le_of_ble_eq_true rfl) ml_X12_235 im_X12_aSecond se_X12_aSecond rfl rfl rfl (Ev.mono V ?_)
      rintro v sh1 h20 ⟨rfl, Rh20, rfl, V⟩
      show Rn G (d + 1) 0 0 mX12_loose 85 [(5, .inl x19), (4, .inl (x13 - x13 / 6 * 6)), (3, .inl (x11 - x11 / 4 * 4)), (0, .inr (.inr (some 94))), (1, .inl l1), (2, .inl l2)] [] SH h20 (QI Q)
      refine rn_iinc (L' := [(2, .inl (l2 + 1)), (5, .inl x19), (4, .inl (x13 - x13 / 6 * 6)), (3, .inl (x11 - x11 / 4 * 4)), (0, .inr (.inr (some 94))), (1, .inl l1)]) dX12_loose_85 rfl (v := (l2 + 1)) rfl (Nat.le_of_ble_eq_true rfl) rfl ?_
      refine rn_goto (tgt := 39) dX12_loose_88 (by decide) ?_
      refine rn_sub [4, 5, 0] (L' := [(0, .inr (.inr (some 94))), (1, .inl l1), (2, .inl (l2 + 1))]) rfl ?_
      exact V
set_option maxRecDepth 100000 in
set_option maxHeartbeats 4000000 in
theorem vc_X12_loose {G : GT} {d : Nat} {a1 : Int32}  {h : Hp} {Q : Int32 → Hp → Prop} (hR : RF h) (V : EvI G d mX12_in [.inr (.inl (Int32.toInt64 a1)), .inr (.inl 1), .inr (.inl 300)] h (fun x2 h1 => ((¬ x2 = 0 → (((h1.1 95 3 + a1) ≤ 99999 → Rg_X12_loose_39 G d a1 0 h1 Q) ∧ (¬ (h1.1 95 3 + a1) ≤ 99999 → EvI G d mX12_finds [.inr (.inr (some 94)), .inl 3] h1 (fun x6 h5 => Q x6 h5)))) ∧ (x2 = 0 → EvI G d mX12_finds [.inr (.inr (some 94)), .inl 1] h1 (fun x8 h7 => Q x8 h7))))) : EvI G (d + 1) mX12_loose [.inr (.inr (some 94)), .inl a1] h Q := by
  refine Ev.of rfl (fun _ => Nat.le_of_ble_eq_true rfl) ?_
  show Rn G (d + 1) 0 0 mX12_loose 0 [(0, .inr (.inr (some 94))), (1, .inl a1)] [] SH h (QI Q)
  refine rn_iload_n dX12_loose_0 rfl rfl ?_
  refine rn_i2l dX12_loose_1 ?_
  refine rn_lconst (v := 1) dX12_loose_2 rfl ?_
  refine rn_ldc2 (v := 300) dX12_loose_3 cw_X12_233 ?_
  refine rn_cS (M' := mX12_in) (n := 3) (av := [.inr (.inl (Int32.toInt64 a1)), .inr (.inl 1), .inr (.inl 300)]) (S := []) (rc := 0) (rs := 0) (mc := 0) (ms := 0) dX12_loose_6 pa_X12_in (Nat.le_refl _) rfl (Nat.le_of_ble_eq_true rfl) ml_X12_80 ss_X12_in rfl (Ev.mono V ?_)
  rintro v sh1 h1 ⟨rfl, Rh1, x2, rfl, V⟩
  show Rn G (d + 1) 0 0 mX12_loose 9 [(0, .inr (.inr (some 94))), (1, .inl a1)] [.inl x2] SH h1 (QI Q)
  refine rn_if_ne (tgt := 18) dX12_loose_9 (by decide) (fun c3 => ?_) (fun c3 => ?_)
  · replace V := V.1 c3
    refine rn_aload_n dX12_loose_18 rfl rfl ?_
    refine rn_get (v := .inr (.inr (some 95))) dX12_loose_19 fl_X12_7 rfl rfl (congrArg (fun z => (Sum.inr (Sum.inr z) : MV)) (rf_94_0 Rh1)) ?_
    refine rn_iconst (v := 3) dX12_loose_22 (by decide) ?_
    refine rn_iald (k := 3) dX12_loose_23 rfl (by decide) (by unfold vp_in; decide) ?_
    refine rn_iload_n dX12_loose_24 rfl rfl ?_
    refine rn_iadd dX12_loose_25 ?_
    refine rn_ldc (v := 99999) dX12_loose_26 cw_X12_232 ?_
    refine rn_icmp_le (tgt := 37) dX12_loose_28 (by decide) (fun c4 => ?_) (fun c4 => ?_)
    · replace V := V.1 c4
      refine rn_iconst (v := 0) dX12_loose_37 (by decide) ?_
      refine rn_istore_n (L' := [(2, .inl 0), (0, .inr (.inr (some 94))), (1, .inl a1)]) dX12_loose_38 rfl (Nat.le_of_ble_eq_true rfl) rfl ?_
      refine rn_sub [1, 2, 0] (L' := [(0, .inr (.inr (some 94))), (1, .inl a1), (2, .inl 0)]) rfl ?_
      exact V
    · replace V := V.2 c4
      refine rn_aload_n dX12_loose_31 rfl rfl ?_
      refine rn_iconst (v := 3) dX12_loose_32 (by decide) ?_
      refine rn_cV (M' := mX12_finds) (n := 1) (av := [.inl 3]) (S := []) (rc := 0) (rs := 0) (mc := 0) (ms := 0) (a := 94) (ci := 11) (r := (RX12, TX12, 38)) dX12_loose_33 pa_X12_finds (Nat.le_refl _) rfl (Nat.le_of_ble_eq_true rfl) ml_X12_143 im_X12_finds se_X12_finds rfl rfl rfl (Ev.mono V ?_)
      rintro v sh1 h5 ⟨rfl, Rh5, x6, rfl, V⟩
      show Rn G (d + 1) 0 0 mX12_loose 36 [(0, .inr (.inr (some 94))), (1, .inl a1)] [.inl x6] SH h5 (QI Q)
      exact rn_iret dX12_loose_36 rfl ⟨rfl, Rh5, _, rfl, V⟩
  · replace V := V.2 c3
    refine rn_aload_n dX12_loose_12 rfl rfl ?_
    refine rn_iconst (v := 1) dX12_loose_13 (by decide) ?_
    refine rn_cV (M' := mX12_finds) (n := 1) (av := [.inl 1]) (S := []) (rc := 0) (rs := 0) (mc := 0) (ms := 0) (a := 94) (ci := 11) (r := (RX12, TX12, 38)) dX12_loose_14 pa_X12_finds (Nat.le_refl _) rfl (Nat.le_of_ble_eq_true rfl) ml_X12_143 im_X12_finds se_X12_finds rfl rfl rfl (Ev.mono V ?_)
    rintro v sh1 h7 ⟨rfl, Rh7, x8, rfl, V⟩
    show Rn G (d + 1) 0 0 mX12_loose 17 [(0, .inr (.inr (some 94))), (1, .inl a1)] [.inl x8] SH h7 (QI Q)
    exact rn_iret dX12_loose_17 rfl ⟨rfl, Rh7, _, rfl, V⟩
def Rg_X12_then_45 (G : GT) (d : Nat) (l1 : Int32) (l2 : Int32) (l3 : Int32) (l4 : Int32) (h : Hp) (Q : Int32 → Hp → Prop) : Prop := Rn G (d + 1) 0 0 mX12_then 45 [(0, .inr (.inr (some 94))), (1, .inl l1), (2, .inl l2), (3, .inl l3), (4, .inl l4)] [] SH h (QI Q)
set_option maxRecDepth 100000 in
set_option maxHeartbeats 4000000 in
theorem vc_X12_then_45 {G : GT} {d : Nat} {l1 : Int32} {l2 : Int32} {l3 : Int32} {l4 : Int32}  {h : Hp} {Q : Int32 → Hp → Prop} (hR : RF h) (V : ((l1 ≤ l4 → ((¬ l3 = 0 → ((¬ l3 = 1 → ((¬ l3 = 2 → EvV G d mX12_putBack [.inr (.inr (some 94))] h (fun h21 => Q (h.1 95 6 - 1) h21)) ∧ (l3 = 2 → EvV G d mX12_putBack [.inr (.inr (some 94))] h (fun h22 => Q (h.1 95 4) h22)))) ∧ (l3 = 1 → EvI G d mX12_of [.inr (.inr (some 94)), .inl l2, .inl 4] h (fun x24 h23 => EvV G d mX12_putBack [.inr (.inr (some 94))] h23 (fun h25 => Q x24 h25))))) ∧ (l3 = 0 → EvI G d mX12_of [.inr (.inr (some 94)), .inl l2, .inl 3] h (fun x27 h26 => EvV G d mX12_putBack [.inr (.inr (some 94))] h26 (fun h28 => Q x27 h28))))) ∧ (¬ l1 ≤ l4 → EvV G d mX12_aSecond [.inr (.inr (some 94))] h (fun h29 => Rg_X12_then_45 G d l1 l2 l3 (l4 + 1) h29 Q)))) : Rg_X12_then_45 G d l1 l2 l3 l4 h Q := by
  show Rn G (d + 1) 0 0 mX12_then 45 [(0, .inr (.inr (some 94))), (1, .inl l1), (2, .inl l2), (3, .inl l3), (4, .inl l4)] [] SH h (QI Q)
  refine rn_iload dX12_then_45 rfl ?_
  refine rn_iload_n dX12_then_47 rfl rfl ?_
  refine rn_icmp_ge (tgt := 61) dX12_then_48 (by decide) (fun c17 => ?_) (fun c17 => ?_)
  · replace V := V.1 c17
    refine rn_iload_n dX12_then_61 rfl rfl ?_
    refine rn_if_ne (tgt := 74) dX12_then_62 (by decide) (fun c18 => ?_) (fun c18 => ?_)
    · replace V := V.1 c18
      refine rn_iload_n dX12_then_74 rfl rfl ?_
      refine rn_iconst (v := 1) dX12_then_75 (by decide) ?_
      refine rn_icmp_ne (tgt := 88) dX12_then_76 (by decide) (fun c19 => ?_) (fun c19 => ?_)
      · replace V := V.1 c19
        refine rn_iload_n dX12_then_88 rfl rfl ?_
        refine rn_iconst (v := 2) dX12_then_89 (by decide) ?_
        refine rn_icmp_ne (tgt := 102) dX12_then_90 (by decide) (fun c20 => ?_) (fun c20 => ?_)
        · replace V := V.1 c20
          refine rn_aload_n dX12_then_102 rfl rfl ?_
          refine rn_get (v := .inr (.inr (some 95))) dX12_then_103 fl_X12_7 rfl rfl (congrArg (fun z => (Sum.inr (Sum.inr z) : MV)) (rf_94_0 hR)) ?_
          refine rn_bipush (v := 6) dX12_then_106 (by decide) ?_
          refine rn_iald (k := 6) dX12_then_108 rfl (by decide) (by unfold vp_in; decide) ?_
          refine rn_iconst (v := 1) dX12_then_109 (by decide) ?_
          refine rn_isub dX12_then_110 ?_
          refine rn_istore (L' := [(4, .inl (h.1 95 6 - 1)), (0, .inr (.inr (some 94))), (1, .inl l1), (2, .inl l2), (3, .inl l3)]) dX12_then_111 (Nat.le_of_ble_eq_true rfl) rfl ?_
          refine rn_aload_n dX12_then_113 rfl rfl ?_
          refine rn_cV (M' := mX12_putBack) (n := 0) (av := []) (S := []) (rc := 0) (rs := 0) (mc := 0) (ms := 0) (a := 94) (ci := 11) (r := (RX12, TX12, 38)) dX12_then_114 pa_X12_putBack (Nat.le_refl _) rfl (Nat.le_of_ble_eq_true rfl) ml_X12_247 im_X12_putBack se_X12_putBack rfl rfl rfl (Ev.mono V ?_)
          rintro v sh1 h21 ⟨rfl, Rh21, rfl, V⟩
          show Rn G (d + 1) 0 0 mX12_then 117 [(4, .inl (h.1 95 6 - 1)), (0, .inr (.inr (some 94))), (1, .inl l1), (2, .inl l2), (3, .inl l3)] [] SH h21 (QI Q)
          refine rn_iload dX12_then_117 rfl ?_
          exact rn_iret dX12_then_119 rfl ⟨rfl, Rh21, _, rfl, V⟩
        · replace V := V.2 c20
          refine rn_aload_n dX12_then_93 rfl rfl ?_
          refine rn_get (v := .inr (.inr (some 95))) dX12_then_94 fl_X12_7 rfl rfl (congrArg (fun z => (Sum.inr (Sum.inr z) : MV)) (rf_94_0 hR)) ?_
          refine rn_iconst (v := 4) dX12_then_97 (by decide) ?_
          refine rn_iald (k := 4) dX12_then_98 rfl (by decide) (by unfold vp_in; decide) ?_
          refine rn_goto (tgt := 111) dX12_then_99 (by decide) ?_
          refine rn_istore (L' := [(4, .inl (h.1 95 4)), (0, .inr (.inr (some 94))), (1, .inl l1), (2, .inl l2), (3, .inl l3)]) dX12_then_111 (Nat.le_of_ble_eq_true rfl) rfl ?_
          refine rn_aload_n dX12_then_113 rfl rfl ?_
          refine rn_cV (M' := mX12_putBack) (n := 0) (av := []) (S := []) (rc := 0) (rs := 0) (mc := 0) (ms := 0) (a := 94) (ci := 11) (r := (RX12, TX12, 38)) dX12_then_114 pa_X12_putBack (Nat.le_refl _) rfl (Nat.le_of_ble_eq_true rfl) ml_X12_247 im_X12_putBack se_X12_putBack rfl rfl rfl (Ev.mono V ?_)
          rintro v sh1 h22 ⟨rfl, Rh22, rfl, V⟩
          show Rn G (d + 1) 0 0 mX12_then 117 [(4, .inl (h.1 95 4)), (0, .inr (.inr (some 94))), (1, .inl l1), (2, .inl l2), (3, .inl l3)] [] SH h22 (QI Q)
          refine rn_iload dX12_then_117 rfl ?_
          exact rn_iret dX12_then_119 rfl ⟨rfl, Rh22, _, rfl, V⟩
      · replace V := V.2 c19
        refine rn_aload_n dX12_then_79 rfl rfl ?_
        refine rn_iload_n dX12_then_80 rfl rfl ?_
        refine rn_iconst (v := 4) dX12_then_81 (by decide) ?_
        refine rn_cV (M' := mX12_of) (n := 2) (av := [.inl l2, .inl 4]) (S := []) (rc := 0) (rs := 0) (mc := 0) (ms := 0) (a := 94) (ci := 11) (r := (RX12, TX12, 38)) dX12_then_82 pa_X12_of (Nat.le_refl _) rfl (Nat.le_of_ble_eq_true rfl) ml_X12_161 im_X12_of se_X12_of rfl rfl rfl (Ev.mono V ?_)
        rintro v sh1 h23 ⟨rfl, Rh23, x24, rfl, V⟩
        show Rn G (d + 1) 0 0 mX12_then 85 [(0, .inr (.inr (some 94))), (1, .inl l1), (2, .inl l2), (3, .inl l3), (4, .inl l4)] [.inl x24] SH h23 (QI Q)
        refine rn_goto (tgt := 111) dX12_then_85 (by decide) ?_
        refine rn_istore (L' := [(4, .inl x24), (0, .inr (.inr (some 94))), (1, .inl l1), (2, .inl l2), (3, .inl l3)]) dX12_then_111 (Nat.le_of_ble_eq_true rfl) rfl ?_
        refine rn_aload_n dX12_then_113 rfl rfl ?_
        refine rn_cV (M' := mX12_putBack) (n := 0) (av := []) (S := []) (rc := 0) (rs := 0) (mc := 0) (ms := 0) (a := 94) (ci := 11) (r := (RX12, TX12, 38)) dX12_then_114 pa_X12_putBack (Nat.le_refl _) rfl (Nat.le_of_ble_eq_true rfl) ml_X12_247 im_X12_putBack se_X12_putBack rfl rfl rfl (Ev.mono V ?_)
        rintro v sh1 h25 ⟨rfl, Rh25, rfl, V⟩
        show Rn G (d + 1) 0 0 mX12_then 117 [(4, .inl x24), (0, .inr (.inr (some 94))), (1, .inl l1), (2, .inl l2), (3, .inl l3)] [] SH h25 (QI Q)
        refine rn_iload dX12_then_117 rfl ?_
        exact rn_iret dX12_then_119 rfl ⟨rfl, Rh25, _, rfl, V⟩
    · replace V := V.2 c18
      refine rn_aload_n dX12_then_65 rfl rfl ?_
      refine rn_iload_n dX12_then_66 rfl rfl ?_
      refine rn_iconst (v := 3) dX12_then_67 (by decide) ?_
      refine rn_cV (M' := mX12_of) (n := 2) (av := [.inl l2, .inl 3]) (S := []) (rc := 0) (rs := 0) (mc := 0) (ms := 0) (a := 94) (ci := 11) (r := (RX12, TX12, 38)) dX12_then_68 pa_X12_of (Nat.le_refl _) rfl (Nat.le_of_ble_eq_true rfl) ml_X12_161 im_X12_of se_X12_of rfl rfl rfl (Ev.mono V ?_)
      rintro v sh1 h26 ⟨rfl, Rh26, x27, rfl, V⟩
      show Rn G (d + 1) 0 0 mX12_then 71 [(0, .inr (.inr (some 94))), (1, .inl l1), (2, .inl l2), (3, .inl l3), (4, .inl l4)] [.inl x27] SH h26 (QI Q)
      refine rn_goto (tgt := 111) dX12_then_71 (by decide) ?_
      refine rn_istore (L' := [(4, .inl x27), (0, .inr (.inr (some 94))), (1, .inl l1), (2, .inl l2), (3, .inl l3)]) dX12_then_111 (Nat.le_of_ble_eq_true rfl) rfl ?_
      refine rn_aload_n dX12_then_113 rfl rfl ?_
      refine rn_cV (M' := mX12_putBack) (n := 0) (av := []) (S := []) (rc := 0) (rs := 0) (mc := 0) (ms := 0) (a := 94) (ci := 11) (r := (RX12, TX12, 38)) dX12_then_114 pa_X12_putBack (Nat.le_refl _) rfl (Nat.le_of_ble_eq_true rfl) ml_X12_247 im_X12_putBack se_X12_putBack rfl rfl rfl (Ev.mono V ?_)
      rintro v sh1 h28 ⟨rfl, Rh28, rfl, V⟩
      show Rn G (d + 1) 0 0 mX12_then 117 [(4, .inl x27), (0, .inr (.inr (some 94))), (1, .inl l1), (2, .inl l2), (3, .inl l3)] [] SH h28 (QI Q)
      refine rn_iload dX12_then_117 rfl ?_
      exact rn_iret dX12_then_119 rfl ⟨rfl, Rh28, _, rfl, V⟩
  · replace V := V.2 c17
    refine rn_aload_n dX12_then_51 rfl rfl ?_
    refine rn_cV (M' := mX12_aSecond) (n := 0) (av := []) (S := []) (rc := 0) (rs := 0) (mc := 0) (ms := 0) (a := 94) (ci := 11) (r := (RX12, TX12, 38)) dX12_then_52 pa_X12_aSecond (Nat.le_refl _) rfl (Nat.le_of_ble_eq_true rfl) ml_X12_235 im_X12_aSecond se_X12_aSecond rfl rfl rfl (Ev.mono V ?_)
    rintro v sh1 h29 ⟨rfl, Rh29, rfl, V⟩
    show Rn G (d + 1) 0 0 mX12_then 55 [(0, .inr (.inr (some 94))), (1, .inl l1), (2, .inl l2), (3, .inl l3), (4, .inl l4)] [] SH h29 (QI Q)
    refine rn_iinc (L' := [(4, .inl (l4 + 1)), (0, .inr (.inr (some 94))), (1, .inl l1), (2, .inl l2), (3, .inl l3)]) dX12_then_55 rfl (v := (l4 + 1)) rfl (Nat.le_of_ble_eq_true rfl) rfl ?_
    refine rn_goto (tgt := 45) dX12_then_58 (by decide) ?_
    refine rn_sub [1, 2, 3, 4, 0] (L' := [(0, .inr (.inr (some 94))), (1, .inl l1), (2, .inl l2), (3, .inl l3), (4, .inl (l4 + 1))]) rfl ?_
    exact V
set_option maxRecDepth 100000 in
set_option maxHeartbeats 4000000 in
theorem vc_X12_then {G : GT} {d : Nat} {a1 : Int32} {a2 : Int32} {a3 : Int32}  {h : Hp} {Q : Int32 → Hp → Prop} (hR : RF h) (V : EvI G d mX12_in [.inr (.inl (Int32.toInt64 a1)), .inr (.inl 0), .inr (.inl 300)] h (fun x2 h1 => ((x2 = 0 → EvI G d mX12_finds [.inr (.inr (some 94)), .inl 1] h1 (fun x5 h4 => Q x5 h4)) ∧ (¬ x2 = 0 → EvI G d mX12_isParty [.inr (.inr (some 94)), .inl a2] h1 (fun x7 h6 => ((x7 = 0 → EvI G d mX12_finds [.inr (.inr (some 94)), .inl 1] h6 (fun x10 h9 => Q x10 h9)) ∧ (¬ x7 = 0 → EvI G d mX12_in [.inr (.inl (Int32.toInt64 a3)), .inr (.inl 0), .inr (.inl 3)] h6 (fun x12 h11 => ((¬ x12 = 0 → EvV G d mX12_keepAside [.inr (.inr (some 94))] h11 (fun h14 => Rg_X12_then_45 G d a1 a2 a3 0 h14 Q)) ∧ (x12 = 0 → EvI G d mX12_finds [.inr (.inr (some 94)), .inl 1] h11 (fun x16 h15 => Q x16 h15))))))))))) : EvI G (d + 1) mX12_then [.inr (.inr (some 94)), .inl a1, .inl a2, .inl a3] h Q := by
  refine Ev.of rfl (fun _ => Nat.le_of_ble_eq_true rfl) ?_
  show Rn G (d + 1) 0 0 mX12_then 0 [(0, .inr (.inr (some 94))), (1, .inl a1), (2, .inl a2), (3, .inl a3)] [] SH h (QI Q)
  refine rn_iload_n dX12_then_0 rfl rfl ?_
  refine rn_i2l dX12_then_1 ?_
  refine rn_lconst (v := 0) dX12_then_2 rfl ?_
  refine rn_ldc2 (v := 300) dX12_then_3 cw_X12_233 ?_
  refine rn_cS (M' := mX12_in) (n := 3) (av := [.inr (.inl (Int32.toInt64 a1)), .inr (.inl 0), .inr (.inl 300)]) (S := []) (rc := 0) (rs := 0) (mc := 0) (ms := 0) dX12_then_6 pa_X12_in (Nat.le_refl _) rfl (Nat.le_of_ble_eq_true rfl) ml_X12_80 ss_X12_in rfl (Ev.mono V ?_)
  rintro v sh1 h1 ⟨rfl, Rh1, x2, rfl, V⟩
  show Rn G (d + 1) 0 0 mX12_then 9 [(0, .inr (.inr (some 94))), (1, .inl a1), (2, .inl a2), (3, .inl a3)] [.inl x2] SH h1 (QI Q)
  refine rn_if_eq (tgt := 32) dX12_then_9 (by decide) (fun c3 => ?_) (fun c3 => ?_)
  · replace V := V.1 c3
    refine rn_aload_n dX12_then_32 rfl rfl ?_
    refine rn_iconst (v := 1) dX12_then_33 (by decide) ?_
    refine rn_cV (M' := mX12_finds) (n := 1) (av := [.inl 1]) (S := []) (rc := 0) (rs := 0) (mc := 0) (ms := 0) (a := 94) (ci := 11) (r := (RX12, TX12, 38)) dX12_then_34 pa_X12_finds (Nat.le_refl _) rfl (Nat.le_of_ble_eq_true rfl) ml_X12_143 im_X12_finds se_X12_finds rfl rfl rfl (Ev.mono V ?_)
    rintro v sh1 h4 ⟨rfl, Rh4, x5, rfl, V⟩
    show Rn G (d + 1) 0 0 mX12_then 37 [(0, .inr (.inr (some 94))), (1, .inl a1), (2, .inl a2), (3, .inl a3)] [.inl x5] SH h4 (QI Q)
    exact rn_iret dX12_then_37 rfl ⟨rfl, Rh4, _, rfl, V⟩
  · replace V := V.2 c3
    refine rn_aload_n dX12_then_12 rfl rfl ?_
    refine rn_iload_n dX12_then_13 rfl rfl ?_
    refine rn_cV (M' := mX12_isParty) (n := 1) (av := [.inl a2]) (S := []) (rc := 0) (rs := 0) (mc := 0) (ms := 0) (a := 94) (ci := 11) (r := (RX12, TX12, 38)) dX12_then_14 pa_X12_isParty (Nat.le_refl _) rfl (Nat.le_of_ble_eq_true rfl) ml_X12_174 im_X12_isParty se_X12_isParty rfl rfl rfl (Ev.mono V ?_)
    rintro v sh1 h6 ⟨rfl, Rh6, x7, rfl, V⟩
    show Rn G (d + 1) 0 0 mX12_then 17 [(0, .inr (.inr (some 94))), (1, .inl a1), (2, .inl a2), (3, .inl a3)] [.inl x7] SH h6 (QI Q)
    refine rn_if_eq (tgt := 32) dX12_then_17 (by decide) (fun c8 => ?_) (fun c8 => ?_)
    · replace V := V.1 c8
      refine rn_aload_n dX12_then_32 rfl rfl ?_
      refine rn_iconst (v := 1) dX12_then_33 (by decide) ?_
      refine rn_cV (M' := mX12_finds) (n := 1) (av := [.inl 1]) (S := []) (rc := 0) (rs := 0) (mc := 0) (ms := 0) (a := 94) (ci := 11) (r := (RX12, TX12, 38)) dX12_then_34 pa_X12_finds (Nat.le_refl _) rfl (Nat.le_of_ble_eq_true rfl) ml_X12_143 im_X12_finds se_X12_finds rfl rfl rfl (Ev.mono V ?_)
      rintro v sh1 h9 ⟨rfl, Rh9, x10, rfl, V⟩
      show Rn G (d + 1) 0 0 mX12_then 37 [(0, .inr (.inr (some 94))), (1, .inl a1), (2, .inl a2), (3, .inl a3)] [.inl x10] SH h9 (QI Q)
      exact rn_iret dX12_then_37 rfl ⟨rfl, Rh9, _, rfl, V⟩
    · replace V := V.2 c8
      refine rn_iload_n dX12_then_20 rfl rfl ?_
      refine rn_i2l dX12_then_21 ?_
      refine rn_lconst (v := 0) dX12_then_22 rfl ?_
      refine rn_ldc2 (v := 3) dX12_then_23 cw_X12_242 ?_
      refine rn_cS (M' := mX12_in) (n := 3) (av := [.inr (.inl (Int32.toInt64 a3)), .inr (.inl 0), .inr (.inl 3)]) (S := []) (rc := 0) (rs := 0) (mc := 0) (ms := 0) dX12_then_26 pa_X12_in (Nat.le_refl _) rfl (Nat.le_of_ble_eq_true rfl) ml_X12_80 ss_X12_in rfl (Ev.mono V ?_)
      rintro v sh1 h11 ⟨rfl, Rh11, x12, rfl, V⟩
      show Rn G (d + 1) 0 0 mX12_then 29 [(0, .inr (.inr (some 94))), (1, .inl a1), (2, .inl a2), (3, .inl a3)] [.inl x12] SH h11 (QI Q)
      refine rn_if_ne (tgt := 38) dX12_then_29 (by decide) (fun c13 => ?_) (fun c13 => ?_)
      · replace V := V.1 c13
        refine rn_aload_n dX12_then_38 rfl rfl ?_
        refine rn_cV (M' := mX12_keepAside) (n := 0) (av := []) (S := []) (rc := 0) (rs := 0) (mc := 0) (ms := 0) (a := 94) (ci := 11) (r := (RX12, TX12, 38)) dX12_then_39 pa_X12_keepAside (Nat.le_refl _) rfl (Nat.le_of_ble_eq_true rfl) ml_X12_244 im_X12_keepAside se_X12_keepAside rfl rfl rfl (Ev.mono V ?_)
        rintro v sh1 h14 ⟨rfl, Rh14, rfl, V⟩
        show Rn G (d + 1) 0 0 mX12_then 42 [(0, .inr (.inr (some 94))), (1, .inl a1), (2, .inl a2), (3, .inl a3)] [] SH h14 (QI Q)
        refine rn_iconst (v := 0) dX12_then_42 (by decide) ?_
        refine rn_istore (L' := [(4, .inl 0), (0, .inr (.inr (some 94))), (1, .inl a1), (2, .inl a2), (3, .inl a3)]) dX12_then_43 (Nat.le_of_ble_eq_true rfl) rfl ?_
        refine rn_sub [1, 2, 3, 4, 0] (L' := [(0, .inr (.inr (some 94))), (1, .inl a1), (2, .inl a2), (3, .inl a3), (4, .inl 0)]) rfl ?_
        exact V
      · replace V := V.2 c13
        refine rn_aload_n dX12_then_32 rfl rfl ?_
        refine rn_iconst (v := 1) dX12_then_33 (by decide) ?_
        refine rn_cV (M' := mX12_finds) (n := 1) (av := [.inl 1]) (S := []) (rc := 0) (rs := 0) (mc := 0) (ms := 0) (a := 94) (ci := 11) (r := (RX12, TX12, 38)) dX12_then_34 pa_X12_finds (Nat.le_refl _) rfl (Nat.le_of_ble_eq_true rfl) ml_X12_143 im_X12_finds se_X12_finds rfl rfl rfl (Ev.mono V ?_)
        rintro v sh1 h15 ⟨rfl, Rh15, x16, rfl, V⟩
        show Rn G (d + 1) 0 0 mX12_then 37 [(0, .inr (.inr (some 94))), (1, .inl a1), (2, .inl a2), (3, .inl a3)] [.inl x16] SH h15 (QI Q)
        exact rn_iret dX12_then_37 rfl ⟨rfl, Rh15, _, rfl, V⟩
def Rg_X12_findPool_7 (G : GT) (d : Nat) (l1 : Int32) (l2 : Int32) (h : Hp) (Q : Hp → Prop) : Prop := Rn G (d + 1) 0 0 mX12_findPool 7 [(0, .inr (.inr (some 94))), (1, .inl l1), (2, .inl l2)] [] SH h (QV Q)
set_option maxRecDepth 100000 in
set_option maxHeartbeats 4000000 in
theorem vc_X12_findPool_7 {G : GT} {d : Nat} {l1 : Int32} {l2 : Int32}  {h : Hp} {Q : Hp → Prop} (hR : RF h) (V : ((h.1 95 1 ≤ l2 → Q h) ∧ (¬ h.1 95 1 ≤ l2 → ((5 ≤ h.1 94 13 → Q h) ∧ (¬ 5 ≤ h.1 94 13 → EvI G d mX12_its [.inr (.inr (some 94)), .inl l2, .inl 4] h (fun x4 h3 => ((¬ x4 = 0 → Rg_X12_findPool_7 G d l1 (l2 + 1) h3 Q) ∧ (x4 = 0 → EvI G d mX12_its [.inr (.inr (some 94)), .inl l2, .inl 0] h3 (fun x7 h6 => ((¬ ((l1 >>> (x7 &&& 31)) &&& 1) = 1 → Rg_X12_findPool_7 G d l1 (l2 + 1) h6 Q) ∧ (((l1 >>> (x7 &&& 31)) &&& 1) = 1 → vp_in (h6.1 94 13) 5 ∧ Rg_X12_findPool_7 G d l1 (l2 + 1) (sI (sI h6 100 (Int32.toNatClampNeg (h6.1 94 13)) l2) 94 13 (h6.1 94 13 + 1)) Q))))))))))) : Rg_X12_findPool_7 G d l1 l2 h Q := by
  show Rn G (d + 1) 0 0 mX12_findPool 7 [(0, .inr (.inr (some 94))), (1, .inl l1), (2, .inl l2)] [] SH h (QV Q)
  refine rn_iload_n dX12_findPool_7 rfl rfl ?_
  refine rn_aload_n dX12_findPool_8 rfl rfl ?_
  refine rn_get (v := .inr (.inr (some 95))) dX12_findPool_9 fl_X12_7 rfl rfl (congrArg (fun z => (Sum.inr (Sum.inr z) : MV)) (rf_94_0 hR)) ?_
  refine rn_iconst (v := 1) dX12_findPool_12 (by decide) ?_
  refine rn_iald (k := 1) dX12_findPool_13 rfl (by decide) (by unfold vp_in; decide) ?_
  refine rn_icmp_ge (tgt := 74) dX12_findPool_14 (by decide) (fun c1 => ?_) (fun c1 => ?_)
  · replace V := V.1 c1
    exact rn_vret dX12_findPool_74 rfl ⟨rfl, hR, rfl, V⟩
  · replace V := V.2 c1
    refine rn_aload_n dX12_findPool_17 rfl rfl ?_
    refine rn_get (v := .inl (h.1 94 13)) dX12_findPool_18 fl_X12_250 rfl rfl rfl ?_
    refine rn_iconst (v := 5) dX12_findPool_21 (by decide) ?_
    refine rn_icmp_ge (tgt := 74) dX12_findPool_22 (by decide) (fun c2 => ?_) (fun c2 => ?_)
    · replace V := V.1 c2
      exact rn_vret dX12_findPool_74 rfl ⟨rfl, hR, rfl, V⟩
    · replace V := V.2 c2
      refine rn_aload_n dX12_findPool_25 rfl rfl ?_
      refine rn_iload_n dX12_findPool_26 rfl rfl ?_
      refine rn_iconst (v := 4) dX12_findPool_27 (by decide) ?_
      refine rn_cV (M' := mX12_its) (n := 2) (av := [.inl l2, .inl 4]) (S := []) (rc := 0) (rs := 0) (mc := 0) (ms := 0) (a := 94) (ci := 11) (r := (RX12, TX12, 38)) dX12_findPool_28 pa_X12_its (Nat.le_refl _) rfl (Nat.le_of_ble_eq_true rfl) ml_X12_171 im_X12_its se_X12_its rfl rfl rfl (Ev.mono V ?_)
      rintro v sh1 h3 ⟨rfl, Rh3, x4, rfl, V⟩
      show Rn G (d + 1) 0 0 mX12_findPool 31 [(0, .inr (.inr (some 94))), (1, .inl l1), (2, .inl l2)] [.inl x4] SH h3 (QV Q)
      refine rn_if_ne (tgt := 68) dX12_findPool_31 (by decide) (fun c5 => ?_) (fun c5 => ?_)
      · replace V := V.1 c5
        refine rn_iinc (L' := [(2, .inl (l2 + 1)), (0, .inr (.inr (some 94))), (1, .inl l1)]) dX12_findPool_68 rfl (v := (l2 + 1)) rfl (Nat.le_of_ble_eq_true rfl) rfl ?_
        refine rn_goto (tgt := 7) dX12_findPool_71 (by decide) ?_
        refine rn_sub [1, 2, 0] (L' := [(0, .inr (.inr (some 94))), (1, .inl l1), (2, .inl (l2 + 1))]) rfl ?_
        exact V
      · replace V := V.2 c5
        refine rn_iload_n dX12_findPool_34 rfl rfl ?_
        refine rn_aload_n dX12_findPool_35 rfl rfl ?_
        refine rn_iload_n dX12_findPool_36 rfl rfl ?_
        refine rn_iconst (v := 0) dX12_findPool_37 (by decide) ?_
        refine rn_cV (M' := mX12_its) (n := 2) (av := [.inl l2, .inl 0]) (S := [.inl l1]) (rc := 0) (rs := 0) (mc := 0) (ms := 0) (a := 94) (ci := 11) (r := (RX12, TX12, 38)) dX12_findPool_38 pa_X12_its (Nat.le_refl _) rfl (Nat.le_of_ble_eq_true rfl) ml_X12_171 im_X12_its se_X12_its rfl rfl rfl (Ev.mono V ?_)
        rintro v sh1 h6 ⟨rfl, Rh6, x7, rfl, V⟩
        show Rn G (d + 1) 0 0 mX12_findPool 41 [(0, .inr (.inr (some 94))), (1, .inl l1), (2, .inl l2)] [.inl x7, .inl l1] SH h6 (QV Q)
        refine rn_ishr dX12_findPool_41 ?_
        refine rn_iconst (v := 1) dX12_findPool_42 (by decide) ?_
        refine rn_iand dX12_findPool_43 ?_
        refine rn_iconst (v := 1) dX12_findPool_44 (by decide) ?_
        refine rn_icmp_ne (tgt := 68) dX12_findPool_45 (by decide) (fun c8 => ?_) (fun c8 => ?_)
        · replace V := V.1 c8
          refine rn_iinc (L' := [(2, .inl (l2 + 1)), (0, .inr (.inr (some 94))), (1, .inl l1)]) dX12_findPool_68 rfl (v := (l2 + 1)) rfl (Nat.le_of_ble_eq_true rfl) rfl ?_
          refine rn_goto (tgt := 7) dX12_findPool_71 (by decide) ?_
          refine rn_sub [1, 2, 0] (L' := [(0, .inr (.inr (some 94))), (1, .inl l1), (2, .inl (l2 + 1))]) rfl ?_
          exact V
        · replace V := V.2 c8
          refine rn_aload_n dX12_findPool_48 rfl rfl ?_
          refine rn_get (v := .inr (.inr (some 100))) dX12_findPool_49 fl_X12_25 rfl rfl (congrArg (fun z => (Sum.inr (Sum.inr z) : MV)) (rf_94_12 Rh6)) ?_
          refine rn_aload_n dX12_findPool_52 rfl rfl ?_
          refine rn_get (v := .inl (h6.1 94 13)) dX12_findPool_53 fl_X12_250 rfl rfl rfl ?_
          refine rn_iload_n dX12_findPool_56 rfl rfl ?_
          obtain ⟨g0, V⟩ := V
          refine rn_iast (k := (Int32.toNatClampNeg (h6.1 94 13))) dX12_findPool_57 rfl rfl g0 ?_
          refine rn_aload_n dX12_findPool_58 rfl rfl ?_
          refine rn_dup dX12_findPool_59 rfl ?_
          refine rn_get (v := .inl (h6.1 94 13)) dX12_findPool_60 fl_X12_250 rfl rfl rfl ?_
          refine rn_iconst (v := 1) dX12_findPool_63 (by decide) ?_
          refine rn_iadd dX12_findPool_64 ?_
          refine rn_putI dX12_findPool_65 fl_X12_250 rfl rfl (Or.inl rfl) rfl rfl ?_
          refine rn_iinc (L' := [(2, .inl (l2 + 1)), (0, .inr (.inr (some 94))), (1, .inl l1)]) dX12_findPool_68 rfl (v := (l2 + 1)) rfl (Nat.le_of_ble_eq_true rfl) rfl ?_
          refine rn_goto (tgt := 7) dX12_findPool_71 (by decide) ?_
          refine rn_sub [1, 2, 0] (L' := [(0, .inr (.inr (some 94))), (1, .inl l1), (2, .inl (l2 + 1))]) rfl ?_
          exact V
set_option maxRecDepth 100000 in
set_option maxHeartbeats 4000000 in
theorem vc_X12_findPool {G : GT} {d : Nat} {a1 : Int32}  {h : Hp} {Q : Hp → Prop} (hR : RF h) (V : Rg_X12_findPool_7 G d a1 0 (sI h 94 13 0) Q) : EvV G (d + 1) mX12_findPool [.inr (.inr (some 94)), .inl a1] h Q := by
  refine Ev.of rfl (fun _ => Nat.le_of_ble_eq_true rfl) ?_
  show Rn G (d + 1) 0 0 mX12_findPool 0 [(0, .inr (.inr (some 94))), (1, .inl a1)] [] SH h (QV Q)
  refine rn_aload_n dX12_findPool_0 rfl rfl ?_
  refine rn_iconst (v := 0) dX12_findPool_1 (by decide) ?_
  refine rn_putI dX12_findPool_2 fl_X12_250 rfl rfl (Or.inl rfl) rfl rfl ?_
  refine rn_iconst (v := 0) dX12_findPool_5 (by decide) ?_
  refine rn_istore_n (L' := [(2, .inl 0), (0, .inr (.inr (some 94))), (1, .inl a1)]) dX12_findPool_6 rfl (Nat.le_of_ble_eq_true rfl) rfl ?_
  refine rn_sub [1, 2, 0] (L' := [(0, .inr (.inr (some 94))), (1, .inl a1), (2, .inl 0)]) rfl ?_
  exact V
def Rg_X12_mayCome_68 (G : GT) (d : Nat) (l2 : Int32) (l6 : Int32) (l7 : Int32) (l8 : Int32) (h : Hp) (Q : Int32 → Hp → Prop) : Prop := Rn G (d + 1) 0 0 mX12_mayCome 68 [(0, .inr (.inr (some 94))), (2, .inl l2), (6, .inl l6), (7, .inl l7), (8, .inl l8)] [] SH h (QI Q)
set_option maxRecDepth 100000 in
set_option maxHeartbeats 4000000 in
theorem vc_X12_mayCome_68 {G : GT} {d : Nat} {l2 : Int32} {l6 : Int32} {l7 : Int32} {l8 : Int32}  {h : Hp} {Q : Int32 → Hp → Prop} (hR : RF h) (V : ((h.1 94 13 ≤ l8 → (narrow .boolean (.int l7) = .int l7 ∧ Q l7 h)) ∧ (¬ h.1 94 13 ≤ l8 → ((¬ l7 = 0 → Rg_X12_mayCome_68 G d l2 l6 1 (l8 + 1) h Q) ∧ (l7 = 0 → vp_in l8 5 ∧ ((¬ h.1 100 (Int32.toNatClampNeg l8) = l6 → Rg_X12_mayCome_68 G d l2 l6 0 (l8 + 1) h Q) ∧ (h.1 100 (Int32.toNatClampNeg l8) = l6 → ((¬ ((l2 >>> (l8 &&& 31)) &&& 1) = 1 → Rg_X12_mayCome_68 G d l2 l6 0 (l8 + 1) h Q) ∧ (((l2 >>> (l8 &&& 31)) &&& 1) = 1 → Rg_X12_mayCome_68 G d l2 l6 1 (l8 + 1) h Q))))))))) : Rg_X12_mayCome_68 G d l2 l6 l7 l8 h Q := by
  show Rn G (d + 1) 0 0 mX12_mayCome 68 [(0, .inr (.inr (some 94))), (2, .inl l2), (6, .inl l6), (7, .inl l7), (8, .inl l8)] [] SH h (QI Q)
  refine rn_iload dX12_mayCome_68 rfl ?_
  refine rn_aload_n dX12_mayCome_70 rfl rfl ?_
  refine rn_get (v := .inl (h.1 94 13)) dX12_mayCome_71 fl_X12_250 rfl rfl rfl ?_
  refine rn_icmp_ge (tgt := 117) dX12_mayCome_74 (by decide) (fun c11 => ?_) (fun c11 => ?_)
  · replace V := V.1 c11
    refine rn_iload dX12_mayCome_117 rfl ?_
    exact rn_zret dX12_mayCome_119 rfl V.1 ⟨rfl, hR, _, rfl, V.2⟩
  · replace V := V.2 c11
    refine rn_iload dX12_mayCome_77 rfl ?_
    refine rn_if_ne (tgt := 104) dX12_mayCome_79 (by decide) (fun c12 => ?_) (fun c12 => ?_)
    · replace V := V.1 c12
      refine rn_iconst (v := 1) dX12_mayCome_104 (by decide) ?_
      refine rn_goto (tgt := 109) dX12_mayCome_105 (by decide) ?_
      refine rn_istore (L' := [(7, .inl 1), (0, .inr (.inr (some 94))), (2, .inl l2), (6, .inl l6), (8, .inl l8)]) dX12_mayCome_109 (Nat.le_of_ble_eq_true rfl) rfl ?_
      refine rn_iinc (L' := [(8, .inl (l8 + 1)), (7, .inl 1), (0, .inr (.inr (some 94))), (2, .inl l2), (6, .inl l6)]) dX12_mayCome_111 rfl (v := (l8 + 1)) rfl (Nat.le_of_ble_eq_true rfl) rfl ?_
      refine rn_goto (tgt := 68) dX12_mayCome_114 (by decide) ?_
      refine rn_sub [2, 3, 4, 1, 0] (L' := [(0, .inr (.inr (some 94))), (2, .inl l2), (6, .inl l6), (7, .inl 1), (8, .inl (l8 + 1))]) rfl ?_
      exact V
    · replace V := V.2 c12
      refine rn_aload_n dX12_mayCome_82 rfl rfl ?_
      refine rn_get (v := .inr (.inr (some 100))) dX12_mayCome_83 fl_X12_25 rfl rfl (congrArg (fun z => (Sum.inr (Sum.inr z) : MV)) (rf_94_12 hR)) ?_
      refine rn_iload dX12_mayCome_86 rfl ?_
      obtain ⟨g0, V⟩ := V
      refine rn_iald (k := (Int32.toNatClampNeg l8)) dX12_mayCome_88 rfl rfl g0 ?_
      refine rn_iload dX12_mayCome_89 rfl ?_
      refine rn_icmp_ne (tgt := 108) dX12_mayCome_91 (by decide) (fun c13 => ?_) (fun c13 => ?_)
      · replace V := V.1 c13
        refine rn_iconst (v := 0) dX12_mayCome_108 (by decide) ?_
        refine rn_istore (L' := [(7, .inl 0), (0, .inr (.inr (some 94))), (2, .inl l2), (6, .inl l6), (8, .inl l8)]) dX12_mayCome_109 (Nat.le_of_ble_eq_true rfl) rfl ?_
        refine rn_iinc (L' := [(8, .inl (l8 + 1)), (7, .inl 0), (0, .inr (.inr (some 94))), (2, .inl l2), (6, .inl l6)]) dX12_mayCome_111 rfl (v := (l8 + 1)) rfl (Nat.le_of_ble_eq_true rfl) rfl ?_
        refine rn_goto (tgt := 68) dX12_mayCome_114 (by decide) ?_
        refine rn_sub [2, 3, 4, 1, 0] (L' := [(0, .inr (.inr (some 94))), (2, .inl l2), (6, .inl l6), (7, .inl 0), (8, .inl (l8 + 1))]) rfl ?_
        exact V
      · replace V := V.2 c13
        refine rn_iload_n dX12_mayCome_94 rfl rfl ?_
        refine rn_iload dX12_mayCome_95 rfl ?_
        refine rn_ishr dX12_mayCome_97 ?_
        refine rn_iconst (v := 1) dX12_mayCome_98 (by decide) ?_
        refine rn_iand dX12_mayCome_99 ?_
        refine rn_iconst (v := 1) dX12_mayCome_100 (by decide) ?_
        refine rn_icmp_ne (tgt := 108) dX12_mayCome_101 (by decide) (fun c14 => ?_) (fun c14 => ?_)
        · replace V := V.1 c14
          refine rn_iconst (v := 0) dX12_mayCome_108 (by decide) ?_
          refine rn_istore (L' := [(7, .inl 0), (0, .inr (.inr (some 94))), (2, .inl l2), (6, .inl l6), (8, .inl l8)]) dX12_mayCome_109 (Nat.le_of_ble_eq_true rfl) rfl ?_
          refine rn_iinc (L' := [(8, .inl (l8 + 1)), (7, .inl 0), (0, .inr (.inr (some 94))), (2, .inl l2), (6, .inl l6)]) dX12_mayCome_111 rfl (v := (l8 + 1)) rfl (Nat.le_of_ble_eq_true rfl) rfl ?_
          refine rn_goto (tgt := 68) dX12_mayCome_114 (by decide) ?_
          refine rn_sub [2, 3, 4, 1, 0] (L' := [(0, .inr (.inr (some 94))), (2, .inl l2), (6, .inl l6), (7, .inl 0), (8, .inl (l8 + 1))]) rfl ?_
          exact V
        · replace V := V.2 c14
          refine rn_iconst (v := 1) dX12_mayCome_104 (by decide) ?_
          refine rn_goto (tgt := 109) dX12_mayCome_105 (by decide) ?_
          refine rn_istore (L' := [(7, .inl 1), (0, .inr (.inr (some 94))), (2, .inl l2), (6, .inl l6), (8, .inl l8)]) dX12_mayCome_109 (Nat.le_of_ble_eq_true rfl) rfl ?_
          refine rn_iinc (L' := [(8, .inl (l8 + 1)), (7, .inl 1), (0, .inr (.inr (some 94))), (2, .inl l2), (6, .inl l6)]) dX12_mayCome_111 rfl (v := (l8 + 1)) rfl (Nat.le_of_ble_eq_true rfl) rfl ?_
          refine rn_goto (tgt := 68) dX12_mayCome_114 (by decide) ?_
          refine rn_sub [2, 3, 4, 1, 0] (L' := [(0, .inr (.inr (some 94))), (2, .inl l2), (6, .inl l6), (7, .inl 1), (8, .inl (l8 + 1))]) rfl ?_
          exact V
set_option maxRecDepth 100000 in
set_option maxHeartbeats 4000000 in
theorem vc_X12_mayCome {G : GT} {d : Nat} {a1 : Int32} {a2 : Int32} {a3 : Int32} {a4 : Int32}  {h : Hp} {Q : Int32 → Hp → Prop} (hR : RF h) (V : vp_in a1 5 ∧ ((((a2 >>> (a1 &&& 31)) &&& 1) = 1 → Q 0 h) ∧ (¬ ((a2 >>> (a1 &&& 31)) &&& 1) = 1 → EvI G d mX12_its [.inr (.inr (some 94)), .inl (h.1 100 (Int32.toNatClampNeg a1)), .inl 1] h (fun x3 h2 => (((a4 + x3) ≤ a3 → EvI G d mX12_its [.inr (.inr (some 94)), .inl (h.1 100 (Int32.toNatClampNeg a1)), .inl 3] h2 (fun x6 h5 => ((x6 < 0 → Rg_X12_mayCome_68 G d a2 x6 1 0 h5 Q) ∧ (¬ x6 < 0 → EvI G d mX12_its [.inr (.inr (some 94)), .inl x6, .inl 4] h5 (fun x9 h8 => ((¬ x9 = 1 → Rg_X12_mayCome_68 G d a2 x6 0 0 h8 Q) ∧ (x9 = 1 → Rg_X12_mayCome_68 G d a2 x6 1 0 h8 Q))))))) ∧ (¬ (a4 + x3) ≤ a3 → Q 0 h2)))))) : EvI G (d + 1) mX12_mayCome [.inr (.inr (some 94)), .inl a1, .inl a2, .inl a3, .inl a4] h Q := by
  refine Ev.of rfl (fun _ => Nat.le_of_ble_eq_true rfl) ?_
  show Rn G (d + 1) 0 0 mX12_mayCome 0 [(0, .inr (.inr (some 94))), (1, .inl a1), (2, .inl a2), (3, .inl a3), (4, .inl a4)] [] SH h (QI Q)
  refine rn_aload_n dX12_mayCome_0 rfl rfl ?_
  refine rn_get (v := .inr (.inr (some 100))) dX12_mayCome_1 fl_X12_25 rfl rfl (congrArg (fun z => (Sum.inr (Sum.inr z) : MV)) (rf_94_12 hR)) ?_
  refine rn_iload_n dX12_mayCome_4 rfl rfl ?_
  obtain ⟨g0, V⟩ := V
  refine rn_iald (k := (Int32.toNatClampNeg a1)) dX12_mayCome_5 rfl rfl g0 ?_
  refine rn_istore (L' := [(5, .inl (h.1 100 (Int32.toNatClampNeg a1))), (0, .inr (.inr (some 94))), (1, .inl a1), (2, .inl a2), (3, .inl a3), (4, .inl a4)]) dX12_mayCome_6 (Nat.le_of_ble_eq_true rfl) rfl ?_
  refine rn_iload_n dX12_mayCome_8 rfl rfl ?_
  refine rn_iload_n dX12_mayCome_9 rfl rfl ?_
  refine rn_ishr dX12_mayCome_10 ?_
  refine rn_iconst (v := 1) dX12_mayCome_11 (by decide) ?_
  refine rn_iand dX12_mayCome_12 ?_
  refine rn_iconst (v := 1) dX12_mayCome_13 (by decide) ?_
  refine rn_icmp_eq (tgt := 31) dX12_mayCome_14 (by decide) (fun c1 => ?_) (fun c1 => ?_)
  · replace V := V.1 c1
    refine rn_iconst (v := 0) dX12_mayCome_31 (by decide) ?_
    exact rn_zret dX12_mayCome_32 rfl (by decide) ⟨rfl, hR, _, rfl, V⟩
  · replace V := V.2 c1
    refine rn_iload dX12_mayCome_17 rfl ?_
    refine rn_aload_n dX12_mayCome_19 rfl rfl ?_
    refine rn_iload dX12_mayCome_20 rfl ?_
    refine rn_iconst (v := 1) dX12_mayCome_22 (by decide) ?_
    refine rn_cV (M' := mX12_its) (n := 2) (av := [.inl (h.1 100 (Int32.toNatClampNeg a1)), .inl 1]) (S := [.inl a4]) (rc := 0) (rs := 0) (mc := 0) (ms := 0) (a := 94) (ci := 11) (r := (RX12, TX12, 38)) dX12_mayCome_23 pa_X12_its (Nat.le_refl _) rfl (Nat.le_of_ble_eq_true rfl) ml_X12_171 im_X12_its se_X12_its rfl rfl rfl (Ev.mono V ?_)
    rintro v sh1 h2 ⟨rfl, Rh2, x3, rfl, V⟩
    show Rn G (d + 1) 0 0 mX12_mayCome 26 [(5, .inl (h.1 100 (Int32.toNatClampNeg a1))), (0, .inr (.inr (some 94))), (1, .inl a1), (2, .inl a2), (3, .inl a3), (4, .inl a4)] [.inl x3, .inl a4] SH h2 (QI Q)
    refine rn_iadd dX12_mayCome_26 ?_
    refine rn_iload_n dX12_mayCome_27 rfl rfl ?_
    refine rn_icmp_le (tgt := 33) dX12_mayCome_28 (by decide) (fun c4 => ?_) (fun c4 => ?_)
    · replace V := V.1 c4
      refine rn_aload_n dX12_mayCome_33 rfl rfl ?_
      refine rn_iload dX12_mayCome_34 rfl ?_
      refine rn_iconst (v := 3) dX12_mayCome_36 (by decide) ?_
      refine rn_cV (M' := mX12_its) (n := 2) (av := [.inl (h.1 100 (Int32.toNatClampNeg a1)), .inl 3]) (S := []) (rc := 0) (rs := 0) (mc := 0) (ms := 0) (a := 94) (ci := 11) (r := (RX12, TX12, 38)) dX12_mayCome_37 pa_X12_its (Nat.le_refl _) rfl (Nat.le_of_ble_eq_true rfl) ml_X12_171 im_X12_its se_X12_its rfl rfl rfl (Ev.mono V ?_)
      rintro v sh1 h5 ⟨rfl, Rh5, x6, rfl, V⟩
      show Rn G (d + 1) 0 0 mX12_mayCome 40 [(5, .inl (h.1 100 (Int32.toNatClampNeg a1))), (0, .inr (.inr (some 94))), (1, .inl a1), (2, .inl a2), (3, .inl a3), (4, .inl a4)] [.inl x6] SH h5 (QI Q)
      refine rn_istore (L' := [(6, .inl x6), (5, .inl (h.1 100 (Int32.toNatClampNeg a1))), (0, .inr (.inr (some 94))), (1, .inl a1), (2, .inl a2), (3, .inl a3), (4, .inl a4)]) dX12_mayCome_40 (Nat.le_of_ble_eq_true rfl) rfl ?_
      refine rn_iload dX12_mayCome_42 rfl ?_
      refine rn_if_lt (tgt := 58) dX12_mayCome_44 (by decide) (fun c7 => ?_) (fun c7 => ?_)
      · replace V := V.1 c7
        refine rn_iconst (v := 1) dX12_mayCome_58 (by decide) ?_
        refine rn_goto (tgt := 63) dX12_mayCome_59 (by decide) ?_
        refine rn_istore (L' := [(7, .inl 1), (6, .inl x6), (5, .inl (h.1 100 (Int32.toNatClampNeg a1))), (0, .inr (.inr (some 94))), (1, .inl a1), (2, .inl a2), (3, .inl a3), (4, .inl a4)]) dX12_mayCome_63 (Nat.le_of_ble_eq_true rfl) rfl ?_
        refine rn_iconst (v := 0) dX12_mayCome_65 (by decide) ?_
        refine rn_istore (L' := [(8, .inl 0), (7, .inl 1), (6, .inl x6), (5, .inl (h.1 100 (Int32.toNatClampNeg a1))), (0, .inr (.inr (some 94))), (1, .inl a1), (2, .inl a2), (3, .inl a3), (4, .inl a4)]) dX12_mayCome_66 (Nat.le_of_ble_eq_true rfl) rfl ?_
        refine rn_sub [4, 6, 2, 1, 0] (L' := [(0, .inr (.inr (some 94))), (2, .inl a2), (6, .inl x6), (7, .inl 1), (8, .inl 0)]) rfl ?_
        exact V
      · replace V := V.2 c7
        refine rn_aload_n dX12_mayCome_47 rfl rfl ?_
        refine rn_iload dX12_mayCome_48 rfl ?_
        refine rn_iconst (v := 4) dX12_mayCome_50 (by decide) ?_
        refine rn_cV (M' := mX12_its) (n := 2) (av := [.inl x6, .inl 4]) (S := []) (rc := 0) (rs := 0) (mc := 0) (ms := 0) (a := 94) (ci := 11) (r := (RX12, TX12, 38)) dX12_mayCome_51 pa_X12_its (Nat.le_refl _) rfl (Nat.le_of_ble_eq_true rfl) ml_X12_171 im_X12_its se_X12_its rfl rfl rfl (Ev.mono V ?_)
        rintro v sh1 h8 ⟨rfl, Rh8, x9, rfl, V⟩
        show Rn G (d + 1) 0 0 mX12_mayCome 54 [(6, .inl x6), (5, .inl (h.1 100 (Int32.toNatClampNeg a1))), (0, .inr (.inr (some 94))), (1, .inl a1), (2, .inl a2), (3, .inl a3), (4, .inl a4)] [.inl x9] SH h8 (QI Q)
        refine rn_iconst (v := 1) dX12_mayCome_54 (by decide) ?_
        refine rn_icmp_ne (tgt := 62) dX12_mayCome_55 (by decide) (fun c10 => ?_) (fun c10 => ?_)
        · replace V := V.1 c10
          refine rn_iconst (v := 0) dX12_mayCome_62 (by decide) ?_
          refine rn_istore (L' := [(7, .inl 0), (6, .inl x6), (5, .inl (h.1 100 (Int32.toNatClampNeg a1))), (0, .inr (.inr (some 94))), (1, .inl a1), (2, .inl a2), (3, .inl a3), (4, .inl a4)]) dX12_mayCome_63 (Nat.le_of_ble_eq_true rfl) rfl ?_
          refine rn_iconst (v := 0) dX12_mayCome_65 (by decide) ?_
          refine rn_istore (L' := [(8, .inl 0), (7, .inl 0), (6, .inl x6), (5, .inl (h.1 100 (Int32.toNatClampNeg a1))), (0, .inr (.inr (some 94))), (1, .inl a1), (2, .inl a2), (3, .inl a3), (4, .inl a4)]) dX12_mayCome_66 (Nat.le_of_ble_eq_true rfl) rfl ?_
          refine rn_sub [4, 6, 2, 1, 0] (L' := [(0, .inr (.inr (some 94))), (2, .inl a2), (6, .inl x6), (7, .inl 0), (8, .inl 0)]) rfl ?_
          exact V
        · replace V := V.2 c10
          refine rn_iconst (v := 1) dX12_mayCome_58 (by decide) ?_
          refine rn_goto (tgt := 63) dX12_mayCome_59 (by decide) ?_
          refine rn_istore (L' := [(7, .inl 1), (6, .inl x6), (5, .inl (h.1 100 (Int32.toNatClampNeg a1))), (0, .inr (.inr (some 94))), (1, .inl a1), (2, .inl a2), (3, .inl a3), (4, .inl a4)]) dX12_mayCome_63 (Nat.le_of_ble_eq_true rfl) rfl ?_
          refine rn_iconst (v := 0) dX12_mayCome_65 (by decide) ?_
          refine rn_istore (L' := [(8, .inl 0), (7, .inl 1), (6, .inl x6), (5, .inl (h.1 100 (Int32.toNatClampNeg a1))), (0, .inr (.inr (some 94))), (1, .inl a1), (2, .inl a2), (3, .inl a3), (4, .inl a4)]) dX12_mayCome_66 (Nat.le_of_ble_eq_true rfl) rfl ?_
          refine rn_sub [4, 6, 2, 1, 0] (L' := [(0, .inr (.inr (some 94))), (2, .inl a2), (6, .inl x6), (7, .inl 1), (8, .inl 0)]) rfl ?_
          exact V
    · replace V := V.2 c4
      refine rn_iconst (v := 0) dX12_mayCome_31 (by decide) ?_
      exact rn_zret dX12_mayCome_32 rfl (by decide) ⟨rfl, Rh2, _, rfl, V⟩
def Rg_X12_findBest_19 (G : GT) (d : Nat) (l1 : Int32) (l2 : Int32) (l3 : Int32) (l4 : Int32) (h : Hp) (Q : Hp → Prop) : Prop := Rn G (d + 1) 0 0 mX12_findBest 19 [(0, .inr (.inr (some 94))), (1, .inl l1), (2, .inl l2), (3, .inl l3), (4, .inl l4)] [] SH h (QV Q)
def Rg_X12_findBest_109 (G : GT) (d : Nat) (l2 : Int32) (l4 : Int32) (l5 : Int32) (l6 : Int32) (h : Hp) (Q : Hp → Prop) : Prop := Rn G (d + 1) 0 0 mX12_findBest 109 [(0, .inr (.inr (some 94))), (2, .inl l2), (4, .inl l4), (5, .inl l5), (6, .inl l6)] [] SH h (QV Q)
def Rg_X12_findBest_125 (G : GT) (d : Nat) (l2 : Int32) (l4 : Int32) (l5 : Int32) (l6 : Int32) (l7 : Int32) (h : Hp) (Q : Hp → Prop) : Prop := Rn G (d + 1) 0 0 mX12_findBest 125 [(0, .inr (.inr (some 94))), (2, .inl l2), (4, .inl l4), (5, .inl l5), (6, .inl l6), (7, .inl l7)] [] SH h (QV Q)
def Rg_X12_findBest_373 (G : GT) (d : Nat) (l2 : Int32) (l4 : Int32) (l5 : Int32) (l6 : Int32) (l8 : Int32) (h : Hp) (Q : Hp → Prop) : Prop := Rn G (d + 1) 0 0 mX12_findBest 373 [(0, .inr (.inr (some 94))), (2, .inl l2), (4, .inl l4), (5, .inl l5), (6, .inl l6), (8, .inl l8)] [] SH h (QV Q)
set_option maxRecDepth 100000 in
set_option maxHeartbeats 4000000 in
theorem vc_X12_findBest_19 {G : GT} {d : Nat} {l1 : Int32} {l2 : Int32} {l3 : Int32} {l4 : Int32}  {h : Hp} {Q : Hp → Prop} (hR : RF h) (V : ((l4 < 0 → ((0 ≤ l2 → EvI G d mX12_runs [.inr (.inr (some 94)), .inl l2] (sI (sI (sI h 94 17 0) 94 18 0) 94 19 0) (fun x5 h4 => ¬ x5 = 0 ∧ Rg_X12_findBest_109 G d l2 (l3 / x5) 0 0 (sI (sI (sI h4 101 0 (-1)) 102 0 0) 103 0 0) Q)) ∧ (¬ 0 ≤ l2 → Q (sI (sI (sI h 94 17 0) 94 18 0) 94 19 0)))) ∧ (¬ l4 < 0 → ((¬ ((l1 >>> (l4 &&& 31)) &&& 1) = 1 → Rg_X12_findBest_19 G d l1 l2 l3 (l4 + (-1)) h Q) ∧ (((l1 >>> (l4 &&& 31)) &&& 1) = 1 → EvI G d mX12_of [.inr (.inr (some 94)), .inl l4, .inl 3] h (fun x8 h7 => Rg_X12_findBest_19 G d l1 l4 (l3 + x8) (l4 + (-1)) h7 Q)))))) : Rg_X12_findBest_19 G d l1 l2 l3 l4 h Q := by
  show Rn G (d + 1) 0 0 mX12_findBest 19 [(0, .inr (.inr (some 94))), (1, .inl l1), (2, .inl l2), (3, .inl l3), (4, .inl l4)] [] SH h (QV Q)
  refine rn_iload dX12_findBest_19 rfl ?_
  refine rn_if_lt (tgt := 53) dX12_findBest_21 (by decide) (fun c2 => ?_) (fun c2 => ?_)
  · replace V := V.1 c2
    refine rn_aload_n dX12_findBest_53 rfl rfl ?_
    refine rn_iconst (v := 0) dX12_findBest_54 (by decide) ?_
    refine rn_putI dX12_findBest_55 fl_X12_256 rfl rfl (Or.inl rfl) rfl rfl ?_
    refine rn_aload_n dX12_findBest_58 rfl rfl ?_
    refine rn_iconst (v := 0) dX12_findBest_59 (by decide) ?_
    refine rn_putI dX12_findBest_60 fl_X12_259 rfl rfl (Or.inl rfl) rfl rfl ?_
    refine rn_aload_n dX12_findBest_63 rfl rfl ?_
    refine rn_iconst (v := 0) dX12_findBest_64 (by decide) ?_
    refine rn_putI dX12_findBest_65 fl_X12_262 rfl rfl (Or.inl rfl) rfl rfl ?_
    refine rn_iload_n dX12_findBest_68 rfl rfl ?_
    refine rn_if_ge (tgt := 73) dX12_findBest_69 (by decide) (fun c3 => ?_) (fun c3 => ?_)
    · replace V := V.1 c3
      refine rn_iload_n dX12_findBest_73 rfl rfl ?_
      refine rn_aload_n dX12_findBest_74 rfl rfl ?_
      refine rn_iload_n dX12_findBest_75 rfl rfl ?_
      refine rn_cV (M' := mX12_runs) (n := 1) (av := [.inl l2]) (S := [.inl l3]) (rc := 0) (rs := 0) (mc := 0) (ms := 0) (a := 94) (ci := 11) (r := (RX12, TX12, 38)) dX12_findBest_76 pa_X12_runs (Nat.le_refl _) rfl (Nat.le_of_ble_eq_true rfl) ml_X12_179 im_X12_runs se_X12_runs rfl rfl rfl (Ev.mono V ?_)
      rintro v sh1 h4 ⟨rfl, Rh4, x5, rfl, V⟩
      show Rn G (d + 1) 0 0 mX12_findBest 79 [(0, .inr (.inr (some 94))), (1, .inl l1), (2, .inl l2), (3, .inl l3), (4, .inl l4)] [.inl x5, .inl l3] SH h4 (QV Q)
      obtain ⟨g, V⟩ := V
      refine rn_idiv dX12_findBest_79 g ?_
      refine rn_istore (L' := [(4, .inl (l3 / x5)), (0, .inr (.inr (some 94))), (1, .inl l1), (2, .inl l2), (3, .inl l3)]) dX12_findBest_80 (Nat.le_of_ble_eq_true rfl) rfl ?_
      refine rn_iconst (v := 0) dX12_findBest_82 (by decide) ?_
      refine rn_istore (L' := [(5, .inl 0), (4, .inl (l3 / x5)), (0, .inr (.inr (some 94))), (1, .inl l1), (2, .inl l2), (3, .inl l3)]) dX12_findBest_83 (Nat.le_of_ble_eq_true rfl) rfl ?_
      refine rn_iconst (v := 0) dX12_findBest_85 (by decide) ?_
      refine rn_istore (L' := [(6, .inl 0), (5, .inl 0), (4, .inl (l3 / x5)), (0, .inr (.inr (some 94))), (1, .inl l1), (2, .inl l2), (3, .inl l3)]) dX12_findBest_86 (Nat.le_of_ble_eq_true rfl) rfl ?_
      refine rn_aload_n dX12_findBest_88 rfl rfl ?_
      refine rn_get (v := .inr (.inr (some 101))) dX12_findBest_89 fl_X12_28 rfl rfl (congrArg (fun z => (Sum.inr (Sum.inr z) : MV)) (rf_94_14 Rh4)) ?_
      refine rn_iconst (v := 0) dX12_findBest_92 (by decide) ?_
      refine rn_iconst (v := (-1)) dX12_findBest_93 (by decide) ?_
      refine rn_iast (k := 0) dX12_findBest_94 rfl (by decide) (by unfold vp_in; decide) ?_
      refine rn_aload_n dX12_findBest_95 rfl rfl ?_
      refine rn_get (v := .inr (.inr (some 102))) dX12_findBest_96 fl_X12_31 rfl rfl (congrArg (fun z => (Sum.inr (Sum.inr z) : MV)) (rf_94_15 Rh4)) ?_
      refine rn_iconst (v := 0) dX12_findBest_99 (by decide) ?_
      refine rn_iconst (v := 0) dX12_findBest_100 (by decide) ?_
      refine rn_iast (k := 0) dX12_findBest_101 rfl (by decide) (by unfold vp_in; decide) ?_
      refine rn_aload_n dX12_findBest_102 rfl rfl ?_
      refine rn_get (v := .inr (.inr (some 103))) dX12_findBest_103 fl_X12_34 rfl rfl (congrArg (fun z => (Sum.inr (Sum.inr z) : MV)) (rf_94_16 Rh4)) ?_
      refine rn_iconst (v := 0) dX12_findBest_106 (by decide) ?_
      refine rn_iconst (v := 0) dX12_findBest_107 (by decide) ?_
      refine rn_iast (k := 0) dX12_findBest_108 rfl (by decide) (by unfold vp_in; decide) ?_
      refine rn_sub [3, 5, 2, 1, 0] (L' := [(0, .inr (.inr (some 94))), (2, .inl l2), (4, .inl (l3 / x5)), (5, .inl 0), (6, .inl 0)]) rfl ?_
      exact V
    · replace V := V.2 c3
      exact rn_vret dX12_findBest_72 rfl ⟨rfl, hR, rfl, V⟩
  · replace V := V.2 c2
    refine rn_iload_n dX12_findBest_24 rfl rfl ?_
    refine rn_iload dX12_findBest_25 rfl ?_
    refine rn_ishr dX12_findBest_27 ?_
    refine rn_iconst (v := 1) dX12_findBest_28 (by decide) ?_
    refine rn_iand dX12_findBest_29 ?_
    refine rn_iconst (v := 1) dX12_findBest_30 (by decide) ?_
    refine rn_icmp_ne (tgt := 47) dX12_findBest_31 (by decide) (fun c6 => ?_) (fun c6 => ?_)
    · replace V := V.1 c6
      refine rn_iinc (L' := [(4, .inl (l4 + (-1))), (0, .inr (.inr (some 94))), (1, .inl l1), (2, .inl l2), (3, .inl l3)]) dX12_findBest_47 rfl (v := (l4 + (-1))) rfl (Nat.le_of_ble_eq_true rfl) rfl ?_
      refine rn_goto (tgt := 19) dX12_findBest_50 (by decide) ?_
      refine rn_sub [1, 2, 3, 4, 0] (L' := [(0, .inr (.inr (some 94))), (1, .inl l1), (2, .inl l2), (3, .inl l3), (4, .inl (l4 + (-1)))]) rfl ?_
      exact V
    · replace V := V.2 c6
      refine rn_iload dX12_findBest_34 rfl ?_
      refine rn_istore_n (L' := [(2, .inl l4), (0, .inr (.inr (some 94))), (1, .inl l1), (3, .inl l3), (4, .inl l4)]) dX12_findBest_36 rfl (Nat.le_of_ble_eq_true rfl) rfl ?_
      refine rn_iload_n dX12_findBest_37 rfl rfl ?_
      refine rn_aload_n dX12_findBest_38 rfl rfl ?_
      refine rn_iload dX12_findBest_39 rfl ?_
      refine rn_iconst (v := 3) dX12_findBest_41 (by decide) ?_
      refine rn_cV (M' := mX12_of) (n := 2) (av := [.inl l4, .inl 3]) (S := [.inl l3]) (rc := 0) (rs := 0) (mc := 0) (ms := 0) (a := 94) (ci := 11) (r := (RX12, TX12, 38)) dX12_findBest_42 pa_X12_of (Nat.le_refl _) rfl (Nat.le_of_ble_eq_true rfl) ml_X12_161 im_X12_of se_X12_of rfl rfl rfl (Ev.mono V ?_)
      rintro v sh1 h7 ⟨rfl, Rh7, x8, rfl, V⟩
      show Rn G (d + 1) 0 0 mX12_findBest 45 [(2, .inl l4), (0, .inr (.inr (some 94))), (1, .inl l1), (3, .inl l3), (4, .inl l4)] [.inl x8, .inl l3] SH h7 (QV Q)
      refine rn_iadd dX12_findBest_45 ?_
      refine rn_istore_n (L' := [(3, .inl (l3 + x8)), (2, .inl l4), (0, .inr (.inr (some 94))), (1, .inl l1), (4, .inl l4)]) dX12_findBest_46 rfl (Nat.le_of_ble_eq_true rfl) rfl ?_
      refine rn_iinc (L' := [(4, .inl (l4 + (-1))), (3, .inl (l3 + x8)), (2, .inl l4), (0, .inr (.inr (some 94))), (1, .inl l1)]) dX12_findBest_47 rfl (v := (l4 + (-1))) rfl (Nat.le_of_ble_eq_true rfl) rfl ?_
      refine rn_goto (tgt := 19) dX12_findBest_50 (by decide) ?_
      refine rn_sub [3, 4, 2, 1, 0] (L' := [(0, .inr (.inr (some 94))), (1, .inl l1), (2, .inl l4), (3, .inl (l3 + x8)), (4, .inl (l4 + (-1)))]) rfl ?_
      exact V
set_option maxRecDepth 100000 in
set_option maxHeartbeats 4000000 in
theorem vc_X12_findBest_109 {G : GT} {d : Nat} {l2 : Int32} {l4 : Int32} {l5 : Int32} {l6 : Int32}  {h : Hp} {Q : Hp → Prop} (hR : RF h) (V : ((l6 < 0 → Q h) ∧ (¬ l6 < 0 → vp_in l6 7 ∧ Rg_X12_findBest_125 G d l2 l4 l5 l6 (h.1 101 (Int32.toNatClampNeg l6) + 1) h Q))) : Rg_X12_findBest_109 G d l2 l4 l5 l6 h Q := by
  show Rn G (d + 1) 0 0 mX12_findBest 109 [(0, .inr (.inr (some 94))), (2, .inl l2), (4, .inl l4), (5, .inl l5), (6, .inl l6)] [] SH h (QV Q)
  refine rn_iload dX12_findBest_109 rfl ?_
  refine rn_if_lt (tgt := 408) dX12_findBest_111 (by decide) (fun c9 => ?_) (fun c9 => ?_)
  · replace V := V.1 c9
    exact rn_vret dX12_findBest_408 rfl ⟨rfl, hR, rfl, V⟩
  · replace V := V.2 c9
    refine rn_aload_n dX12_findBest_114 rfl rfl ?_
    refine rn_get (v := .inr (.inr (some 101))) dX12_findBest_115 fl_X12_28 rfl rfl (congrArg (fun z => (Sum.inr (Sum.inr z) : MV)) (rf_94_14 hR)) ?_
    refine rn_iload dX12_findBest_118 rfl ?_
    obtain ⟨g0, V⟩ := V
    refine rn_iald (k := (Int32.toNatClampNeg l6)) dX12_findBest_120 rfl rfl g0 ?_
    refine rn_iconst (v := 1) dX12_findBest_121 (by decide) ?_
    refine rn_iadd dX12_findBest_122 ?_
    refine rn_istore (L' := [(7, .inl (h.1 101 (Int32.toNatClampNeg l6) + 1)), (0, .inr (.inr (some 94))), (2, .inl l2), (4, .inl l4), (5, .inl l5), (6, .inl l6)]) dX12_findBest_123 (Nat.le_of_ble_eq_true rfl) rfl ?_
    refine rn_sub [1, 2, 3, 4, 5, 0] (L' := [(0, .inr (.inr (some 94))), (2, .inl l2), (4, .inl l4), (5, .inl l5), (6, .inl l6), (7, .inl (h.1 101 (Int32.toNatClampNeg l6) + 1))]) rfl ?_
    exact V
set_option maxRecDepth 100000 in
set_option maxHeartbeats 4000000 in
theorem vc_X12_findBest_125 {G : GT} {d : Nat} {l2 : Int32} {l4 : Int32} {l5 : Int32} {l6 : Int32} {l7 : Int32}  {h : Hp} {Q : Hp → Prop} (hR : RF h) (V : ((h.1 94 13 ≤ l7 → vp_in l6 7 ∧ ((l7 < h.1 94 13 → vp_in l6 7 ∧ vp_in l7 5 ∧ EvI G d mX12_its [.inr (.inr (some 94)), .inl (h.1 100 (Int32.toNatClampNeg l7)), .inl 1] (sI h 101 (Int32.toNatClampNeg l6) l7) (fun x13 h12 => vp_in (l6 + 1) 7 ∧ vp_in l6 7 ∧ vp_in l7 5 ∧ EvI G d mX12_of [.inr (.inr (some 94)), .inl l2, .inl 4] (sI h12 102 (Int32.toNatClampNeg (l6 + 1)) (h.1 102 (Int32.toNatClampNeg l6) + x13)) (fun x15 h14 => vp_in l6 7 ∧ EvI G d mX12_earOf [.inr (.inr (some 94)), .inl (h12.1 100 (Int32.toNatClampNeg l7)), .inl (x15 + h14.1 103 (Int32.toNatClampNeg l6))] h14 (fun x17 h16 => vp_in (l6 + 1) 7 ∧ vp_in (l6 + 1) 7 ∧ vp_in (l6 + 1) 7 ∧ ((h16.1 94 17 < (sI h16 103 (Int32.toNatClampNeg (l6 + 1)) (h12.1 103 (Int32.toNatClampNeg l6) + x17)).1 103 (Int32.toNatClampNeg (l6 + 1)) → vp_in (l6 + 1) 7 ∧ ∀ h19 : Hp, h19 = (sI (sI (sI h16 103 (Int32.toNatClampNeg (l6 + 1)) (h12.1 103 (Int32.toNatClampNeg l6) + x17)) 101 (Int32.toNatClampNeg (l6 + 1)) (-1)) 94 17 ((sI h16 103 (Int32.toNatClampNeg (l6 + 1)) (h12.1 103 (Int32.toNatClampNeg l6) + x17)).1 103 (Int32.toNatClampNeg (l6 + 1)))) → vp_in (l6 + 1) 7 ∧ Rg_X12_findBest_373 G d l2 l4 (l5 ||| (1 <<< (l7 &&& 31))) (l6 + 1) 0 (sI (sI h19 94 18 (h19.1 102 (Int32.toNatClampNeg (l6 + 1)))) 94 19 (l6 + 1)) Q) ∧ (¬ h16.1 94 17 < (sI h16 103 (Int32.toNatClampNeg (l6 + 1)) (h12.1 103 (Int32.toNatClampNeg l6) + x17)).1 103 (Int32.toNatClampNeg (l6 + 1)) → vp_in (l6 + 1) 7 ∧ ((¬ (sI h16 103 (Int32.toNatClampNeg (l6 + 1)) (h12.1 103 (Int32.toNatClampNeg l6) + x17)).1 103 (Int32.toNatClampNeg (l6 + 1)) = h16.1 94 17 → Rg_X12_findBest_109 G d l2 l4 (l5 ||| (1 <<< (l7 &&& 31))) (l6 + 1) (sI (sI h16 103 (Int32.toNatClampNeg (l6 + 1)) (h12.1 103 (Int32.toNatClampNeg l6) + x17)) 101 (Int32.toNatClampNeg (l6 + 1)) (-1)) Q) ∧ ((sI h16 103 (Int32.toNatClampNeg (l6 + 1)) (h12.1 103 (Int32.toNatClampNeg l6) + x17)).1 103 (Int32.toNatClampNeg (l6 + 1)) = h16.1 94 17 → vp_in (l6 + 1) 7 ∧ ((h16.1 94 18 ≤ h16.1 102 (Int32.toNatClampNeg (l6 + 1)) → Rg_X12_findBest_109 G d l2 l4 (l5 ||| (1 <<< (l7 &&& 31))) (l6 + 1) (sI (sI h16 103 (Int32.toNatClampNeg (l6 + 1)) (h12.1 103 (Int32.toNatClampNeg l6) + x17)) 101 (Int32.toNatClampNeg (l6 + 1)) (-1)) Q) ∧ (¬ h16.1 94 18 ≤ h16.1 102 (Int32.toNatClampNeg (l6 + 1)) → vp_in (l6 + 1) 7 ∧ ∀ h22 : Hp, h22 = (sI (sI (sI h16 103 (Int32.toNatClampNeg (l6 + 1)) (h12.1 103 (Int32.toNatClampNeg l6) + x17)) 101 (Int32.toNatClampNeg (l6 + 1)) (-1)) 94 17 ((sI h16 103 (Int32.toNatClampNeg (l6 + 1)) (h12.1 103 (Int32.toNatClampNeg l6) + x17)).1 103 (Int32.toNatClampNeg (l6 + 1)))) → vp_in (l6 + 1) 7 ∧ Rg_X12_findBest_373 G d l2 l4 (l5 ||| (1 <<< (l7 &&& 31))) (l6 + 1) 0 (sI (sI h22 94 18 (h22.1 102 (Int32.toNatClampNeg (l6 + 1)))) 94 19 (l6 + 1)) Q)))))))))) ∧ (¬ l7 < h.1 94 13 → ((0 ≤ (l6 + (-1)) → vp_in (l6 + (-1)) 7 ∧ Rg_X12_findBest_109 G d l2 l4 (l5 &&& ((1 <<< (((sI h 101 (Int32.toNatClampNeg l6) l7).1 101 (Int32.toNatClampNeg (l6 + (-1)))) &&& 31)) ^^^ (-1))) (l6 + (-1)) (sI h 101 (Int32.toNatClampNeg l6) l7) Q) ∧ (¬ 0 ≤ (l6 + (-1)) → Rg_X12_findBest_109 G d l2 l4 0 (l6 + (-1)) (sI h 101 (Int32.toNatClampNeg l6) l7) Q))))) ∧ (¬ h.1 94 13 ≤ l7 → vp_in l6 7 ∧ EvI G d mX12_mayCome [.inr (.inr (some 94)), .inl l7, .inl l5, .inl l4, .inl (h.1 102 (Int32.toNatClampNeg l6))] h (fun x25 h24 => ((¬ x25 = 0 → vp_in l6 7 ∧ ((l7 < h24.1 94 13 → vp_in l6 7 ∧ vp_in l7 5 ∧ EvI G d mX12_its [.inr (.inr (some 94)), .inl (h24.1 100 (Int32.toNatClampNeg l7)), .inl 1] (sI h24 101 (Int32.toNatClampNeg l6) l7) (fun x29 h28 => vp_in (l6 + 1) 7 ∧ vp_in l6 7 ∧ vp_in l7 5 ∧ EvI G d mX12_of [.inr (.inr (some 94)), .inl l2, .inl 4] (sI h28 102 (Int32.toNatClampNeg (l6 + 1)) (h24.1 102 (Int32.toNatClampNeg l6) + x29)) (fun x31 h30 => vp_in l6 7 ∧ EvI G d mX12_earOf [.inr (.inr (some 94)), .inl (h28.1 100 (Int32.toNatClampNeg l7)), .inl (x31 + h30.1 103 (Int32.toNatClampNeg l6))] h30 (fun x33 h32 => vp_in (l6 + 1) 7 ∧ vp_in (l6 + 1) 7 ∧ vp_in (l6 + 1) 7 ∧ ((h32.1 94 17 < (sI h32 103 (Int32.toNatClampNeg (l6 + 1)) (h28.1 103 (Int32.toNatClampNeg l6) + x33)).1 103 (Int32.toNatClampNeg (l6 + 1)) → vp_in (l6 + 1) 7 ∧ ∀ h35 : Hp, h35 = (sI (sI (sI h32 103 (Int32.toNatClampNeg (l6 + 1)) (h28.1 103 (Int32.toNatClampNeg l6) + x33)) 101 (Int32.toNatClampNeg (l6 + 1)) (-1)) 94 17 ((sI h32 103 (Int32.toNatClampNeg (l6 + 1)) (h28.1 103 (Int32.toNatClampNeg l6) + x33)).1 103 (Int32.toNatClampNeg (l6 + 1)))) → vp_in (l6 + 1) 7 ∧ Rg_X12_findBest_373 G d l2 l4 (l5 ||| (1 <<< (l7 &&& 31))) (l6 + 1) 0 (sI (sI h35 94 18 (h35.1 102 (Int32.toNatClampNeg (l6 + 1)))) 94 19 (l6 + 1)) Q) ∧ (¬ h32.1 94 17 < (sI h32 103 (Int32.toNatClampNeg (l6 + 1)) (h28.1 103 (Int32.toNatClampNeg l6) + x33)).1 103 (Int32.toNatClampNeg (l6 + 1)) → vp_in (l6 + 1) 7 ∧ ((¬ (sI h32 103 (Int32.toNatClampNeg (l6 + 1)) (h28.1 103 (Int32.toNatClampNeg l6) + x33)).1 103 (Int32.toNatClampNeg (l6 + 1)) = h32.1 94 17 → Rg_X12_findBest_109 G d l2 l4 (l5 ||| (1 <<< (l7 &&& 31))) (l6 + 1) (sI (sI h32 103 (Int32.toNatClampNeg (l6 + 1)) (h28.1 103 (Int32.toNatClampNeg l6) + x33)) 101 (Int32.toNatClampNeg (l6 + 1)) (-1)) Q) ∧ ((sI h32 103 (Int32.toNatClampNeg (l6 + 1)) (h28.1 103 (Int32.toNatClampNeg l6) + x33)).1 103 (Int32.toNatClampNeg (l6 + 1)) = h32.1 94 17 → vp_in (l6 + 1) 7 ∧ ((h32.1 94 18 ≤ h32.1 102 (Int32.toNatClampNeg (l6 + 1)) → Rg_X12_findBest_109 G d l2 l4 (l5 ||| (1 <<< (l7 &&& 31))) (l6 + 1) (sI (sI h32 103 (Int32.toNatClampNeg (l6 + 1)) (h28.1 103 (Int32.toNatClampNeg l6) + x33)) 101 (Int32.toNatClampNeg (l6 + 1)) (-1)) Q) ∧ (¬ h32.1 94 18 ≤ h32.1 102 (Int32.toNatClampNeg (l6 + 1)) → vp_in (l6 + 1) 7 ∧ ∀ h38 : Hp, h38 = (sI (sI (sI h32 103 (Int32.toNatClampNeg (l6 + 1)) (h28.1 103 (Int32.toNatClampNeg l6) + x33)) 101 (Int32.toNatClampNeg (l6 + 1)) (-1)) 94 17 ((sI h32 103 (Int32.toNatClampNeg (l6 + 1)) (h28.1 103 (Int32.toNatClampNeg l6) + x33)).1 103 (Int32.toNatClampNeg (l6 + 1)))) → vp_in (l6 + 1) 7 ∧ Rg_X12_findBest_373 G d l2 l4 (l5 ||| (1 <<< (l7 &&& 31))) (l6 + 1) 0 (sI (sI h38 94 18 (h38.1 102 (Int32.toNatClampNeg (l6 + 1)))) 94 19 (l6 + 1)) Q)))))))))) ∧ (¬ l7 < h24.1 94 13 → ((0 ≤ (l6 + (-1)) → vp_in (l6 + (-1)) 7 ∧ Rg_X12_findBest_109 G d l2 l4 (l5 &&& ((1 <<< (((sI h24 101 (Int32.toNatClampNeg l6) l7).1 101 (Int32.toNatClampNeg (l6 + (-1)))) &&& 31)) ^^^ (-1))) (l6 + (-1)) (sI h24 101 (Int32.toNatClampNeg l6) l7) Q) ∧ (¬ 0 ≤ (l6 + (-1)) → Rg_X12_findBest_109 G d l2 l4 0 (l6 + (-1)) (sI h24 101 (Int32.toNatClampNeg l6) l7) Q))))) ∧ (x25 = 0 → Rg_X12_findBest_125 G d l2 l4 l5 l6 (l7 + 1) h24 Q)))))) : Rg_X12_findBest_125 G d l2 l4 l5 l6 l7 h Q := by
  show Rn G (d + 1) 0 0 mX12_findBest 125 [(0, .inr (.inr (some 94))), (2, .inl l2), (4, .inl l4), (5, .inl l5), (6, .inl l6), (7, .inl l7)] [] SH h (QV Q)
  refine rn_iload dX12_findBest_125 rfl ?_
  refine rn_aload_n dX12_findBest_127 rfl rfl ?_
  refine rn_get (v := .inl (h.1 94 13)) dX12_findBest_128 fl_X12_250 rfl rfl rfl ?_
  refine rn_icmp_ge (tgt := 160) dX12_findBest_131 (by decide) (fun c10 => ?_) (fun c10 => ?_)
  · replace V := V.1 c10
    refine rn_aload_n dX12_findBest_160 rfl rfl ?_
    refine rn_get (v := .inr (.inr (some 101))) dX12_findBest_161 fl_X12_28 rfl rfl (congrArg (fun z => (Sum.inr (Sum.inr z) : MV)) (rf_94_14 hR)) ?_
    refine rn_iload dX12_findBest_164 rfl ?_
    refine rn_iload dX12_findBest_166 rfl ?_
    obtain ⟨g0, V⟩ := V
    refine rn_iast (k := (Int32.toNatClampNeg l6)) dX12_findBest_168 rfl rfl g0 ?_
    refine rn_iload dX12_findBest_169 rfl ?_
    refine rn_aload_n dX12_findBest_171 rfl rfl ?_
    refine rn_get (v := .inl (h.1 94 13)) dX12_findBest_172 fl_X12_250 rfl rfl rfl ?_
    refine rn_icmp_lt (tgt := 209) dX12_findBest_175 (by decide) (fun c11 => ?_) (fun c11 => ?_)
    · replace V := V.1 c11
      refine rn_iload dX12_findBest_209 rfl ?_
      refine rn_iconst (v := 1) dX12_findBest_211 (by decide) ?_
      refine rn_iload dX12_findBest_212 rfl ?_
      refine rn_ishl dX12_findBest_214 ?_
      refine rn_ior dX12_findBest_215 ?_
      refine rn_istore (L' := [(5, .inl (l5 ||| (1 <<< (l7 &&& 31)))), (0, .inr (.inr (some 94))), (2, .inl l2), (4, .inl l4), (6, .inl l6), (7, .inl l7)]) dX12_findBest_216 (Nat.le_of_ble_eq_true rfl) rfl ?_
      refine rn_aload_n dX12_findBest_218 rfl rfl ?_
      refine rn_get (v := .inr (.inr (some 102))) dX12_findBest_219 fl_X12_31 rfl rfl (congrArg (fun z => (Sum.inr (Sum.inr z) : MV)) (rf_94_15 hR)) ?_
      refine rn_iload dX12_findBest_222 rfl ?_
      refine rn_iconst (v := 1) dX12_findBest_224 (by decide) ?_
      refine rn_iadd dX12_findBest_225 ?_
      refine rn_aload_n dX12_findBest_226 rfl rfl ?_
      refine rn_get (v := .inr (.inr (some 102))) dX12_findBest_227 fl_X12_31 rfl rfl (congrArg (fun z => (Sum.inr (Sum.inr z) : MV)) (rf_94_15 hR)) ?_
      refine rn_iload dX12_findBest_230 rfl ?_
      obtain ⟨g0, V⟩ := V
      refine rn_iald (k := (Int32.toNatClampNeg l6)) dX12_findBest_232 rfl rfl g0 ?_
      refine rn_aload_n dX12_findBest_233 rfl rfl ?_
      refine rn_aload_n dX12_findBest_234 rfl rfl ?_
      refine rn_get (v := .inr (.inr (some 100))) dX12_findBest_235 fl_X12_25 rfl rfl (congrArg (fun z => (Sum.inr (Sum.inr z) : MV)) (rf_94_12 hR)) ?_
      refine rn_iload dX12_findBest_238 rfl ?_
      obtain ⟨g0, V⟩ := V
      refine rn_iald (k := (Int32.toNatClampNeg l7)) dX12_findBest_240 rfl rfl g0 ?_
      refine rn_iconst (v := 1) dX12_findBest_241 (by decide) ?_
      refine rn_cV (M' := mX12_its) (n := 2) (av := [.inl (h.1 100 (Int32.toNatClampNeg l7)), .inl 1]) (S := [.inl (h.1 102 (Int32.toNatClampNeg l6)), .inl (l6 + 1), .inr (.inr (some 102))]) (rc := 0) (rs := 0) (mc := 0) (ms := 0) (a := 94) (ci := 11) (r := (RX12, TX12, 38)) dX12_findBest_242 pa_X12_its (Nat.le_refl _) rfl (Nat.le_of_ble_eq_true rfl) ml_X12_171 im_X12_its se_X12_its rfl rfl rfl (Ev.mono V ?_)
      rintro v sh1 h12 ⟨rfl, Rh12, x13, rfl, V⟩
      show Rn G (d + 1) 0 0 mX12_findBest 245 [(5, .inl (l5 ||| (1 <<< (l7 &&& 31)))), (0, .inr (.inr (some 94))), (2, .inl l2), (4, .inl l4), (6, .inl l6), (7, .inl l7)] [.inl x13, .inl (h.1 102 (Int32.toNatClampNeg l6)), .inl (l6 + 1), .inr (.inr (some 102))] SH h12 (QV Q)
      refine rn_iadd dX12_findBest_245 ?_
      obtain ⟨g0, V⟩ := V
      refine rn_iast (k := (Int32.toNatClampNeg (l6 + 1))) dX12_findBest_246 rfl rfl g0 ?_
      refine rn_aload_n dX12_findBest_247 rfl rfl ?_
      refine rn_get (v := .inr (.inr (some 103))) dX12_findBest_248 fl_X12_34 rfl rfl (congrArg (fun z => (Sum.inr (Sum.inr z) : MV)) (rf_94_16 Rh12)) ?_
      refine rn_iload dX12_findBest_251 rfl ?_
      refine rn_iconst (v := 1) dX12_findBest_253 (by decide) ?_
      refine rn_iadd dX12_findBest_254 ?_
      refine rn_aload_n dX12_findBest_255 rfl rfl ?_
      refine rn_get (v := .inr (.inr (some 103))) dX12_findBest_256 fl_X12_34 rfl rfl (congrArg (fun z => (Sum.inr (Sum.inr z) : MV)) (rf_94_16 Rh12)) ?_
      refine rn_iload dX12_findBest_259 rfl ?_
      obtain ⟨g0, V⟩ := V
      refine rn_iald (k := (Int32.toNatClampNeg l6)) dX12_findBest_261 rfl rfl g0 ?_
      refine rn_aload_n dX12_findBest_262 rfl rfl ?_
      refine rn_aload_n dX12_findBest_263 rfl rfl ?_
      refine rn_get (v := .inr (.inr (some 100))) dX12_findBest_264 fl_X12_25 rfl rfl (congrArg (fun z => (Sum.inr (Sum.inr z) : MV)) (rf_94_12 Rh12)) ?_
      refine rn_iload dX12_findBest_267 rfl ?_
      obtain ⟨g0, V⟩ := V
      refine rn_iald (k := (Int32.toNatClampNeg l7)) dX12_findBest_269 rfl rfl g0 ?_
      refine rn_aload_n dX12_findBest_270 rfl rfl ?_
      refine rn_iload_n dX12_findBest_271 rfl rfl ?_
      refine rn_iconst (v := 4) dX12_findBest_272 (by decide) ?_
      refine rn_cV (M' := mX12_of) (n := 2) (av := [.inl l2, .inl 4]) (S := [.inl (h12.1 100 (Int32.toNatClampNeg l7)), .inr (.inr (some 94)), .inl (h12.1 103 (Int32.toNatClampNeg l6)), .inl (l6 + 1), .inr (.inr (some 103))]) (rc := 0) (rs := 0) (mc := 0) (ms := 0) (a := 94) (ci := 11) (r := (RX12, TX12, 38)) dX12_findBest_273 pa_X12_of (Nat.le_refl _) rfl (Nat.le_of_ble_eq_true rfl) ml_X12_161 im_X12_of se_X12_of rfl rfl rfl (Ev.mono V ?_)
      rintro v sh1 h14 ⟨rfl, Rh14, x15, rfl, V⟩
      show Rn G (d + 1) 0 0 mX12_findBest 276 [(5, .inl (l5 ||| (1 <<< (l7 &&& 31)))), (0, .inr (.inr (some 94))), (2, .inl l2), (4, .inl l4), (6, .inl l6), (7, .inl l7)] [.inl x15, .inl (h12.1 100 (Int32.toNatClampNeg l7)), .inr (.inr (some 94)), .inl (h12.1 103 (Int32.toNatClampNeg l6)), .inl (l6 + 1), .inr (.inr (some 103))] SH h14 (QV Q)
      refine rn_aload_n dX12_findBest_276 rfl rfl ?_
      refine rn_get (v := .inr (.inr (some 103))) dX12_findBest_277 fl_X12_34 rfl rfl (congrArg (fun z => (Sum.inr (Sum.inr z) : MV)) (rf_94_16 Rh14)) ?_
      refine rn_iload dX12_findBest_280 rfl ?_
      obtain ⟨g0, V⟩ := V
      refine rn_iald (k := (Int32.toNatClampNeg l6)) dX12_findBest_282 rfl rfl g0 ?_
      refine rn_iadd dX12_findBest_283 ?_
      refine rn_cV (M' := mX12_earOf) (n := 2) (av := [.inl (h12.1 100 (Int32.toNatClampNeg l7)), .inl (x15 + h14.1 103 (Int32.toNatClampNeg l6))]) (S := [.inl (h12.1 103 (Int32.toNatClampNeg l6)), .inl (l6 + 1), .inr (.inr (some 103))]) (rc := 0) (rs := 0) (mc := 0) (ms := 0) (a := 94) (ci := 11) (r := (RX12, TX12, 38)) dX12_findBest_284 pa_X12_earOf (Nat.le_refl _) rfl (Nat.le_of_ble_eq_true rfl) ml_X12_229 im_X12_earOf se_X12_earOf rfl rfl rfl (Ev.mono V ?_)
      rintro v sh1 h16 ⟨rfl, Rh16, x17, rfl, V⟩
      show Rn G (d + 1) 0 0 mX12_findBest 287 [(5, .inl (l5 ||| (1 <<< (l7 &&& 31)))), (0, .inr (.inr (some 94))), (2, .inl l2), (4, .inl l4), (6, .inl l6), (7, .inl l7)] [.inl x17, .inl (h12.1 103 (Int32.toNatClampNeg l6)), .inl (l6 + 1), .inr (.inr (some 103))] SH h16 (QV Q)
      refine rn_iadd dX12_findBest_287 ?_
      obtain ⟨g0, V⟩ := V
      refine rn_iast (k := (Int32.toNatClampNeg (l6 + 1))) dX12_findBest_288 rfl rfl g0 ?_
      refine rn_iinc (L' := [(6, .inl (l6 + 1)), (5, .inl (l5 ||| (1 <<< (l7 &&& 31)))), (0, .inr (.inr (some 94))), (2, .inl l2), (4, .inl l4), (7, .inl l7)]) dX12_findBest_289 rfl (v := (l6 + 1)) rfl (Nat.le_of_ble_eq_true rfl) rfl ?_
      refine rn_aload_n dX12_findBest_292 rfl rfl ?_
      refine rn_get (v := .inr (.inr (some 101))) dX12_findBest_293 fl_X12_28 rfl rfl (congrArg (fun z => (Sum.inr (Sum.inr z) : MV)) (rf_94_14 Rh16)) ?_
      refine rn_iload dX12_findBest_296 rfl ?_
      refine rn_iconst (v := (-1)) dX12_findBest_298 (by decide) ?_
      obtain ⟨g0, V⟩ := V
      refine rn_iast (k := (Int32.toNatClampNeg (l6 + 1))) dX12_findBest_299 rfl rfl g0 ?_
      refine rn_aload_n dX12_findBest_300 rfl rfl ?_
      refine rn_get (v := .inr (.inr (some 103))) dX12_findBest_301 fl_X12_34 rfl rfl (congrArg (fun z => (Sum.inr (Sum.inr z) : MV)) (rf_94_16 Rh16)) ?_
      refine rn_iload dX12_findBest_304 rfl ?_
      obtain ⟨g0, V⟩ := V
      refine rn_iald (k := (Int32.toNatClampNeg (l6 + 1))) dX12_findBest_306 rfl rfl g0 ?_
      refine rn_aload_n dX12_findBest_307 rfl rfl ?_
      refine rn_get (v := .inl (h16.1 94 17)) dX12_findBest_308 fl_X12_256 rfl rfl rfl ?_
      refine rn_icmp_gt (tgt := 342) dX12_findBest_311 (by decide) (fun c18 => ?_) (fun c18 => ?_)
      · replace V := V.1 c18
        refine rn_aload_n dX12_findBest_342 rfl rfl ?_
        refine rn_aload_n dX12_findBest_343 rfl rfl ?_
        refine rn_get (v := .inr (.inr (some 103))) dX12_findBest_344 fl_X12_34 rfl rfl (congrArg (fun z => (Sum.inr (Sum.inr z) : MV)) (rf_94_16 Rh16)) ?_
        refine rn_iload dX12_findBest_347 rfl ?_
        obtain ⟨g0, V⟩ := V
        refine rn_iald (k := (Int32.toNatClampNeg (l6 + 1))) dX12_findBest_349 rfl rfl g0 ?_
        refine rn_putI dX12_findBest_350 fl_X12_256 rfl rfl (Or.inl rfl) rfl rfl ?_
        obtain ⟨h19, eh19⟩ : ∃ z, z = (sI (sI (sI h16 103 (Int32.toNatClampNeg (l6 + 1)) (h12.1 103 (Int32.toNatClampNeg l6) + x17)) 101 (Int32.toNatClampNeg (l6 + 1)) (-1)) 94 17 ((sI h16 103 (Int32.toNatClampNeg (l6 + 1)) (h12.1 103 (Int32.toNatClampNeg l6) + x17)).1 103 (Int32.toNatClampNeg (l6 + 1)))) := ⟨_, rfl⟩
        show Rn G (d + 1) 0 0 mX12_findBest 353 [(6, .inl (l6 + 1)), (5, .inl (l5 ||| (1 <<< (l7 &&& 31)))), (0, .inr (.inr (some 94))), (2, .inl l2), (4, .inl l4), (7, .inl l7)] [] SH (sI (sI (sI h16 103 (Int32.toNatClampNeg (l6 + 1)) (h12.1 103 (Int32.toNatClampNeg l6) + x17)) 101 (Int32.toNatClampNeg (l6 + 1)) (-1)) 94 17 ((sI h16 103 (Int32.toNatClampNeg (l6 + 1)) (h12.1 103 (Int32.toNatClampNeg l6) + x17)).1 103 (Int32.toNatClampNeg (l6 + 1)))) (QV Q)
        rw [← eh19]
        replace V := V h19 eh19
        have Rh19 : RF h19 := by rw [eh19]; exact Rh16
        refine rn_aload_n dX12_findBest_353 rfl rfl ?_
        refine rn_aload_n dX12_findBest_354 rfl rfl ?_
        refine rn_get (v := .inr (.inr (some 102))) dX12_findBest_355 fl_X12_31 rfl rfl (congrArg (fun z => (Sum.inr (Sum.inr z) : MV)) (rf_94_15 Rh19)) ?_
        refine rn_iload dX12_findBest_358 rfl ?_
        obtain ⟨g0, V⟩ := V
        refine rn_iald (k := (Int32.toNatClampNeg (l6 + 1))) dX12_findBest_360 rfl rfl g0 ?_
        refine rn_putI dX12_findBest_361 fl_X12_259 rfl rfl (Or.inl rfl) rfl rfl ?_
        refine rn_aload_n dX12_findBest_364 rfl rfl ?_
        refine rn_iload dX12_findBest_365 rfl ?_
        refine rn_putI dX12_findBest_367 fl_X12_262 rfl rfl (Or.inl rfl) rfl rfl ?_
        refine rn_iconst (v := 0) dX12_findBest_370 (by decide) ?_
        refine rn_istore (L' := [(8, .inl 0), (6, .inl (l6 + 1)), (5, .inl (l5 ||| (1 <<< (l7 &&& 31)))), (0, .inr (.inr (some 94))), (2, .inl l2), (4, .inl l4), (7, .inl l7)]) dX12_findBest_371 (Nat.le_of_ble_eq_true rfl) rfl ?_
        refine rn_sub [3, 4, 5, 2, 1, 0] (L' := [(0, .inr (.inr (some 94))), (2, .inl l2), (4, .inl l4), (5, .inl (l5 ||| (1 <<< (l7 &&& 31)))), (6, .inl (l6 + 1)), (8, .inl 0)]) rfl ?_
        exact V
      · replace V := V.2 c18
        refine rn_aload_n dX12_findBest_314 rfl rfl ?_
        refine rn_get (v := .inr (.inr (some 103))) dX12_findBest_315 fl_X12_34 rfl rfl (congrArg (fun z => (Sum.inr (Sum.inr z) : MV)) (rf_94_16 Rh16)) ?_
        refine rn_iload dX12_findBest_318 rfl ?_
        obtain ⟨g0, V⟩ := V
        refine rn_iald (k := (Int32.toNatClampNeg (l6 + 1))) dX12_findBest_320 rfl rfl g0 ?_
        refine rn_aload_n dX12_findBest_321 rfl rfl ?_
        refine rn_get (v := .inl (h16.1 94 17)) dX12_findBest_322 fl_X12_256 rfl rfl rfl ?_
        refine rn_icmp_ne (tgt := 405) dX12_findBest_325 (by decide) (fun c20 => ?_) (fun c20 => ?_)
        · replace V := V.1 c20
          refine rn_goto (tgt := 109) dX12_findBest_405 (by decide) ?_
          refine rn_sub [2, 3, 4, 1, 0] (L' := [(0, .inr (.inr (some 94))), (2, .inl l2), (4, .inl l4), (5, .inl (l5 ||| (1 <<< (l7 &&& 31)))), (6, .inl (l6 + 1))]) rfl ?_
          exact V
        · replace V := V.2 c20
          refine rn_aload_n dX12_findBest_328 rfl rfl ?_
          refine rn_get (v := .inr (.inr (some 102))) dX12_findBest_329 fl_X12_31 rfl rfl (congrArg (fun z => (Sum.inr (Sum.inr z) : MV)) (rf_94_15 Rh16)) ?_
          refine rn_iload dX12_findBest_332 rfl ?_
          obtain ⟨g0, V⟩ := V
          refine rn_iald (k := (Int32.toNatClampNeg (l6 + 1))) dX12_findBest_334 rfl rfl g0 ?_
          refine rn_aload_n dX12_findBest_335 rfl rfl ?_
          refine rn_get (v := .inl (h16.1 94 18)) dX12_findBest_336 fl_X12_259 rfl rfl rfl ?_
          refine rn_icmp_ge (tgt := 405) dX12_findBest_339 (by decide) (fun c21 => ?_) (fun c21 => ?_)
          · replace V := V.1 c21
            refine rn_goto (tgt := 109) dX12_findBest_405 (by decide) ?_
            refine rn_sub [2, 3, 4, 1, 0] (L' := [(0, .inr (.inr (some 94))), (2, .inl l2), (4, .inl l4), (5, .inl (l5 ||| (1 <<< (l7 &&& 31)))), (6, .inl (l6 + 1))]) rfl ?_
            exact V
          · replace V := V.2 c21
            refine rn_aload_n dX12_findBest_342 rfl rfl ?_
            refine rn_aload_n dX12_findBest_343 rfl rfl ?_
            refine rn_get (v := .inr (.inr (some 103))) dX12_findBest_344 fl_X12_34 rfl rfl (congrArg (fun z => (Sum.inr (Sum.inr z) : MV)) (rf_94_16 Rh16)) ?_
            refine rn_iload dX12_findBest_347 rfl ?_
            obtain ⟨g0, V⟩ := V
            refine rn_iald (k := (Int32.toNatClampNeg (l6 + 1))) dX12_findBest_349 rfl rfl g0 ?_
            refine rn_putI dX12_findBest_350 fl_X12_256 rfl rfl (Or.inl rfl) rfl rfl ?_
            obtain ⟨h22, eh22⟩ : ∃ z, z = (sI (sI (sI h16 103 (Int32.toNatClampNeg (l6 + 1)) (h12.1 103 (Int32.toNatClampNeg l6) + x17)) 101 (Int32.toNatClampNeg (l6 + 1)) (-1)) 94 17 ((sI h16 103 (Int32.toNatClampNeg (l6 + 1)) (h12.1 103 (Int32.toNatClampNeg l6) + x17)).1 103 (Int32.toNatClampNeg (l6 + 1)))) := ⟨_, rfl⟩
            show Rn G (d + 1) 0 0 mX12_findBest 353 [(6, .inl (l6 + 1)), (5, .inl (l5 ||| (1 <<< (l7 &&& 31)))), (0, .inr (.inr (some 94))), (2, .inl l2), (4, .inl l4), (7, .inl l7)] [] SH (sI (sI (sI h16 103 (Int32.toNatClampNeg (l6 + 1)) (h12.1 103 (Int32.toNatClampNeg l6) + x17)) 101 (Int32.toNatClampNeg (l6 + 1)) (-1)) 94 17 ((sI h16 103 (Int32.toNatClampNeg (l6 + 1)) (h12.1 103 (Int32.toNatClampNeg l6) + x17)).1 103 (Int32.toNatClampNeg (l6 + 1)))) (QV Q)
            rw [← eh22]
            replace V := V h22 eh22
            have Rh22 : RF h22 := by rw [eh22]; exact Rh16
            refine rn_aload_n dX12_findBest_353 rfl rfl ?_
            refine rn_aload_n dX12_findBest_354 rfl rfl ?_
            refine rn_get (v := .inr (.inr (some 102))) dX12_findBest_355 fl_X12_31 rfl rfl (congrArg (fun z => (Sum.inr (Sum.inr z) : MV)) (rf_94_15 Rh22)) ?_
            refine rn_iload dX12_findBest_358 rfl ?_
            obtain ⟨g0, V⟩ := V
            refine rn_iald (k := (Int32.toNatClampNeg (l6 + 1))) dX12_findBest_360 rfl rfl g0 ?_
            refine rn_putI dX12_findBest_361 fl_X12_259 rfl rfl (Or.inl rfl) rfl rfl ?_
            refine rn_aload_n dX12_findBest_364 rfl rfl ?_
            refine rn_iload dX12_findBest_365 rfl ?_
            refine rn_putI dX12_findBest_367 fl_X12_262 rfl rfl (Or.inl rfl) rfl rfl ?_
            refine rn_iconst (v := 0) dX12_findBest_370 (by decide) ?_
            refine rn_istore (L' := [(8, .inl 0), (6, .inl (l6 + 1)), (5, .inl (l5 ||| (1 <<< (l7 &&& 31)))), (0, .inr (.inr (some 94))), (2, .inl l2), (4, .inl l4), (7, .inl l7)]) dX12_findBest_371 (Nat.le_of_ble_eq_true rfl) rfl ?_
            refine rn_sub [3, 4, 5, 2, 1, 0] (L' := [(0, .inr (.inr (some 94))), (2, .inl l2), (4, .inl l4), (5, .inl (l5 ||| (1 <<< (l7 &&& 31)))), (6, .inl (l6 + 1)), (8, .inl 0)]) rfl ?_
            exact V
    · replace V := V.2 c11
      refine rn_iinc (L' := [(6, .inl (l6 + (-1))), (0, .inr (.inr (some 94))), (2, .inl l2), (4, .inl l4), (5, .inl l5), (7, .inl l7)]) dX12_findBest_178 rfl (v := (l6 + (-1))) rfl (Nat.le_of_ble_eq_true rfl) rfl ?_
      refine rn_iload dX12_findBest_181 rfl ?_
      refine rn_if_ge (tgt := 190) dX12_findBest_183 (by decide) (fun c23 => ?_) (fun c23 => ?_)
      · replace V := V.1 c23
        refine rn_iload dX12_findBest_190 rfl ?_
        refine rn_iconst (v := 1) dX12_findBest_192 (by decide) ?_
        refine rn_aload_n dX12_findBest_193 rfl rfl ?_
        refine rn_get (v := .inr (.inr (some 101))) dX12_findBest_194 fl_X12_28 rfl rfl (congrArg (fun z => (Sum.inr (Sum.inr z) : MV)) (rf_94_14 hR)) ?_
        refine rn_iload dX12_findBest_197 rfl ?_
        obtain ⟨g0, V⟩ := V
        refine rn_iald (k := (Int32.toNatClampNeg (l6 + (-1)))) dX12_findBest_199 rfl rfl g0 ?_
        refine rn_ishl dX12_findBest_200 ?_
        refine rn_iconst (v := (-1)) dX12_findBest_201 (by decide) ?_
        refine rn_ixor dX12_findBest_202 ?_
        refine rn_iand dX12_findBest_203 ?_
        refine rn_istore (L' := [(5, .inl (l5 &&& ((1 <<< (((sI h 101 (Int32.toNatClampNeg l6) l7).1 101 (Int32.toNatClampNeg (l6 + (-1)))) &&& 31)) ^^^ (-1)))), (6, .inl (l6 + (-1))), (0, .inr (.inr (some 94))), (2, .inl l2), (4, .inl l4), (7, .inl l7)]) dX12_findBest_204 (Nat.le_of_ble_eq_true rfl) rfl ?_
        refine rn_goto (tgt := 109) dX12_findBest_206 (by decide) ?_
        refine rn_sub [2, 3, 4, 0, 1] (L' := [(0, .inr (.inr (some 94))), (2, .inl l2), (4, .inl l4), (5, .inl (l5 &&& ((1 <<< (((sI h 101 (Int32.toNatClampNeg l6) l7).1 101 (Int32.toNatClampNeg (l6 + (-1)))) &&& 31)) ^^^ (-1)))), (6, .inl (l6 + (-1)))]) rfl ?_
        exact V
      · replace V := V.2 c23
        refine rn_iconst (v := 0) dX12_findBest_186 (by decide) ?_
        refine rn_goto (tgt := 204) dX12_findBest_187 (by decide) ?_
        refine rn_istore (L' := [(5, .inl 0), (6, .inl (l6 + (-1))), (0, .inr (.inr (some 94))), (2, .inl l2), (4, .inl l4), (7, .inl l7)]) dX12_findBest_204 (Nat.le_of_ble_eq_true rfl) rfl ?_
        refine rn_goto (tgt := 109) dX12_findBest_206 (by decide) ?_
        refine rn_sub [2, 3, 4, 0, 1] (L' := [(0, .inr (.inr (some 94))), (2, .inl l2), (4, .inl l4), (5, .inl 0), (6, .inl (l6 + (-1)))]) rfl ?_
        exact V
  · replace V := V.2 c10
    refine rn_aload_n dX12_findBest_134 rfl rfl ?_
    refine rn_iload dX12_findBest_135 rfl ?_
    refine rn_iload dX12_findBest_137 rfl ?_
    refine rn_iload dX12_findBest_139 rfl ?_
    refine rn_aload_n dX12_findBest_141 rfl rfl ?_
    refine rn_get (v := .inr (.inr (some 102))) dX12_findBest_142 fl_X12_31 rfl rfl (congrArg (fun z => (Sum.inr (Sum.inr z) : MV)) (rf_94_15 hR)) ?_
    refine rn_iload dX12_findBest_145 rfl ?_
    obtain ⟨g0, V⟩ := V
    refine rn_iald (k := (Int32.toNatClampNeg l6)) dX12_findBest_147 rfl rfl g0 ?_
    refine rn_cV (M' := mX12_mayCome) (n := 4) (av := [.inl l7, .inl l5, .inl l4, .inl (h.1 102 (Int32.toNatClampNeg l6))]) (S := []) (rc := 0) (rs := 0) (mc := 0) (ms := 0) (a := 94) (ci := 11) (r := (RX12, TX12, 38)) dX12_findBest_148 pa_X12_mayCome (Nat.le_refl _) rfl (Nat.le_of_ble_eq_true rfl) ml_X12_265 im_X12_mayCome se_X12_mayCome rfl rfl rfl (Ev.mono V ?_)
    rintro v sh1 h24 ⟨rfl, Rh24, x25, rfl, V⟩
    show Rn G (d + 1) 0 0 mX12_findBest 151 [(0, .inr (.inr (some 94))), (2, .inl l2), (4, .inl l4), (5, .inl l5), (6, .inl l6), (7, .inl l7)] [.inl x25] SH h24 (QV Q)
    refine rn_if_ne (tgt := 160) dX12_findBest_151 (by decide) (fun c26 => ?_) (fun c26 => ?_)
    · replace V := V.1 c26
      refine rn_aload_n dX12_findBest_160 rfl rfl ?_
      refine rn_get (v := .inr (.inr (some 101))) dX12_findBest_161 fl_X12_28 rfl rfl (congrArg (fun z => (Sum.inr (Sum.inr z) : MV)) (rf_94_14 Rh24)) ?_
      refine rn_iload dX12_findBest_164 rfl ?_
      refine rn_iload dX12_findBest_166 rfl ?_
      obtain ⟨g0, V⟩ := V
      refine rn_iast (k := (Int32.toNatClampNeg l6)) dX12_findBest_168 rfl rfl g0 ?_
      refine rn_iload dX12_findBest_169 rfl ?_
      refine rn_aload_n dX12_findBest_171 rfl rfl ?_
      refine rn_get (v := .inl (h24.1 94 13)) dX12_findBest_172 fl_X12_250 rfl rfl rfl ?_
      refine rn_icmp_lt (tgt := 209) dX12_findBest_175 (by decide) (fun c27 => ?_) (fun c27 => ?_)
      · replace V := V.1 c27
        refine rn_iload dX12_findBest_209 rfl ?_
        refine rn_iconst (v := 1) dX12_findBest_211 (by decide) ?_
        refine rn_iload dX12_findBest_212 rfl ?_
        refine rn_ishl dX12_findBest_214 ?_
        refine rn_ior dX12_findBest_215 ?_
        refine rn_istore (L' := [(5, .inl (l5 ||| (1 <<< (l7 &&& 31)))), (0, .inr (.inr (some 94))), (2, .inl l2), (4, .inl l4), (6, .inl l6), (7, .inl l7)]) dX12_findBest_216 (Nat.le_of_ble_eq_true rfl) rfl ?_
        refine rn_aload_n dX12_findBest_218 rfl rfl ?_
        refine rn_get (v := .inr (.inr (some 102))) dX12_findBest_219 fl_X12_31 rfl rfl (congrArg (fun z => (Sum.inr (Sum.inr z) : MV)) (rf_94_15 Rh24)) ?_
        refine rn_iload dX12_findBest_222 rfl ?_
        refine rn_iconst (v := 1) dX12_findBest_224 (by decide) ?_
        refine rn_iadd dX12_findBest_225 ?_
        refine rn_aload_n dX12_findBest_226 rfl rfl ?_
        refine rn_get (v := .inr (.inr (some 102))) dX12_findBest_227 fl_X12_31 rfl rfl (congrArg (fun z => (Sum.inr (Sum.inr z) : MV)) (rf_94_15 Rh24)) ?_
        refine rn_iload dX12_findBest_230 rfl ?_
        obtain ⟨g0, V⟩ := V
        refine rn_iald (k := (Int32.toNatClampNeg l6)) dX12_findBest_232 rfl rfl g0 ?_
        refine rn_aload_n dX12_findBest_233 rfl rfl ?_
        refine rn_aload_n dX12_findBest_234 rfl rfl ?_
        refine rn_get (v := .inr (.inr (some 100))) dX12_findBest_235 fl_X12_25 rfl rfl (congrArg (fun z => (Sum.inr (Sum.inr z) : MV)) (rf_94_12 Rh24)) ?_
        refine rn_iload dX12_findBest_238 rfl ?_
        obtain ⟨g0, V⟩ := V
        refine rn_iald (k := (Int32.toNatClampNeg l7)) dX12_findBest_240 rfl rfl g0 ?_
        refine rn_iconst (v := 1) dX12_findBest_241 (by decide) ?_
        refine rn_cV (M' := mX12_its) (n := 2) (av := [.inl (h24.1 100 (Int32.toNatClampNeg l7)), .inl 1]) (S := [.inl (h24.1 102 (Int32.toNatClampNeg l6)), .inl (l6 + 1), .inr (.inr (some 102))]) (rc := 0) (rs := 0) (mc := 0) (ms := 0) (a := 94) (ci := 11) (r := (RX12, TX12, 38)) dX12_findBest_242 pa_X12_its (Nat.le_refl _) rfl (Nat.le_of_ble_eq_true rfl) ml_X12_171 im_X12_its se_X12_its rfl rfl rfl (Ev.mono V ?_)
        rintro v sh1 h28 ⟨rfl, Rh28, x29, rfl, V⟩
        show Rn G (d + 1) 0 0 mX12_findBest 245 [(5, .inl (l5 ||| (1 <<< (l7 &&& 31)))), (0, .inr (.inr (some 94))), (2, .inl l2), (4, .inl l4), (6, .inl l6), (7, .inl l7)] [.inl x29, .inl (h24.1 102 (Int32.toNatClampNeg l6)), .inl (l6 + 1), .inr (.inr (some 102))] SH h28 (QV Q)
        refine rn_iadd dX12_findBest_245 ?_
        obtain ⟨g0, V⟩ := V
        refine rn_iast (k := (Int32.toNatClampNeg (l6 + 1))) dX12_findBest_246 rfl rfl g0 ?_
        refine rn_aload_n dX12_findBest_247 rfl rfl ?_
        refine rn_get (v := .inr (.inr (some 103))) dX12_findBest_248 fl_X12_34 rfl rfl (congrArg (fun z => (Sum.inr (Sum.inr z) : MV)) (rf_94_16 Rh28)) ?_
        refine rn_iload dX12_findBest_251 rfl ?_
        refine rn_iconst (v := 1) dX12_findBest_253 (by decide) ?_
        refine rn_iadd dX12_findBest_254 ?_
        refine rn_aload_n dX12_findBest_255 rfl rfl ?_
        refine rn_get (v := .inr (.inr (some 103))) dX12_findBest_256 fl_X12_34 rfl rfl (congrArg (fun z => (Sum.inr (Sum.inr z) : MV)) (rf_94_16 Rh28)) ?_
        refine rn_iload dX12_findBest_259 rfl ?_
        obtain ⟨g0, V⟩ := V
        refine rn_iald (k := (Int32.toNatClampNeg l6)) dX12_findBest_261 rfl rfl g0 ?_
        refine rn_aload_n dX12_findBest_262 rfl rfl ?_
        refine rn_aload_n dX12_findBest_263 rfl rfl ?_
        refine rn_get (v := .inr (.inr (some 100))) dX12_findBest_264 fl_X12_25 rfl rfl (congrArg (fun z => (Sum.inr (Sum.inr z) : MV)) (rf_94_12 Rh28)) ?_
        refine rn_iload dX12_findBest_267 rfl ?_
        obtain ⟨g0, V⟩ := V
        refine rn_iald (k := (Int32.toNatClampNeg l7)) dX12_findBest_269 rfl rfl g0 ?_
        refine rn_aload_n dX12_findBest_270 rfl rfl ?_
        refine rn_iload_n dX12_findBest_271 rfl rfl ?_
        refine rn_iconst (v := 4) dX12_findBest_272 (by decide) ?_
        refine rn_cV (M' := mX12_of) (n := 2) (av := [.inl l2, .inl 4]) (S := [.inl (h28.1 100 (Int32.toNatClampNeg l7)), .inr (.inr (some 94)), .inl (h28.1 103 (Int32.toNatClampNeg l6)), .inl (l6 + 1), .inr (.inr (some 103))]) (rc := 0) (rs := 0) (mc := 0) (ms := 0) (a := 94) (ci := 11) (r := (RX12, TX12, 38)) dX12_findBest_273 pa_X12_of (Nat.le_refl _) rfl (Nat.le_of_ble_eq_true rfl) ml_X12_161 im_X12_of se_X12_of rfl rfl rfl (Ev.mono V ?_)
        rintro v sh1 h30 ⟨rfl, Rh30, x31, rfl, V⟩
        show Rn G (d + 1) 0 0 mX12_findBest 276 [(5, .inl (l5 ||| (1 <<< (l7 &&& 31)))), (0, .inr (.inr (some 94))), (2, .inl l2), (4, .inl l4), (6, .inl l6), (7, .inl l7)] [.inl x31, .inl (h28.1 100 (Int32.toNatClampNeg l7)), .inr (.inr (some 94)), .inl (h28.1 103 (Int32.toNatClampNeg l6)), .inl (l6 + 1), .inr (.inr (some 103))] SH h30 (QV Q)
        refine rn_aload_n dX12_findBest_276 rfl rfl ?_
        refine rn_get (v := .inr (.inr (some 103))) dX12_findBest_277 fl_X12_34 rfl rfl (congrArg (fun z => (Sum.inr (Sum.inr z) : MV)) (rf_94_16 Rh30)) ?_
        refine rn_iload dX12_findBest_280 rfl ?_
        obtain ⟨g0, V⟩ := V
        refine rn_iald (k := (Int32.toNatClampNeg l6)) dX12_findBest_282 rfl rfl g0 ?_
        refine rn_iadd dX12_findBest_283 ?_
        refine rn_cV (M' := mX12_earOf) (n := 2) (av := [.inl (h28.1 100 (Int32.toNatClampNeg l7)), .inl (x31 + h30.1 103 (Int32.toNatClampNeg l6))]) (S := [.inl (h28.1 103 (Int32.toNatClampNeg l6)), .inl (l6 + 1), .inr (.inr (some 103))]) (rc := 0) (rs := 0) (mc := 0) (ms := 0) (a := 94) (ci := 11) (r := (RX12, TX12, 38)) dX12_findBest_284 pa_X12_earOf (Nat.le_refl _) rfl (Nat.le_of_ble_eq_true rfl) ml_X12_229 im_X12_earOf se_X12_earOf rfl rfl rfl (Ev.mono V ?_)
        rintro v sh1 h32 ⟨rfl, Rh32, x33, rfl, V⟩
        show Rn G (d + 1) 0 0 mX12_findBest 287 [(5, .inl (l5 ||| (1 <<< (l7 &&& 31)))), (0, .inr (.inr (some 94))), (2, .inl l2), (4, .inl l4), (6, .inl l6), (7, .inl l7)] [.inl x33, .inl (h28.1 103 (Int32.toNatClampNeg l6)), .inl (l6 + 1), .inr (.inr (some 103))] SH h32 (QV Q)
        refine rn_iadd dX12_findBest_287 ?_
        obtain ⟨g0, V⟩ := V
        refine rn_iast (k := (Int32.toNatClampNeg (l6 + 1))) dX12_findBest_288 rfl rfl g0 ?_
        refine rn_iinc (L' := [(6, .inl (l6 + 1)), (5, .inl (l5 ||| (1 <<< (l7 &&& 31)))), (0, .inr (.inr (some 94))), (2, .inl l2), (4, .inl l4), (7, .inl l7)]) dX12_findBest_289 rfl (v := (l6 + 1)) rfl (Nat.le_of_ble_eq_true rfl) rfl ?_
        refine rn_aload_n dX12_findBest_292 rfl rfl ?_
        refine rn_get (v := .inr (.inr (some 101))) dX12_findBest_293 fl_X12_28 rfl rfl (congrArg (fun z => (Sum.inr (Sum.inr z) : MV)) (rf_94_14 Rh32)) ?_
        refine rn_iload dX12_findBest_296 rfl ?_
        refine rn_iconst (v := (-1)) dX12_findBest_298 (by decide) ?_
        obtain ⟨g0, V⟩ := V
        refine rn_iast (k := (Int32.toNatClampNeg (l6 + 1))) dX12_findBest_299 rfl rfl g0 ?_
        refine rn_aload_n dX12_findBest_300 rfl rfl ?_
        refine rn_get (v := .inr (.inr (some 103))) dX12_findBest_301 fl_X12_34 rfl rfl (congrArg (fun z => (Sum.inr (Sum.inr z) : MV)) (rf_94_16 Rh32)) ?_
        refine rn_iload dX12_findBest_304 rfl ?_
        obtain ⟨g0, V⟩ := V
        refine rn_iald (k := (Int32.toNatClampNeg (l6 + 1))) dX12_findBest_306 rfl rfl g0 ?_
        refine rn_aload_n dX12_findBest_307 rfl rfl ?_
        refine rn_get (v := .inl (h32.1 94 17)) dX12_findBest_308 fl_X12_256 rfl rfl rfl ?_
        refine rn_icmp_gt (tgt := 342) dX12_findBest_311 (by decide) (fun c34 => ?_) (fun c34 => ?_)
        · replace V := V.1 c34
          refine rn_aload_n dX12_findBest_342 rfl rfl ?_
          refine rn_aload_n dX12_findBest_343 rfl rfl ?_
          refine rn_get (v := .inr (.inr (some 103))) dX12_findBest_344 fl_X12_34 rfl rfl (congrArg (fun z => (Sum.inr (Sum.inr z) : MV)) (rf_94_16 Rh32)) ?_
          refine rn_iload dX12_findBest_347 rfl ?_
          obtain ⟨g0, V⟩ := V
          refine rn_iald (k := (Int32.toNatClampNeg (l6 + 1))) dX12_findBest_349 rfl rfl g0 ?_
          refine rn_putI dX12_findBest_350 fl_X12_256 rfl rfl (Or.inl rfl) rfl rfl ?_
          obtain ⟨h35, eh35⟩ : ∃ z, z = (sI (sI (sI h32 103 (Int32.toNatClampNeg (l6 + 1)) (h28.1 103 (Int32.toNatClampNeg l6) + x33)) 101 (Int32.toNatClampNeg (l6 + 1)) (-1)) 94 17 ((sI h32 103 (Int32.toNatClampNeg (l6 + 1)) (h28.1 103 (Int32.toNatClampNeg l6) + x33)).1 103 (Int32.toNatClampNeg (l6 + 1)))) := ⟨_, rfl⟩
          show Rn G (d + 1) 0 0 mX12_findBest 353 [(6, .inl (l6 + 1)), (5, .inl (l5 ||| (1 <<< (l7 &&& 31)))), (0, .inr (.inr (some 94))), (2, .inl l2), (4, .inl l4), (7, .inl l7)] [] SH (sI (sI (sI h32 103 (Int32.toNatClampNeg (l6 + 1)) (h28.1 103 (Int32.toNatClampNeg l6) + x33)) 101 (Int32.toNatClampNeg (l6 + 1)) (-1)) 94 17 ((sI h32 103 (Int32.toNatClampNeg (l6 + 1)) (h28.1 103 (Int32.toNatClampNeg l6) + x33)).1 103 (Int32.toNatClampNeg (l6 + 1)))) (QV Q)
          rw [← eh35]
          replace V := V h35 eh35
          have Rh35 : RF h35 := by rw [eh35]; exact Rh32
          refine rn_aload_n dX12_findBest_353 rfl rfl ?_
          refine rn_aload_n dX12_findBest_354 rfl rfl ?_
          refine rn_get (v := .inr (.inr (some 102))) dX12_findBest_355 fl_X12_31 rfl rfl (congrArg (fun z => (Sum.inr (Sum.inr z) : MV)) (rf_94_15 Rh35)) ?_
          refine rn_iload dX12_findBest_358 rfl ?_
          obtain ⟨g0, V⟩ := V
          refine rn_iald (k := (Int32.toNatClampNeg (l6 + 1))) dX12_findBest_360 rfl rfl g0 ?_
          refine rn_putI dX12_findBest_361 fl_X12_259 rfl rfl (Or.inl rfl) rfl rfl ?_
          refine rn_aload_n dX12_findBest_364 rfl rfl ?_
          refine rn_iload dX12_findBest_365 rfl ?_
          refine rn_putI dX12_findBest_367 fl_X12_262 rfl rfl (Or.inl rfl) rfl rfl ?_
          refine rn_iconst (v := 0) dX12_findBest_370 (by decide) ?_
          refine rn_istore (L' := [(8, .inl 0), (6, .inl (l6 + 1)), (5, .inl (l5 ||| (1 <<< (l7 &&& 31)))), (0, .inr (.inr (some 94))), (2, .inl l2), (4, .inl l4), (7, .inl l7)]) dX12_findBest_371 (Nat.le_of_ble_eq_true rfl) rfl ?_
          refine rn_sub [3, 4, 5, 2, 1, 0] (L' := [(0, .inr (.inr (some 94))), (2, .inl l2), (4, .inl l4), (5, .inl (l5 ||| (1 <<< (l7 &&& 31)))), (6, .inl (l6 + 1)), (8, .inl 0)]) rfl ?_
          exact V
        · replace V := V.2 c34
          refine rn_aload_n dX12_findBest_314 rfl rfl ?_
          refine rn_get (v := .inr (.inr (some 103))) dX12_findBest_315 fl_X12_34 rfl rfl (congrArg (fun z => (Sum.inr (Sum.inr z) : MV)) (rf_94_16 Rh32)) ?_
          refine rn_iload dX12_findBest_318 rfl ?_
          obtain ⟨g0, V⟩ := V
          refine rn_iald (k := (Int32.toNatClampNeg (l6 + 1))) dX12_findBest_320 rfl rfl g0 ?_
          refine rn_aload_n dX12_findBest_321 rfl rfl ?_
          refine rn_get (v := .inl (h32.1 94 17)) dX12_findBest_322 fl_X12_256 rfl rfl rfl ?_
          refine rn_icmp_ne (tgt := 405) dX12_findBest_325 (by decide) (fun c36 => ?_) (fun c36 => ?_)
          · replace V := V.1 c36
            refine rn_goto (tgt := 109) dX12_findBest_405 (by decide) ?_
            refine rn_sub [2, 3, 4, 1, 0] (L' := [(0, .inr (.inr (some 94))), (2, .inl l2), (4, .inl l4), (5, .inl (l5 ||| (1 <<< (l7 &&& 31)))), (6, .inl (l6 + 1))]) rfl ?_
            exact V
          · replace V := V.2 c36
            refine rn_aload_n dX12_findBest_328 rfl rfl ?_
            refine rn_get (v := .inr (.inr (some 102))) dX12_findBest_329 fl_X12_31 rfl rfl (congrArg (fun z => (Sum.inr (Sum.inr z) : MV)) (rf_94_15 Rh32)) ?_
            refine rn_iload dX12_findBest_332 rfl ?_
            obtain ⟨g0, V⟩ := V
            refine rn_iald (k := (Int32.toNatClampNeg (l6 + 1))) dX12_findBest_334 rfl rfl g0 ?_
            refine rn_aload_n dX12_findBest_335 rfl rfl ?_
            refine rn_get (v := .inl (h32.1 94 18)) dX12_findBest_336 fl_X12_259 rfl rfl rfl ?_
            refine rn_icmp_ge (tgt := 405) dX12_findBest_339 (by decide) (fun c37 => ?_) (fun c37 => ?_)
            · replace V := V.1 c37
              refine rn_goto (tgt := 109) dX12_findBest_405 (by decide) ?_
              refine rn_sub [2, 3, 4, 1, 0] (L' := [(0, .inr (.inr (some 94))), (2, .inl l2), (4, .inl l4), (5, .inl (l5 ||| (1 <<< (l7 &&& 31)))), (6, .inl (l6 + 1))]) rfl ?_
              exact V
            · replace V := V.2 c37
              refine rn_aload_n dX12_findBest_342 rfl rfl ?_
              refine rn_aload_n dX12_findBest_343 rfl rfl ?_
              refine rn_get (v := .inr (.inr (some 103))) dX12_findBest_344 fl_X12_34 rfl rfl (congrArg (fun z => (Sum.inr (Sum.inr z) : MV)) (rf_94_16 Rh32)) ?_
              refine rn_iload dX12_findBest_347 rfl ?_
              obtain ⟨g0, V⟩ := V
              refine rn_iald (k := (Int32.toNatClampNeg (l6 + 1))) dX12_findBest_349 rfl rfl g0 ?_
              refine rn_putI dX12_findBest_350 fl_X12_256 rfl rfl (Or.inl rfl) rfl rfl ?_
              obtain ⟨h38, eh38⟩ : ∃ z, z = (sI (sI (sI h32 103 (Int32.toNatClampNeg (l6 + 1)) (h28.1 103 (Int32.toNatClampNeg l6) + x33)) 101 (Int32.toNatClampNeg (l6 + 1)) (-1)) 94 17 ((sI h32 103 (Int32.toNatClampNeg (l6 + 1)) (h28.1 103 (Int32.toNatClampNeg l6) + x33)).1 103 (Int32.toNatClampNeg (l6 + 1)))) := ⟨_, rfl⟩
              show Rn G (d + 1) 0 0 mX12_findBest 353 [(6, .inl (l6 + 1)), (5, .inl (l5 ||| (1 <<< (l7 &&& 31)))), (0, .inr (.inr (some 94))), (2, .inl l2), (4, .inl l4), (7, .inl l7)] [] SH (sI (sI (sI h32 103 (Int32.toNatClampNeg (l6 + 1)) (h28.1 103 (Int32.toNatClampNeg l6) + x33)) 101 (Int32.toNatClampNeg (l6 + 1)) (-1)) 94 17 ((sI h32 103 (Int32.toNatClampNeg (l6 + 1)) (h28.1 103 (Int32.toNatClampNeg l6) + x33)).1 103 (Int32.toNatClampNeg (l6 + 1)))) (QV Q)
              rw [← eh38]
              replace V := V h38 eh38
              have Rh38 : RF h38 := by rw [eh38]; exact Rh32
              refine rn_aload_n dX12_findBest_353 rfl rfl ?_
              refine rn_aload_n dX12_findBest_354 rfl rfl ?_
              refine rn_get (v := .inr (.inr (some 102))) dX12_findBest_355 fl_X12_31 rfl rfl (congrArg (fun z => (Sum.inr (Sum.inr z) : MV)) (rf_94_15 Rh38)) ?_
              refine rn_iload dX12_findBest_358 rfl ?_
              obtain ⟨g0, V⟩ := V
              refine rn_iald (k := (Int32.toNatClampNeg (l6 + 1))) dX12_findBest_360 rfl rfl g0 ?_
              refine rn_putI dX12_findBest_361 fl_X12_259 rfl rfl (Or.inl rfl) rfl rfl ?_
              refine rn_aload_n dX12_findBest_364 rfl rfl ?_
              refine rn_iload dX12_findBest_365 rfl ?_
              refine rn_putI dX12_findBest_367 fl_X12_262 rfl rfl (Or.inl rfl) rfl rfl ?_
              refine rn_iconst (v := 0) dX12_findBest_370 (by decide) ?_
              refine rn_istore (L' := [(8, .inl 0), (6, .inl (l6 + 1)), (5, .inl (l5 ||| (1 <<< (l7 &&& 31)))), (0, .inr (.inr (some 94))), (2, .inl l2), (4, .inl l4), (7, .inl l7)]) dX12_findBest_371 (Nat.le_of_ble_eq_true rfl) rfl ?_
              refine rn_sub [3, 4, 5, 2, 1, 0] (L' := [(0, .inr (.inr (some 94))), (2, .inl l2), (4, .inl l4), (5, .inl (l5 ||| (1 <<< (l7 &&& 31)))), (6, .inl (l6 + 1)), (8, .inl 0)]) rfl ?_
              exact V
      · replace V := V.2 c27
        refine rn_iinc (L' := [(6, .inl (l6 + (-1))), (0, .inr (.inr (some 94))), (2, .inl l2), (4, .inl l4), (5, .inl l5), (7, .inl l7)]) dX12_findBest_178 rfl (v := (l6 + (-1))) rfl (Nat.le_of_ble_eq_true rfl) rfl ?_
        refine rn_iload dX12_findBest_181 rfl ?_
        refine rn_if_ge (tgt := 190) dX12_findBest_183 (by decide) (fun c39 => ?_) (fun c39 => ?_)
        · replace V := V.1 c39
          refine rn_iload dX12_findBest_190 rfl ?_
          refine rn_iconst (v := 1) dX12_findBest_192 (by decide) ?_
          refine rn_aload_n dX12_findBest_193 rfl rfl ?_
          refine rn_get (v := .inr (.inr (some 101))) dX12_findBest_194 fl_X12_28 rfl rfl (congrArg (fun z => (Sum.inr (Sum.inr z) : MV)) (rf_94_14 Rh24)) ?_
          refine rn_iload dX12_findBest_197 rfl ?_
          obtain ⟨g0, V⟩ := V
          refine rn_iald (k := (Int32.toNatClampNeg (l6 + (-1)))) dX12_findBest_199 rfl rfl g0 ?_
          refine rn_ishl dX12_findBest_200 ?_
          refine rn_iconst (v := (-1)) dX12_findBest_201 (by decide) ?_
          refine rn_ixor dX12_findBest_202 ?_
          refine rn_iand dX12_findBest_203 ?_
          refine rn_istore (L' := [(5, .inl (l5 &&& ((1 <<< (((sI h24 101 (Int32.toNatClampNeg l6) l7).1 101 (Int32.toNatClampNeg (l6 + (-1)))) &&& 31)) ^^^ (-1)))), (6, .inl (l6 + (-1))), (0, .inr (.inr (some 94))), (2, .inl l2), (4, .inl l4), (7, .inl l7)]) dX12_findBest_204 (Nat.le_of_ble_eq_true rfl) rfl ?_
          refine rn_goto (tgt := 109) dX12_findBest_206 (by decide) ?_
          refine rn_sub [2, 3, 4, 0, 1] (L' := [(0, .inr (.inr (some 94))), (2, .inl l2), (4, .inl l4), (5, .inl (l5 &&& ((1 <<< (((sI h24 101 (Int32.toNatClampNeg l6) l7).1 101 (Int32.toNatClampNeg (l6 + (-1)))) &&& 31)) ^^^ (-1)))), (6, .inl (l6 + (-1)))]) rfl ?_
          exact V
        · replace V := V.2 c39
          refine rn_iconst (v := 0) dX12_findBest_186 (by decide) ?_
          refine rn_goto (tgt := 204) dX12_findBest_187 (by decide) ?_
          refine rn_istore (L' := [(5, .inl 0), (6, .inl (l6 + (-1))), (0, .inr (.inr (some 94))), (2, .inl l2), (4, .inl l4), (7, .inl l7)]) dX12_findBest_204 (Nat.le_of_ble_eq_true rfl) rfl ?_
          refine rn_goto (tgt := 109) dX12_findBest_206 (by decide) ?_
          refine rn_sub [2, 3, 4, 0, 1] (L' := [(0, .inr (.inr (some 94))), (2, .inl l2), (4, .inl l4), (5, .inl 0), (6, .inl (l6 + (-1)))]) rfl ?_
          exact V
    · replace V := V.2 c26
      refine rn_iinc (L' := [(7, .inl (l7 + 1)), (0, .inr (.inr (some 94))), (2, .inl l2), (4, .inl l4), (5, .inl l5), (6, .inl l6)]) dX12_findBest_154 rfl (v := (l7 + 1)) rfl (Nat.le_of_ble_eq_true rfl) rfl ?_
      refine rn_goto (tgt := 125) dX12_findBest_157 (by decide) ?_
      refine rn_sub [1, 2, 3, 4, 5, 0] (L' := [(0, .inr (.inr (some 94))), (2, .inl l2), (4, .inl l4), (5, .inl l5), (6, .inl l6), (7, .inl (l7 + 1))]) rfl ?_
      exact V
set_option maxRecDepth 100000 in
set_option maxHeartbeats 4000000 in
theorem vc_X12_findBest_373 {G : GT} {d : Nat} {l2 : Int32} {l4 : Int32} {l5 : Int32} {l6 : Int32} {l8 : Int32}  {h : Hp} {Q : Hp → Prop} (hR : RF h) (V : ((l6 ≤ l8 → Rg_X12_findBest_109 G d l2 l4 l5 l6 h Q) ∧ (¬ l6 ≤ l8 → vp_in l8 7 ∧ vp_in (h.1 101 (Int32.toNatClampNeg l8)) 5 ∧ vp_in l8 5 ∧ Rg_X12_findBest_373 G d l2 l4 l5 l6 (l8 + 1) (sI h 104 (Int32.toNatClampNeg l8) (h.1 100 (Int32.toNatClampNeg (h.1 101 (Int32.toNatClampNeg l8))))) Q))) : Rg_X12_findBest_373 G d l2 l4 l5 l6 l8 h Q := by
  show Rn G (d + 1) 0 0 mX12_findBest 373 [(0, .inr (.inr (some 94))), (2, .inl l2), (4, .inl l4), (5, .inl l5), (6, .inl l6), (8, .inl l8)] [] SH h (QV Q)
  refine rn_iload dX12_findBest_373 rfl ?_
  refine rn_iload dX12_findBest_375 rfl ?_
  refine rn_icmp_ge (tgt := 405) dX12_findBest_377 (by decide) (fun c40 => ?_) (fun c40 => ?_)
  · replace V := V.1 c40
    refine rn_goto (tgt := 109) dX12_findBest_405 (by decide) ?_
    refine rn_sub [0, 1, 2, 3, 4] (L' := [(0, .inr (.inr (some 94))), (2, .inl l2), (4, .inl l4), (5, .inl l5), (6, .inl l6)]) rfl ?_
    exact V
  · replace V := V.2 c40
    refine rn_aload_n dX12_findBest_380 rfl rfl ?_
    refine rn_get (v := .inr (.inr (some 104))) dX12_findBest_381 fl_X12_37 rfl rfl (congrArg (fun z => (Sum.inr (Sum.inr z) : MV)) (rf_94_20 hR)) ?_
    refine rn_iload dX12_findBest_384 rfl ?_
    refine rn_aload_n dX12_findBest_386 rfl rfl ?_
    refine rn_get (v := .inr (.inr (some 100))) dX12_findBest_387 fl_X12_25 rfl rfl (congrArg (fun z => (Sum.inr (Sum.inr z) : MV)) (rf_94_12 hR)) ?_
    refine rn_aload_n dX12_findBest_390 rfl rfl ?_
    refine rn_get (v := .inr (.inr (some 101))) dX12_findBest_391 fl_X12_28 rfl rfl (congrArg (fun z => (Sum.inr (Sum.inr z) : MV)) (rf_94_14 hR)) ?_
    refine rn_iload dX12_findBest_394 rfl ?_
    obtain ⟨g0, V⟩ := V
    refine rn_iald (k := (Int32.toNatClampNeg l8)) dX12_findBest_396 rfl rfl g0 ?_
    obtain ⟨g0, V⟩ := V
    refine rn_iald (k := (Int32.toNatClampNeg (h.1 101 (Int32.toNatClampNeg l8)))) dX12_findBest_397 rfl rfl g0 ?_
    obtain ⟨g0, V⟩ := V
    refine rn_iast (k := (Int32.toNatClampNeg l8)) dX12_findBest_398 rfl rfl g0 ?_
    refine rn_iinc (L' := [(8, .inl (l8 + 1)), (0, .inr (.inr (some 94))), (2, .inl l2), (4, .inl l4), (5, .inl l5), (6, .inl l6)]) dX12_findBest_399 rfl (v := (l8 + 1)) rfl (Nat.le_of_ble_eq_true rfl) rfl ?_
    refine rn_goto (tgt := 373) dX12_findBest_402 (by decide) ?_
    refine rn_sub [1, 2, 3, 4, 5, 0] (L' := [(0, .inr (.inr (some 94))), (2, .inl l2), (4, .inl l4), (5, .inl l5), (6, .inl l6), (8, .inl (l8 + 1))]) rfl ?_
    exact V
set_option maxRecDepth 100000 in
set_option maxHeartbeats 4000000 in
theorem vc_X12_findBest {G : GT} {d : Nat} {a1 : Int32}  {h : Hp} {Q : Hp → Prop} (hR : RF h) (V : EvV G d mX12_findPool [.inr (.inr (some 94)), .inl a1] h (fun h1 => Rg_X12_findBest_19 G d a1 (-1) 0 (h1.1 95 0 - 1) h1 Q)) : EvV G (d + 1) mX12_findBest [.inr (.inr (some 94)), .inl a1] h Q := by
  refine Ev.of rfl (fun _ => Nat.le_of_ble_eq_true rfl) ?_
  show Rn G (d + 1) 0 0 mX12_findBest 0 [(0, .inr (.inr (some 94))), (1, .inl a1)] [] SH h (QV Q)
  refine rn_aload_n dX12_findBest_0 rfl rfl ?_
  refine rn_iload_n dX12_findBest_1 rfl rfl ?_
  refine rn_cV (M' := mX12_findPool) (n := 1) (av := [.inl a1]) (S := []) (rc := 0) (rs := 0) (mc := 0) (ms := 0) (a := 94) (ci := 11) (r := (RX12, TX12, 38)) dX12_findBest_2 pa_X12_findPool (Nat.le_refl _) rfl (Nat.le_of_ble_eq_true rfl) ml_X12_253 im_X12_findPool se_X12_findPool rfl rfl rfl (Ev.mono V ?_)
  rintro v sh1 h1 ⟨rfl, Rh1, rfl, V⟩
  show Rn G (d + 1) 0 0 mX12_findBest 5 [(0, .inr (.inr (some 94))), (1, .inl a1)] [] SH h1 (QV Q)
  refine rn_iconst (v := (-1)) dX12_findBest_5 (by decide) ?_
  refine rn_istore_n (L' := [(2, .inl (-1)), (0, .inr (.inr (some 94))), (1, .inl a1)]) dX12_findBest_6 rfl (Nat.le_of_ble_eq_true rfl) rfl ?_
  refine rn_iconst (v := 0) dX12_findBest_7 (by decide) ?_
  refine rn_istore_n (L' := [(3, .inl 0), (2, .inl (-1)), (0, .inr (.inr (some 94))), (1, .inl a1)]) dX12_findBest_8 rfl (Nat.le_of_ble_eq_true rfl) rfl ?_
  refine rn_aload_n dX12_findBest_9 rfl rfl ?_
  refine rn_get (v := .inr (.inr (some 95))) dX12_findBest_10 fl_X12_7 rfl rfl (congrArg (fun z => (Sum.inr (Sum.inr z) : MV)) (rf_94_0 Rh1)) ?_
  refine rn_iconst (v := 0) dX12_findBest_13 (by decide) ?_
  refine rn_iald (k := 0) dX12_findBest_14 rfl (by decide) (by unfold vp_in; decide) ?_
  refine rn_iconst (v := 1) dX12_findBest_15 (by decide) ?_
  refine rn_isub dX12_findBest_16 ?_
  refine rn_istore (L' := [(4, .inl (h1.1 95 0 - 1)), (3, .inl 0), (2, .inl (-1)), (0, .inr (.inr (some 94))), (1, .inl a1)]) dX12_findBest_17 (Nat.le_of_ble_eq_true rfl) rfl ?_
  refine rn_sub [3, 4, 2, 1, 0] (L' := [(0, .inr (.inr (some 94))), (1, .inl a1), (2, .inl (-1)), (3, .inl 0), (4, .inl (h1.1 95 0 - 1))]) rfl ?_
  exact V
set_option maxRecDepth 100000 in
set_option maxHeartbeats 4000000 in
theorem vc_X12_best {G : GT} {d : Nat} {a1 : Int32} {a2 : Int32}  {h : Hp} {Q : Int32 → Hp → Prop} (hR : RF h) (V : EvI G d mX12_in [.inr (.inl (Int32.toInt64 a1)), .inr (.inl 1), .inr (.inl (Int32.toInt64 ((1 <<< ((h.1 95 0) &&& 31)) - 1)))] h (fun x2 h1 => ((x2 = 0 → EvI G d mX12_finds [.inr (.inr (some 94)), .inl 1] h1 (fun x5 h4 => Q x5 h4)) ∧ (¬ x2 = 0 → EvI G d mX12_in [.inr (.inl (Int32.toInt64 a2)), .inr (.inl (-2)), .inr (.inl 4)] h1 (fun x7 h6 => ((¬ x7 = 0 → EvV G d mX12_findBest [.inr (.inr (some 94)), .inl a1] h6 (fun h9 => ((¬ a2 = (-2) → ((¬ a2 = (-1) → ((h9.1 94 19 ≤ a2 → EvI G d mX12_finds [.inr (.inr (some 94)), .inl 2] h9 (fun x14 h13 => Q x14 h13)) ∧ (¬ h9.1 94 19 ≤ a2 → vp_in a2 5 ∧ Q (h9.1 104 (Int32.toNatClampNeg a2)) h9))) ∧ (a2 = (-1) → Q (h9.1 94 19) h9))) ∧ (a2 = (-2) → Q (h9.1 94 17) h9)))) ∧ (x7 = 0 → EvI G d mX12_finds [.inr (.inr (some 94)), .inl 1] h6 (fun x16 h15 => Q x16 h15)))))))) : EvI G (d + 1) mX12_best [.inr (.inr (some 94)), .inl a1, .inl a2] h Q := by
  refine Ev.of rfl (fun _ => Nat.le_of_ble_eq_true rfl) ?_
  show Rn G (d + 1) 0 0 mX12_best 0 [(0, .inr (.inr (some 94))), (1, .inl a1), (2, .inl a2)] [] SH h (QI Q)
  refine rn_iload_n dX12_best_0 rfl rfl ?_
  refine rn_i2l dX12_best_1 ?_
  refine rn_lconst (v := 1) dX12_best_2 rfl ?_
  refine rn_iconst (v := 1) dX12_best_3 (by decide) ?_
  refine rn_aload_n dX12_best_4 rfl rfl ?_
  refine rn_get (v := .inr (.inr (some 95))) dX12_best_5 fl_X12_7 rfl rfl (congrArg (fun z => (Sum.inr (Sum.inr z) : MV)) (rf_94_0 hR)) ?_
  refine rn_iconst (v := 0) dX12_best_8 (by decide) ?_
  refine rn_iald (k := 0) dX12_best_9 rfl (by decide) (by unfold vp_in; decide) ?_
  refine rn_ishl dX12_best_10 ?_
  refine rn_iconst (v := 1) dX12_best_11 (by decide) ?_
  refine rn_isub dX12_best_12 ?_
  refine rn_i2l dX12_best_13 ?_
  refine rn_cS (M' := mX12_in) (n := 3) (av := [.inr (.inl (Int32.toInt64 a1)), .inr (.inl 1), .inr (.inl (Int32.toInt64 ((1 <<< ((h.1 95 0) &&& 31)) - 1)))]) (S := []) (rc := 0) (rs := 0) (mc := 0) (ms := 0) dX12_best_14 pa_X12_in (Nat.le_refl _) rfl (Nat.le_of_ble_eq_true rfl) ml_X12_80 ss_X12_in rfl (Ev.mono V ?_)
  rintro v sh1 h1 ⟨rfl, Rh1, x2, rfl, V⟩
  show Rn G (d + 1) 0 0 mX12_best 17 [(0, .inr (.inr (some 94))), (1, .inl a1), (2, .inl a2)] [.inl x2] SH h1 (QI Q)
  refine rn_if_eq (tgt := 34) dX12_best_17 (by decide) (fun c3 => ?_) (fun c3 => ?_)
  · replace V := V.1 c3
    refine rn_aload_n dX12_best_34 rfl rfl ?_
    refine rn_iconst (v := 1) dX12_best_35 (by decide) ?_
    refine rn_cV (M' := mX12_finds) (n := 1) (av := [.inl 1]) (S := []) (rc := 0) (rs := 0) (mc := 0) (ms := 0) (a := 94) (ci := 11) (r := (RX12, TX12, 38)) dX12_best_36 pa_X12_finds (Nat.le_refl _) rfl (Nat.le_of_ble_eq_true rfl) ml_X12_143 im_X12_finds se_X12_finds rfl rfl rfl (Ev.mono V ?_)
    rintro v sh1 h4 ⟨rfl, Rh4, x5, rfl, V⟩
    show Rn G (d + 1) 0 0 mX12_best 39 [(0, .inr (.inr (some 94))), (1, .inl a1), (2, .inl a2)] [.inl x5] SH h4 (QI Q)
    exact rn_iret dX12_best_39 rfl ⟨rfl, Rh4, _, rfl, V⟩
  · replace V := V.2 c3
    refine rn_iload_n dX12_best_20 rfl rfl ?_
    refine rn_i2l dX12_best_21 ?_
    refine rn_ldc2 (v := (-2)) dX12_best_22 cw_X12_269 ?_
    refine rn_ldc2 (v := 4) dX12_best_25 cw_X12_205 ?_
    refine rn_cS (M' := mX12_in) (n := 3) (av := [.inr (.inl (Int32.toInt64 a2)), .inr (.inl (-2)), .inr (.inl 4)]) (S := []) (rc := 0) (rs := 0) (mc := 0) (ms := 0) dX12_best_28 pa_X12_in (Nat.le_refl _) rfl (Nat.le_of_ble_eq_true rfl) ml_X12_80 ss_X12_in rfl (Ev.mono V ?_)
    rintro v sh1 h6 ⟨rfl, Rh6, x7, rfl, V⟩
    show Rn G (d + 1) 0 0 mX12_best 31 [(0, .inr (.inr (some 94))), (1, .inl a1), (2, .inl a2)] [.inl x7] SH h6 (QI Q)
    refine rn_if_ne (tgt := 40) dX12_best_31 (by decide) (fun c8 => ?_) (fun c8 => ?_)
    · replace V := V.1 c8
      refine rn_aload_n dX12_best_40 rfl rfl ?_
      refine rn_iload_n dX12_best_41 rfl rfl ?_
      refine rn_cV (M' := mX12_findBest) (n := 1) (av := [.inl a1]) (S := []) (rc := 0) (rs := 0) (mc := 0) (ms := 0) (a := 94) (ci := 11) (r := (RX12, TX12, 38)) dX12_best_42 pa_X12_findBest (Nat.le_refl _) rfl (Nat.le_of_ble_eq_true rfl) ml_X12_271 im_X12_findBest se_X12_findBest rfl rfl rfl (Ev.mono V ?_)
      rintro v sh1 h9 ⟨rfl, Rh9, rfl, V⟩
      show Rn G (d + 1) 0 0 mX12_best 45 [(0, .inr (.inr (some 94))), (1, .inl a1), (2, .inl a2)] [] SH h9 (QI Q)
      refine rn_iload_n dX12_best_45 rfl rfl ?_
      refine rn_bipush (v := (-2)) dX12_best_46 (by decide) ?_
      refine rn_icmp_ne (tgt := 58) dX12_best_48 (by decide) (fun c10 => ?_) (fun c10 => ?_)
      · replace V := V.1 c10
        refine rn_iload_n dX12_best_58 rfl rfl ?_
        refine rn_iconst (v := (-1)) dX12_best_59 (by decide) ?_
        refine rn_icmp_ne (tgt := 70) dX12_best_60 (by decide) (fun c11 => ?_) (fun c11 => ?_)
        · replace V := V.1 c11
          refine rn_iload_n dX12_best_70 rfl rfl ?_
          refine rn_aload_n dX12_best_71 rfl rfl ?_
          refine rn_get (v := .inl (h9.1 94 19)) dX12_best_72 fl_X12_262 rfl rfl rfl ?_
          refine rn_icmp_ge (tgt := 87) dX12_best_75 (by decide) (fun c12 => ?_) (fun c12 => ?_)
          · replace V := V.1 c12
            refine rn_aload_n dX12_best_87 rfl rfl ?_
            refine rn_iconst (v := 2) dX12_best_88 (by decide) ?_
            refine rn_cV (M' := mX12_finds) (n := 1) (av := [.inl 2]) (S := []) (rc := 0) (rs := 0) (mc := 0) (ms := 0) (a := 94) (ci := 11) (r := (RX12, TX12, 38)) dX12_best_89 pa_X12_finds (Nat.le_refl _) rfl (Nat.le_of_ble_eq_true rfl) ml_X12_143 im_X12_finds se_X12_finds rfl rfl rfl (Ev.mono V ?_)
            rintro v sh1 h13 ⟨rfl, Rh13, x14, rfl, V⟩
            show Rn G (d + 1) 0 0 mX12_best 92 [(0, .inr (.inr (some 94))), (1, .inl a1), (2, .inl a2)] [.inl x14] SH h13 (QI Q)
            exact rn_iret dX12_best_92 rfl ⟨rfl, Rh13, _, rfl, V⟩
          · replace V := V.2 c12
            refine rn_aload_n dX12_best_78 rfl rfl ?_
            refine rn_get (v := .inr (.inr (some 104))) dX12_best_79 fl_X12_37 rfl rfl (congrArg (fun z => (Sum.inr (Sum.inr z) : MV)) (rf_94_20 Rh9)) ?_
            refine rn_iload_n dX12_best_82 rfl rfl ?_
            obtain ⟨g0, V⟩ := V
            refine rn_iald (k := (Int32.toNatClampNeg a2)) dX12_best_83 rfl rfl g0 ?_
            refine rn_goto (tgt := 92) dX12_best_84 (by decide) ?_
            exact rn_iret dX12_best_92 rfl ⟨rfl, Rh9, _, rfl, V⟩
        · replace V := V.2 c11
          refine rn_aload_n dX12_best_63 rfl rfl ?_
          refine rn_get (v := .inl (h9.1 94 19)) dX12_best_64 fl_X12_262 rfl rfl rfl ?_
          refine rn_goto (tgt := 92) dX12_best_67 (by decide) ?_
          exact rn_iret dX12_best_92 rfl ⟨rfl, Rh9, _, rfl, V⟩
      · replace V := V.2 c10
        refine rn_aload_n dX12_best_51 rfl rfl ?_
        refine rn_get (v := .inl (h9.1 94 17)) dX12_best_52 fl_X12_256 rfl rfl rfl ?_
        refine rn_goto (tgt := 92) dX12_best_55 (by decide) ?_
        exact rn_iret dX12_best_92 rfl ⟨rfl, Rh9, _, rfl, V⟩
    · replace V := V.2 c8
      refine rn_aload_n dX12_best_34 rfl rfl ?_
      refine rn_iconst (v := 1) dX12_best_35 (by decide) ?_
      refine rn_cV (M' := mX12_finds) (n := 1) (av := [.inl 1]) (S := []) (rc := 0) (rs := 0) (mc := 0) (ms := 0) (a := 94) (ci := 11) (r := (RX12, TX12, 38)) dX12_best_36 pa_X12_finds (Nat.le_refl _) rfl (Nat.le_of_ble_eq_true rfl) ml_X12_143 im_X12_finds se_X12_finds rfl rfl rfl (Ev.mono V ?_)
      rintro v sh1 h15 ⟨rfl, Rh15, x16, rfl, V⟩
      show Rn G (d + 1) 0 0 mX12_best 39 [(0, .inr (.inr (some 94))), (1, .inl a1), (2, .inl a2)] [.inl x16] SH h15 (QI Q)
      exact rn_iret dX12_best_39 rfl ⟨rfl, Rh15, _, rfl, V⟩
def Rg_X12_ones_4 (G : GT) (d : Nat) (l0 : Int32) (l1 : Int32) (l2 : Int32) (h : Hp) (Q : Int32 → Hp → Prop) : Prop := Rn G (d + 1) 0 0 mX12_ones 4 [(0, .inl l0), (1, .inl l1), (2, .inl l2)] [] SH h (QI Q)
set_option maxRecDepth 100000 in
set_option maxHeartbeats 4000000 in
theorem vc_X12_ones_4 {G : GT} {d : Nat} {l0 : Int32} {l1 : Int32} {l2 : Int32}  {h : Hp} {Q : Int32 → Hp → Prop} (hR : RF h) (V : ((4 ≤ l2 → Q l1 h) ∧ (¬ 4 ≤ l2 → Rg_X12_ones_4 G d l0 (l1 + ((l0 >>> (l2 &&& 31)) &&& 1)) (l2 + 1) h Q))) : Rg_X12_ones_4 G d l0 l1 l2 h Q := by
  show Rn G (d + 1) 0 0 mX12_ones 4 [(0, .inl l0), (1, .inl l1), (2, .inl l2)] [] SH h (QI Q)
  refine rn_iload_n dX12_ones_4 rfl rfl ?_
  refine rn_iconst (v := 4) dX12_ones_5 (by decide) ?_
  refine rn_icmp_ge (tgt := 23) dX12_ones_6 (by decide) (fun c1 => ?_) (fun c1 => ?_)
  · replace V := V.1 c1
    refine rn_iload_n dX12_ones_23 rfl rfl ?_
    exact rn_iret dX12_ones_24 rfl ⟨rfl, hR, _, rfl, V⟩
  · replace V := V.2 c1
    refine rn_iload_n dX12_ones_9 rfl rfl ?_
    refine rn_iload_n dX12_ones_10 rfl rfl ?_
    refine rn_iload_n dX12_ones_11 rfl rfl ?_
    refine rn_ishr dX12_ones_12 ?_
    refine rn_iconst (v := 1) dX12_ones_13 (by decide) ?_
    refine rn_iand dX12_ones_14 ?_
    refine rn_iadd dX12_ones_15 ?_
    refine rn_istore_n (L' := [(1, .inl (l1 + ((l0 >>> (l2 &&& 31)) &&& 1))), (0, .inl l0), (2, .inl l2)]) dX12_ones_16 rfl (Nat.le_of_ble_eq_true rfl) rfl ?_
    refine rn_iinc (L' := [(2, .inl (l2 + 1)), (1, .inl (l1 + ((l0 >>> (l2 &&& 31)) &&& 1))), (0, .inl l0)]) dX12_ones_17 rfl (v := (l2 + 1)) rfl (Nat.le_of_ble_eq_true rfl) rfl ?_
    refine rn_goto (tgt := 4) dX12_ones_20 (by decide) ?_
    refine rn_sub [2, 1, 0] (L' := [(0, .inl l0), (1, .inl (l1 + ((l0 >>> (l2 &&& 31)) &&& 1))), (2, .inl (l2 + 1))]) rfl ?_
    exact V
set_option maxRecDepth 100000 in
set_option maxHeartbeats 4000000 in
theorem vc_X12_ones {G : GT} {d : Nat} {a0 : Int32}  {h : Hp} {Q : Int32 → Hp → Prop} (hR : RF h) (V : Rg_X12_ones_4 G d a0 0 0 h Q) : EvI G (d + 1) mX12_ones [.inl a0] h Q := by
  refine Ev.of rfl (fun _ => Nat.le_of_ble_eq_true rfl) ?_
  show Rn G (d + 1) 0 0 mX12_ones 0 [(0, .inl a0)] [] SH h (QI Q)
  refine rn_iconst (v := 0) dX12_ones_0 (by decide) ?_
  refine rn_istore_n (L' := [(1, .inl 0), (0, .inl a0)]) dX12_ones_1 rfl (Nat.le_of_ble_eq_true rfl) rfl ?_
  refine rn_iconst (v := 0) dX12_ones_2 (by decide) ?_
  refine rn_istore_n (L' := [(2, .inl 0), (1, .inl 0), (0, .inl a0)]) dX12_ones_3 rfl (Nat.le_of_ble_eq_true rfl) rfl ?_
  refine rn_sub [2, 1, 0] (L' := [(0, .inl a0), (1, .inl 0), (2, .inl 0)]) rfl ?_
  exact V
def Rg_X12_inOrders_4 (G : GT) (d : Nat) (l0 : Int32) (l1 : Int32) (l2 : Int32) (h : Hp) (Q : Int32 → Hp → Prop) : Prop := Rn G (d + 1) 0 0 mX12_inOrders 4 [(0, .inl l0), (1, .inl l1), (2, .inl l2)] [] SH h (QI Q)
set_option maxRecDepth 100000 in
set_option maxHeartbeats 4000000 in
theorem vc_X12_inOrders_4 {G : GT} {d : Nat} {l0 : Int32} {l1 : Int32} {l2 : Int32}  {h : Hp} {Q : Int32 → Hp → Prop} (hR : RF h) (V : ((l0 < l2 → Q l1 h) ∧ (¬ l0 < l2 → Rg_X12_inOrders_4 G d l0 (l1 * l2) (l2 + 1) h Q))) : Rg_X12_inOrders_4 G d l0 l1 l2 h Q := by
  show Rn G (d + 1) 0 0 mX12_inOrders 4 [(0, .inl l0), (1, .inl l1), (2, .inl l2)] [] SH h (QI Q)
  refine rn_iload_n dX12_inOrders_4 rfl rfl ?_
  refine rn_iload_n dX12_inOrders_5 rfl rfl ?_
  refine rn_icmp_gt (tgt := 19) dX12_inOrders_6 (by decide) (fun c1 => ?_) (fun c1 => ?_)
  · replace V := V.1 c1
    refine rn_iload_n dX12_inOrders_19 rfl rfl ?_
    exact rn_iret dX12_inOrders_20 rfl ⟨rfl, hR, _, rfl, V⟩
  · replace V := V.2 c1
    refine rn_iload_n dX12_inOrders_9 rfl rfl ?_
    refine rn_iload_n dX12_inOrders_10 rfl rfl ?_
    refine rn_imul dX12_inOrders_11 ?_
    refine rn_istore_n (L' := [(1, .inl (l1 * l2)), (0, .inl l0), (2, .inl l2)]) dX12_inOrders_12 rfl (Nat.le_of_ble_eq_true rfl) rfl ?_
    refine rn_iinc (L' := [(2, .inl (l2 + 1)), (1, .inl (l1 * l2)), (0, .inl l0)]) dX12_inOrders_13 rfl (v := (l2 + 1)) rfl (Nat.le_of_ble_eq_true rfl) rfl ?_
    refine rn_goto (tgt := 4) dX12_inOrders_16 (by decide) ?_
    refine rn_sub [2, 1, 0] (L' := [(0, .inl l0), (1, .inl (l1 * l2)), (2, .inl (l2 + 1))]) rfl ?_
    exact V
set_option maxRecDepth 100000 in
set_option maxHeartbeats 4000000 in
theorem vc_X12_inOrders {G : GT} {d : Nat} {a0 : Int32}  {h : Hp} {Q : Int32 → Hp → Prop} (hR : RF h) (V : Rg_X12_inOrders_4 G d a0 1 2 h Q) : EvI G (d + 1) mX12_inOrders [.inl a0] h Q := by
  refine Ev.of rfl (fun _ => Nat.le_of_ble_eq_true rfl) ?_
  show Rn G (d + 1) 0 0 mX12_inOrders 0 [(0, .inl a0)] [] SH h (QI Q)
  refine rn_iconst (v := 1) dX12_inOrders_0 (by decide) ?_
  refine rn_istore_n (L' := [(1, .inl 1), (0, .inl a0)]) dX12_inOrders_1 rfl (Nat.le_of_ble_eq_true rfl) rfl ?_
  refine rn_iconst (v := 2) dX12_inOrders_2 (by decide) ?_
  refine rn_istore_n (L' := [(2, .inl 2), (1, .inl 1), (0, .inl a0)]) dX12_inOrders_3 rfl (Nat.le_of_ble_eq_true rfl) rfl ?_
  refine rn_sub [2, 1, 0] (L' := [(0, .inl a0), (1, .inl 1), (2, .inl 2)]) rfl ?_
  exact V
def Rg_X12_findShares_17 (G : GT) (d : Nat) (l1 : Int32) (l2 : Int32) (h : Hp) (Q : Hp → Prop) : Prop := Rn G (d + 1) 0 0 mX12_findShares 17 [(0, .inr (.inr (some 94))), (1, .inl l1), (2, .inl l2)] [] SH h (QV Q)
def Rg_X12_findShares_47 (G : GT) (d : Nat) (l1 : Int32) (l2 : Int32) (h : Hp) (Q : Hp → Prop) : Prop := Rn G (d + 1) 0 0 mX12_findShares 47 [(0, .inr (.inr (some 94))), (1, .inl l1), (2, .inl l2)] [] SH h (QV Q)
def Rg_X12_findShares_61 (G : GT) (d : Nat) (l1 : Int32) (l2 : Int32) (l3 : Int32) (h : Hp) (Q : Hp → Prop) : Prop := Rn G (d + 1) 0 0 mX12_findShares 61 [(0, .inr (.inr (some 94))), (1, .inl l1), (2, .inl l2), (3, .inl l3)] [] SH h (QV Q)
set_option maxRecDepth 100000 in
set_option maxHeartbeats 4000000 in
theorem vc_X12_findShares_17 {G : GT} {d : Nat} {l1 : Int32} {l2 : Int32}  {h : Hp} {Q : Hp → Prop} (hR : RF h) (V : (((1 <<< (l1 &&& 31)) ≤ l2 → Rg_X12_findShares_47 G d l1 0 h Q) ∧ (¬ (1 <<< (l1 &&& 31)) ≤ l2 → EvV G d mX12_findBest [.inr (.inr (some 94)), .inl l2] h (fun h4 => vp_in l2 16 ∧ Rg_X12_findShares_17 G d l1 (l2 + 1) (sI h4 105 (Int32.toNatClampNeg l2) (h4.1 94 17)) Q)))) : Rg_X12_findShares_17 G d l1 l2 h Q := by
  show Rn G (d + 1) 0 0 mX12_findShares 17 [(0, .inr (.inr (some 94))), (1, .inl l1), (2, .inl l2)] [] SH h (QV Q)
  refine rn_iload_n dX12_findShares_17 rfl rfl ?_
  refine rn_iconst (v := 1) dX12_findShares_18 (by decide) ?_
  refine rn_iload_n dX12_findShares_19 rfl rfl ?_
  refine rn_ishl dX12_findShares_20 ?_
  refine rn_icmp_ge (tgt := 45) dX12_findShares_21 (by decide) (fun c3 => ?_) (fun c3 => ?_)
  · replace V := V.1 c3
    refine rn_iconst (v := 0) dX12_findShares_45 (by decide) ?_
    refine rn_istore_n (L' := [(2, .inl 0), (0, .inr (.inr (some 94))), (1, .inl l1)]) dX12_findShares_46 rfl (Nat.le_of_ble_eq_true rfl) rfl ?_
    refine rn_sub [1, 2, 0] (L' := [(0, .inr (.inr (some 94))), (1, .inl l1), (2, .inl 0)]) rfl ?_
    exact V
  · replace V := V.2 c3
    refine rn_aload_n dX12_findShares_24 rfl rfl ?_
    refine rn_iload_n dX12_findShares_25 rfl rfl ?_
    refine rn_cV (M' := mX12_findBest) (n := 1) (av := [.inl l2]) (S := []) (rc := 0) (rs := 0) (mc := 0) (ms := 0) (a := 94) (ci := 11) (r := (RX12, TX12, 38)) dX12_findShares_26 pa_X12_findBest (Nat.le_refl _) rfl (Nat.le_of_ble_eq_true rfl) ml_X12_271 im_X12_findBest se_X12_findBest rfl rfl rfl (Ev.mono V ?_)
    rintro v sh1 h4 ⟨rfl, Rh4, rfl, V⟩
    show Rn G (d + 1) 0 0 mX12_findShares 29 [(0, .inr (.inr (some 94))), (1, .inl l1), (2, .inl l2)] [] SH h4 (QV Q)
    refine rn_aload_n dX12_findShares_29 rfl rfl ?_
    refine rn_get (v := .inr (.inr (some 105))) dX12_findShares_30 fl_X12_40 rfl rfl (congrArg (fun z => (Sum.inr (Sum.inr z) : MV)) (rf_94_21 Rh4)) ?_
    refine rn_iload_n dX12_findShares_33 rfl rfl ?_
    refine rn_aload_n dX12_findShares_34 rfl rfl ?_
    refine rn_get (v := .inl (h4.1 94 17)) dX12_findShares_35 fl_X12_256 rfl rfl rfl ?_
    obtain ⟨g0, V⟩ := V
    refine rn_iast (k := (Int32.toNatClampNeg l2)) dX12_findShares_38 rfl rfl g0 ?_
    refine rn_iinc (L' := [(2, .inl (l2 + 1)), (0, .inr (.inr (some 94))), (1, .inl l1)]) dX12_findShares_39 rfl (v := (l2 + 1)) rfl (Nat.le_of_ble_eq_true rfl) rfl ?_
    refine rn_goto (tgt := 17) dX12_findShares_42 (by decide) ?_
    refine rn_sub [1, 2, 0] (L' := [(0, .inr (.inr (some 94))), (1, .inl l1), (2, .inl (l2 + 1))]) rfl ?_
    exact V
set_option maxRecDepth 100000 in
set_option maxHeartbeats 4000000 in
theorem vc_X12_findShares_47 {G : GT} {d : Nat} {l1 : Int32} {l2 : Int32}  {h : Hp} {Q : Hp → Prop} (hR : RF h) (V : ((l1 ≤ l2 → Q h) ∧ (¬ l1 ≤ l2 → vp_in l2 4 ∧ Rg_X12_findShares_61 G d l1 l2 0 (sI h 106 (Int32.toNatClampNeg l2) 0) Q))) : Rg_X12_findShares_47 G d l1 l2 h Q := by
  show Rn G (d + 1) 0 0 mX12_findShares 47 [(0, .inr (.inr (some 94))), (1, .inl l1), (2, .inl l2)] [] SH h (QV Q)
  refine rn_iload_n dX12_findShares_47 rfl rfl ?_
  refine rn_iload_n dX12_findShares_48 rfl rfl ?_
  refine rn_icmp_ge (tgt := 134) dX12_findShares_49 (by decide) (fun c5 => ?_) (fun c5 => ?_)
  · replace V := V.1 c5
    exact rn_vret dX12_findShares_134 rfl ⟨rfl, hR, rfl, V⟩
  · replace V := V.2 c5
    refine rn_aload_n dX12_findShares_52 rfl rfl ?_
    refine rn_get (v := .inr (.inr (some 106))) dX12_findShares_53 fl_X12_43 rfl rfl (congrArg (fun z => (Sum.inr (Sum.inr z) : MV)) (rf_94_22 hR)) ?_
    refine rn_iload_n dX12_findShares_56 rfl rfl ?_
    refine rn_iconst (v := 0) dX12_findShares_57 (by decide) ?_
    obtain ⟨g0, V⟩ := V
    refine rn_iast (k := (Int32.toNatClampNeg l2)) dX12_findShares_58 rfl rfl g0 ?_
    refine rn_iconst (v := 0) dX12_findShares_59 (by decide) ?_
    refine rn_istore_n (L' := [(3, .inl 0), (0, .inr (.inr (some 94))), (1, .inl l1), (2, .inl l2)]) dX12_findShares_60 rfl (Nat.le_of_ble_eq_true rfl) rfl ?_
    refine rn_sub [1, 2, 3, 0] (L' := [(0, .inr (.inr (some 94))), (1, .inl l1), (2, .inl l2), (3, .inl 0)]) rfl ?_
    exact V
set_option maxRecDepth 100000 in
set_option maxHeartbeats 4000000 in
theorem vc_X12_findShares_61 {G : GT} {d : Nat} {l1 : Int32} {l2 : Int32} {l3 : Int32}  {h : Hp} {Q : Hp → Prop} (hR : RF h) (V : (((1 <<< (l1 &&& 31)) ≤ l3 → Rg_X12_findShares_47 G d l1 (l2 + 1) h Q) ∧ (¬ (1 <<< (l1 &&& 31)) ≤ l3 → ((¬ ((l3 >>> (l2 &&& 31)) &&& 1) = 0 → Rg_X12_findShares_61 G d l1 l2 (l3 + 1) h Q) ∧ (((l3 >>> (l2 &&& 31)) &&& 1) = 0 → vp_in l2 4 ∧ EvI G d mX12_ones [.inl l3] h (fun x9 h8 => EvI G d mX12_inOrders [.inl x9] h8 (fun x11 h10 => EvI G d mX12_ones [.inl l3] h10 (fun x13 h12 => EvI G d mX12_inOrders [.inl ((l1 - 1) - x13)] h12 (fun x15 h14 => vp_in (l3 ||| (1 <<< (l2 &&& 31))) 16 ∧ vp_in l3 16 ∧ vp_in l2 4 ∧ ∀ h16 : Hp, h16 = (sI h14 106 (Int32.toNatClampNeg l2) (h.1 106 (Int32.toNatClampNeg l2) + ((x11 * x15) * (h14.1 105 (Int32.toNatClampNeg (l3 ||| (1 <<< (l2 &&& 31)))) - h14.1 105 (Int32.toNatClampNeg l3))))) → Rg_X12_findShares_61 G d l1 l2 (l3 + 1) h16 Q))))))))) : Rg_X12_findShares_61 G d l1 l2 l3 h Q := by
  show Rn G (d + 1) 0 0 mX12_findShares 61 [(0, .inr (.inr (some 94))), (1, .inl l1), (2, .inl l2), (3, .inl l3)] [] SH h (QV Q)
  refine rn_iload_n dX12_findShares_61 rfl rfl ?_
  refine rn_iconst (v := 1) dX12_findShares_62 (by decide) ?_
  refine rn_iload_n dX12_findShares_63 rfl rfl ?_
  refine rn_ishl dX12_findShares_64 ?_
  refine rn_icmp_ge (tgt := 128) dX12_findShares_65 (by decide) (fun c6 => ?_) (fun c6 => ?_)
  · replace V := V.1 c6
    refine rn_iinc (L' := [(2, .inl (l2 + 1)), (0, .inr (.inr (some 94))), (1, .inl l1), (3, .inl l3)]) dX12_findShares_128 rfl (v := (l2 + 1)) rfl (Nat.le_of_ble_eq_true rfl) rfl ?_
    refine rn_goto (tgt := 47) dX12_findShares_131 (by decide) ?_
    refine rn_sub [1, 2, 0] (L' := [(0, .inr (.inr (some 94))), (1, .inl l1), (2, .inl (l2 + 1))]) rfl ?_
    exact V
  · replace V := V.2 c6
    refine rn_iload_n dX12_findShares_68 rfl rfl ?_
    refine rn_iload_n dX12_findShares_69 rfl rfl ?_
    refine rn_ishr dX12_findShares_70 ?_
    refine rn_iconst (v := 1) dX12_findShares_71 (by decide) ?_
    refine rn_iand dX12_findShares_72 ?_
    refine rn_if_ne (tgt := 122) dX12_findShares_73 (by decide) (fun c7 => ?_) (fun c7 => ?_)
    · replace V := V.1 c7
      refine rn_iinc (L' := [(3, .inl (l3 + 1)), (0, .inr (.inr (some 94))), (1, .inl l1), (2, .inl l2)]) dX12_findShares_122 rfl (v := (l3 + 1)) rfl (Nat.le_of_ble_eq_true rfl) rfl ?_
      refine rn_goto (tgt := 61) dX12_findShares_125 (by decide) ?_
      refine rn_sub [1, 2, 3, 0] (L' := [(0, .inr (.inr (some 94))), (1, .inl l1), (2, .inl l2), (3, .inl (l3 + 1))]) rfl ?_
      exact V
    · replace V := V.2 c7
      refine rn_aload_n dX12_findShares_76 rfl rfl ?_
      refine rn_get (v := .inr (.inr (some 106))) dX12_findShares_77 fl_X12_43 rfl rfl (congrArg (fun z => (Sum.inr (Sum.inr z) : MV)) (rf_94_22 hR)) ?_
      refine rn_iload_n dX12_findShares_80 rfl rfl ?_
      refine rn_dup2 dX12_findShares_81 rfl rfl ?_
      obtain ⟨g0, V⟩ := V
      refine rn_iald (k := (Int32.toNatClampNeg l2)) dX12_findShares_82 rfl rfl g0 ?_
      refine rn_iload_n dX12_findShares_83 rfl rfl ?_
      refine rn_cS (M' := mX12_ones) (n := 1) (av := [.inl l3]) (S := [.inl (h.1 106 (Int32.toNatClampNeg l2)), .inl l2, .inr (.inr (some 106))]) (rc := 0) (rs := 0) (mc := 0) (ms := 0) dX12_findShares_84 pa_X12_ones (Nat.le_refl _) rfl (Nat.le_of_ble_eq_true rfl) ml_X12_280 ss_X12_ones rfl (Ev.mono V ?_)
      rintro v sh1 h8 ⟨rfl, Rh8, x9, rfl, V⟩
      show Rn G (d + 1) 0 0 mX12_findShares 87 [(0, .inr (.inr (some 94))), (1, .inl l1), (2, .inl l2), (3, .inl l3)] [.inl x9, .inl (h.1 106 (Int32.toNatClampNeg l2)), .inl l2, .inr (.inr (some 106))] SH h8 (QV Q)
      refine rn_cS (M' := mX12_inOrders) (n := 1) (av := [.inl x9]) (S := [.inl (h.1 106 (Int32.toNatClampNeg l2)), .inl l2, .inr (.inr (some 106))]) (rc := 0) (rs := 0) (mc := 0) (ms := 0) dX12_findShares_87 pa_X12_inOrders (Nat.le_refl _) rfl (Nat.le_of_ble_eq_true rfl) ml_X12_274 ss_X12_inOrders rfl (Ev.mono V ?_)
      rintro v sh1 h10 ⟨rfl, Rh10, x11, rfl, V⟩
      show Rn G (d + 1) 0 0 mX12_findShares 90 [(0, .inr (.inr (some 94))), (1, .inl l1), (2, .inl l2), (3, .inl l3)] [.inl x11, .inl (h.1 106 (Int32.toNatClampNeg l2)), .inl l2, .inr (.inr (some 106))] SH h10 (QV Q)
      refine rn_iload_n dX12_findShares_90 rfl rfl ?_
      refine rn_iconst (v := 1) dX12_findShares_91 (by decide) ?_
      refine rn_isub dX12_findShares_92 ?_
      refine rn_iload_n dX12_findShares_93 rfl rfl ?_
      refine rn_cS (M' := mX12_ones) (n := 1) (av := [.inl l3]) (S := [.inl (l1 - 1), .inl x11, .inl (h.1 106 (Int32.toNatClampNeg l2)), .inl l2, .inr (.inr (some 106))]) (rc := 0) (rs := 0) (mc := 0) (ms := 0) dX12_findShares_94 pa_X12_ones (Nat.le_refl _) rfl (Nat.le_of_ble_eq_true rfl) ml_X12_280 ss_X12_ones rfl (Ev.mono V ?_)
      rintro v sh1 h12 ⟨rfl, Rh12, x13, rfl, V⟩
      show Rn G (d + 1) 0 0 mX12_findShares 97 [(0, .inr (.inr (some 94))), (1, .inl l1), (2, .inl l2), (3, .inl l3)] [.inl x13, .inl (l1 - 1), .inl x11, .inl (h.1 106 (Int32.toNatClampNeg l2)), .inl l2, .inr (.inr (some 106))] SH h12 (QV Q)
      refine rn_isub dX12_findShares_97 ?_
      refine rn_cS (M' := mX12_inOrders) (n := 1) (av := [.inl ((l1 - 1) - x13)]) (S := [.inl x11, .inl (h.1 106 (Int32.toNatClampNeg l2)), .inl l2, .inr (.inr (some 106))]) (rc := 0) (rs := 0) (mc := 0) (ms := 0) dX12_findShares_98 pa_X12_inOrders (Nat.le_refl _) rfl (Nat.le_of_ble_eq_true rfl) ml_X12_274 ss_X12_inOrders rfl (Ev.mono V ?_)
      rintro v sh1 h14 ⟨rfl, Rh14, x15, rfl, V⟩
      show Rn G (d + 1) 0 0 mX12_findShares 101 [(0, .inr (.inr (some 94))), (1, .inl l1), (2, .inl l2), (3, .inl l3)] [.inl x15, .inl x11, .inl (h.1 106 (Int32.toNatClampNeg l2)), .inl l2, .inr (.inr (some 106))] SH h14 (QV Q)
      refine rn_imul dX12_findShares_101 ?_
      refine rn_aload_n dX12_findShares_102 rfl rfl ?_
      refine rn_get (v := .inr (.inr (some 105))) dX12_findShares_103 fl_X12_40 rfl rfl (congrArg (fun z => (Sum.inr (Sum.inr z) : MV)) (rf_94_21 Rh14)) ?_
      refine rn_iload_n dX12_findShares_106 rfl rfl ?_
      refine rn_iconst (v := 1) dX12_findShares_107 (by decide) ?_
      refine rn_iload_n dX12_findShares_108 rfl rfl ?_
      refine rn_ishl dX12_findShares_109 ?_
      refine rn_ior dX12_findShares_110 ?_
      obtain ⟨g0, V⟩ := V
      refine rn_iald (k := (Int32.toNatClampNeg (l3 ||| (1 <<< (l2 &&& 31))))) dX12_findShares_111 rfl rfl g0 ?_
      refine rn_aload_n dX12_findShares_112 rfl rfl ?_
      refine rn_get (v := .inr (.inr (some 105))) dX12_findShares_113 fl_X12_40 rfl rfl (congrArg (fun z => (Sum.inr (Sum.inr z) : MV)) (rf_94_21 Rh14)) ?_
      refine rn_iload_n dX12_findShares_116 rfl rfl ?_
      obtain ⟨g0, V⟩ := V
      refine rn_iald (k := (Int32.toNatClampNeg l3)) dX12_findShares_117 rfl rfl g0 ?_
      refine rn_isub dX12_findShares_118 ?_
      refine rn_imul dX12_findShares_119 ?_
      refine rn_iadd dX12_findShares_120 ?_
      obtain ⟨g0, V⟩ := V
      refine rn_iast (k := (Int32.toNatClampNeg l2)) dX12_findShares_121 rfl rfl g0 ?_
      obtain ⟨h16, eh16⟩ : ∃ z, z = (sI h14 106 (Int32.toNatClampNeg l2) (h.1 106 (Int32.toNatClampNeg l2) + ((x11 * x15) * (h14.1 105 (Int32.toNatClampNeg (l3 ||| (1 <<< (l2 &&& 31)))) - h14.1 105 (Int32.toNatClampNeg l3))))) := ⟨_, rfl⟩
      show Rn G (d + 1) 0 0 mX12_findShares 122 [(0, .inr (.inr (some 94))), (1, .inl l1), (2, .inl l2), (3, .inl l3)] [] SH (sI h14 106 (Int32.toNatClampNeg l2) (h.1 106 (Int32.toNatClampNeg l2) + ((x11 * x15) * (h14.1 105 (Int32.toNatClampNeg (l3 ||| (1 <<< (l2 &&& 31)))) - h14.1 105 (Int32.toNatClampNeg l3))))) (QV Q)
      rw [← eh16]
      replace V := V h16 eh16
      have Rh16 : RF h16 := by rw [eh16]; exact Rh14
      refine rn_iinc (L' := [(3, .inl (l3 + 1)), (0, .inr (.inr (some 94))), (1, .inl l1), (2, .inl l2)]) dX12_findShares_122 rfl (v := (l3 + 1)) rfl (Nat.le_of_ble_eq_true rfl) rfl ?_
      refine rn_goto (tgt := 61) dX12_findShares_125 (by decide) ?_
      refine rn_sub [1, 2, 3, 0] (L' := [(0, .inr (.inr (some 94))), (1, .inl l1), (2, .inl l2), (3, .inl (l3 + 1))]) rfl ?_
      exact V
set_option maxRecDepth 100000 in
set_option maxHeartbeats 4000000 in
theorem vc_X12_findShares {G : GT} {d : Nat}   {h : Hp} {Q : Hp → Prop} (hR : RF h) (V : EvI G d mX12_inOrders [.inl (h.1 95 0)] h (fun x2 h1 => Rg_X12_findShares_17 G d (h.1 95 0) 0 (sI h1 94 23 x2) Q)) : EvV G (d + 1) mX12_findShares [.inr (.inr (some 94))] h Q := by
  refine Ev.of rfl (fun _ => Nat.le_of_ble_eq_true rfl) ?_
  show Rn G (d + 1) 0 0 mX12_findShares 0 [(0, .inr (.inr (some 94)))] [] SH h (QV Q)
  refine rn_aload_n dX12_findShares_0 rfl rfl ?_
  refine rn_get (v := .inr (.inr (some 95))) dX12_findShares_1 fl_X12_7 rfl rfl (congrArg (fun z => (Sum.inr (Sum.inr z) : MV)) (rf_94_0 hR)) ?_
  refine rn_iconst (v := 0) dX12_findShares_4 (by decide) ?_
  refine rn_iald (k := 0) dX12_findShares_5 rfl (by decide) (by unfold vp_in; decide) ?_
  refine rn_istore_n (L' := [(1, .inl (h.1 95 0)), (0, .inr (.inr (some 94)))]) dX12_findShares_6 rfl (Nat.le_of_ble_eq_true rfl) rfl ?_
  refine rn_aload_n dX12_findShares_7 rfl rfl ?_
  refine rn_iload_n dX12_findShares_8 rfl rfl ?_
  refine rn_cS (M' := mX12_inOrders) (n := 1) (av := [.inl (h.1 95 0)]) (S := [.inr (.inr (some 94))]) (rc := 0) (rs := 0) (mc := 0) (ms := 0) dX12_findShares_9 pa_X12_inOrders (Nat.le_refl _) rfl (Nat.le_of_ble_eq_true rfl) ml_X12_274 ss_X12_inOrders rfl (Ev.mono V ?_)
  rintro v sh1 h1 ⟨rfl, Rh1, x2, rfl, V⟩
  show Rn G (d + 1) 0 0 mX12_findShares 12 [(1, .inl (h.1 95 0)), (0, .inr (.inr (some 94)))] [.inl x2, .inr (.inr (some 94))] SH h1 (QV Q)
  refine rn_putI dX12_findShares_12 fl_X12_277 rfl rfl (Or.inl rfl) rfl rfl ?_
  refine rn_iconst (v := 0) dX12_findShares_15 (by decide) ?_
  refine rn_istore_n (L' := [(2, .inl 0), (1, .inl (h.1 95 0)), (0, .inr (.inr (some 94)))]) dX12_findShares_16 rfl (Nat.le_of_ble_eq_true rfl) rfl ?_
  refine rn_sub [2, 1, 0] (L' := [(0, .inr (.inr (some 94))), (1, .inl (h.1 95 0)), (2, .inl 0)]) rfl ?_
  exact V
def Rg_X12_common_17 (G : GT) (d : Nat) (l4 : Int64) (l6 : Int64) (h : Hp) (Q : Int64 → Hp → Prop) : Prop := Rn G (d + 1) 0 0 mX12_common 17 [(4, .inr (.inl l4)), (6, .inr (.inl l6))] [] SH h (QL Q)
set_option maxRecDepth 100000 in
set_option maxHeartbeats 4000000 in
theorem vc_X12_common_17 {G : GT} {d : Nat} {l4 : Int64} {l6 : Int64}  {h : Hp} {Q : Int64 → Hp → Prop} (hR : RF h) (V : (((lg_cmp l6 0) = 0 → Q l4 h) ∧ (¬ (lg_cmp l6 0) = 0 → ¬ l6 = 0 ∧ Rg_X12_common_17 G d l6 (l4 - l4 / l6 * l6) h Q))) : Rg_X12_common_17 G d l4 l6 h Q := by
  show Rn G (d + 1) 0 0 mX12_common 17 [(4, .inr (.inl l4)), (6, .inr (.inl l6))] [] SH h (QL Q)
  refine rn_lload dX12_common_17 rfl ?_
  refine rn_lconst (v := 0) dX12_common_19 rfl ?_
  refine rn_lcmp dX12_common_20 ?_
  refine rn_if_eq (tgt := 42) dX12_common_21 (by decide) (fun c2 => ?_) (fun c2 => ?_)
  · replace V := V.1 c2
    refine rn_lload dX12_common_42 rfl ?_
    exact rn_lret dX12_common_44 rfl ⟨rfl, hR, _, rfl, V⟩
  · replace V := V.2 c2
    refine rn_lload dX12_common_24 rfl ?_
    refine rn_lload dX12_common_26 rfl ?_
    obtain ⟨g, V⟩ := V
    refine rn_lrem dX12_common_28 g ?_
    refine rn_lstore (L' := [(8, .inr (.inl (l4 - l4 / l6 * l6))), (4, .inr (.inl l4)), (6, .inr (.inl l6))]) dX12_common_29 (Nat.le_of_ble_eq_true rfl) rfl ?_
    refine rn_lload dX12_common_31 rfl ?_
    refine rn_lstore (L' := [(4, .inr (.inl l6)), (8, .inr (.inl (l4 - l4 / l6 * l6))), (6, .inr (.inl l6))]) dX12_common_33 (Nat.le_of_ble_eq_true rfl) rfl ?_
    refine rn_lload dX12_common_35 rfl ?_
    refine rn_lstore (L' := [(6, .inr (.inl (l4 - l4 / l6 * l6))), (4, .inr (.inl l6)), (8, .inr (.inl (l4 - l4 / l6 * l6)))]) dX12_common_37 (Nat.le_of_ble_eq_true rfl) rfl ?_
    refine rn_goto (tgt := 17) dX12_common_39 (by decide) ?_
    refine rn_sub [1, 0] (L' := [(4, .inr (.inl l6)), (6, .inr (.inl (l4 - l4 / l6 * l6)))]) rfl ?_
    exact V
set_option maxRecDepth 100000 in
set_option maxHeartbeats 4000000 in
theorem vc_X12_common {G : GT} {d : Nat} {a0 : Int64} {a1 : Int64}  {h : Hp} {Q : Int64 → Hp → Prop} (hR : RF h) (V : ((0 ≤ (lg_cmp a0 0) → Rg_X12_common_17 G d a0 a1 h Q) ∧ (¬ 0 ≤ (lg_cmp a0 0) → Rg_X12_common_17 G d (-a0) a1 h Q))) : EvL G (d + 1) mX12_common [.inr (.inl a0), .inr (.inl a1)] h Q := by
  refine Ev.of rfl (fun _ => Nat.le_of_ble_eq_true rfl) ?_
  show Rn G (d + 1) 0 0 mX12_common 0 [(0, .inr (.inl a0)), (2, .inr (.inl a1))] [] SH h (QL Q)
  refine rn_lload_n dX12_common_0 rfl rfl ?_
  refine rn_lconst (v := 0) dX12_common_1 rfl ?_
  refine rn_lcmp dX12_common_2 ?_
  refine rn_if_ge (tgt := 11) dX12_common_3 (by decide) (fun c1 => ?_) (fun c1 => ?_)
  · replace V := V.1 c1
    refine rn_lload_n dX12_common_11 rfl rfl ?_
    refine rn_lstore (L' := [(4, .inr (.inl a0)), (0, .inr (.inl a0)), (2, .inr (.inl a1))]) dX12_common_12 (Nat.le_of_ble_eq_true rfl) rfl ?_
    refine rn_lload_n dX12_common_14 rfl rfl ?_
    refine rn_lstore (L' := [(6, .inr (.inl a1)), (4, .inr (.inl a0)), (0, .inr (.inl a0)), (2, .inr (.inl a1))]) dX12_common_15 (Nat.le_of_ble_eq_true rfl) rfl ?_
    refine rn_sub [1, 0] (L' := [(4, .inr (.inl a0)), (6, .inr (.inl a1))]) rfl ?_
    exact V
  · replace V := V.2 c1
    refine rn_lload_n dX12_common_6 rfl rfl ?_
    refine rn_lneg dX12_common_7 ?_
    refine rn_goto (tgt := 12) dX12_common_8 (by decide) ?_
    refine rn_lstore (L' := [(4, .inr (.inl (-a0))), (0, .inr (.inl a0)), (2, .inr (.inl a1))]) dX12_common_12 (Nat.le_of_ble_eq_true rfl) rfl ?_
    refine rn_lload_n dX12_common_14 rfl rfl ?_
    refine rn_lstore (L' := [(6, .inr (.inl a1)), (4, .inr (.inl (-a0))), (0, .inr (.inl a0)), (2, .inr (.inl a1))]) dX12_common_15 (Nat.le_of_ble_eq_true rfl) rfl ?_
    refine rn_sub [1, 0] (L' := [(4, .inr (.inl (-a0))), (6, .inr (.inl a1))]) rfl ?_
    exact V
set_option maxRecDepth 100000 in
set_option maxHeartbeats 4000000 in
theorem vc_X12_share {G : GT} {d : Nat} {a1 : Int32} {a2 : Int32}  {h : Hp} {Q : Int64 → Hp → Prop} (hR : RF h) (V : EvI G d mX12_isParty [.inr (.inr (some 94)), .inl a1] h (fun x2 h1 => ((x2 = 0 → EvI G d mX12_finds [.inr (.inr (some 94)), .inl 1] h1 (fun x5 h4 => Q (Int32.toInt64 x5) h4)) ∧ (¬ x2 = 0 → EvI G d mX12_in [.inr (.inl (Int32.toInt64 a2)), .inr (.inl 0), .inr (.inl 1)] h1 (fun x7 h6 => ((¬ x7 = 0 → EvV G d mX12_findShares [.inr (.inr (some 94))] h6 (fun h9 => vp_in a1 4 ∧ EvL G d mX12_common [.inr (.inl (Int32.toInt64 (h9.1 106 (Int32.toNatClampNeg a1)))), .inr (.inl (Int32.toInt64 (h9.1 94 23)))] h9 (fun x11 h10 => ((¬ a2 = 0 → ¬ x11 = 0 ∧ Q ((Int32.toInt64 (h10.1 94 23)) / x11) h10) ∧ (a2 = 0 → vp_in a1 4 ∧ ¬ x11 = 0 ∧ Q ((Int32.toInt64 (h10.1 106 (Int32.toNatClampNeg a1))) / x11) h10))))) ∧ (x7 = 0 → EvI G d mX12_finds [.inr (.inr (some 94)), .inl 1] h6 (fun x14 h13 => Q (Int32.toInt64 x14) h13)))))))) : EvL G (d + 1) mX12_share [.inr (.inr (some 94)), .inl a1, .inl a2] h Q := by
  refine Ev.of rfl (fun _ => Nat.le_of_ble_eq_true rfl) ?_
  show Rn G (d + 1) 0 0 mX12_share 0 [(0, .inr (.inr (some 94))), (1, .inl a1), (2, .inl a2)] [] SH h (QL Q)
  refine rn_aload_n dX12_share_0 rfl rfl ?_
  refine rn_iload_n dX12_share_1 rfl rfl ?_
  refine rn_cV (M' := mX12_isParty) (n := 1) (av := [.inl a1]) (S := []) (rc := 0) (rs := 0) (mc := 0) (ms := 0) (a := 94) (ci := 11) (r := (RX12, TX12, 38)) dX12_share_2 pa_X12_isParty (Nat.le_refl _) rfl (Nat.le_of_ble_eq_true rfl) ml_X12_174 im_X12_isParty se_X12_isParty rfl rfl rfl (Ev.mono V ?_)
  rintro v sh1 h1 ⟨rfl, Rh1, x2, rfl, V⟩
  show Rn G (d + 1) 0 0 mX12_share 5 [(0, .inr (.inr (some 94))), (1, .inl a1), (2, .inl a2)] [.inl x2] SH h1 (QL Q)
  refine rn_if_eq (tgt := 18) dX12_share_5 (by decide) (fun c3 => ?_) (fun c3 => ?_)
  · replace V := V.1 c3
    refine rn_aload_n dX12_share_18 rfl rfl ?_
    refine rn_iconst (v := 1) dX12_share_19 (by decide) ?_
    refine rn_cV (M' := mX12_finds) (n := 1) (av := [.inl 1]) (S := []) (rc := 0) (rs := 0) (mc := 0) (ms := 0) (a := 94) (ci := 11) (r := (RX12, TX12, 38)) dX12_share_20 pa_X12_finds (Nat.le_refl _) rfl (Nat.le_of_ble_eq_true rfl) ml_X12_143 im_X12_finds se_X12_finds rfl rfl rfl (Ev.mono V ?_)
    rintro v sh1 h4 ⟨rfl, Rh4, x5, rfl, V⟩
    show Rn G (d + 1) 0 0 mX12_share 23 [(0, .inr (.inr (some 94))), (1, .inl a1), (2, .inl a2)] [.inl x5] SH h4 (QL Q)
    refine rn_i2l dX12_share_23 ?_
    exact rn_lret dX12_share_24 rfl ⟨rfl, Rh4, _, rfl, V⟩
  · replace V := V.2 c3
    refine rn_iload_n dX12_share_8 rfl rfl ?_
    refine rn_i2l dX12_share_9 ?_
    refine rn_lconst (v := 0) dX12_share_10 rfl ?_
    refine rn_lconst (v := 1) dX12_share_11 rfl ?_
    refine rn_cS (M' := mX12_in) (n := 3) (av := [.inr (.inl (Int32.toInt64 a2)), .inr (.inl 0), .inr (.inl 1)]) (S := []) (rc := 0) (rs := 0) (mc := 0) (ms := 0) dX12_share_12 pa_X12_in (Nat.le_refl _) rfl (Nat.le_of_ble_eq_true rfl) ml_X12_80 ss_X12_in rfl (Ev.mono V ?_)
    rintro v sh1 h6 ⟨rfl, Rh6, x7, rfl, V⟩
    show Rn G (d + 1) 0 0 mX12_share 15 [(0, .inr (.inr (some 94))), (1, .inl a1), (2, .inl a2)] [.inl x7] SH h6 (QL Q)
    refine rn_if_ne (tgt := 25) dX12_share_15 (by decide) (fun c8 => ?_) (fun c8 => ?_)
    · replace V := V.1 c8
      refine rn_aload_n dX12_share_25 rfl rfl ?_
      refine rn_cV (M' := mX12_findShares) (n := 0) (av := []) (S := []) (rc := 0) (rs := 0) (mc := 0) (ms := 0) (a := 94) (ci := 11) (r := (RX12, TX12, 38)) dX12_share_26 pa_X12_findShares (Nat.le_refl _) rfl (Nat.le_of_ble_eq_true rfl) ml_X12_283 im_X12_findShares se_X12_findShares rfl rfl rfl (Ev.mono V ?_)
      rintro v sh1 h9 ⟨rfl, Rh9, rfl, V⟩
      show Rn G (d + 1) 0 0 mX12_share 29 [(0, .inr (.inr (some 94))), (1, .inl a1), (2, .inl a2)] [] SH h9 (QL Q)
      refine rn_aload_n dX12_share_29 rfl rfl ?_
      refine rn_get (v := .inr (.inr (some 106))) dX12_share_30 fl_X12_43 rfl rfl (congrArg (fun z => (Sum.inr (Sum.inr z) : MV)) (rf_94_22 Rh9)) ?_
      refine rn_iload_n dX12_share_33 rfl rfl ?_
      obtain ⟨g0, V⟩ := V
      refine rn_iald (k := (Int32.toNatClampNeg a1)) dX12_share_34 rfl rfl g0 ?_
      refine rn_i2l dX12_share_35 ?_
      refine rn_aload_n dX12_share_36 rfl rfl ?_
      refine rn_get (v := .inl (h9.1 94 23)) dX12_share_37 fl_X12_277 rfl rfl rfl ?_
      refine rn_i2l dX12_share_40 ?_
      refine rn_cS (M' := mX12_common) (n := 2) (av := [.inr (.inl (Int32.toInt64 (h9.1 106 (Int32.toNatClampNeg a1)))), .inr (.inl (Int32.toInt64 (h9.1 94 23)))]) (S := []) (rc := 0) (rs := 0) (mc := 0) (ms := 0) dX12_share_41 pa_X12_common (Nat.le_refl _) rfl (Nat.le_of_ble_eq_true rfl) ml_X12_286 ss_X12_common rfl (Ev.mono V ?_)
      rintro v sh1 h10 ⟨rfl, Rh10, x11, rfl, V⟩
      show Rn G (d + 1) 0 0 mX12_share 44 [(0, .inr (.inr (some 94))), (1, .inl a1), (2, .inl a2)] [.inr (.inl x11)] SH h10 (QL Q)
      refine rn_lstore_n (L' := [(3, .inr (.inl x11)), (0, .inr (.inr (some 94))), (1, .inl a1), (2, .inl a2)]) dX12_share_44 rfl (Nat.le_of_ble_eq_true rfl) rfl ?_
      refine rn_iload_n dX12_share_45 rfl rfl ?_
      refine rn_if_ne (tgt := 58) dX12_share_46 (by decide) (fun c12 => ?_) (fun c12 => ?_)
      · replace V := V.1 c12
        refine rn_aload_n dX12_share_58 rfl rfl ?_
        refine rn_get (v := .inl (h10.1 94 23)) dX12_share_59 fl_X12_277 rfl rfl rfl ?_
        refine rn_i2l dX12_share_62 ?_
        refine rn_lload_n dX12_share_63 rfl rfl ?_
        obtain ⟨g, V⟩ := V
        refine rn_ldiv dX12_share_64 g ?_
        exact rn_lret dX12_share_65 rfl ⟨rfl, Rh10, _, rfl, V⟩
      · replace V := V.2 c12
        refine rn_aload_n dX12_share_49 rfl rfl ?_
        refine rn_get (v := .inr (.inr (some 106))) dX12_share_50 fl_X12_43 rfl rfl (congrArg (fun z => (Sum.inr (Sum.inr z) : MV)) (rf_94_22 Rh10)) ?_
        refine rn_iload_n dX12_share_53 rfl rfl ?_
        obtain ⟨g0, V⟩ := V
        refine rn_iald (k := (Int32.toNatClampNeg a1)) dX12_share_54 rfl rfl g0 ?_
        refine rn_goto (tgt := 62) dX12_share_55 (by decide) ?_
        refine rn_i2l dX12_share_62 ?_
        refine rn_lload_n dX12_share_63 rfl rfl ?_
        obtain ⟨g, V⟩ := V
        refine rn_ldiv dX12_share_64 g ?_
        exact rn_lret dX12_share_65 rfl ⟨rfl, Rh10, _, rfl, V⟩
    · replace V := V.2 c8
      refine rn_aload_n dX12_share_18 rfl rfl ?_
      refine rn_iconst (v := 1) dX12_share_19 (by decide) ?_
      refine rn_cV (M' := mX12_finds) (n := 1) (av := [.inl 1]) (S := []) (rc := 0) (rs := 0) (mc := 0) (ms := 0) (a := 94) (ci := 11) (r := (RX12, TX12, 38)) dX12_share_20 pa_X12_finds (Nat.le_refl _) rfl (Nat.le_of_ble_eq_true rfl) ml_X12_143 im_X12_finds se_X12_finds rfl rfl rfl (Ev.mono V ?_)
      rintro v sh1 h13 ⟨rfl, Rh13, x14, rfl, V⟩
      show Rn G (d + 1) 0 0 mX12_share 23 [(0, .inr (.inr (some 94))), (1, .inl a1), (2, .inl a2)] [.inl x14] SH h13 (QL Q)
      refine rn_i2l dX12_share_23 ?_
      exact rn_lret dX12_share_24 rfl ⟨rfl, Rh13, _, rfl, V⟩
def Rg_X12_leaves_6 (G : GT) (d : Nat) (l1 : Int32) (h : Hp) (Q : Int32 → Hp → Prop) : Prop := Rn G (d + 1) 0 0 mX12_leaves 6 [(0, .inr (.inr (some 94))), (1, .inl l1)] [] SH h (QI Q)
def Rg_X12_leaves_22 (G : GT) (d : Nat) (l1 : Int32) (l2 : Int32) (l3 : Int32) (h : Hp) (Q : Int32 → Hp → Prop) : Prop := Rn G (d + 1) 0 0 mX12_leaves 22 [(0, .inr (.inr (some 94))), (1, .inl l1), (2, .inl l2), (3, .inl l3)] [] SH h (QI Q)
set_option maxRecDepth 100000 in
set_option maxHeartbeats 4000000 in
theorem vc_X12_leaves_6 {G : GT} {d : Nat} {l1 : Int32}  {h : Hp} {Q : Int32 → Hp → Prop} (hR : RF h) (V : (((1 <<< ((h.1 95 0) &&& 31)) ≤ l1 → EvI G d mX12_finds [.inr (.inr (some 94)), .inl 2] h (fun x4 h3 => Q x4 h3)) ∧ (¬ (1 <<< ((h.1 95 0) &&& 31)) ≤ l1 → Rg_X12_leaves_22 G d l1 0 0 h Q))) : Rg_X12_leaves_6 G d l1 h Q := by
  show Rn G (d + 1) 0 0 mX12_leaves 6 [(0, .inr (.inr (some 94))), (1, .inl l1)] [] SH h (QI Q)
  refine rn_iload_n dX12_leaves_6 rfl rfl ?_
  refine rn_iconst (v := 1) dX12_leaves_7 (by decide) ?_
  refine rn_aload_n dX12_leaves_8 rfl rfl ?_
  refine rn_get (v := .inr (.inr (some 95))) dX12_leaves_9 fl_X12_7 rfl rfl (congrArg (fun z => (Sum.inr (Sum.inr z) : MV)) (rf_94_0 hR)) ?_
  refine rn_iconst (v := 0) dX12_leaves_12 (by decide) ?_
  refine rn_iald (k := 0) dX12_leaves_13 rfl (by decide) (by unfold vp_in; decide) ?_
  refine rn_ishl dX12_leaves_14 ?_
  refine rn_icmp_ge (tgt := 83) dX12_leaves_15 (by decide) (fun c2 => ?_) (fun c2 => ?_)
  · replace V := V.1 c2
    refine rn_aload_n dX12_leaves_83 rfl rfl ?_
    refine rn_iconst (v := 2) dX12_leaves_84 (by decide) ?_
    refine rn_cV (M' := mX12_finds) (n := 1) (av := [.inl 2]) (S := []) (rc := 0) (rs := 0) (mc := 0) (ms := 0) (a := 94) (ci := 11) (r := (RX12, TX12, 38)) dX12_leaves_85 pa_X12_finds (Nat.le_refl _) rfl (Nat.le_of_ble_eq_true rfl) ml_X12_143 im_X12_finds se_X12_finds rfl rfl rfl (Ev.mono V ?_)
    rintro v sh1 h3 ⟨rfl, Rh3, x4, rfl, V⟩
    show Rn G (d + 1) 0 0 mX12_leaves 88 [(0, .inr (.inr (some 94))), (1, .inl l1)] [.inl x4] SH h3 (QI Q)
    exact rn_iret dX12_leaves_88 rfl ⟨rfl, Rh3, _, rfl, V⟩
  · replace V := V.2 c2
    refine rn_iconst (v := 0) dX12_leaves_18 (by decide) ?_
    refine rn_istore_n (L' := [(2, .inl 0), (0, .inr (.inr (some 94))), (1, .inl l1)]) dX12_leaves_19 rfl (Nat.le_of_ble_eq_true rfl) rfl ?_
    refine rn_iconst (v := 0) dX12_leaves_20 (by decide) ?_
    refine rn_istore_n (L' := [(3, .inl 0), (2, .inl 0), (0, .inr (.inr (some 94))), (1, .inl l1)]) dX12_leaves_21 rfl (Nat.le_of_ble_eq_true rfl) rfl ?_
    refine rn_sub [2, 3, 1, 0] (L' := [(0, .inr (.inr (some 94))), (1, .inl l1), (2, .inl 0), (3, .inl 0)]) rfl ?_
    exact V
set_option maxRecDepth 100000 in
set_option maxHeartbeats 4000000 in
theorem vc_X12_leaves_22 {G : GT} {d : Nat} {l1 : Int32} {l2 : Int32} {l3 : Int32}  {h : Hp} {Q : Int32 → Hp → Prop} (hR : RF h) (V : ((h.1 95 0 ≤ l3 → vp_in l1 16 ∧ (((h.1 105 (Int32.toNatClampNeg l1) * h.1 94 23) ≤ l2 → Rg_X12_leaves_6 G d (l1 + 1) h Q) ∧ (¬ (h.1 105 (Int32.toNatClampNeg l1) * h.1 94 23) ≤ l2 → Q l1 h))) ∧ (¬ h.1 95 0 ≤ l3 → ((¬ ((l1 >>> (l3 &&& 31)) &&& 1) = 1 → Rg_X12_leaves_22 G d l1 (l2 + 0) (l3 + 1) h Q) ∧ (((l1 >>> (l3 &&& 31)) &&& 1) = 1 → vp_in l3 4 ∧ Rg_X12_leaves_22 G d l1 (l2 + h.1 106 (Int32.toNatClampNeg l3)) (l3 + 1) h Q))))) : Rg_X12_leaves_22 G d l1 l2 l3 h Q := by
  show Rn G (d + 1) 0 0 mX12_leaves 22 [(0, .inr (.inr (some 94))), (1, .inl l1), (2, .inl l2), (3, .inl l3)] [] SH h (QI Q)
  refine rn_iload_n dX12_leaves_22 rfl rfl ?_
  refine rn_aload_n dX12_leaves_23 rfl rfl ?_
  refine rn_get (v := .inr (.inr (some 95))) dX12_leaves_24 fl_X12_7 rfl rfl (congrArg (fun z => (Sum.inr (Sum.inr z) : MV)) (rf_94_0 hR)) ?_
  refine rn_iconst (v := 0) dX12_leaves_27 (by decide) ?_
  refine rn_iald (k := 0) dX12_leaves_28 rfl (by decide) (by unfold vp_in; decide) ?_
  refine rn_icmp_ge (tgt := 60) dX12_leaves_29 (by decide) (fun c5 => ?_) (fun c5 => ?_)
  · replace V := V.1 c5
    refine rn_aload_n dX12_leaves_60 rfl rfl ?_
    refine rn_get (v := .inr (.inr (some 105))) dX12_leaves_61 fl_X12_40 rfl rfl (congrArg (fun z => (Sum.inr (Sum.inr z) : MV)) (rf_94_21 hR)) ?_
    refine rn_iload_n dX12_leaves_64 rfl rfl ?_
    obtain ⟨g0, V⟩ := V
    refine rn_iald (k := (Int32.toNatClampNeg l1)) dX12_leaves_65 rfl rfl g0 ?_
    refine rn_aload_n dX12_leaves_66 rfl rfl ?_
    refine rn_get (v := .inl (h.1 94 23)) dX12_leaves_67 fl_X12_277 rfl rfl rfl ?_
    refine rn_imul dX12_leaves_70 ?_
    refine rn_iload_n dX12_leaves_71 rfl rfl ?_
    refine rn_icmp_le (tgt := 77) dX12_leaves_72 (by decide) (fun c6 => ?_) (fun c6 => ?_)
    · replace V := V.1 c6
      refine rn_iinc (L' := [(1, .inl (l1 + 1)), (0, .inr (.inr (some 94))), (2, .inl l2), (3, .inl l3)]) dX12_leaves_77 rfl (v := (l1 + 1)) rfl (Nat.le_of_ble_eq_true rfl) rfl ?_
      refine rn_goto (tgt := 6) dX12_leaves_80 (by decide) ?_
      refine rn_sub [1, 0] (L' := [(0, .inr (.inr (some 94))), (1, .inl (l1 + 1))]) rfl ?_
      exact V
    · replace V := V.2 c6
      refine rn_iload_n dX12_leaves_75 rfl rfl ?_
      exact rn_iret dX12_leaves_76 rfl ⟨rfl, hR, _, rfl, V⟩
  · replace V := V.2 c5
    refine rn_iload_n dX12_leaves_32 rfl rfl ?_
    refine rn_iload_n dX12_leaves_33 rfl rfl ?_
    refine rn_iload_n dX12_leaves_34 rfl rfl ?_
    refine rn_ishr dX12_leaves_35 ?_
    refine rn_iconst (v := 1) dX12_leaves_36 (by decide) ?_
    refine rn_iand dX12_leaves_37 ?_
    refine rn_iconst (v := 1) dX12_leaves_38 (by decide) ?_
    refine rn_icmp_ne (tgt := 51) dX12_leaves_39 (by decide) (fun c7 => ?_) (fun c7 => ?_)
    · replace V := V.1 c7
      refine rn_iconst (v := 0) dX12_leaves_51 (by decide) ?_
      refine rn_iadd dX12_leaves_52 ?_
      refine rn_istore_n (L' := [(2, .inl (l2 + 0)), (0, .inr (.inr (some 94))), (1, .inl l1), (3, .inl l3)]) dX12_leaves_53 rfl (Nat.le_of_ble_eq_true rfl) rfl ?_
      refine rn_iinc (L' := [(3, .inl (l3 + 1)), (2, .inl (l2 + 0)), (0, .inr (.inr (some 94))), (1, .inl l1)]) dX12_leaves_54 rfl (v := (l3 + 1)) rfl (Nat.le_of_ble_eq_true rfl) rfl ?_
      refine rn_goto (tgt := 22) dX12_leaves_57 (by decide) ?_
      refine rn_sub [2, 3, 1, 0] (L' := [(0, .inr (.inr (some 94))), (1, .inl l1), (2, .inl (l2 + 0)), (3, .inl (l3 + 1))]) rfl ?_
      exact V
    · replace V := V.2 c7
      refine rn_aload_n dX12_leaves_42 rfl rfl ?_
      refine rn_get (v := .inr (.inr (some 106))) dX12_leaves_43 fl_X12_43 rfl rfl (congrArg (fun z => (Sum.inr (Sum.inr z) : MV)) (rf_94_22 hR)) ?_
      refine rn_iload_n dX12_leaves_46 rfl rfl ?_
      obtain ⟨g0, V⟩ := V
      refine rn_iald (k := (Int32.toNatClampNeg l3)) dX12_leaves_47 rfl rfl g0 ?_
      refine rn_goto (tgt := 52) dX12_leaves_48 (by decide) ?_
      refine rn_iadd dX12_leaves_52 ?_
      refine rn_istore_n (L' := [(2, .inl (l2 + h.1 106 (Int32.toNatClampNeg l3))), (0, .inr (.inr (some 94))), (1, .inl l1), (3, .inl l3)]) dX12_leaves_53 rfl (Nat.le_of_ble_eq_true rfl) rfl ?_
      refine rn_iinc (L' := [(3, .inl (l3 + 1)), (2, .inl (l2 + h.1 106 (Int32.toNatClampNeg l3))), (0, .inr (.inr (some 94))), (1, .inl l1)]) dX12_leaves_54 rfl (v := (l3 + 1)) rfl (Nat.le_of_ble_eq_true rfl) rfl ?_
      refine rn_goto (tgt := 22) dX12_leaves_57 (by decide) ?_
      refine rn_sub [2, 3, 1, 0] (L' := [(0, .inr (.inr (some 94))), (1, .inl l1), (2, .inl (l2 + h.1 106 (Int32.toNatClampNeg l3))), (3, .inl (l3 + 1))]) rfl ?_
      exact V
set_option maxRecDepth 100000 in
set_option maxHeartbeats 4000000 in
theorem vc_X12_leaves {G : GT} {d : Nat}   {h : Hp} {Q : Int32 → Hp → Prop} (hR : RF h) (V : EvV G d mX12_findShares [.inr (.inr (some 94))] h (fun h1 => Rg_X12_leaves_6 G d 1 h1 Q)) : EvI G (d + 1) mX12_leaves [.inr (.inr (some 94))] h Q := by
  refine Ev.of rfl (fun _ => Nat.le_of_ble_eq_true rfl) ?_
  show Rn G (d + 1) 0 0 mX12_leaves 0 [(0, .inr (.inr (some 94)))] [] SH h (QI Q)
  refine rn_aload_n dX12_leaves_0 rfl rfl ?_
  refine rn_cV (M' := mX12_findShares) (n := 0) (av := []) (S := []) (rc := 0) (rs := 0) (mc := 0) (ms := 0) (a := 94) (ci := 11) (r := (RX12, TX12, 38)) dX12_leaves_1 pa_X12_findShares (Nat.le_refl _) rfl (Nat.le_of_ble_eq_true rfl) ml_X12_283 im_X12_findShares se_X12_findShares rfl rfl rfl (Ev.mono V ?_)
  rintro v sh1 h1 ⟨rfl, Rh1, rfl, V⟩
  show Rn G (d + 1) 0 0 mX12_leaves 4 [(0, .inr (.inr (some 94)))] [] SH h1 (QI Q)
  refine rn_iconst (v := 1) dX12_leaves_4 (by decide) ?_
  refine rn_istore_n (L' := [(1, .inl 1), (0, .inr (.inr (some 94)))]) dX12_leaves_5 rfl (Nat.le_of_ble_eq_true rfl) rfl ?_
  refine rn_sub [1, 0] (L' := [(0, .inr (.inr (some 94))), (1, .inl 1)]) rfl ?_
  exact V
def Rg_X12_standsAt_2 (G : GT) (d : Nat) (l1 : Int32) (l2 : Int32) (h : Hp) (Q : Hp → Prop) : Prop := Rn G (d + 1) 0 0 mX12_standsAt 2 [(0, .inr (.inr (some 94))), (1, .inl l1), (2, .inl l2)] [] SH h (QV Q)
set_option maxRecDepth 100000 in
set_option maxHeartbeats 4000000 in
theorem vc_X12_standsAt_2 {G : GT} {d : Nat} {l1 : Int32} {l2 : Int32}  {h : Hp} {Q : Hp → Prop} (hR : RF h) (V : ((90 ≤ l2 → vp_in l1 6 ∧ vp_in l1 6 ∧ Q (sI (sI h 108 (Int32.toNatClampNeg l1) (-1)) 110 (Int32.toNatClampNeg l1) (-1))) ∧ (¬ 90 ≤ l2 → vp_in l2 264 ∧ vp_in ((90 * l1) + l2) 450 ∧ Rg_X12_standsAt_2 G d l1 (l2 + 1) (sI h 107 (Int32.toNatClampNeg ((90 * l1) + l2)) (h.1 95 (Int32.toNatClampNeg l2))) Q))) : Rg_X12_standsAt_2 G d l1 l2 h Q := by
  show Rn G (d + 1) 0 0 mX12_standsAt 2 [(0, .inr (.inr (some 94))), (1, .inl l1), (2, .inl l2)] [] SH h (QV Q)
  refine rn_iload_n dX12_standsAt_2 rfl rfl ?_
  refine rn_bipush (v := 90) dX12_standsAt_3 (by decide) ?_
  refine rn_icmp_ge (tgt := 31) dX12_standsAt_5 (by decide) (fun c1 => ?_) (fun c1 => ?_)
  · replace V := V.1 c1
    refine rn_aload_n dX12_standsAt_31 rfl rfl ?_
    refine rn_get (v := .inr (.inr (some 108))) dX12_standsAt_32 fl_X12_49 rfl rfl (congrArg (fun z => (Sum.inr (Sum.inr z) : MV)) (rf_94_25 hR)) ?_
    refine rn_iload_n dX12_standsAt_35 rfl rfl ?_
    refine rn_iconst (v := (-1)) dX12_standsAt_36 (by decide) ?_
    obtain ⟨g0, V⟩ := V
    refine rn_iast (k := (Int32.toNatClampNeg l1)) dX12_standsAt_37 rfl rfl g0 ?_
    refine rn_aload_n dX12_standsAt_38 rfl rfl ?_
    refine rn_get (v := .inr (.inr (some 110))) dX12_standsAt_39 fl_X12_55 rfl rfl (congrArg (fun z => (Sum.inr (Sum.inr z) : MV)) (rf_94_27 hR)) ?_
    refine rn_iload_n dX12_standsAt_42 rfl rfl ?_
    refine rn_iconst (v := (-1)) dX12_standsAt_43 (by decide) ?_
    obtain ⟨g0, V⟩ := V
    refine rn_iast (k := (Int32.toNatClampNeg l1)) dX12_standsAt_44 rfl rfl g0 ?_
    exact rn_vret dX12_standsAt_45 rfl ⟨rfl, hR, rfl, V⟩
  · replace V := V.2 c1
    refine rn_aload_n dX12_standsAt_8 rfl rfl ?_
    refine rn_get (v := .inr (.inr (some 107))) dX12_standsAt_9 fl_X12_46 rfl rfl (congrArg (fun z => (Sum.inr (Sum.inr z) : MV)) (rf_94_24 hR)) ?_
    refine rn_bipush (v := 90) dX12_standsAt_12 (by decide) ?_
    refine rn_iload_n dX12_standsAt_14 rfl rfl ?_
    refine rn_imul dX12_standsAt_15 ?_
    refine rn_iload_n dX12_standsAt_16 rfl rfl ?_
    refine rn_iadd dX12_standsAt_17 ?_
    refine rn_aload_n dX12_standsAt_18 rfl rfl ?_
    refine rn_get (v := .inr (.inr (some 95))) dX12_standsAt_19 fl_X12_7 rfl rfl (congrArg (fun z => (Sum.inr (Sum.inr z) : MV)) (rf_94_0 hR)) ?_
    refine rn_iload_n dX12_standsAt_22 rfl rfl ?_
    obtain ⟨g0, V⟩ := V
    refine rn_iald (k := (Int32.toNatClampNeg l2)) dX12_standsAt_23 rfl rfl g0 ?_
    obtain ⟨g0, V⟩ := V
    refine rn_iast (k := (Int32.toNatClampNeg ((90 * l1) + l2))) dX12_standsAt_24 rfl rfl g0 ?_
    refine rn_iinc (L' := [(2, .inl (l2 + 1)), (0, .inr (.inr (some 94))), (1, .inl l1)]) dX12_standsAt_25 rfl (v := (l2 + 1)) rfl (Nat.le_of_ble_eq_true rfl) rfl ?_
    refine rn_goto (tgt := 2) dX12_standsAt_28 (by decide) ?_
    refine rn_sub [1, 2, 0] (L' := [(0, .inr (.inr (some 94))), (1, .inl l1), (2, .inl (l2 + 1))]) rfl ?_
    exact V
set_option maxRecDepth 100000 in
set_option maxHeartbeats 4000000 in
theorem vc_X12_standsAt {G : GT} {d : Nat} {a1 : Int32}  {h : Hp} {Q : Hp → Prop} (hR : RF h) (V : Rg_X12_standsAt_2 G d a1 0 h Q) : EvV G (d + 1) mX12_standsAt [.inr (.inr (some 94)), .inl a1] h Q := by
  refine Ev.of rfl (fun _ => Nat.le_of_ble_eq_true rfl) ?_
  show Rn G (d + 1) 0 0 mX12_standsAt 0 [(0, .inr (.inr (some 94))), (1, .inl a1)] [] SH h (QV Q)
  refine rn_iconst (v := 0) dX12_standsAt_0 (by decide) ?_
  refine rn_istore_n (L' := [(2, .inl 0), (0, .inr (.inr (some 94))), (1, .inl a1)]) dX12_standsAt_1 rfl (Nat.le_of_ble_eq_true rfl) rfl ?_
  refine rn_sub [1, 2, 0] (L' := [(0, .inr (.inr (some 94))), (1, .inl a1), (2, .inl 0)]) rfl ?_
  exact V
def Rg_X12_backTo_2 (G : GT) (d : Nat) (l1 : Int32) (l2 : Int32) (h : Hp) (Q : Hp → Prop) : Prop := Rn G (d + 1) 0 0 mX12_backTo 2 [(0, .inr (.inr (some 94))), (1, .inl l1), (2, .inl l2)] [] SH h (QV Q)
set_option maxRecDepth 100000 in
set_option maxHeartbeats 4000000 in
theorem vc_X12_backTo_2 {G : GT} {d : Nat} {l1 : Int32} {l2 : Int32}  {h : Hp} {Q : Hp → Prop} (hR : RF h) (V : ((90 ≤ l2 → Q h) ∧ (¬ 90 ≤ l2 → vp_in ((90 * l1) + l2) 450 ∧ vp_in l2 264 ∧ Rg_X12_backTo_2 G d l1 (l2 + 1) (sI h 95 (Int32.toNatClampNeg l2) (h.1 107 (Int32.toNatClampNeg ((90 * l1) + l2)))) Q))) : Rg_X12_backTo_2 G d l1 l2 h Q := by
  show Rn G (d + 1) 0 0 mX12_backTo 2 [(0, .inr (.inr (some 94))), (1, .inl l1), (2, .inl l2)] [] SH h (QV Q)
  refine rn_iload_n dX12_backTo_2 rfl rfl ?_
  refine rn_bipush (v := 90) dX12_backTo_3 (by decide) ?_
  refine rn_icmp_ge (tgt := 31) dX12_backTo_5 (by decide) (fun c1 => ?_) (fun c1 => ?_)
  · replace V := V.1 c1
    exact rn_vret dX12_backTo_31 rfl ⟨rfl, hR, rfl, V⟩
  · replace V := V.2 c1
    refine rn_aload_n dX12_backTo_8 rfl rfl ?_
    refine rn_get (v := .inr (.inr (some 95))) dX12_backTo_9 fl_X12_7 rfl rfl (congrArg (fun z => (Sum.inr (Sum.inr z) : MV)) (rf_94_0 hR)) ?_
    refine rn_iload_n dX12_backTo_12 rfl rfl ?_
    refine rn_aload_n dX12_backTo_13 rfl rfl ?_
    refine rn_get (v := .inr (.inr (some 107))) dX12_backTo_14 fl_X12_46 rfl rfl (congrArg (fun z => (Sum.inr (Sum.inr z) : MV)) (rf_94_24 hR)) ?_
    refine rn_bipush (v := 90) dX12_backTo_17 (by decide) ?_
    refine rn_iload_n dX12_backTo_19 rfl rfl ?_
    refine rn_imul dX12_backTo_20 ?_
    refine rn_iload_n dX12_backTo_21 rfl rfl ?_
    refine rn_iadd dX12_backTo_22 ?_
    obtain ⟨g0, V⟩ := V
    refine rn_iald (k := (Int32.toNatClampNeg ((90 * l1) + l2))) dX12_backTo_23 rfl rfl g0 ?_
    obtain ⟨g0, V⟩ := V
    refine rn_iast (k := (Int32.toNatClampNeg l2)) dX12_backTo_24 rfl rfl g0 ?_
    refine rn_iinc (L' := [(2, .inl (l2 + 1)), (0, .inr (.inr (some 94))), (1, .inl l1)]) dX12_backTo_25 rfl (v := (l2 + 1)) rfl (Nat.le_of_ble_eq_true rfl) rfl ?_
    refine rn_goto (tgt := 2) dX12_backTo_28 (by decide) ?_
    refine rn_sub [1, 2, 0] (L' := [(0, .inr (.inr (some 94))), (1, .inl l1), (2, .inl (l2 + 1))]) rfl ?_
    exact V
set_option maxRecDepth 100000 in
set_option maxHeartbeats 4000000 in
theorem vc_X12_backTo {G : GT} {d : Nat} {a1 : Int32}  {h : Hp} {Q : Hp → Prop} (hR : RF h) (V : Rg_X12_backTo_2 G d a1 0 h Q) : EvV G (d + 1) mX12_backTo [.inr (.inr (some 94)), .inl a1] h Q := by
  refine Ev.of rfl (fun _ => Nat.le_of_ble_eq_true rfl) ?_
  show Rn G (d + 1) 0 0 mX12_backTo 0 [(0, .inr (.inr (some 94))), (1, .inl a1)] [] SH h (QV Q)
  refine rn_iconst (v := 0) dX12_backTo_0 (by decide) ?_
  refine rn_istore_n (L' := [(2, .inl 0), (0, .inr (.inr (some 94))), (1, .inl a1)]) dX12_backTo_1 rfl (Nat.le_of_ble_eq_true rfl) rfl ?_
  refine rn_sub [1, 2, 0] (L' := [(0, .inr (.inr (some 94))), (1, .inl a1), (2, .inl 0)]) rfl ?_
  exact V
def Rg_X12_pickOf_5 (G : GT) (d : Nat) (l1 : Int32) (l2 : Int32) (l3 : Int32) (l4 : Int32) (h : Hp) (Q : Int32 → Hp → Prop) : Prop := Rn G (d + 1) 0 0 mX12_pickOf 5 [(0, .inr (.inr (some 94))), (1, .inl l1), (2, .inl l2), (3, .inl l3), (4, .inl l4)] [] SH h (QI Q)
set_option maxRecDepth 100000 in
set_option maxHeartbeats 4000000 in
theorem vc_X12_pickOf_5 {G : GT} {d : Nat} {l1 : Int32} {l2 : Int32} {l3 : Int32} {l4 : Int32}  {h : Hp} {Q : Int32 → Hp → Prop} (hR : RF h) (V : ((h.1 95 1 ≤ l4 → Q (-1) h) ∧ (¬ h.1 95 1 ≤ l4 → EvI G d mX12_its [.inr (.inr (some 94)), .inl l4, .inl 0] h (fun x3 h2 => ((¬ x3 = l1 → Rg_X12_pickOf_5 G d l1 l2 l3 (l4 + 1) h2 Q) ∧ (x3 = l1 → EvI G d mX12_its [.inr (.inr (some 94)), .inl l4, .inl 4] h2 (fun x6 h5 => ((x6 = 0 → ((¬ l3 = l2 → Rg_X12_pickOf_5 G d l1 l2 (l3 + 1) (l4 + 1) h5 Q) ∧ (l3 = l2 → EvI G d mX12_isReady [.inr (.inr (some 94)), .inl l4] h5 (fun x10 h9 => ((x10 = 0 → Q (-1) h9) ∧ (¬ x10 = 0 → Q l4 h9)))))) ∧ (¬ x6 = 0 → Rg_X12_pickOf_5 G d l1 l2 l3 (l4 + 1) h5 Q))))))))) : Rg_X12_pickOf_5 G d l1 l2 l3 l4 h Q := by
  show Rn G (d + 1) 0 0 mX12_pickOf 5 [(0, .inr (.inr (some 94))), (1, .inl l1), (2, .inl l2), (3, .inl l3), (4, .inl l4)] [] SH h (QI Q)
  refine rn_iload dX12_pickOf_5 rfl ?_
  refine rn_aload_n dX12_pickOf_7 rfl rfl ?_
  refine rn_get (v := .inr (.inr (some 95))) dX12_pickOf_8 fl_X12_7 rfl rfl (congrArg (fun z => (Sum.inr (Sum.inr z) : MV)) (rf_94_0 hR)) ?_
  refine rn_iconst (v := 1) dX12_pickOf_11 (by decide) ?_
  refine rn_iald (k := 1) dX12_pickOf_12 rfl (by decide) (by unfold vp_in; decide) ?_
  refine rn_icmp_ge (tgt := 70) dX12_pickOf_13 (by decide) (fun c1 => ?_) (fun c1 => ?_)
  · replace V := V.1 c1
    refine rn_iconst (v := (-1)) dX12_pickOf_70 (by decide) ?_
    exact rn_iret dX12_pickOf_71 rfl ⟨rfl, hR, _, rfl, V⟩
  · replace V := V.2 c1
    refine rn_aload_n dX12_pickOf_16 rfl rfl ?_
    refine rn_iload dX12_pickOf_17 rfl ?_
    refine rn_iconst (v := 0) dX12_pickOf_19 (by decide) ?_
    refine rn_cV (M' := mX12_its) (n := 2) (av := [.inl l4, .inl 0]) (S := []) (rc := 0) (rs := 0) (mc := 0) (ms := 0) (a := 94) (ci := 11) (r := (RX12, TX12, 38)) dX12_pickOf_20 pa_X12_its (Nat.le_refl _) rfl (Nat.le_of_ble_eq_true rfl) ml_X12_171 im_X12_its se_X12_its rfl rfl rfl (Ev.mono V ?_)
    rintro v sh1 h2 ⟨rfl, Rh2, x3, rfl, V⟩
    show Rn G (d + 1) 0 0 mX12_pickOf 23 [(0, .inr (.inr (some 94))), (1, .inl l1), (2, .inl l2), (3, .inl l3), (4, .inl l4)] [.inl x3] SH h2 (QI Q)
    refine rn_iload_n dX12_pickOf_23 rfl rfl ?_
    refine rn_icmp_ne (tgt := 64) dX12_pickOf_24 (by decide) (fun c4 => ?_) (fun c4 => ?_)
    · replace V := V.1 c4
      refine rn_iinc (L' := [(4, .inl (l4 + 1)), (0, .inr (.inr (some 94))), (1, .inl l1), (2, .inl l2), (3, .inl l3)]) dX12_pickOf_64 rfl (v := (l4 + 1)) rfl (Nat.le_of_ble_eq_true rfl) rfl ?_
      refine rn_goto (tgt := 5) dX12_pickOf_67 (by decide) ?_
      refine rn_sub [1, 2, 3, 4, 0] (L' := [(0, .inr (.inr (some 94))), (1, .inl l1), (2, .inl l2), (3, .inl l3), (4, .inl (l4 + 1))]) rfl ?_
      exact V
    · replace V := V.2 c4
      refine rn_aload_n dX12_pickOf_27 rfl rfl ?_
      refine rn_iload dX12_pickOf_28 rfl ?_
      refine rn_iconst (v := 4) dX12_pickOf_30 (by decide) ?_
      refine rn_cV (M' := mX12_its) (n := 2) (av := [.inl l4, .inl 4]) (S := []) (rc := 0) (rs := 0) (mc := 0) (ms := 0) (a := 94) (ci := 11) (r := (RX12, TX12, 38)) dX12_pickOf_31 pa_X12_its (Nat.le_refl _) rfl (Nat.le_of_ble_eq_true rfl) ml_X12_171 im_X12_its se_X12_its rfl rfl rfl (Ev.mono V ?_)
      rintro v sh1 h5 ⟨rfl, Rh5, x6, rfl, V⟩
      show Rn G (d + 1) 0 0 mX12_pickOf 34 [(0, .inr (.inr (some 94))), (1, .inl l1), (2, .inl l2), (3, .inl l3), (4, .inl l4)] [.inl x6] SH h5 (QI Q)
      refine rn_if_eq (tgt := 40) dX12_pickOf_34 (by decide) (fun c7 => ?_) (fun c7 => ?_)
      · replace V := V.1 c7
        refine rn_iload_n dX12_pickOf_40 rfl rfl ?_
        refine rn_iload_n dX12_pickOf_41 rfl rfl ?_
        refine rn_icmp_ne (tgt := 61) dX12_pickOf_42 (by decide) (fun c8 => ?_) (fun c8 => ?_)
        · replace V := V.1 c8
          refine rn_iinc (L' := [(3, .inl (l3 + 1)), (0, .inr (.inr (some 94))), (1, .inl l1), (2, .inl l2), (4, .inl l4)]) dX12_pickOf_61 rfl (v := (l3 + 1)) rfl (Nat.le_of_ble_eq_true rfl) rfl ?_
          refine rn_iinc (L' := [(4, .inl (l4 + 1)), (3, .inl (l3 + 1)), (0, .inr (.inr (some 94))), (1, .inl l1), (2, .inl l2)]) dX12_pickOf_64 rfl (v := (l4 + 1)) rfl (Nat.le_of_ble_eq_true rfl) rfl ?_
          refine rn_goto (tgt := 5) dX12_pickOf_67 (by decide) ?_
          refine rn_sub [2, 3, 4, 1, 0] (L' := [(0, .inr (.inr (some 94))), (1, .inl l1), (2, .inl l2), (3, .inl (l3 + 1)), (4, .inl (l4 + 1))]) rfl ?_
          exact V
        · replace V := V.2 c8
          refine rn_aload_n dX12_pickOf_45 rfl rfl ?_
          refine rn_iload dX12_pickOf_46 rfl ?_
          refine rn_cV (M' := mX12_isReady) (n := 1) (av := [.inl l4]) (S := []) (rc := 0) (rs := 0) (mc := 0) (ms := 0) (a := 94) (ci := 11) (r := (RX12, TX12, 38)) dX12_pickOf_48 pa_X12_isReady (Nat.le_refl _) rfl (Nat.le_of_ble_eq_true rfl) ml_X12_220 im_X12_isReady se_X12_isReady rfl rfl rfl (Ev.mono V ?_)
          rintro v sh1 h9 ⟨rfl, Rh9, x10, rfl, V⟩
          show Rn G (d + 1) 0 0 mX12_pickOf 51 [(0, .inr (.inr (some 94))), (1, .inl l1), (2, .inl l2), (3, .inl l3), (4, .inl l4)] [.inl x10] SH h9 (QI Q)
          refine rn_if_eq (tgt := 59) dX12_pickOf_51 (by decide) (fun c11 => ?_) (fun c11 => ?_)
          · replace V := V.1 c11
            refine rn_iconst (v := (-1)) dX12_pickOf_59 (by decide) ?_
            exact rn_iret dX12_pickOf_60 rfl ⟨rfl, Rh9, _, rfl, V⟩
          · replace V := V.2 c11
            refine rn_iload dX12_pickOf_54 rfl ?_
            refine rn_goto (tgt := 60) dX12_pickOf_56 (by decide) ?_
            exact rn_iret dX12_pickOf_60 rfl ⟨rfl, Rh9, _, rfl, V⟩
      · replace V := V.2 c7
        refine rn_goto (tgt := 64) dX12_pickOf_37 (by decide) ?_
        refine rn_iinc (L' := [(4, .inl (l4 + 1)), (0, .inr (.inr (some 94))), (1, .inl l1), (2, .inl l2), (3, .inl l3)]) dX12_pickOf_64 rfl (v := (l4 + 1)) rfl (Nat.le_of_ble_eq_true rfl) rfl ?_
        refine rn_goto (tgt := 5) dX12_pickOf_67 (by decide) ?_
        refine rn_sub [1, 2, 3, 4, 0] (L' := [(0, .inr (.inr (some 94))), (1, .inl l1), (2, .inl l2), (3, .inl l3), (4, .inl (l4 + 1))]) rfl ?_
        exact V
set_option maxRecDepth 100000 in
set_option maxHeartbeats 4000000 in
theorem vc_X12_pickOf {G : GT} {d : Nat} {a1 : Int32} {a2 : Int32}  {h : Hp} {Q : Int32 → Hp → Prop} (hR : RF h) (V : Rg_X12_pickOf_5 G d a1 a2 0 0 h Q) : EvI G (d + 1) mX12_pickOf [.inr (.inr (some 94)), .inl a1, .inl a2] h Q := by
  refine Ev.of rfl (fun _ => Nat.le_of_ble_eq_true rfl) ?_
  show Rn G (d + 1) 0 0 mX12_pickOf 0 [(0, .inr (.inr (some 94))), (1, .inl a1), (2, .inl a2)] [] SH h (QI Q)
  refine rn_iconst (v := 0) dX12_pickOf_0 (by decide) ?_
  refine rn_istore_n (L' := [(3, .inl 0), (0, .inr (.inr (some 94))), (1, .inl a1), (2, .inl a2)]) dX12_pickOf_1 rfl (Nat.le_of_ble_eq_true rfl) rfl ?_
  refine rn_iconst (v := 0) dX12_pickOf_2 (by decide) ?_
  refine rn_istore (L' := [(4, .inl 0), (3, .inl 0), (0, .inr (.inr (some 94))), (1, .inl a1), (2, .inl a2)]) dX12_pickOf_3 (Nat.le_of_ble_eq_true rfl) rfl ?_
  refine rn_sub [2, 3, 4, 1, 0] (L' := [(0, .inr (.inr (some 94))), (1, .inl a1), (2, .inl a2), (3, .inl 0), (4, .inl 0)]) rfl ?_
  exact V
def Rg_X12_goes_5 (G : GT) (d : Nat)  (h : Hp) (Q : Hp → Prop) : Prop := Rn G (d + 1) 0 0 mX12_goes 5 [(0, .inr (.inr (some 94)))] [] SH h (QV Q)
set_option maxRecDepth 100000 in
set_option maxHeartbeats 4000000 in
theorem vc_X12_goes_5 {G : GT} {d : Nat}   {h : Hp} {Q : Hp → Prop} (hR : RF h) (V : ((h.1 95 6 ≤ 0 → Q h) ∧ (¬ h.1 95 6 ≤ 0 → EvV G d mX12_aSecond [.inr (.inr (some 94))] h (fun h3 => Rg_X12_goes_5 G d  h3 Q)))) : Rg_X12_goes_5 G d  h Q := by
  show Rn G (d + 1) 0 0 mX12_goes 5 [(0, .inr (.inr (some 94)))] [] SH h (QV Q)
  refine rn_aload_n dX12_goes_5 rfl rfl ?_
  refine rn_get (v := .inr (.inr (some 95))) dX12_goes_6 fl_X12_7 rfl rfl (congrArg (fun z => (Sum.inr (Sum.inr z) : MV)) (rf_94_0 hR)) ?_
  refine rn_bipush (v := 6) dX12_goes_9 (by decide) ?_
  refine rn_iald (k := 6) dX12_goes_11 rfl (by decide) (by unfold vp_in; decide) ?_
  refine rn_if_le (tgt := 22) dX12_goes_12 (by decide) (fun c2 => ?_) (fun c2 => ?_)
  · replace V := V.1 c2
    exact rn_vret dX12_goes_22 rfl ⟨rfl, hR, rfl, V⟩
  · replace V := V.2 c2
    refine rn_aload_n dX12_goes_15 rfl rfl ?_
    refine rn_cV (M' := mX12_aSecond) (n := 0) (av := []) (S := []) (rc := 0) (rs := 0) (mc := 0) (ms := 0) (a := 94) (ci := 11) (r := (RX12, TX12, 38)) dX12_goes_16 pa_X12_aSecond (Nat.le_refl _) rfl (Nat.le_of_ble_eq_true rfl) ml_X12_235 im_X12_aSecond se_X12_aSecond rfl rfl rfl (Ev.mono V ?_)
    rintro v sh1 h3 ⟨rfl, Rh3, rfl, V⟩
    show Rn G (d + 1) 0 0 mX12_goes 19 [(0, .inr (.inr (some 94)))] [] SH h3 (QV Q)
    refine rn_goto (tgt := 5) dX12_goes_19 (by decide) ?_
    refine rn_sub [0] (L' := [(0, .inr (.inr (some 94)))]) rfl ?_
    exact V
set_option maxRecDepth 100000 in
set_option maxHeartbeats 4000000 in
theorem vc_X12_goes {G : GT} {d : Nat} {a1 : Int32}  {h : Hp} {Q : Hp → Prop} (hR : RF h) (V : EvV G d mX12_begins [.inr (.inr (some 94)), .inl a1] h (fun h1 => Rg_X12_goes_5 G d  h1 Q)) : EvV G (d + 1) mX12_goes [.inr (.inr (some 94)), .inl a1] h Q := by
  refine Ev.of rfl (fun _ => Nat.le_of_ble_eq_true rfl) ?_
  show Rn G (d + 1) 0 0 mX12_goes 0 [(0, .inr (.inr (some 94))), (1, .inl a1)] [] SH h (QV Q)
  refine rn_aload_n dX12_goes_0 rfl rfl ?_
  refine rn_iload_n dX12_goes_1 rfl rfl ?_
  refine rn_cV (M' := mX12_begins) (n := 1) (av := [.inl a1]) (S := []) (rc := 0) (rs := 0) (mc := 0) (ms := 0) (a := 94) (ci := 11) (r := (RX12, TX12, 38)) dX12_goes_2 pa_X12_begins (Nat.le_refl _) rfl (Nat.le_of_ble_eq_true rfl) ml_X12_223 im_X12_begins se_X12_begins rfl rfl rfl (Ev.mono V ?_)
  rintro v sh1 h1 ⟨rfl, Rh1, rfl, V⟩
  show Rn G (d + 1) 0 0 mX12_goes 5 [(0, .inr (.inr (some 94))), (1, .inl a1)] [] SH h1 (QV Q)
  refine rn_sub [0] (L' := [(0, .inr (.inr (some 94)))]) rfl ?_
  exact V
set_option maxRecDepth 100000 in
set_option maxHeartbeats 4000000 in
theorem vc_X12_comesTo {G : GT} {d : Nat} {a1 : Int32} {a2 : Int32} {a3 : Int32}  {h : Hp} {Q : Hp → Prop} (hR : RF h) (V : vp_in a1 6 ∧ ((h.1 110 (Int32.toNatClampNeg a1) < 0 → vp_in a1 6 ∧ vp_in a1 6 ∧ Q (sI (sI h 109 (Int32.toNatClampNeg a1) a3) 110 (Int32.toNatClampNeg a1) a2)) ∧ (¬ h.1 110 (Int32.toNatClampNeg a1) < 0 → ((¬ (a1 - a1 / 2 * 2) = 0 → vp_in a1 6 ∧ ((h.1 109 (Int32.toNatClampNeg a1) ≤ a3 → Q h) ∧ (¬ h.1 109 (Int32.toNatClampNeg a1) ≤ a3 → vp_in a1 6 ∧ vp_in a1 6 ∧ Q (sI (sI h 109 (Int32.toNatClampNeg a1) a3) 110 (Int32.toNatClampNeg a1) a2)))) ∧ ((a1 - a1 / 2 * 2) = 0 → vp_in a1 6 ∧ ((a3 ≤ h.1 109 (Int32.toNatClampNeg a1) → Q h) ∧ (¬ a3 ≤ h.1 109 (Int32.toNatClampNeg a1) → vp_in a1 6 ∧ vp_in a1 6 ∧ Q (sI (sI h 109 (Int32.toNatClampNeg a1) a3) 110 (Int32.toNatClampNeg a1) a2)))))))) : EvV G (d + 1) mX12_comesTo [.inr (.inr (some 94)), .inl a1, .inl a2, .inl a3] h Q := by
  refine Ev.of rfl (fun _ => Nat.le_of_ble_eq_true rfl) ?_
  show Rn G (d + 1) 0 0 mX12_comesTo 0 [(0, .inr (.inr (some 94))), (1, .inl a1), (2, .inl a2), (3, .inl a3)] [] SH h (QV Q)
  refine rn_aload_n dX12_comesTo_0 rfl rfl ?_
  refine rn_get (v := .inr (.inr (some 110))) dX12_comesTo_1 fl_X12_55 rfl rfl (congrArg (fun z => (Sum.inr (Sum.inr z) : MV)) (rf_94_27 hR)) ?_
  refine rn_iload_n dX12_comesTo_4 rfl rfl ?_
  obtain ⟨g0, V⟩ := V
  refine rn_iald (k := (Int32.toNatClampNeg a1)) dX12_comesTo_5 rfl rfl g0 ?_
  refine rn_if_lt (tgt := 38) dX12_comesTo_6 (by decide) (fun c1 => ?_) (fun c1 => ?_)
  · replace V := V.1 c1
    refine rn_iconst (v := 1) dX12_comesTo_38 (by decide) ?_
    refine rn_goto (tgt := 43) dX12_comesTo_39 (by decide) ?_
    refine rn_istore (L' := [(4, .inl 1), (0, .inr (.inr (some 94))), (1, .inl a1), (2, .inl a2), (3, .inl a3)]) dX12_comesTo_43 (Nat.le_of_ble_eq_true rfl) rfl ?_
    refine rn_iload dX12_comesTo_45 rfl ?_
    refine rn_if_eq (tgt := 64) dX12_comesTo_47 (by decide) (fun c2 => ?_) (fun c2 => ?_)
    · exact absurd c2 (by decide)
    refine rn_aload_n dX12_comesTo_50 rfl rfl ?_
    refine rn_get (v := .inr (.inr (some 109))) dX12_comesTo_51 fl_X12_52 rfl rfl (congrArg (fun z => (Sum.inr (Sum.inr z) : MV)) (rf_94_26 hR)) ?_
    refine rn_iload_n dX12_comesTo_54 rfl rfl ?_
    refine rn_iload_n dX12_comesTo_55 rfl rfl ?_
    obtain ⟨g0, V⟩ := V
    refine rn_iast (k := (Int32.toNatClampNeg a1)) dX12_comesTo_56 rfl rfl g0 ?_
    refine rn_aload_n dX12_comesTo_57 rfl rfl ?_
    refine rn_get (v := .inr (.inr (some 110))) dX12_comesTo_58 fl_X12_55 rfl rfl (congrArg (fun z => (Sum.inr (Sum.inr z) : MV)) (rf_94_27 hR)) ?_
    refine rn_iload_n dX12_comesTo_61 rfl rfl ?_
    refine rn_iload_n dX12_comesTo_62 rfl rfl ?_
    obtain ⟨g0, V⟩ := V
    refine rn_iast (k := (Int32.toNatClampNeg a1)) dX12_comesTo_63 rfl rfl g0 ?_
    exact rn_vret dX12_comesTo_64 rfl ⟨rfl, hR, rfl, V⟩
  · replace V := V.2 c1
    refine rn_iload_n dX12_comesTo_9 rfl rfl ?_
    refine rn_iconst (v := 2) dX12_comesTo_10 (by decide) ?_
    refine rn_irem dX12_comesTo_11 (by decide) ?_
    refine rn_if_ne (tgt := 28) dX12_comesTo_12 (by decide) (fun c3 => ?_) (fun c3 => ?_)
    · replace V := V.1 c3
      refine rn_iload_n dX12_comesTo_28 rfl rfl ?_
      refine rn_aload_n dX12_comesTo_29 rfl rfl ?_
      refine rn_get (v := .inr (.inr (some 109))) dX12_comesTo_30 fl_X12_52 rfl rfl (congrArg (fun z => (Sum.inr (Sum.inr z) : MV)) (rf_94_26 hR)) ?_
      refine rn_iload_n dX12_comesTo_33 rfl rfl ?_
      obtain ⟨g0, V⟩ := V
      refine rn_iald (k := (Int32.toNatClampNeg a1)) dX12_comesTo_34 rfl rfl g0 ?_
      refine rn_icmp_ge (tgt := 42) dX12_comesTo_35 (by decide) (fun c4 => ?_) (fun c4 => ?_)
      · replace V := V.1 c4
        refine rn_iconst (v := 0) dX12_comesTo_42 (by decide) ?_
        refine rn_istore (L' := [(4, .inl 0), (0, .inr (.inr (some 94))), (1, .inl a1), (2, .inl a2), (3, .inl a3)]) dX12_comesTo_43 (Nat.le_of_ble_eq_true rfl) rfl ?_
        refine rn_iload dX12_comesTo_45 rfl ?_
        refine rn_if_eq (tgt := 64) dX12_comesTo_47 (by decide) (fun c5 => ?_) (fun c5 => ?_)
        rotate_left
        · exact absurd (by decide) c5
        exact rn_vret dX12_comesTo_64 rfl ⟨rfl, hR, rfl, V⟩
      · replace V := V.2 c4
        refine rn_iconst (v := 1) dX12_comesTo_38 (by decide) ?_
        refine rn_goto (tgt := 43) dX12_comesTo_39 (by decide) ?_
        refine rn_istore (L' := [(4, .inl 1), (0, .inr (.inr (some 94))), (1, .inl a1), (2, .inl a2), (3, .inl a3)]) dX12_comesTo_43 (Nat.le_of_ble_eq_true rfl) rfl ?_
        refine rn_iload dX12_comesTo_45 rfl ?_
        refine rn_if_eq (tgt := 64) dX12_comesTo_47 (by decide) (fun c6 => ?_) (fun c6 => ?_)
        · exact absurd c6 (by decide)
        refine rn_aload_n dX12_comesTo_50 rfl rfl ?_
        refine rn_get (v := .inr (.inr (some 109))) dX12_comesTo_51 fl_X12_52 rfl rfl (congrArg (fun z => (Sum.inr (Sum.inr z) : MV)) (rf_94_26 hR)) ?_
        refine rn_iload_n dX12_comesTo_54 rfl rfl ?_
        refine rn_iload_n dX12_comesTo_55 rfl rfl ?_
        obtain ⟨g0, V⟩ := V
        refine rn_iast (k := (Int32.toNatClampNeg a1)) dX12_comesTo_56 rfl rfl g0 ?_
        refine rn_aload_n dX12_comesTo_57 rfl rfl ?_
        refine rn_get (v := .inr (.inr (some 110))) dX12_comesTo_58 fl_X12_55 rfl rfl (congrArg (fun z => (Sum.inr (Sum.inr z) : MV)) (rf_94_27 hR)) ?_
        refine rn_iload_n dX12_comesTo_61 rfl rfl ?_
        refine rn_iload_n dX12_comesTo_62 rfl rfl ?_
        obtain ⟨g0, V⟩ := V
        refine rn_iast (k := (Int32.toNatClampNeg a1)) dX12_comesTo_63 rfl rfl g0 ?_
        exact rn_vret dX12_comesTo_64 rfl ⟨rfl, hR, rfl, V⟩
    · replace V := V.2 c3
      refine rn_iload_n dX12_comesTo_15 rfl rfl ?_
      refine rn_aload_n dX12_comesTo_16 rfl rfl ?_
      refine rn_get (v := .inr (.inr (some 109))) dX12_comesTo_17 fl_X12_52 rfl rfl (congrArg (fun z => (Sum.inr (Sum.inr z) : MV)) (rf_94_26 hR)) ?_
      refine rn_iload_n dX12_comesTo_20 rfl rfl ?_
      obtain ⟨g0, V⟩ := V
      refine rn_iald (k := (Int32.toNatClampNeg a1)) dX12_comesTo_21 rfl rfl g0 ?_
      refine rn_icmp_le (tgt := 42) dX12_comesTo_22 (by decide) (fun c7 => ?_) (fun c7 => ?_)
      · replace V := V.1 c7
        refine rn_iconst (v := 0) dX12_comesTo_42 (by decide) ?_
        refine rn_istore (L' := [(4, .inl 0), (0, .inr (.inr (some 94))), (1, .inl a1), (2, .inl a2), (3, .inl a3)]) dX12_comesTo_43 (Nat.le_of_ble_eq_true rfl) rfl ?_
        refine rn_iload dX12_comesTo_45 rfl ?_
        refine rn_if_eq (tgt := 64) dX12_comesTo_47 (by decide) (fun c8 => ?_) (fun c8 => ?_)
        rotate_left
        · exact absurd (by decide) c8
        exact rn_vret dX12_comesTo_64 rfl ⟨rfl, hR, rfl, V⟩
      · replace V := V.2 c7
        refine rn_goto (tgt := 38) dX12_comesTo_25 (by decide) ?_
        refine rn_iconst (v := 1) dX12_comesTo_38 (by decide) ?_
        refine rn_goto (tgt := 43) dX12_comesTo_39 (by decide) ?_
        refine rn_istore (L' := [(4, .inl 1), (0, .inr (.inr (some 94))), (1, .inl a1), (2, .inl a2), (3, .inl a3)]) dX12_comesTo_43 (Nat.le_of_ble_eq_true rfl) rfl ?_
        refine rn_iload dX12_comesTo_45 rfl ?_
        refine rn_if_eq (tgt := 64) dX12_comesTo_47 (by decide) (fun c9 => ?_) (fun c9 => ?_)
        · exact absurd c9 (by decide)
        refine rn_aload_n dX12_comesTo_50 rfl rfl ?_
        refine rn_get (v := .inr (.inr (some 109))) dX12_comesTo_51 fl_X12_52 rfl rfl (congrArg (fun z => (Sum.inr (Sum.inr z) : MV)) (rf_94_26 hR)) ?_
        refine rn_iload_n dX12_comesTo_54 rfl rfl ?_
        refine rn_iload_n dX12_comesTo_55 rfl rfl ?_
        obtain ⟨g0, V⟩ := V
        refine rn_iast (k := (Int32.toNatClampNeg a1)) dX12_comesTo_56 rfl rfl g0 ?_
        refine rn_aload_n dX12_comesTo_57 rfl rfl ?_
        refine rn_get (v := .inr (.inr (some 110))) dX12_comesTo_58 fl_X12_55 rfl rfl (congrArg (fun z => (Sum.inr (Sum.inr z) : MV)) (rf_94_27 hR)) ?_
        refine rn_iload_n dX12_comesTo_61 rfl rfl ?_
        refine rn_iload_n dX12_comesTo_62 rfl rfl ?_
        obtain ⟨g0, V⟩ := V
        refine rn_iast (k := (Int32.toNatClampNeg a1)) dX12_comesTo_63 rfl rfl g0 ?_
        exact rn_vret dX12_comesTo_64 rfl ⟨rfl, hR, rfl, V⟩
def Rg_X12_findGame_50 (G : GT) (d : Nat) (l1 : Int32) (l2 : Int32) (l3 : Int32) (l4 : Int32) (l5 : Int32) (h : Hp) (Q : Hp → Prop) : Prop := Rn G (d + 1) 0 0 mX12_findGame 50 [(0, .inr (.inr (some 94))), (1, .inl l1), (2, .inl l2), (3, .inl l3), (4, .inl l4), (5, .inl l5)] [] SH h (QV Q)
set_option maxRecDepth 100000 in
set_option maxHeartbeats 4000000 in
theorem vc_X12_findGame_50 {G : GT} {d : Nat} {l1 : Int32} {l2 : Int32} {l3 : Int32} {l4 : Int32} {l5 : Int32}  {h : Hp} {Q : Hp → Prop} (hR : RF h) (V : ((l5 < 0 → EvV G d mX12_putBack [.inr (.inr (some 94))] h (fun h8 => Q h8)) ∧ (¬ l5 < 0 → EvV G d mX12_backTo [.inr (.inr (some 94)), .inl l5] h (fun h9 => vp_in l5 6 ∧ vp_in l5 6 ∧ vp_in l5 6 ∧ (((sI h9 108 (Int32.toNatClampNeg l5) (h9.1 108 (Int32.toNatClampNeg l5) + 1)).1 108 (Int32.toNatClampNeg l5) ≤ 4 → vp_in l5 6 ∧ ((¬ (sI h9 108 (Int32.toNatClampNeg l5) (h9.1 108 (Int32.toNatClampNeg l5) + 1)).1 108 (Int32.toNatClampNeg l5) = 4 → ((¬ (l5 - l5 / 2 * 2) = 0 → vp_in l5 6 ∧ EvI G d mX12_pickOf [.inr (.inr (some 94)), .inl l2, .inl ((sI h9 108 (Int32.toNatClampNeg l5) (h9.1 108 (Int32.toNatClampNeg l5) + 1)).1 108 (Int32.toNatClampNeg l5))] (sI h9 108 (Int32.toNatClampNeg l5) (h9.1 108 (Int32.toNatClampNeg l5) + 1)) (fun x14 h13 => ((0 ≤ x14 → ((12 ≤ x14 → vp_in l5 6 ∧ ((¬ (l5 + 1) = l3 → EvV G d mX12_standsAt [.inr (.inr (some 94)), .inl (l5 + 1)] (sI h13 111 (Int32.toNatClampNeg l5) x14) (fun h18 => Rg_X12_findGame_50 G d l1 l2 l3 l4 (l5 + 1) h18 Q)) ∧ ((l5 + 1) = l3 → EvI G d mX12_of [.inr (.inr (some 94)), .inl l1, .inl 4] (sI h13 111 (Int32.toNatClampNeg l5) x14) (fun x20 h19 => EvI G d mX12_of [.inr (.inr (some 94)), .inl l2, .inl 4] h19 (fun x22 h21 => EvV G d mX12_comesTo [.inr (.inr (some 94)), .inl l5, .inl x14, .inl ((x20 - x22) - l4)] h21 (fun h23 => Rg_X12_findGame_50 G d l1 l2 l3 l4 l5 h23 Q)))))) ∧ (¬ 12 ≤ x14 → EvV G d mX12_goes [.inr (.inr (some 94)), .inl x14] h13 (fun h24 => vp_in l5 6 ∧ ((¬ (l5 + 1) = l3 → EvV G d mX12_standsAt [.inr (.inr (some 94)), .inl (l5 + 1)] (sI h24 111 (Int32.toNatClampNeg l5) x14) (fun h26 => Rg_X12_findGame_50 G d l1 l2 l3 l4 (l5 + 1) h26 Q)) ∧ ((l5 + 1) = l3 → EvI G d mX12_of [.inr (.inr (some 94)), .inl l1, .inl 4] (sI h24 111 (Int32.toNatClampNeg l5) x14) (fun x28 h27 => EvI G d mX12_of [.inr (.inr (some 94)), .inl l2, .inl 4] h27 (fun x30 h29 => EvV G d mX12_comesTo [.inr (.inr (some 94)), .inl l5, .inl x14, .inl ((x28 - x30) - l4)] h29 (fun h31 => Rg_X12_findGame_50 G d l1 l2 l3 l4 l5 h31 Q))))))))) ∧ (¬ 0 ≤ x14 → Rg_X12_findGame_50 G d l1 l2 l3 l4 l5 h13 Q)))) ∧ ((l5 - l5 / 2 * 2) = 0 → vp_in l5 6 ∧ EvI G d mX12_pickOf [.inr (.inr (some 94)), .inl l1, .inl ((sI h9 108 (Int32.toNatClampNeg l5) (h9.1 108 (Int32.toNatClampNeg l5) + 1)).1 108 (Int32.toNatClampNeg l5))] (sI h9 108 (Int32.toNatClampNeg l5) (h9.1 108 (Int32.toNatClampNeg l5) + 1)) (fun x33 h32 => ((0 ≤ x33 → ((12 ≤ x33 → vp_in l5 6 ∧ ((¬ (l5 + 1) = l3 → EvV G d mX12_standsAt [.inr (.inr (some 94)), .inl (l5 + 1)] (sI h32 111 (Int32.toNatClampNeg l5) x33) (fun h37 => Rg_X12_findGame_50 G d l1 l2 l3 l4 (l5 + 1) h37 Q)) ∧ ((l5 + 1) = l3 → EvI G d mX12_of [.inr (.inr (some 94)), .inl l1, .inl 4] (sI h32 111 (Int32.toNatClampNeg l5) x33) (fun x39 h38 => EvI G d mX12_of [.inr (.inr (some 94)), .inl l2, .inl 4] h38 (fun x41 h40 => EvV G d mX12_comesTo [.inr (.inr (some 94)), .inl l5, .inl x33, .inl ((x39 - x41) - l4)] h40 (fun h42 => Rg_X12_findGame_50 G d l1 l2 l3 l4 l5 h42 Q)))))) ∧ (¬ 12 ≤ x33 → EvV G d mX12_goes [.inr (.inr (some 94)), .inl x33] h32 (fun h43 => vp_in l5 6 ∧ ((¬ (l5 + 1) = l3 → EvV G d mX12_standsAt [.inr (.inr (some 94)), .inl (l5 + 1)] (sI h43 111 (Int32.toNatClampNeg l5) x33) (fun h45 => Rg_X12_findGame_50 G d l1 l2 l3 l4 (l5 + 1) h45 Q)) ∧ ((l5 + 1) = l3 → EvI G d mX12_of [.inr (.inr (some 94)), .inl l1, .inl 4] (sI h43 111 (Int32.toNatClampNeg l5) x33) (fun x47 h46 => EvI G d mX12_of [.inr (.inr (some 94)), .inl l2, .inl 4] h46 (fun x49 h48 => EvV G d mX12_comesTo [.inr (.inr (some 94)), .inl l5, .inl x33, .inl ((x47 - x49) - l4)] h48 (fun h50 => Rg_X12_findGame_50 G d l1 l2 l3 l4 l5 h50 Q))))))))) ∧ (¬ 0 ≤ x33 → Rg_X12_findGame_50 G d l1 l2 l3 l4 l5 h32 Q)))))) ∧ ((sI h9 108 (Int32.toNatClampNeg l5) (h9.1 108 (Int32.toNatClampNeg l5) + 1)).1 108 (Int32.toNatClampNeg l5) = 4 → vp_in l5 6 ∧ ((¬ (l5 + 1) = l3 → EvV G d mX12_standsAt [.inr (.inr (some 94)), .inl (l5 + 1)] (sI (sI h9 108 (Int32.toNatClampNeg l5) (h9.1 108 (Int32.toNatClampNeg l5) + 1)) 111 (Int32.toNatClampNeg l5) 12) (fun h54 => Rg_X12_findGame_50 G d l1 l2 l3 l4 (l5 + 1) h54 Q)) ∧ ((l5 + 1) = l3 → EvI G d mX12_of [.inr (.inr (some 94)), .inl l1, .inl 4] (sI (sI h9 108 (Int32.toNatClampNeg l5) (h9.1 108 (Int32.toNatClampNeg l5) + 1)) 111 (Int32.toNatClampNeg l5) 12) (fun x56 h55 => EvI G d mX12_of [.inr (.inr (some 94)), .inl l2, .inl 4] h55 (fun x58 h57 => EvV G d mX12_comesTo [.inr (.inr (some 94)), .inl l5, .inl 12, .inl ((x56 - x58) - l4)] h57 (fun h59 => Rg_X12_findGame_50 G d l1 l2 l3 l4 l5 h59 Q)))))))) ∧ (¬ (sI h9 108 (Int32.toNatClampNeg l5) (h9.1 108 (Int32.toNatClampNeg l5) + 1)).1 108 (Int32.toNatClampNeg l5) ≤ 4 → (((l5 + (-1)) < 0 → Rg_X12_findGame_50 G d l1 l2 l3 l4 (l5 + (-1)) (sI h9 108 (Int32.toNatClampNeg l5) (h9.1 108 (Int32.toNatClampNeg l5) + 1)) Q) ∧ (¬ (l5 + (-1)) < 0 → vp_in (l5 + (-1)) 6 ∧ vp_in ((l5 + (-1)) + 1) 6 ∧ EvV G d mX12_comesTo [.inr (.inr (some 94)), .inl (l5 + (-1)), .inl (h9.1 111 (Int32.toNatClampNeg (l5 + (-1)))), .inl (h9.1 109 (Int32.toNatClampNeg ((l5 + (-1)) + 1)))] (sI h9 108 (Int32.toNatClampNeg l5) (h9.1 108 (Int32.toNatClampNeg l5) + 1)) (fun h61 => Rg_X12_findGame_50 G d l1 l2 l3 l4 (l5 + (-1)) h61 Q))))))))) : Rg_X12_findGame_50 G d l1 l2 l3 l4 l5 h Q := by
  show Rn G (d + 1) 0 0 mX12_findGame 50 [(0, .inr (.inr (some 94))), (1, .inl l1), (2, .inl l2), (3, .inl l3), (4, .inl l4), (5, .inl l5)] [] SH h (QV Q)
  refine rn_iload dX12_findGame_50 rfl ?_
  refine rn_if_lt (tgt := 234) dX12_findGame_52 (by decide) (fun c7 => ?_) (fun c7 => ?_)
  · replace V := V.1 c7
    refine rn_aload_n dX12_findGame_234 rfl rfl ?_
    refine rn_cV (M' := mX12_putBack) (n := 0) (av := []) (S := []) (rc := 0) (rs := 0) (mc := 0) (ms := 0) (a := 94) (ci := 11) (r := (RX12, TX12, 38)) dX12_findGame_235 pa_X12_putBack (Nat.le_refl _) rfl (Nat.le_of_ble_eq_true rfl) ml_X12_247 im_X12_putBack se_X12_putBack rfl rfl rfl (Ev.mono V ?_)
    rintro v sh1 h8 ⟨rfl, Rh8, rfl, V⟩
    show Rn G (d + 1) 0 0 mX12_findGame 238 [(0, .inr (.inr (some 94))), (1, .inl l1), (2, .inl l2), (3, .inl l3), (4, .inl l4), (5, .inl l5)] [] SH h8 (QV Q)
    exact rn_vret dX12_findGame_238 rfl ⟨rfl, Rh8, rfl, V⟩
  · replace V := V.2 c7
    refine rn_aload_n dX12_findGame_55 rfl rfl ?_
    refine rn_iload dX12_findGame_56 rfl ?_
    refine rn_cV (M' := mX12_backTo) (n := 1) (av := [.inl l5]) (S := []) (rc := 0) (rs := 0) (mc := 0) (ms := 0) (a := 94) (ci := 11) (r := (RX12, TX12, 38)) dX12_findGame_58 pa_X12_backTo (Nat.le_refl _) rfl (Nat.le_of_ble_eq_true rfl) ml_X12_293 im_X12_backTo se_X12_backTo rfl rfl rfl (Ev.mono V ?_)
    rintro v sh1 h9 ⟨rfl, Rh9, rfl, V⟩
    show Rn G (d + 1) 0 0 mX12_findGame 61 [(0, .inr (.inr (some 94))), (1, .inl l1), (2, .inl l2), (3, .inl l3), (4, .inl l4), (5, .inl l5)] [] SH h9 (QV Q)
    refine rn_aload_n dX12_findGame_61 rfl rfl ?_
    refine rn_get (v := .inr (.inr (some 108))) dX12_findGame_62 fl_X12_49 rfl rfl (congrArg (fun z => (Sum.inr (Sum.inr z) : MV)) (rf_94_25 Rh9)) ?_
    refine rn_iload dX12_findGame_65 rfl ?_
    refine rn_dup2 dX12_findGame_67 rfl rfl ?_
    obtain ⟨g0, V⟩ := V
    refine rn_iald (k := (Int32.toNatClampNeg l5)) dX12_findGame_68 rfl rfl g0 ?_
    refine rn_iconst (v := 1) dX12_findGame_69 (by decide) ?_
    refine rn_iadd dX12_findGame_70 ?_
    obtain ⟨g0, V⟩ := V
    refine rn_iast (k := (Int32.toNatClampNeg l5)) dX12_findGame_71 rfl rfl g0 ?_
    refine rn_aload_n dX12_findGame_72 rfl rfl ?_
    refine rn_get (v := .inr (.inr (some 108))) dX12_findGame_73 fl_X12_49 rfl rfl (congrArg (fun z => (Sum.inr (Sum.inr z) : MV)) (rf_94_25 Rh9)) ?_
    refine rn_iload dX12_findGame_76 rfl ?_
    obtain ⟨g0, V⟩ := V
    refine rn_iald (k := (Int32.toNatClampNeg l5)) dX12_findGame_78 rfl rfl g0 ?_
    refine rn_iconst (v := 4) dX12_findGame_79 (by decide) ?_
    refine rn_icmp_le (tgt := 116) dX12_findGame_80 (by decide) (fun c10 => ?_) (fun c10 => ?_)
    · replace V := V.1 c10
      refine rn_aload_n dX12_findGame_116 rfl rfl ?_
      refine rn_get (v := .inr (.inr (some 108))) dX12_findGame_117 fl_X12_49 rfl rfl (congrArg (fun z => (Sum.inr (Sum.inr z) : MV)) (rf_94_25 Rh9)) ?_
      refine rn_iload dX12_findGame_120 rfl ?_
      obtain ⟨g0, V⟩ := V
      refine rn_iald (k := (Int32.toNatClampNeg l5)) dX12_findGame_122 rfl rfl g0 ?_
      refine rn_iconst (v := 4) dX12_findGame_123 (by decide) ?_
      refine rn_icmp_ne (tgt := 132) dX12_findGame_124 (by decide) (fun c11 => ?_) (fun c11 => ?_)
      · replace V := V.1 c11
        refine rn_aload_n dX12_findGame_132 rfl rfl ?_
        refine rn_iload dX12_findGame_133 rfl ?_
        refine rn_iconst (v := 2) dX12_findGame_135 (by decide) ?_
        refine rn_irem dX12_findGame_136 (by decide) ?_
        refine rn_if_ne (tgt := 144) dX12_findGame_137 (by decide) (fun c12 => ?_) (fun c12 => ?_)
        · replace V := V.1 c12
          refine rn_iload_n dX12_findGame_144 rfl rfl ?_
          refine rn_aload_n dX12_findGame_145 rfl rfl ?_
          refine rn_get (v := .inr (.inr (some 108))) dX12_findGame_146 fl_X12_49 rfl rfl (congrArg (fun z => (Sum.inr (Sum.inr z) : MV)) (rf_94_25 Rh9)) ?_
          refine rn_iload dX12_findGame_149 rfl ?_
          obtain ⟨g0, V⟩ := V
          refine rn_iald (k := (Int32.toNatClampNeg l5)) dX12_findGame_151 rfl rfl g0 ?_
          refine rn_cV (M' := mX12_pickOf) (n := 2) (av := [.inl l2, .inl ((sI h9 108 (Int32.toNatClampNeg l5) (h9.1 108 (Int32.toNatClampNeg l5) + 1)).1 108 (Int32.toNatClampNeg l5))]) (S := []) (rc := 0) (rs := 0) (mc := 0) (ms := 0) (a := 94) (ci := 11) (r := (RX12, TX12, 38)) dX12_findGame_152 pa_X12_pickOf (Nat.le_refl _) rfl (Nat.le_of_ble_eq_true rfl) ml_X12_299 im_X12_pickOf se_X12_pickOf rfl rfl rfl (Ev.mono V ?_)
          rintro v sh1 h13 ⟨rfl, Rh13, x14, rfl, V⟩
          show Rn G (d + 1) 0 0 mX12_findGame 155 [(0, .inr (.inr (some 94))), (1, .inl l1), (2, .inl l2), (3, .inl l3), (4, .inl l4), (5, .inl l5)] [.inl x14] SH h13 (QV Q)
          refine rn_istore (L' := [(6, .inl x14), (0, .inr (.inr (some 94))), (1, .inl l1), (2, .inl l2), (3, .inl l3), (4, .inl l4), (5, .inl l5)]) dX12_findGame_155 (Nat.le_of_ble_eq_true rfl) rfl ?_
          refine rn_iload dX12_findGame_157 rfl ?_
          refine rn_if_ge (tgt := 165) dX12_findGame_159 (by decide) (fun c15 => ?_) (fun c15 => ?_)
          · replace V := V.1 c15
            refine rn_iload dX12_findGame_165 rfl ?_
            refine rn_bipush (v := 12) dX12_findGame_167 (by decide) ?_
            refine rn_icmp_ge (tgt := 178) dX12_findGame_169 (by decide) (fun c16 => ?_) (fun c16 => ?_)
            · replace V := V.1 c16
              refine rn_aload_n dX12_findGame_178 rfl rfl ?_
              refine rn_get (v := .inr (.inr (some 111))) dX12_findGame_179 fl_X12_58 rfl rfl (congrArg (fun z => (Sum.inr (Sum.inr z) : MV)) (rf_94_28 Rh13)) ?_
              refine rn_iload dX12_findGame_182 rfl ?_
              refine rn_iload dX12_findGame_184 rfl ?_
              obtain ⟨g0, V⟩ := V
              refine rn_iast (k := (Int32.toNatClampNeg l5)) dX12_findGame_186 rfl rfl g0 ?_
              refine rn_iload dX12_findGame_187 rfl ?_
              refine rn_iconst (v := 1) dX12_findGame_189 (by decide) ?_
              refine rn_iadd dX12_findGame_190 ?_
              refine rn_iload_n dX12_findGame_191 rfl rfl ?_
              refine rn_icmp_ne (tgt := 222) dX12_findGame_192 (by decide) (fun c17 => ?_) (fun c17 => ?_)
              · replace V := V.1 c17
                refine rn_iinc (L' := [(5, .inl (l5 + 1)), (6, .inl x14), (0, .inr (.inr (some 94))), (1, .inl l1), (2, .inl l2), (3, .inl l3), (4, .inl l4)]) dX12_findGame_222 rfl (v := (l5 + 1)) rfl (Nat.le_of_ble_eq_true rfl) rfl ?_
                refine rn_aload_n dX12_findGame_225 rfl rfl ?_
                refine rn_iload dX12_findGame_226 rfl ?_
                refine rn_cV (M' := mX12_standsAt) (n := 1) (av := [.inl (l5 + 1)]) (S := []) (rc := 0) (rs := 0) (mc := 0) (ms := 0) (a := 94) (ci := 11) (r := (RX12, TX12, 38)) dX12_findGame_228 pa_X12_standsAt (Nat.le_refl _) rfl (Nat.le_of_ble_eq_true rfl) ml_X12_290 im_X12_standsAt se_X12_standsAt rfl rfl rfl (Ev.mono V ?_)
                rintro v sh1 h18 ⟨rfl, Rh18, rfl, V⟩
                show Rn G (d + 1) 0 0 mX12_findGame 231 [(5, .inl (l5 + 1)), (6, .inl x14), (0, .inr (.inr (some 94))), (1, .inl l1), (2, .inl l2), (3, .inl l3), (4, .inl l4)] [] SH h18 (QV Q)
                refine rn_goto (tgt := 50) dX12_findGame_231 (by decide) ?_
                refine rn_sub [2, 3, 4, 5, 6, 0] (L' := [(0, .inr (.inr (some 94))), (1, .inl l1), (2, .inl l2), (3, .inl l3), (4, .inl l4), (5, .inl (l5 + 1))]) rfl ?_
                exact V
              · replace V := V.2 c17
                refine rn_aload_n dX12_findGame_195 rfl rfl ?_
                refine rn_iload dX12_findGame_196 rfl ?_
                refine rn_iload dX12_findGame_198 rfl ?_
                refine rn_aload_n dX12_findGame_200 rfl rfl ?_
                refine rn_iload_n dX12_findGame_201 rfl rfl ?_
                refine rn_iconst (v := 4) dX12_findGame_202 (by decide) ?_
                refine rn_cV (M' := mX12_of) (n := 2) (av := [.inl l1, .inl 4]) (S := [.inl x14, .inl l5, .inr (.inr (some 94))]) (rc := 0) (rs := 0) (mc := 0) (ms := 0) (a := 94) (ci := 11) (r := (RX12, TX12, 38)) dX12_findGame_203 pa_X12_of (Nat.le_refl _) rfl (Nat.le_of_ble_eq_true rfl) ml_X12_161 im_X12_of se_X12_of rfl rfl rfl (Ev.mono V ?_)
                rintro v sh1 h19 ⟨rfl, Rh19, x20, rfl, V⟩
                show Rn G (d + 1) 0 0 mX12_findGame 206 [(6, .inl x14), (0, .inr (.inr (some 94))), (1, .inl l1), (2, .inl l2), (3, .inl l3), (4, .inl l4), (5, .inl l5)] [.inl x20, .inl x14, .inl l5, .inr (.inr (some 94))] SH h19 (QV Q)
                refine rn_aload_n dX12_findGame_206 rfl rfl ?_
                refine rn_iload_n dX12_findGame_207 rfl rfl ?_
                refine rn_iconst (v := 4) dX12_findGame_208 (by decide) ?_
                refine rn_cV (M' := mX12_of) (n := 2) (av := [.inl l2, .inl 4]) (S := [.inl x20, .inl x14, .inl l5, .inr (.inr (some 94))]) (rc := 0) (rs := 0) (mc := 0) (ms := 0) (a := 94) (ci := 11) (r := (RX12, TX12, 38)) dX12_findGame_209 pa_X12_of (Nat.le_refl _) rfl (Nat.le_of_ble_eq_true rfl) ml_X12_161 im_X12_of se_X12_of rfl rfl rfl (Ev.mono V ?_)
                rintro v sh1 h21 ⟨rfl, Rh21, x22, rfl, V⟩
                show Rn G (d + 1) 0 0 mX12_findGame 212 [(6, .inl x14), (0, .inr (.inr (some 94))), (1, .inl l1), (2, .inl l2), (3, .inl l3), (4, .inl l4), (5, .inl l5)] [.inl x22, .inl x20, .inl x14, .inl l5, .inr (.inr (some 94))] SH h21 (QV Q)
                refine rn_isub dX12_findGame_212 ?_
                refine rn_iload dX12_findGame_213 rfl ?_
                refine rn_isub dX12_findGame_215 ?_
                refine rn_cV (M' := mX12_comesTo) (n := 3) (av := [.inl l5, .inl x14, .inl ((x20 - x22) - l4)]) (S := []) (rc := 0) (rs := 0) (mc := 0) (ms := 0) (a := 94) (ci := 11) (r := (RX12, TX12, 38)) dX12_findGame_216 pa_X12_comesTo (Nat.le_refl _) rfl (Nat.le_of_ble_eq_true rfl) ml_X12_296 im_X12_comesTo se_X12_comesTo rfl rfl rfl (Ev.mono V ?_)
                rintro v sh1 h23 ⟨rfl, Rh23, rfl, V⟩
                show Rn G (d + 1) 0 0 mX12_findGame 219 [(6, .inl x14), (0, .inr (.inr (some 94))), (1, .inl l1), (2, .inl l2), (3, .inl l3), (4, .inl l4), (5, .inl l5)] [] SH h23 (QV Q)
                refine rn_goto (tgt := 231) dX12_findGame_219 (by decide) ?_
                refine rn_goto (tgt := 50) dX12_findGame_231 (by decide) ?_
                refine rn_sub [1, 2, 3, 4, 5, 6] (L' := [(0, .inr (.inr (some 94))), (1, .inl l1), (2, .inl l2), (3, .inl l3), (4, .inl l4), (5, .inl l5)]) rfl ?_
                exact V
            · replace V := V.2 c16
              refine rn_aload_n dX12_findGame_172 rfl rfl ?_
              refine rn_iload dX12_findGame_173 rfl ?_
              refine rn_cV (M' := mX12_goes) (n := 1) (av := [.inl x14]) (S := []) (rc := 0) (rs := 0) (mc := 0) (ms := 0) (a := 94) (ci := 11) (r := (RX12, TX12, 38)) dX12_findGame_175 pa_X12_goes (Nat.le_refl _) rfl (Nat.le_of_ble_eq_true rfl) ml_X12_302 im_X12_goes se_X12_goes rfl rfl rfl (Ev.mono V ?_)
              rintro v sh1 h24 ⟨rfl, Rh24, rfl, V⟩
              show Rn G (d + 1) 0 0 mX12_findGame 178 [(6, .inl x14), (0, .inr (.inr (some 94))), (1, .inl l1), (2, .inl l2), (3, .inl l3), (4, .inl l4), (5, .inl l5)] [] SH h24 (QV Q)
              refine rn_aload_n dX12_findGame_178 rfl rfl ?_
              refine rn_get (v := .inr (.inr (some 111))) dX12_findGame_179 fl_X12_58 rfl rfl (congrArg (fun z => (Sum.inr (Sum.inr z) : MV)) (rf_94_28 Rh24)) ?_
              refine rn_iload dX12_findGame_182 rfl ?_
              refine rn_iload dX12_findGame_184 rfl ?_
              obtain ⟨g0, V⟩ := V
              refine rn_iast (k := (Int32.toNatClampNeg l5)) dX12_findGame_186 rfl rfl g0 ?_
              refine rn_iload dX12_findGame_187 rfl ?_
              refine rn_iconst (v := 1) dX12_findGame_189 (by decide) ?_
              refine rn_iadd dX12_findGame_190 ?_
              refine rn_iload_n dX12_findGame_191 rfl rfl ?_
              refine rn_icmp_ne (tgt := 222) dX12_findGame_192 (by decide) (fun c25 => ?_) (fun c25 => ?_)
              · replace V := V.1 c25
                refine rn_iinc (L' := [(5, .inl (l5 + 1)), (6, .inl x14), (0, .inr (.inr (some 94))), (1, .inl l1), (2, .inl l2), (3, .inl l3), (4, .inl l4)]) dX12_findGame_222 rfl (v := (l5 + 1)) rfl (Nat.le_of_ble_eq_true rfl) rfl ?_
                refine rn_aload_n dX12_findGame_225 rfl rfl ?_
                refine rn_iload dX12_findGame_226 rfl ?_
                refine rn_cV (M' := mX12_standsAt) (n := 1) (av := [.inl (l5 + 1)]) (S := []) (rc := 0) (rs := 0) (mc := 0) (ms := 0) (a := 94) (ci := 11) (r := (RX12, TX12, 38)) dX12_findGame_228 pa_X12_standsAt (Nat.le_refl _) rfl (Nat.le_of_ble_eq_true rfl) ml_X12_290 im_X12_standsAt se_X12_standsAt rfl rfl rfl (Ev.mono V ?_)
                rintro v sh1 h26 ⟨rfl, Rh26, rfl, V⟩
                show Rn G (d + 1) 0 0 mX12_findGame 231 [(5, .inl (l5 + 1)), (6, .inl x14), (0, .inr (.inr (some 94))), (1, .inl l1), (2, .inl l2), (3, .inl l3), (4, .inl l4)] [] SH h26 (QV Q)
                refine rn_goto (tgt := 50) dX12_findGame_231 (by decide) ?_
                refine rn_sub [2, 3, 4, 5, 6, 0] (L' := [(0, .inr (.inr (some 94))), (1, .inl l1), (2, .inl l2), (3, .inl l3), (4, .inl l4), (5, .inl (l5 + 1))]) rfl ?_
                exact V
              · replace V := V.2 c25
                refine rn_aload_n dX12_findGame_195 rfl rfl ?_
                refine rn_iload dX12_findGame_196 rfl ?_
                refine rn_iload dX12_findGame_198 rfl ?_
                refine rn_aload_n dX12_findGame_200 rfl rfl ?_
                refine rn_iload_n dX12_findGame_201 rfl rfl ?_
                refine rn_iconst (v := 4) dX12_findGame_202 (by decide) ?_
                refine rn_cV (M' := mX12_of) (n := 2) (av := [.inl l1, .inl 4]) (S := [.inl x14, .inl l5, .inr (.inr (some 94))]) (rc := 0) (rs := 0) (mc := 0) (ms := 0) (a := 94) (ci := 11) (r := (RX12, TX12, 38)) dX12_findGame_203 pa_X12_of (Nat.le_refl _) rfl (Nat.le_of_ble_eq_true rfl) ml_X12_161 im_X12_of se_X12_of rfl rfl rfl (Ev.mono V ?_)
                rintro v sh1 h27 ⟨rfl, Rh27, x28, rfl, V⟩
                show Rn G (d + 1) 0 0 mX12_findGame 206 [(6, .inl x14), (0, .inr (.inr (some 94))), (1, .inl l1), (2, .inl l2), (3, .inl l3), (4, .inl l4), (5, .inl l5)] [.inl x28, .inl x14, .inl l5, .inr (.inr (some 94))] SH h27 (QV Q)
                refine rn_aload_n dX12_findGame_206 rfl rfl ?_
                refine rn_iload_n dX12_findGame_207 rfl rfl ?_
                refine rn_iconst (v := 4) dX12_findGame_208 (by decide) ?_
                refine rn_cV (M' := mX12_of) (n := 2) (av := [.inl l2, .inl 4]) (S := [.inl x28, .inl x14, .inl l5, .inr (.inr (some 94))]) (rc := 0) (rs := 0) (mc := 0) (ms := 0) (a := 94) (ci := 11) (r := (RX12, TX12, 38)) dX12_findGame_209 pa_X12_of (Nat.le_refl _) rfl (Nat.le_of_ble_eq_true rfl) ml_X12_161 im_X12_of se_X12_of rfl rfl rfl (Ev.mono V ?_)
                rintro v sh1 h29 ⟨rfl, Rh29, x30, rfl, V⟩
                show Rn G (d + 1) 0 0 mX12_findGame 212 [(6, .inl x14), (0, .inr (.inr (some 94))), (1, .inl l1), (2, .inl l2), (3, .inl l3), (4, .inl l4), (5, .inl l5)] [.inl x30, .inl x28, .inl x14, .inl l5, .inr (.inr (some 94))] SH h29 (QV Q)
                refine rn_isub dX12_findGame_212 ?_
                refine rn_iload dX12_findGame_213 rfl ?_
                refine rn_isub dX12_findGame_215 ?_
                refine rn_cV (M' := mX12_comesTo) (n := 3) (av := [.inl l5, .inl x14, .inl ((x28 - x30) - l4)]) (S := []) (rc := 0) (rs := 0) (mc := 0) (ms := 0) (a := 94) (ci := 11) (r := (RX12, TX12, 38)) dX12_findGame_216 pa_X12_comesTo (Nat.le_refl _) rfl (Nat.le_of_ble_eq_true rfl) ml_X12_296 im_X12_comesTo se_X12_comesTo rfl rfl rfl (Ev.mono V ?_)
                rintro v sh1 h31 ⟨rfl, Rh31, rfl, V⟩
                show Rn G (d + 1) 0 0 mX12_findGame 219 [(6, .inl x14), (0, .inr (.inr (some 94))), (1, .inl l1), (2, .inl l2), (3, .inl l3), (4, .inl l4), (5, .inl l5)] [] SH h31 (QV Q)
                refine rn_goto (tgt := 231) dX12_findGame_219 (by decide) ?_
                refine rn_goto (tgt := 50) dX12_findGame_231 (by decide) ?_
                refine rn_sub [1, 2, 3, 4, 5, 6] (L' := [(0, .inr (.inr (some 94))), (1, .inl l1), (2, .inl l2), (3, .inl l3), (4, .inl l4), (5, .inl l5)]) rfl ?_
                exact V
          · replace V := V.2 c15
            refine rn_goto (tgt := 50) dX12_findGame_162 (by decide) ?_
            refine rn_sub [1, 2, 3, 4, 5, 6] (L' := [(0, .inr (.inr (some 94))), (1, .inl l1), (2, .inl l2), (3, .inl l3), (4, .inl l4), (5, .inl l5)]) rfl ?_
            exact V
        · replace V := V.2 c12
          refine rn_iload_n dX12_findGame_140 rfl rfl ?_
          refine rn_goto (tgt := 145) dX12_findGame_141 (by decide) ?_
          refine rn_aload_n dX12_findGame_145 rfl rfl ?_
          refine rn_get (v := .inr (.inr (some 108))) dX12_findGame_146 fl_X12_49 rfl rfl (congrArg (fun z => (Sum.inr (Sum.inr z) : MV)) (rf_94_25 Rh9)) ?_
          refine rn_iload dX12_findGame_149 rfl ?_
          obtain ⟨g0, V⟩ := V
          refine rn_iald (k := (Int32.toNatClampNeg l5)) dX12_findGame_151 rfl rfl g0 ?_
          refine rn_cV (M' := mX12_pickOf) (n := 2) (av := [.inl l1, .inl ((sI h9 108 (Int32.toNatClampNeg l5) (h9.1 108 (Int32.toNatClampNeg l5) + 1)).1 108 (Int32.toNatClampNeg l5))]) (S := []) (rc := 0) (rs := 0) (mc := 0) (ms := 0) (a := 94) (ci := 11) (r := (RX12, TX12, 38)) dX12_findGame_152 pa_X12_pickOf (Nat.le_refl _) rfl (Nat.le_of_ble_eq_true rfl) ml_X12_299 im_X12_pickOf se_X12_pickOf rfl rfl rfl (Ev.mono V ?_)
          rintro v sh1 h32 ⟨rfl, Rh32, x33, rfl, V⟩
          show Rn G (d + 1) 0 0 mX12_findGame 155 [(0, .inr (.inr (some 94))), (1, .inl l1), (2, .inl l2), (3, .inl l3), (4, .inl l4), (5, .inl l5)] [.inl x33] SH h32 (QV Q)
          refine rn_istore (L' := [(6, .inl x33), (0, .inr (.inr (some 94))), (1, .inl l1), (2, .inl l2), (3, .inl l3), (4, .inl l4), (5, .inl l5)]) dX12_findGame_155 (Nat.le_of_ble_eq_true rfl) rfl ?_
          refine rn_iload dX12_findGame_157 rfl ?_
          refine rn_if_ge (tgt := 165) dX12_findGame_159 (by decide) (fun c34 => ?_) (fun c34 => ?_)
          · replace V := V.1 c34
            refine rn_iload dX12_findGame_165 rfl ?_
            refine rn_bipush (v := 12) dX12_findGame_167 (by decide) ?_
            refine rn_icmp_ge (tgt := 178) dX12_findGame_169 (by decide) (fun c35 => ?_) (fun c35 => ?_)
            · replace V := V.1 c35
              refine rn_aload_n dX12_findGame_178 rfl rfl ?_
              refine rn_get (v := .inr (.inr (some 111))) dX12_findGame_179 fl_X12_58 rfl rfl (congrArg (fun z => (Sum.inr (Sum.inr z) : MV)) (rf_94_28 Rh32)) ?_
              refine rn_iload dX12_findGame_182 rfl ?_
              refine rn_iload dX12_findGame_184 rfl ?_
              obtain ⟨g0, V⟩ := V
              refine rn_iast (k := (Int32.toNatClampNeg l5)) dX12_findGame_186 rfl rfl g0 ?_
              refine rn_iload dX12_findGame_187 rfl ?_
              refine rn_iconst (v := 1) dX12_findGame_189 (by decide) ?_
              refine rn_iadd dX12_findGame_190 ?_
              refine rn_iload_n dX12_findGame_191 rfl rfl ?_
              refine rn_icmp_ne (tgt := 222) dX12_findGame_192 (by decide) (fun c36 => ?_) (fun c36 => ?_)
              · replace V := V.1 c36
                refine rn_iinc (L' := [(5, .inl (l5 + 1)), (6, .inl x33), (0, .inr (.inr (some 94))), (1, .inl l1), (2, .inl l2), (3, .inl l3), (4, .inl l4)]) dX12_findGame_222 rfl (v := (l5 + 1)) rfl (Nat.le_of_ble_eq_true rfl) rfl ?_
                refine rn_aload_n dX12_findGame_225 rfl rfl ?_
                refine rn_iload dX12_findGame_226 rfl ?_
                refine rn_cV (M' := mX12_standsAt) (n := 1) (av := [.inl (l5 + 1)]) (S := []) (rc := 0) (rs := 0) (mc := 0) (ms := 0) (a := 94) (ci := 11) (r := (RX12, TX12, 38)) dX12_findGame_228 pa_X12_standsAt (Nat.le_refl _) rfl (Nat.le_of_ble_eq_true rfl) ml_X12_290 im_X12_standsAt se_X12_standsAt rfl rfl rfl (Ev.mono V ?_)
                rintro v sh1 h37 ⟨rfl, Rh37, rfl, V⟩
                show Rn G (d + 1) 0 0 mX12_findGame 231 [(5, .inl (l5 + 1)), (6, .inl x33), (0, .inr (.inr (some 94))), (1, .inl l1), (2, .inl l2), (3, .inl l3), (4, .inl l4)] [] SH h37 (QV Q)
                refine rn_goto (tgt := 50) dX12_findGame_231 (by decide) ?_
                refine rn_sub [2, 3, 4, 5, 6, 0] (L' := [(0, .inr (.inr (some 94))), (1, .inl l1), (2, .inl l2), (3, .inl l3), (4, .inl l4), (5, .inl (l5 + 1))]) rfl ?_
                exact V
              · replace V := V.2 c36
                refine rn_aload_n dX12_findGame_195 rfl rfl ?_
                refine rn_iload dX12_findGame_196 rfl ?_
                refine rn_iload dX12_findGame_198 rfl ?_
                refine rn_aload_n dX12_findGame_200 rfl rfl ?_
                refine rn_iload_n dX12_findGame_201 rfl rfl ?_
                refine rn_iconst (v := 4) dX12_findGame_202 (by decide) ?_
                refine rn_cV (M' := mX12_of) (n := 2) (av := [.inl l1, .inl 4]) (S := [.inl x33, .inl l5, .inr (.inr (some 94))]) (rc := 0) (rs := 0) (mc := 0) (ms := 0) (a := 94) (ci := 11) (r := (RX12, TX12, 38)) dX12_findGame_203 pa_X12_of (Nat.le_refl _) rfl (Nat.le_of_ble_eq_true rfl) ml_X12_161 im_X12_of se_X12_of rfl rfl rfl (Ev.mono V ?_)
                rintro v sh1 h38 ⟨rfl, Rh38, x39, rfl, V⟩
                show Rn G (d + 1) 0 0 mX12_findGame 206 [(6, .inl x33), (0, .inr (.inr (some 94))), (1, .inl l1), (2, .inl l2), (3, .inl l3), (4, .inl l4), (5, .inl l5)] [.inl x39, .inl x33, .inl l5, .inr (.inr (some 94))] SH h38 (QV Q)
                refine rn_aload_n dX12_findGame_206 rfl rfl ?_
                refine rn_iload_n dX12_findGame_207 rfl rfl ?_
                refine rn_iconst (v := 4) dX12_findGame_208 (by decide) ?_
                refine rn_cV (M' := mX12_of) (n := 2) (av := [.inl l2, .inl 4]) (S := [.inl x39, .inl x33, .inl l5, .inr (.inr (some 94))]) (rc := 0) (rs := 0) (mc := 0) (ms := 0) (a := 94) (ci := 11) (r := (RX12, TX12, 38)) dX12_findGame_209 pa_X12_of (Nat.le_refl _) rfl (Nat.le_of_ble_eq_true rfl) ml_X12_161 im_X12_of se_X12_of rfl rfl rfl (Ev.mono V ?_)
                rintro v sh1 h40 ⟨rfl, Rh40, x41, rfl, V⟩
                show Rn G (d + 1) 0 0 mX12_findGame 212 [(6, .inl x33), (0, .inr (.inr (some 94))), (1, .inl l1), (2, .inl l2), (3, .inl l3), (4, .inl l4), (5, .inl l5)] [.inl x41, .inl x39, .inl x33, .inl l5, .inr (.inr (some 94))] SH h40 (QV Q)
                refine rn_isub dX12_findGame_212 ?_
                refine rn_iload dX12_findGame_213 rfl ?_
                refine rn_isub dX12_findGame_215 ?_
                refine rn_cV (M' := mX12_comesTo) (n := 3) (av := [.inl l5, .inl x33, .inl ((x39 - x41) - l4)]) (S := []) (rc := 0) (rs := 0) (mc := 0) (ms := 0) (a := 94) (ci := 11) (r := (RX12, TX12, 38)) dX12_findGame_216 pa_X12_comesTo (Nat.le_refl _) rfl (Nat.le_of_ble_eq_true rfl) ml_X12_296 im_X12_comesTo se_X12_comesTo rfl rfl rfl (Ev.mono V ?_)
                rintro v sh1 h42 ⟨rfl, Rh42, rfl, V⟩
                show Rn G (d + 1) 0 0 mX12_findGame 219 [(6, .inl x33), (0, .inr (.inr (some 94))), (1, .inl l1), (2, .inl l2), (3, .inl l3), (4, .inl l4), (5, .inl l5)] [] SH h42 (QV Q)
                refine rn_goto (tgt := 231) dX12_findGame_219 (by decide) ?_
                refine rn_goto (tgt := 50) dX12_findGame_231 (by decide) ?_
                refine rn_sub [1, 2, 3, 4, 5, 6] (L' := [(0, .inr (.inr (some 94))), (1, .inl l1), (2, .inl l2), (3, .inl l3), (4, .inl l4), (5, .inl l5)]) rfl ?_
                exact V
            · replace V := V.2 c35
              refine rn_aload_n dX12_findGame_172 rfl rfl ?_
              refine rn_iload dX12_findGame_173 rfl ?_
              refine rn_cV (M' := mX12_goes) (n := 1) (av := [.inl x33]) (S := []) (rc := 0) (rs := 0) (mc := 0) (ms := 0) (a := 94) (ci := 11) (r := (RX12, TX12, 38)) dX12_findGame_175 pa_X12_goes (Nat.le_refl _) rfl (Nat.le_of_ble_eq_true rfl) ml_X12_302 im_X12_goes se_X12_goes rfl rfl rfl (Ev.mono V ?_)
              rintro v sh1 h43 ⟨rfl, Rh43, rfl, V⟩
              show Rn G (d + 1) 0 0 mX12_findGame 178 [(6, .inl x33), (0, .inr (.inr (some 94))), (1, .inl l1), (2, .inl l2), (3, .inl l3), (4, .inl l4), (5, .inl l5)] [] SH h43 (QV Q)
              refine rn_aload_n dX12_findGame_178 rfl rfl ?_
              refine rn_get (v := .inr (.inr (some 111))) dX12_findGame_179 fl_X12_58 rfl rfl (congrArg (fun z => (Sum.inr (Sum.inr z) : MV)) (rf_94_28 Rh43)) ?_
              refine rn_iload dX12_findGame_182 rfl ?_
              refine rn_iload dX12_findGame_184 rfl ?_
              obtain ⟨g0, V⟩ := V
              refine rn_iast (k := (Int32.toNatClampNeg l5)) dX12_findGame_186 rfl rfl g0 ?_
              refine rn_iload dX12_findGame_187 rfl ?_
              refine rn_iconst (v := 1) dX12_findGame_189 (by decide) ?_
              refine rn_iadd dX12_findGame_190 ?_
              refine rn_iload_n dX12_findGame_191 rfl rfl ?_
              refine rn_icmp_ne (tgt := 222) dX12_findGame_192 (by decide) (fun c44 => ?_) (fun c44 => ?_)
              · replace V := V.1 c44
                refine rn_iinc (L' := [(5, .inl (l5 + 1)), (6, .inl x33), (0, .inr (.inr (some 94))), (1, .inl l1), (2, .inl l2), (3, .inl l3), (4, .inl l4)]) dX12_findGame_222 rfl (v := (l5 + 1)) rfl (Nat.le_of_ble_eq_true rfl) rfl ?_
                refine rn_aload_n dX12_findGame_225 rfl rfl ?_
                refine rn_iload dX12_findGame_226 rfl ?_
                refine rn_cV (M' := mX12_standsAt) (n := 1) (av := [.inl (l5 + 1)]) (S := []) (rc := 0) (rs := 0) (mc := 0) (ms := 0) (a := 94) (ci := 11) (r := (RX12, TX12, 38)) dX12_findGame_228 pa_X12_standsAt (Nat.le_refl _) rfl (Nat.le_of_ble_eq_true rfl) ml_X12_290 im_X12_standsAt se_X12_standsAt rfl rfl rfl (Ev.mono V ?_)
                rintro v sh1 h45 ⟨rfl, Rh45, rfl, V⟩
                show Rn G (d + 1) 0 0 mX12_findGame 231 [(5, .inl (l5 + 1)), (6, .inl x33), (0, .inr (.inr (some 94))), (1, .inl l1), (2, .inl l2), (3, .inl l3), (4, .inl l4)] [] SH h45 (QV Q)
                refine rn_goto (tgt := 50) dX12_findGame_231 (by decide) ?_
                refine rn_sub [2, 3, 4, 5, 6, 0] (L' := [(0, .inr (.inr (some 94))), (1, .inl l1), (2, .inl l2), (3, .inl l3), (4, .inl l4), (5, .inl (l5 + 1))]) rfl ?_
                exact V
              · replace V := V.2 c44
                refine rn_aload_n dX12_findGame_195 rfl rfl ?_
                refine rn_iload dX12_findGame_196 rfl ?_
                refine rn_iload dX12_findGame_198 rfl ?_
                refine rn_aload_n dX12_findGame_200 rfl rfl ?_
                refine rn_iload_n dX12_findGame_201 rfl rfl ?_
                refine rn_iconst (v := 4) dX12_findGame_202 (by decide) ?_
                refine rn_cV (M' := mX12_of) (n := 2) (av := [.inl l1, .inl 4]) (S := [.inl x33, .inl l5, .inr (.inr (some 94))]) (rc := 0) (rs := 0) (mc := 0) (ms := 0) (a := 94) (ci := 11) (r := (RX12, TX12, 38)) dX12_findGame_203 pa_X12_of (Nat.le_refl _) rfl (Nat.le_of_ble_eq_true rfl) ml_X12_161 im_X12_of se_X12_of rfl rfl rfl (Ev.mono V ?_)
                rintro v sh1 h46 ⟨rfl, Rh46, x47, rfl, V⟩
                show Rn G (d + 1) 0 0 mX12_findGame 206 [(6, .inl x33), (0, .inr (.inr (some 94))), (1, .inl l1), (2, .inl l2), (3, .inl l3), (4, .inl l4), (5, .inl l5)] [.inl x47, .inl x33, .inl l5, .inr (.inr (some 94))] SH h46 (QV Q)
                refine rn_aload_n dX12_findGame_206 rfl rfl ?_
                refine rn_iload_n dX12_findGame_207 rfl rfl ?_
                refine rn_iconst (v := 4) dX12_findGame_208 (by decide) ?_
                refine rn_cV (M' := mX12_of) (n := 2) (av := [.inl l2, .inl 4]) (S := [.inl x47, .inl x33, .inl l5, .inr (.inr (some 94))]) (rc := 0) (rs := 0) (mc := 0) (ms := 0) (a := 94) (ci := 11) (r := (RX12, TX12, 38)) dX12_findGame_209 pa_X12_of (Nat.le_refl _) rfl (Nat.le_of_ble_eq_true rfl) ml_X12_161 im_X12_of se_X12_of rfl rfl rfl (Ev.mono V ?_)
                rintro v sh1 h48 ⟨rfl, Rh48, x49, rfl, V⟩
                show Rn G (d + 1) 0 0 mX12_findGame 212 [(6, .inl x33), (0, .inr (.inr (some 94))), (1, .inl l1), (2, .inl l2), (3, .inl l3), (4, .inl l4), (5, .inl l5)] [.inl x49, .inl x47, .inl x33, .inl l5, .inr (.inr (some 94))] SH h48 (QV Q)
                refine rn_isub dX12_findGame_212 ?_
                refine rn_iload dX12_findGame_213 rfl ?_
                refine rn_isub dX12_findGame_215 ?_
                refine rn_cV (M' := mX12_comesTo) (n := 3) (av := [.inl l5, .inl x33, .inl ((x47 - x49) - l4)]) (S := []) (rc := 0) (rs := 0) (mc := 0) (ms := 0) (a := 94) (ci := 11) (r := (RX12, TX12, 38)) dX12_findGame_216 pa_X12_comesTo (Nat.le_refl _) rfl (Nat.le_of_ble_eq_true rfl) ml_X12_296 im_X12_comesTo se_X12_comesTo rfl rfl rfl (Ev.mono V ?_)
                rintro v sh1 h50 ⟨rfl, Rh50, rfl, V⟩
                show Rn G (d + 1) 0 0 mX12_findGame 219 [(6, .inl x33), (0, .inr (.inr (some 94))), (1, .inl l1), (2, .inl l2), (3, .inl l3), (4, .inl l4), (5, .inl l5)] [] SH h50 (QV Q)
                refine rn_goto (tgt := 231) dX12_findGame_219 (by decide) ?_
                refine rn_goto (tgt := 50) dX12_findGame_231 (by decide) ?_
                refine rn_sub [1, 2, 3, 4, 5, 6] (L' := [(0, .inr (.inr (some 94))), (1, .inl l1), (2, .inl l2), (3, .inl l3), (4, .inl l4), (5, .inl l5)]) rfl ?_
                exact V
          · replace V := V.2 c34
            refine rn_goto (tgt := 50) dX12_findGame_162 (by decide) ?_
            refine rn_sub [1, 2, 3, 4, 5, 6] (L' := [(0, .inr (.inr (some 94))), (1, .inl l1), (2, .inl l2), (3, .inl l3), (4, .inl l4), (5, .inl l5)]) rfl ?_
            exact V
      · replace V := V.2 c11
        refine rn_bipush (v := 12) dX12_findGame_127 (by decide) ?_
        refine rn_goto (tgt := 155) dX12_findGame_129 (by decide) ?_
        refine rn_istore (L' := [(6, .inl 12), (0, .inr (.inr (some 94))), (1, .inl l1), (2, .inl l2), (3, .inl l3), (4, .inl l4), (5, .inl l5)]) dX12_findGame_155 (Nat.le_of_ble_eq_true rfl) rfl ?_
        refine rn_iload dX12_findGame_157 rfl ?_
        refine rn_if_ge (tgt := 165) dX12_findGame_159 (by decide) (fun c51 => ?_) (fun c51 => ?_)
        rotate_left
        · exact absurd (by decide) c51
        refine rn_iload dX12_findGame_165 rfl ?_
        refine rn_bipush (v := 12) dX12_findGame_167 (by decide) ?_
        refine rn_icmp_ge (tgt := 178) dX12_findGame_169 (by decide) (fun c52 => ?_) (fun c52 => ?_)
        rotate_left
        · exact absurd (by decide) c52
        refine rn_aload_n dX12_findGame_178 rfl rfl ?_
        refine rn_get (v := .inr (.inr (some 111))) dX12_findGame_179 fl_X12_58 rfl rfl (congrArg (fun z => (Sum.inr (Sum.inr z) : MV)) (rf_94_28 Rh9)) ?_
        refine rn_iload dX12_findGame_182 rfl ?_
        refine rn_iload dX12_findGame_184 rfl ?_
        obtain ⟨g0, V⟩ := V
        refine rn_iast (k := (Int32.toNatClampNeg l5)) dX12_findGame_186 rfl rfl g0 ?_
        refine rn_iload dX12_findGame_187 rfl ?_
        refine rn_iconst (v := 1) dX12_findGame_189 (by decide) ?_
        refine rn_iadd dX12_findGame_190 ?_
        refine rn_iload_n dX12_findGame_191 rfl rfl ?_
        refine rn_icmp_ne (tgt := 222) dX12_findGame_192 (by decide) (fun c53 => ?_) (fun c53 => ?_)
        · replace V := V.1 c53
          refine rn_iinc (L' := [(5, .inl (l5 + 1)), (6, .inl 12), (0, .inr (.inr (some 94))), (1, .inl l1), (2, .inl l2), (3, .inl l3), (4, .inl l4)]) dX12_findGame_222 rfl (v := (l5 + 1)) rfl (Nat.le_of_ble_eq_true rfl) rfl ?_
          refine rn_aload_n dX12_findGame_225 rfl rfl ?_
          refine rn_iload dX12_findGame_226 rfl ?_
          refine rn_cV (M' := mX12_standsAt) (n := 1) (av := [.inl (l5 + 1)]) (S := []) (rc := 0) (rs := 0) (mc := 0) (ms := 0) (a := 94) (ci := 11) (r := (RX12, TX12, 38)) dX12_findGame_228 pa_X12_standsAt (Nat.le_refl _) rfl (Nat.le_of_ble_eq_true rfl) ml_X12_290 im_X12_standsAt se_X12_standsAt rfl rfl rfl (Ev.mono V ?_)
          rintro v sh1 h54 ⟨rfl, Rh54, rfl, V⟩
          show Rn G (d + 1) 0 0 mX12_findGame 231 [(5, .inl (l5 + 1)), (6, .inl 12), (0, .inr (.inr (some 94))), (1, .inl l1), (2, .inl l2), (3, .inl l3), (4, .inl l4)] [] SH h54 (QV Q)
          refine rn_goto (tgt := 50) dX12_findGame_231 (by decide) ?_
          refine rn_sub [2, 3, 4, 5, 6, 0] (L' := [(0, .inr (.inr (some 94))), (1, .inl l1), (2, .inl l2), (3, .inl l3), (4, .inl l4), (5, .inl (l5 + 1))]) rfl ?_
          exact V
        · replace V := V.2 c53
          refine rn_aload_n dX12_findGame_195 rfl rfl ?_
          refine rn_iload dX12_findGame_196 rfl ?_
          refine rn_iload dX12_findGame_198 rfl ?_
          refine rn_aload_n dX12_findGame_200 rfl rfl ?_
          refine rn_iload_n dX12_findGame_201 rfl rfl ?_
          refine rn_iconst (v := 4) dX12_findGame_202 (by decide) ?_
          refine rn_cV (M' := mX12_of) (n := 2) (av := [.inl l1, .inl 4]) (S := [.inl 12, .inl l5, .inr (.inr (some 94))]) (rc := 0) (rs := 0) (mc := 0) (ms := 0) (a := 94) (ci := 11) (r := (RX12, TX12, 38)) dX12_findGame_203 pa_X12_of (Nat.le_refl _) rfl (Nat.le_of_ble_eq_true rfl) ml_X12_161 im_X12_of se_X12_of rfl rfl rfl (Ev.mono V ?_)
          rintro v sh1 h55 ⟨rfl, Rh55, x56, rfl, V⟩
          show Rn G (d + 1) 0 0 mX12_findGame 206 [(6, .inl 12), (0, .inr (.inr (some 94))), (1, .inl l1), (2, .inl l2), (3, .inl l3), (4, .inl l4), (5, .inl l5)] [.inl x56, .inl 12, .inl l5, .inr (.inr (some 94))] SH h55 (QV Q)
          refine rn_aload_n dX12_findGame_206 rfl rfl ?_
          refine rn_iload_n dX12_findGame_207 rfl rfl ?_
          refine rn_iconst (v := 4) dX12_findGame_208 (by decide) ?_
          refine rn_cV (M' := mX12_of) (n := 2) (av := [.inl l2, .inl 4]) (S := [.inl x56, .inl 12, .inl l5, .inr (.inr (some 94))]) (rc := 0) (rs := 0) (mc := 0) (ms := 0) (a := 94) (ci := 11) (r := (RX12, TX12, 38)) dX12_findGame_209 pa_X12_of (Nat.le_refl _) rfl (Nat.le_of_ble_eq_true rfl) ml_X12_161 im_X12_of se_X12_of rfl rfl rfl (Ev.mono V ?_)
          rintro v sh1 h57 ⟨rfl, Rh57, x58, rfl, V⟩
          show Rn G (d + 1) 0 0 mX12_findGame 212 [(6, .inl 12), (0, .inr (.inr (some 94))), (1, .inl l1), (2, .inl l2), (3, .inl l3), (4, .inl l4), (5, .inl l5)] [.inl x58, .inl x56, .inl 12, .inl l5, .inr (.inr (some 94))] SH h57 (QV Q)
          refine rn_isub dX12_findGame_212 ?_
          refine rn_iload dX12_findGame_213 rfl ?_
          refine rn_isub dX12_findGame_215 ?_
          refine rn_cV (M' := mX12_comesTo) (n := 3) (av := [.inl l5, .inl 12, .inl ((x56 - x58) - l4)]) (S := []) (rc := 0) (rs := 0) (mc := 0) (ms := 0) (a := 94) (ci := 11) (r := (RX12, TX12, 38)) dX12_findGame_216 pa_X12_comesTo (Nat.le_refl _) rfl (Nat.le_of_ble_eq_true rfl) ml_X12_296 im_X12_comesTo se_X12_comesTo rfl rfl rfl (Ev.mono V ?_)
          rintro v sh1 h59 ⟨rfl, Rh59, rfl, V⟩
          show Rn G (d + 1) 0 0 mX12_findGame 219 [(6, .inl 12), (0, .inr (.inr (some 94))), (1, .inl l1), (2, .inl l2), (3, .inl l3), (4, .inl l4), (5, .inl l5)] [] SH h59 (QV Q)
          refine rn_goto (tgt := 231) dX12_findGame_219 (by decide) ?_
          refine rn_goto (tgt := 50) dX12_findGame_231 (by decide) ?_
          refine rn_sub [1, 2, 3, 4, 5, 6] (L' := [(0, .inr (.inr (some 94))), (1, .inl l1), (2, .inl l2), (3, .inl l3), (4, .inl l4), (5, .inl l5)]) rfl ?_
          exact V
    · replace V := V.2 c10
      refine rn_iinc (L' := [(5, .inl (l5 + (-1))), (0, .inr (.inr (some 94))), (1, .inl l1), (2, .inl l2), (3, .inl l3), (4, .inl l4)]) dX12_findGame_83 rfl (v := (l5 + (-1))) rfl (Nat.le_of_ble_eq_true rfl) rfl ?_
      refine rn_iload dX12_findGame_86 rfl ?_
      refine rn_if_lt (tgt := 50) dX12_findGame_88 (by decide) (fun c60 => ?_) (fun c60 => ?_)
      · replace V := V.1 c60
        refine rn_sub [1, 2, 3, 4, 5, 0] (L' := [(0, .inr (.inr (some 94))), (1, .inl l1), (2, .inl l2), (3, .inl l3), (4, .inl l4), (5, .inl (l5 + (-1)))]) rfl ?_
        exact V
      · replace V := V.2 c60
        refine rn_aload_n dX12_findGame_91 rfl rfl ?_
        refine rn_iload dX12_findGame_92 rfl ?_
        refine rn_aload_n dX12_findGame_94 rfl rfl ?_
        refine rn_get (v := .inr (.inr (some 111))) dX12_findGame_95 fl_X12_58 rfl rfl (congrArg (fun z => (Sum.inr (Sum.inr z) : MV)) (rf_94_28 Rh9)) ?_
        refine rn_iload dX12_findGame_98 rfl ?_
        obtain ⟨g0, V⟩ := V
        refine rn_iald (k := (Int32.toNatClampNeg (l5 + (-1)))) dX12_findGame_100 rfl rfl g0 ?_
        refine rn_aload_n dX12_findGame_101 rfl rfl ?_
        refine rn_get (v := .inr (.inr (some 109))) dX12_findGame_102 fl_X12_52 rfl rfl (congrArg (fun z => (Sum.inr (Sum.inr z) : MV)) (rf_94_26 Rh9)) ?_
        refine rn_iload dX12_findGame_105 rfl ?_
        refine rn_iconst (v := 1) dX12_findGame_107 (by decide) ?_
        refine rn_iadd dX12_findGame_108 ?_
        obtain ⟨g0, V⟩ := V
        refine rn_iald (k := (Int32.toNatClampNeg ((l5 + (-1)) + 1))) dX12_findGame_109 rfl rfl g0 ?_
        refine rn_cV (M' := mX12_comesTo) (n := 3) (av := [.inl (l5 + (-1)), .inl (h9.1 111 (Int32.toNatClampNeg (l5 + (-1)))), .inl (h9.1 109 (Int32.toNatClampNeg ((l5 + (-1)) + 1)))]) (S := []) (rc := 0) (rs := 0) (mc := 0) (ms := 0) (a := 94) (ci := 11) (r := (RX12, TX12, 38)) dX12_findGame_110 pa_X12_comesTo (Nat.le_refl _) rfl (Nat.le_of_ble_eq_true rfl) ml_X12_296 im_X12_comesTo se_X12_comesTo rfl rfl rfl (Ev.mono V ?_)
        rintro v sh1 h61 ⟨rfl, Rh61, rfl, V⟩
        show Rn G (d + 1) 0 0 mX12_findGame 113 [(5, .inl (l5 + (-1))), (0, .inr (.inr (some 94))), (1, .inl l1), (2, .inl l2), (3, .inl l3), (4, .inl l4)] [] SH h61 (QV Q)
        refine rn_goto (tgt := 50) dX12_findGame_113 (by decide) ?_
        refine rn_sub [1, 2, 3, 4, 5, 0] (L' := [(0, .inr (.inr (some 94))), (1, .inl l1), (2, .inl l2), (3, .inl l3), (4, .inl l4), (5, .inl (l5 + (-1)))]) rfl ?_
        exact V
set_option maxRecDepth 100000 in
set_option maxHeartbeats 4000000 in
theorem vc_X12_findGame {G : GT} {d : Nat} {a1 : Int32} {a2 : Int32} {a3 : Int32}  {h : Hp} {Q : Hp → Prop} (hR : RF h) (V : EvV G d mX12_keepAside [.inr (.inr (some 94))] h (fun h1 => EvI G d mX12_of [.inr (.inr (some 94)), .inl a1, .inl 4] (sI (sI (sI h1 95 5 0) 95 6 0) 95 7 0) (fun x3 h2 => EvI G d mX12_of [.inr (.inr (some 94)), .inl a2, .inl 4] h2 (fun x5 h4 => EvV G d mX12_standsAt [.inr (.inr (some 94)), .inl 0] h4 (fun h6 => Rg_X12_findGame_50 G d a1 a2 a3 (x3 - x5) 0 h6 Q))))) : EvV G (d + 1) mX12_findGame [.inr (.inr (some 94)), .inl a1, .inl a2, .inl a3] h Q := by
  refine Ev.of rfl (fun _ => Nat.le_of_ble_eq_true rfl) ?_
  show Rn G (d + 1) 0 0 mX12_findGame 0 [(0, .inr (.inr (some 94))), (1, .inl a1), (2, .inl a2), (3, .inl a3)] [] SH h (QV Q)
  refine rn_aload_n dX12_findGame_0 rfl rfl ?_
  refine rn_cV (M' := mX12_keepAside) (n := 0) (av := []) (S := []) (rc := 0) (rs := 0) (mc := 0) (ms := 0) (a := 94) (ci := 11) (r := (RX12, TX12, 38)) dX12_findGame_1 pa_X12_keepAside (Nat.le_refl _) rfl (Nat.le_of_ble_eq_true rfl) ml_X12_244 im_X12_keepAside se_X12_keepAside rfl rfl rfl (Ev.mono V ?_)
  rintro v sh1 h1 ⟨rfl, Rh1, rfl, V⟩
  show Rn G (d + 1) 0 0 mX12_findGame 4 [(0, .inr (.inr (some 94))), (1, .inl a1), (2, .inl a2), (3, .inl a3)] [] SH h1 (QV Q)
  refine rn_aload_n dX12_findGame_4 rfl rfl ?_
  refine rn_get (v := .inr (.inr (some 95))) dX12_findGame_5 fl_X12_7 rfl rfl (congrArg (fun z => (Sum.inr (Sum.inr z) : MV)) (rf_94_0 Rh1)) ?_
  refine rn_iconst (v := 5) dX12_findGame_8 (by decide) ?_
  refine rn_iconst (v := 0) dX12_findGame_9 (by decide) ?_
  refine rn_iast (k := 5) dX12_findGame_10 rfl (by decide) (by unfold vp_in; decide) ?_
  refine rn_aload_n dX12_findGame_11 rfl rfl ?_
  refine rn_get (v := .inr (.inr (some 95))) dX12_findGame_12 fl_X12_7 rfl rfl (congrArg (fun z => (Sum.inr (Sum.inr z) : MV)) (rf_94_0 Rh1)) ?_
  refine rn_bipush (v := 6) dX12_findGame_15 (by decide) ?_
  refine rn_iconst (v := 0) dX12_findGame_17 (by decide) ?_
  refine rn_iast (k := 6) dX12_findGame_18 rfl (by decide) (by unfold vp_in; decide) ?_
  refine rn_aload_n dX12_findGame_19 rfl rfl ?_
  refine rn_get (v := .inr (.inr (some 95))) dX12_findGame_20 fl_X12_7 rfl rfl (congrArg (fun z => (Sum.inr (Sum.inr z) : MV)) (rf_94_0 Rh1)) ?_
  refine rn_bipush (v := 7) dX12_findGame_23 (by decide) ?_
  refine rn_iconst (v := 0) dX12_findGame_25 (by decide) ?_
  refine rn_iast (k := 7) dX12_findGame_26 rfl (by decide) (by unfold vp_in; decide) ?_
  refine rn_aload_n dX12_findGame_27 rfl rfl ?_
  refine rn_iload_n dX12_findGame_28 rfl rfl ?_
  refine rn_iconst (v := 4) dX12_findGame_29 (by decide) ?_
  refine rn_cV (M' := mX12_of) (n := 2) (av := [.inl a1, .inl 4]) (S := []) (rc := 0) (rs := 0) (mc := 0) (ms := 0) (a := 94) (ci := 11) (r := (RX12, TX12, 38)) dX12_findGame_30 pa_X12_of (Nat.le_refl _) rfl (Nat.le_of_ble_eq_true rfl) ml_X12_161 im_X12_of se_X12_of rfl rfl rfl (Ev.mono V ?_)
  rintro v sh1 h2 ⟨rfl, Rh2, x3, rfl, V⟩
  show Rn G (d + 1) 0 0 mX12_findGame 33 [(0, .inr (.inr (some 94))), (1, .inl a1), (2, .inl a2), (3, .inl a3)] [.inl x3] SH h2 (QV Q)
  refine rn_aload_n dX12_findGame_33 rfl rfl ?_
  refine rn_iload_n dX12_findGame_34 rfl rfl ?_
  refine rn_iconst (v := 4) dX12_findGame_35 (by decide) ?_
  refine rn_cV (M' := mX12_of) (n := 2) (av := [.inl a2, .inl 4]) (S := [.inl x3]) (rc := 0) (rs := 0) (mc := 0) (ms := 0) (a := 94) (ci := 11) (r := (RX12, TX12, 38)) dX12_findGame_36 pa_X12_of (Nat.le_refl _) rfl (Nat.le_of_ble_eq_true rfl) ml_X12_161 im_X12_of se_X12_of rfl rfl rfl (Ev.mono V ?_)
  rintro v sh1 h4 ⟨rfl, Rh4, x5, rfl, V⟩
  show Rn G (d + 1) 0 0 mX12_findGame 39 [(0, .inr (.inr (some 94))), (1, .inl a1), (2, .inl a2), (3, .inl a3)] [.inl x5, .inl x3] SH h4 (QV Q)
  refine rn_isub dX12_findGame_39 ?_
  refine rn_istore (L' := [(4, .inl (x3 - x5)), (0, .inr (.inr (some 94))), (1, .inl a1), (2, .inl a2), (3, .inl a3)]) dX12_findGame_40 (Nat.le_of_ble_eq_true rfl) rfl ?_
  refine rn_iconst (v := 0) dX12_findGame_42 (by decide) ?_
  refine rn_istore (L' := [(5, .inl 0), (4, .inl (x3 - x5)), (0, .inr (.inr (some 94))), (1, .inl a1), (2, .inl a2), (3, .inl a3)]) dX12_findGame_43 (Nat.le_of_ble_eq_true rfl) rfl ?_
  refine rn_aload_n dX12_findGame_45 rfl rfl ?_
  refine rn_iconst (v := 0) dX12_findGame_46 (by decide) ?_
  refine rn_cV (M' := mX12_standsAt) (n := 1) (av := [.inl 0]) (S := []) (rc := 0) (rs := 0) (mc := 0) (ms := 0) (a := 94) (ci := 11) (r := (RX12, TX12, 38)) dX12_findGame_47 pa_X12_standsAt (Nat.le_refl _) rfl (Nat.le_of_ble_eq_true rfl) ml_X12_290 im_X12_standsAt se_X12_standsAt rfl rfl rfl (Ev.mono V ?_)
  rintro v sh1 h6 ⟨rfl, Rh6, rfl, V⟩
  show Rn G (d + 1) 0 0 mX12_findGame 50 [(5, .inl 0), (4, .inl (x3 - x5)), (0, .inr (.inr (some 94))), (1, .inl a1), (2, .inl a2), (3, .inl a3)] [] SH h6 (QV Q)
  refine rn_sub [2, 3, 4, 5, 1, 0] (L' := [(0, .inr (.inr (some 94))), (1, .inl a1), (2, .inl a2), (3, .inl a3), (4, .inl (x3 - x5)), (5, .inl 0)]) rfl ?_
  exact V
set_option maxRecDepth 100000 in
set_option maxHeartbeats 4000000 in
theorem vc_X12_game {G : GT} {d : Nat} {a1 : Int32} {a2 : Int32} {a3 : Int32} {a4 : Int32}  {h : Hp} {Q : Int32 → Hp → Prop} (hR : RF h) (V : EvI G d mX12_isParty [.inr (.inr (some 94)), .inl a1] h (fun x2 h1 => ((x2 = 0 → EvI G d mX12_finds [.inr (.inr (some 94)), .inl 1] h1 (fun x5 h4 => Q x5 h4)) ∧ (¬ x2 = 0 → EvI G d mX12_isParty [.inr (.inr (some 94)), .inl a2] h1 (fun x7 h6 => ((x7 = 0 → EvI G d mX12_finds [.inr (.inr (some 94)), .inl 1] h6 (fun x10 h9 => Q x10 h9)) ∧ (¬ x7 = 0 → ((a1 = a2 → EvI G d mX12_finds [.inr (.inr (some 94)), .inl 1] h6 (fun x13 h12 => Q x13 h12)) ∧ (¬ a1 = a2 → EvI G d mX12_in [.inr (.inl (Int32.toInt64 a3)), .inr (.inl 1), .inr (.inl 4)] h6 (fun x15 h14 => ((x15 = 0 → EvI G d mX12_finds [.inr (.inr (some 94)), .inl 1] h14 (fun x18 h17 => Q x18 h17)) ∧ (¬ x15 = 0 → EvI G d mX12_in [.inr (.inl (Int32.toInt64 a4)), .inr (.inl 0), .inr (.inl 1)] h14 (fun x20 h19 => ((¬ x20 = 0 → EvV G d mX12_findGame [.inr (.inr (some 94)), .inl a1, .inl a2, .inl a3] h19 (fun h22 => ((¬ a4 = 0 → Q (h22.1 110 0) h22) ∧ (a4 = 0 → Q (h22.1 109 0) h22)))) ∧ (x20 = 0 → EvI G d mX12_finds [.inr (.inr (some 94)), .inl 1] h19 (fun x25 h24 => Q x25 h24)))))))))))))))) : EvI G (d + 1) mX12_game [.inr (.inr (some 94)), .inl a1, .inl a2, .inl a3, .inl a4] h Q := by
  refine Ev.of rfl (fun _ => Nat.le_of_ble_eq_true rfl) ?_
  show Rn G (d + 1) 0 0 mX12_game 0 [(0, .inr (.inr (some 94))), (1, .inl a1), (2, .inl a2), (3, .inl a3), (4, .inl a4)] [] SH h (QI Q)
  refine rn_aload_n dX12_game_0 rfl rfl ?_
  refine rn_iload_n dX12_game_1 rfl rfl ?_
  refine rn_cV (M' := mX12_isParty) (n := 1) (av := [.inl a1]) (S := []) (rc := 0) (rs := 0) (mc := 0) (ms := 0) (a := 94) (ci := 11) (r := (RX12, TX12, 38)) dX12_game_2 pa_X12_isParty (Nat.le_refl _) rfl (Nat.le_of_ble_eq_true rfl) ml_X12_174 im_X12_isParty se_X12_isParty rfl rfl rfl (Ev.mono V ?_)
  rintro v sh1 h1 ⟨rfl, Rh1, x2, rfl, V⟩
  show Rn G (d + 1) 0 0 mX12_game 5 [(0, .inr (.inr (some 94))), (1, .inl a1), (2, .inl a2), (3, .inl a3), (4, .inl a4)] [.inl x2] SH h1 (QI Q)
  refine rn_if_eq (tgt := 44) dX12_game_5 (by decide) (fun c3 => ?_) (fun c3 => ?_)
  · replace V := V.1 c3
    refine rn_aload_n dX12_game_44 rfl rfl ?_
    refine rn_iconst (v := 1) dX12_game_45 (by decide) ?_
    refine rn_cV (M' := mX12_finds) (n := 1) (av := [.inl 1]) (S := []) (rc := 0) (rs := 0) (mc := 0) (ms := 0) (a := 94) (ci := 11) (r := (RX12, TX12, 38)) dX12_game_46 pa_X12_finds (Nat.le_refl _) rfl (Nat.le_of_ble_eq_true rfl) ml_X12_143 im_X12_finds se_X12_finds rfl rfl rfl (Ev.mono V ?_)
    rintro v sh1 h4 ⟨rfl, Rh4, x5, rfl, V⟩
    show Rn G (d + 1) 0 0 mX12_game 49 [(0, .inr (.inr (some 94))), (1, .inl a1), (2, .inl a2), (3, .inl a3), (4, .inl a4)] [.inl x5] SH h4 (QI Q)
    exact rn_iret dX12_game_49 rfl ⟨rfl, Rh4, _, rfl, V⟩
  · replace V := V.2 c3
    refine rn_aload_n dX12_game_8 rfl rfl ?_
    refine rn_iload_n dX12_game_9 rfl rfl ?_
    refine rn_cV (M' := mX12_isParty) (n := 1) (av := [.inl a2]) (S := []) (rc := 0) (rs := 0) (mc := 0) (ms := 0) (a := 94) (ci := 11) (r := (RX12, TX12, 38)) dX12_game_10 pa_X12_isParty (Nat.le_refl _) rfl (Nat.le_of_ble_eq_true rfl) ml_X12_174 im_X12_isParty se_X12_isParty rfl rfl rfl (Ev.mono V ?_)
    rintro v sh1 h6 ⟨rfl, Rh6, x7, rfl, V⟩
    show Rn G (d + 1) 0 0 mX12_game 13 [(0, .inr (.inr (some 94))), (1, .inl a1), (2, .inl a2), (3, .inl a3), (4, .inl a4)] [.inl x7] SH h6 (QI Q)
    refine rn_if_eq (tgt := 44) dX12_game_13 (by decide) (fun c8 => ?_) (fun c8 => ?_)
    · replace V := V.1 c8
      refine rn_aload_n dX12_game_44 rfl rfl ?_
      refine rn_iconst (v := 1) dX12_game_45 (by decide) ?_
      refine rn_cV (M' := mX12_finds) (n := 1) (av := [.inl 1]) (S := []) (rc := 0) (rs := 0) (mc := 0) (ms := 0) (a := 94) (ci := 11) (r := (RX12, TX12, 38)) dX12_game_46 pa_X12_finds (Nat.le_refl _) rfl (Nat.le_of_ble_eq_true rfl) ml_X12_143 im_X12_finds se_X12_finds rfl rfl rfl (Ev.mono V ?_)
      rintro v sh1 h9 ⟨rfl, Rh9, x10, rfl, V⟩
      show Rn G (d + 1) 0 0 mX12_game 49 [(0, .inr (.inr (some 94))), (1, .inl a1), (2, .inl a2), (3, .inl a3), (4, .inl a4)] [.inl x10] SH h9 (QI Q)
      exact rn_iret dX12_game_49 rfl ⟨rfl, Rh9, _, rfl, V⟩
    · replace V := V.2 c8
      refine rn_iload_n dX12_game_16 rfl rfl ?_
      refine rn_iload_n dX12_game_17 rfl rfl ?_
      refine rn_icmp_eq (tgt := 44) dX12_game_18 (by decide) (fun c11 => ?_) (fun c11 => ?_)
      · replace V := V.1 c11
        refine rn_aload_n dX12_game_44 rfl rfl ?_
        refine rn_iconst (v := 1) dX12_game_45 (by decide) ?_
        refine rn_cV (M' := mX12_finds) (n := 1) (av := [.inl 1]) (S := []) (rc := 0) (rs := 0) (mc := 0) (ms := 0) (a := 94) (ci := 11) (r := (RX12, TX12, 38)) dX12_game_46 pa_X12_finds (Nat.le_refl _) rfl (Nat.le_of_ble_eq_true rfl) ml_X12_143 im_X12_finds se_X12_finds rfl rfl rfl (Ev.mono V ?_)
        rintro v sh1 h12 ⟨rfl, Rh12, x13, rfl, V⟩
        show Rn G (d + 1) 0 0 mX12_game 49 [(0, .inr (.inr (some 94))), (1, .inl a1), (2, .inl a2), (3, .inl a3), (4, .inl a4)] [.inl x13] SH h12 (QI Q)
        exact rn_iret dX12_game_49 rfl ⟨rfl, Rh12, _, rfl, V⟩
      · replace V := V.2 c11
        refine rn_iload_n dX12_game_21 rfl rfl ?_
        refine rn_i2l dX12_game_22 ?_
        refine rn_lconst (v := 1) dX12_game_23 rfl ?_
        refine rn_ldc2 (v := 4) dX12_game_24 cw_X12_205 ?_
        refine rn_cS (M' := mX12_in) (n := 3) (av := [.inr (.inl (Int32.toInt64 a3)), .inr (.inl 1), .inr (.inl 4)]) (S := []) (rc := 0) (rs := 0) (mc := 0) (ms := 0) dX12_game_27 pa_X12_in (Nat.le_refl _) rfl (Nat.le_of_ble_eq_true rfl) ml_X12_80 ss_X12_in rfl (Ev.mono V ?_)
        rintro v sh1 h14 ⟨rfl, Rh14, x15, rfl, V⟩
        show Rn G (d + 1) 0 0 mX12_game 30 [(0, .inr (.inr (some 94))), (1, .inl a1), (2, .inl a2), (3, .inl a3), (4, .inl a4)] [.inl x15] SH h14 (QI Q)
        refine rn_if_eq (tgt := 44) dX12_game_30 (by decide) (fun c16 => ?_) (fun c16 => ?_)
        · replace V := V.1 c16
          refine rn_aload_n dX12_game_44 rfl rfl ?_
          refine rn_iconst (v := 1) dX12_game_45 (by decide) ?_
          refine rn_cV (M' := mX12_finds) (n := 1) (av := [.inl 1]) (S := []) (rc := 0) (rs := 0) (mc := 0) (ms := 0) (a := 94) (ci := 11) (r := (RX12, TX12, 38)) dX12_game_46 pa_X12_finds (Nat.le_refl _) rfl (Nat.le_of_ble_eq_true rfl) ml_X12_143 im_X12_finds se_X12_finds rfl rfl rfl (Ev.mono V ?_)
          rintro v sh1 h17 ⟨rfl, Rh17, x18, rfl, V⟩
          show Rn G (d + 1) 0 0 mX12_game 49 [(0, .inr (.inr (some 94))), (1, .inl a1), (2, .inl a2), (3, .inl a3), (4, .inl a4)] [.inl x18] SH h17 (QI Q)
          exact rn_iret dX12_game_49 rfl ⟨rfl, Rh17, _, rfl, V⟩
        · replace V := V.2 c16
          refine rn_iload dX12_game_33 rfl ?_
          refine rn_i2l dX12_game_35 ?_
          refine rn_lconst (v := 0) dX12_game_36 rfl ?_
          refine rn_lconst (v := 1) dX12_game_37 rfl ?_
          refine rn_cS (M' := mX12_in) (n := 3) (av := [.inr (.inl (Int32.toInt64 a4)), .inr (.inl 0), .inr (.inl 1)]) (S := []) (rc := 0) (rs := 0) (mc := 0) (ms := 0) dX12_game_38 pa_X12_in (Nat.le_refl _) rfl (Nat.le_of_ble_eq_true rfl) ml_X12_80 ss_X12_in rfl (Ev.mono V ?_)
          rintro v sh1 h19 ⟨rfl, Rh19, x20, rfl, V⟩
          show Rn G (d + 1) 0 0 mX12_game 41 [(0, .inr (.inr (some 94))), (1, .inl a1), (2, .inl a2), (3, .inl a3), (4, .inl a4)] [.inl x20] SH h19 (QI Q)
          refine rn_if_ne (tgt := 50) dX12_game_41 (by decide) (fun c21 => ?_) (fun c21 => ?_)
          · replace V := V.1 c21
            refine rn_aload_n dX12_game_50 rfl rfl ?_
            refine rn_iload_n dX12_game_51 rfl rfl ?_
            refine rn_iload_n dX12_game_52 rfl rfl ?_
            refine rn_iload_n dX12_game_53 rfl rfl ?_
            refine rn_cV (M' := mX12_findGame) (n := 3) (av := [.inl a1, .inl a2, .inl a3]) (S := []) (rc := 0) (rs := 0) (mc := 0) (ms := 0) (a := 94) (ci := 11) (r := (RX12, TX12, 38)) dX12_game_54 pa_X12_findGame (Nat.le_refl _) rfl (Nat.le_of_ble_eq_true rfl) ml_X12_305 im_X12_findGame se_X12_findGame rfl rfl rfl (Ev.mono V ?_)
            rintro v sh1 h22 ⟨rfl, Rh22, rfl, V⟩
            show Rn G (d + 1) 0 0 mX12_game 57 [(0, .inr (.inr (some 94))), (1, .inl a1), (2, .inl a2), (3, .inl a3), (4, .inl a4)] [] SH h22 (QI Q)
            refine rn_iload dX12_game_57 rfl ?_
            refine rn_if_ne (tgt := 71) dX12_game_59 (by decide) (fun c23 => ?_) (fun c23 => ?_)
            · replace V := V.1 c23
              refine rn_aload_n dX12_game_71 rfl rfl ?_
              refine rn_get (v := .inr (.inr (some 110))) dX12_game_72 fl_X12_55 rfl rfl (congrArg (fun z => (Sum.inr (Sum.inr z) : MV)) (rf_94_27 Rh22)) ?_
              refine rn_iconst (v := 0) dX12_game_75 (by decide) ?_
              refine rn_iald (k := 0) dX12_game_76 rfl (by decide) (by unfold vp_in; decide) ?_
              exact rn_iret dX12_game_77 rfl ⟨rfl, Rh22, _, rfl, V⟩
            · replace V := V.2 c23
              refine rn_aload_n dX12_game_62 rfl rfl ?_
              refine rn_get (v := .inr (.inr (some 109))) dX12_game_63 fl_X12_52 rfl rfl (congrArg (fun z => (Sum.inr (Sum.inr z) : MV)) (rf_94_26 Rh22)) ?_
              refine rn_iconst (v := 0) dX12_game_66 (by decide) ?_
              refine rn_iald (k := 0) dX12_game_67 rfl (by decide) (by unfold vp_in; decide) ?_
              refine rn_goto (tgt := 77) dX12_game_68 (by decide) ?_
              exact rn_iret dX12_game_77 rfl ⟨rfl, Rh22, _, rfl, V⟩
          · replace V := V.2 c21
            refine rn_aload_n dX12_game_44 rfl rfl ?_
            refine rn_iconst (v := 1) dX12_game_45 (by decide) ?_
            refine rn_cV (M' := mX12_finds) (n := 1) (av := [.inl 1]) (S := []) (rc := 0) (rs := 0) (mc := 0) (ms := 0) (a := 94) (ci := 11) (r := (RX12, TX12, 38)) dX12_game_46 pa_X12_finds (Nat.le_refl _) rfl (Nat.le_of_ble_eq_true rfl) ml_X12_143 im_X12_finds se_X12_finds rfl rfl rfl (Ev.mono V ?_)
            rintro v sh1 h24 ⟨rfl, Rh24, x25, rfl, V⟩
            show Rn G (d + 1) 0 0 mX12_game 49 [(0, .inr (.inr (some 94))), (1, .inl a1), (2, .inl a2), (3, .inl a3), (4, .inl a4)] [.inl x25] SH h24 (QI Q)
            exact rn_iret dX12_game_49 rfl ⟨rfl, Rh24, _, rfl, V⟩
def Rg_X12_hearsOf_5 (G : GT) (d : Nat) (l1 : Int32) (l2 : Int32) (l3 : Int32) (l4 : Int32) (h : Hp) (Q : Hp → Prop) : Prop := Rn G (d + 1) 0 0 mX12_hearsOf 5 [(0, .inr (.inr (some 94))), (1, .inl l1), (2, .inl l2), (3, .inl l3), (4, .inl l4)] [] SH h (QV Q)
set_option maxRecDepth 100000 in
set_option maxHeartbeats 4000000 in
theorem vc_X12_hearsOf_5 {G : GT} {d : Nat} {l1 : Int32} {l2 : Int32} {l3 : Int32} {l4 : Int32}  {h : Hp} {Q : Hp → Prop} (hR : RF h) (V : ((h.1 95 1 ≤ l4 → Q h) ∧ (¬ h.1 95 1 ≤ l4 → ((5 ≤ l3 → Q h) ∧ (¬ 5 ≤ l3 → EvI G d mX12_its [.inr (.inr (some 94)), .inl l4, .inl 0] h (fun x4 h3 => ((¬ x4 = l1 → Rg_X12_hearsOf_5 G d l1 l2 l3 (l4 + 1) h3 Q) ∧ (x4 = l1 → EvI G d mX12_its [.inr (.inr (some 94)), .inl l4, .inl 4] h3 (fun x7 h6 => ((¬ x7 = 1 → Rg_X12_hearsOf_5 G d l1 l2 l3 (l4 + 1) h6 Q) ∧ (x7 = 1 → EvI G d mX12_its [.inr (.inr (some 94)), .inl l4, .inl 2] h6 (fun x10 h9 => vp_in (h6.1 94 30) 10 ∧ Rg_X12_hearsOf_5 G d l1 l2 (l3 + 1) (l4 + 1) (sI (sI h9 112 (Int32.toNatClampNeg (h6.1 94 30)) (l2 * x10)) 94 30 (h9.1 94 30 + 1)) Q)))))))))))) : Rg_X12_hearsOf_5 G d l1 l2 l3 l4 h Q := by
  show Rn G (d + 1) 0 0 mX12_hearsOf 5 [(0, .inr (.inr (some 94))), (1, .inl l1), (2, .inl l2), (3, .inl l3), (4, .inl l4)] [] SH h (QV Q)
  refine rn_iload dX12_hearsOf_5 rfl ?_
  refine rn_aload_n dX12_hearsOf_7 rfl rfl ?_
  refine rn_get (v := .inr (.inr (some 95))) dX12_hearsOf_8 fl_X12_7 rfl rfl (congrArg (fun z => (Sum.inr (Sum.inr z) : MV)) (rf_94_0 hR)) ?_
  refine rn_iconst (v := 1) dX12_hearsOf_11 (by decide) ?_
  refine rn_iald (k := 1) dX12_hearsOf_12 rfl (by decide) (by unfold vp_in; decide) ?_
  refine rn_icmp_ge (tgt := 80) dX12_hearsOf_13 (by decide) (fun c1 => ?_) (fun c1 => ?_)
  · replace V := V.1 c1
    exact rn_vret dX12_hearsOf_80 rfl ⟨rfl, hR, rfl, V⟩
  · replace V := V.2 c1
    refine rn_iload_n dX12_hearsOf_16 rfl rfl ?_
    refine rn_iconst (v := 5) dX12_hearsOf_17 (by decide) ?_
    refine rn_icmp_ge (tgt := 80) dX12_hearsOf_18 (by decide) (fun c2 => ?_) (fun c2 => ?_)
    · replace V := V.1 c2
      exact rn_vret dX12_hearsOf_80 rfl ⟨rfl, hR, rfl, V⟩
    · replace V := V.2 c2
      refine rn_aload_n dX12_hearsOf_21 rfl rfl ?_
      refine rn_iload dX12_hearsOf_22 rfl ?_
      refine rn_iconst (v := 0) dX12_hearsOf_24 (by decide) ?_
      refine rn_cV (M' := mX12_its) (n := 2) (av := [.inl l4, .inl 0]) (S := []) (rc := 0) (rs := 0) (mc := 0) (ms := 0) (a := 94) (ci := 11) (r := (RX12, TX12, 38)) dX12_hearsOf_25 pa_X12_its (Nat.le_refl _) rfl (Nat.le_of_ble_eq_true rfl) ml_X12_171 im_X12_its se_X12_its rfl rfl rfl (Ev.mono V ?_)
      rintro v sh1 h3 ⟨rfl, Rh3, x4, rfl, V⟩
      show Rn G (d + 1) 0 0 mX12_hearsOf 28 [(0, .inr (.inr (some 94))), (1, .inl l1), (2, .inl l2), (3, .inl l3), (4, .inl l4)] [.inl x4] SH h3 (QV Q)
      refine rn_iload_n dX12_hearsOf_28 rfl rfl ?_
      refine rn_icmp_ne (tgt := 74) dX12_hearsOf_29 (by decide) (fun c5 => ?_) (fun c5 => ?_)
      · replace V := V.1 c5
        refine rn_iinc (L' := [(4, .inl (l4 + 1)), (0, .inr (.inr (some 94))), (1, .inl l1), (2, .inl l2), (3, .inl l3)]) dX12_hearsOf_74 rfl (v := (l4 + 1)) rfl (Nat.le_of_ble_eq_true rfl) rfl ?_
        refine rn_goto (tgt := 5) dX12_hearsOf_77 (by decide) ?_
        refine rn_sub [1, 2, 3, 4, 0] (L' := [(0, .inr (.inr (some 94))), (1, .inl l1), (2, .inl l2), (3, .inl l3), (4, .inl (l4 + 1))]) rfl ?_
        exact V
      · replace V := V.2 c5
        refine rn_aload_n dX12_hearsOf_32 rfl rfl ?_
        refine rn_iload dX12_hearsOf_33 rfl ?_
        refine rn_iconst (v := 4) dX12_hearsOf_35 (by decide) ?_
        refine rn_cV (M' := mX12_its) (n := 2) (av := [.inl l4, .inl 4]) (S := []) (rc := 0) (rs := 0) (mc := 0) (ms := 0) (a := 94) (ci := 11) (r := (RX12, TX12, 38)) dX12_hearsOf_36 pa_X12_its (Nat.le_refl _) rfl (Nat.le_of_ble_eq_true rfl) ml_X12_171 im_X12_its se_X12_its rfl rfl rfl (Ev.mono V ?_)
        rintro v sh1 h6 ⟨rfl, Rh6, x7, rfl, V⟩
        show Rn G (d + 1) 0 0 mX12_hearsOf 39 [(0, .inr (.inr (some 94))), (1, .inl l1), (2, .inl l2), (3, .inl l3), (4, .inl l4)] [.inl x7] SH h6 (QV Q)
        refine rn_iconst (v := 1) dX12_hearsOf_39 (by decide) ?_
        refine rn_icmp_ne (tgt := 74) dX12_hearsOf_40 (by decide) (fun c8 => ?_) (fun c8 => ?_)
        · replace V := V.1 c8
          refine rn_iinc (L' := [(4, .inl (l4 + 1)), (0, .inr (.inr (some 94))), (1, .inl l1), (2, .inl l2), (3, .inl l3)]) dX12_hearsOf_74 rfl (v := (l4 + 1)) rfl (Nat.le_of_ble_eq_true rfl) rfl ?_
          refine rn_goto (tgt := 5) dX12_hearsOf_77 (by decide) ?_
          refine rn_sub [1, 2, 3, 4, 0] (L' := [(0, .inr (.inr (some 94))), (1, .inl l1), (2, .inl l2), (3, .inl l3), (4, .inl (l4 + 1))]) rfl ?_
          exact V
        · replace V := V.2 c8
          refine rn_aload_n dX12_hearsOf_43 rfl rfl ?_
          refine rn_get (v := .inr (.inr (some 112))) dX12_hearsOf_44 fl_X12_61 rfl rfl (congrArg (fun z => (Sum.inr (Sum.inr z) : MV)) (rf_94_29 Rh6)) ?_
          refine rn_aload_n dX12_hearsOf_47 rfl rfl ?_
          refine rn_get (v := .inl (h6.1 94 30)) dX12_hearsOf_48 fl_X12_308 rfl rfl rfl ?_
          refine rn_iload_n dX12_hearsOf_51 rfl rfl ?_
          refine rn_aload_n dX12_hearsOf_52 rfl rfl ?_
          refine rn_iload dX12_hearsOf_53 rfl ?_
          refine rn_iconst (v := 2) dX12_hearsOf_55 (by decide) ?_
          refine rn_cV (M' := mX12_its) (n := 2) (av := [.inl l4, .inl 2]) (S := [.inl l2, .inl (h6.1 94 30), .inr (.inr (some 112))]) (rc := 0) (rs := 0) (mc := 0) (ms := 0) (a := 94) (ci := 11) (r := (RX12, TX12, 38)) dX12_hearsOf_56 pa_X12_its (Nat.le_refl _) rfl (Nat.le_of_ble_eq_true rfl) ml_X12_171 im_X12_its se_X12_its rfl rfl rfl (Ev.mono V ?_)
          rintro v sh1 h9 ⟨rfl, Rh9, x10, rfl, V⟩
          show Rn G (d + 1) 0 0 mX12_hearsOf 59 [(0, .inr (.inr (some 94))), (1, .inl l1), (2, .inl l2), (3, .inl l3), (4, .inl l4)] [.inl x10, .inl l2, .inl (h6.1 94 30), .inr (.inr (some 112))] SH h9 (QV Q)
          refine rn_imul dX12_hearsOf_59 ?_
          obtain ⟨g0, V⟩ := V
          refine rn_iast (k := (Int32.toNatClampNeg (h6.1 94 30))) dX12_hearsOf_60 rfl rfl g0 ?_
          refine rn_aload_n dX12_hearsOf_61 rfl rfl ?_
          refine rn_dup dX12_hearsOf_62 rfl ?_
          refine rn_get (v := .inl (h9.1 94 30)) dX12_hearsOf_63 fl_X12_308 rfl rfl rfl ?_
          refine rn_iconst (v := 1) dX12_hearsOf_66 (by decide) ?_
          refine rn_iadd dX12_hearsOf_67 ?_
          refine rn_putI dX12_hearsOf_68 fl_X12_308 rfl rfl (Or.inl rfl) rfl rfl ?_
          refine rn_iinc (L' := [(3, .inl (l3 + 1)), (0, .inr (.inr (some 94))), (1, .inl l1), (2, .inl l2), (4, .inl l4)]) dX12_hearsOf_71 rfl (v := (l3 + 1)) rfl (Nat.le_of_ble_eq_true rfl) rfl ?_
          refine rn_iinc (L' := [(4, .inl (l4 + 1)), (3, .inl (l3 + 1)), (0, .inr (.inr (some 94))), (1, .inl l1), (2, .inl l2)]) dX12_hearsOf_74 rfl (v := (l4 + 1)) rfl (Nat.le_of_ble_eq_true rfl) rfl ?_
          refine rn_goto (tgt := 5) dX12_hearsOf_77 (by decide) ?_
          refine rn_sub [2, 3, 4, 1, 0] (L' := [(0, .inr (.inr (some 94))), (1, .inl l1), (2, .inl l2), (3, .inl (l3 + 1)), (4, .inl (l4 + 1))]) rfl ?_
          exact V
set_option maxRecDepth 100000 in
set_option maxHeartbeats 4000000 in
theorem vc_X12_hearsOf {G : GT} {d : Nat} {a1 : Int32} {a2 : Int32}  {h : Hp} {Q : Hp → Prop} (hR : RF h) (V : Rg_X12_hearsOf_5 G d a1 a2 0 0 h Q) : EvV G (d + 1) mX12_hearsOf [.inr (.inr (some 94)), .inl a1, .inl a2] h Q := by
  refine Ev.of rfl (fun _ => Nat.le_of_ble_eq_true rfl) ?_
  show Rn G (d + 1) 0 0 mX12_hearsOf 0 [(0, .inr (.inr (some 94))), (1, .inl a1), (2, .inl a2)] [] SH h (QV Q)
  refine rn_iconst (v := 0) dX12_hearsOf_0 (by decide) ?_
  refine rn_istore_n (L' := [(3, .inl 0), (0, .inr (.inr (some 94))), (1, .inl a1), (2, .inl a2)]) dX12_hearsOf_1 rfl (Nat.le_of_ble_eq_true rfl) rfl ?_
  refine rn_iconst (v := 0) dX12_hearsOf_2 (by decide) ?_
  refine rn_istore (L' := [(4, .inl 0), (3, .inl 0), (0, .inr (.inr (some 94))), (1, .inl a1), (2, .inl a2)]) dX12_hearsOf_3 (Nat.le_of_ble_eq_true rfl) rfl ?_
  refine rn_sub [2, 3, 4, 1, 0] (L' := [(0, .inr (.inr (some 94))), (1, .inl a1), (2, .inl a2), (3, .inl 0), (4, .inl 0)]) rfl ?_
  exact V
def Rg_X12_odds_77 (G : GT) (d : Nat) (l3 : Int32) (l4 : Int32) (l5 : Int64) (l7 : Int64) (l9 : Int32) (h : Hp) (Q : Int64 → Hp → Prop) : Prop := Rn G (d + 1) 0 0 mX12_odds 77 [(0, .inr (.inr (some 94))), (3, .inl l3), (4, .inl l4), (5, .inr (.inl l5)), (7, .inr (.inl l7)), (9, .inl l9)] [] SH h (QL Q)
def Rg_X12_odds_103 (G : GT) (d : Nat) (l3 : Int32) (l4 : Int32) (l5 : Int64) (l7 : Int64) (l9 : Int32) (h : Hp) (Q : Int64 → Hp → Prop) : Prop := Rn G (d + 1) 0 0 mX12_odds 103 [(0, .inr (.inr (some 94))), (3, .inl l3), (4, .inl l4), (5, .inr (.inl l5)), (7, .inr (.inl l7)), (9, .inl l9)] [] SH h (QL Q)
def Rg_X12_odds_123 (G : GT) (d : Nat) (l3 : Int32) (l4 : Int32) (l5 : Int64) (l7 : Int64) (l9 : Int32) (l10 : Int32) (l11 : Int64) (l13 : Int32) (h : Hp) (Q : Int64 → Hp → Prop) : Prop := Rn G (d + 1) 0 0 mX12_odds 123 [(0, .inr (.inr (some 94))), (3, .inl l3), (4, .inl l4), (5, .inr (.inl l5)), (7, .inr (.inl l7)), (9, .inl l9), (10, .inl l10), (11, .inr (.inl l11)), (13, .inl l13)] [] SH h (QL Q)
set_option maxRecDepth 100000 in
set_option maxHeartbeats 4000000 in
theorem vc_X12_odds_77 {G : GT} {d : Nat} {l3 : Int32} {l4 : Int32} {l5 : Int64} {l7 : Int64} {l9 : Int32}  {h : Hp} {Q : Int64 → Hp → Prop} (hR : RF h) (V : ((h.1 94 30 ≤ l9 → Rg_X12_odds_103 G d l3 l4 l5 l7 0 h Q) ∧ (¬ h.1 94 30 ≤ l9 → Rg_X12_odds_77 G d l3 l4 l5 (l7 * 16) (l9 + 1) h Q))) : Rg_X12_odds_77 G d l3 l4 l5 l7 l9 h Q := by
  show Rn G (d + 1) 0 0 mX12_odds 77 [(0, .inr (.inr (some 94))), (3, .inl l3), (4, .inl l4), (5, .inr (.inl l5)), (7, .inr (.inl l7)), (9, .inl l9)] [] SH h (QL Q)
  refine rn_iload dX12_odds_77 rfl ?_
  refine rn_aload_n dX12_odds_79 rfl rfl ?_
  refine rn_get (v := .inl (h.1 94 30)) dX12_odds_80 fl_X12_308 rfl rfl rfl ?_
  refine rn_icmp_ge (tgt := 100) dX12_odds_83 (by decide) (fun c26 => ?_) (fun c26 => ?_)
  · replace V := V.1 c26
    refine rn_iconst (v := 0) dX12_odds_100 (by decide) ?_
    refine rn_istore (L' := [(9, .inl 0), (0, .inr (.inr (some 94))), (3, .inl l3), (4, .inl l4), (5, .inr (.inl l5)), (7, .inr (.inl l7))]) dX12_odds_101 (Nat.le_of_ble_eq_true rfl) rfl ?_
    refine rn_sub [1, 2, 3, 4, 5, 0] (L' := [(0, .inr (.inr (some 94))), (3, .inl l3), (4, .inl l4), (5, .inr (.inl l5)), (7, .inr (.inl l7)), (9, .inl 0)]) rfl ?_
    exact V
  · replace V := V.2 c26
    refine rn_lload dX12_odds_86 rfl ?_
    refine rn_ldc2 (v := 16) dX12_odds_88 cw_X12_311 ?_
    refine rn_lmul dX12_odds_91 ?_
    refine rn_lstore (L' := [(7, .inr (.inl (l7 * 16))), (0, .inr (.inr (some 94))), (3, .inl l3), (4, .inl l4), (5, .inr (.inl l5)), (9, .inl l9)]) dX12_odds_92 (Nat.le_of_ble_eq_true rfl) rfl ?_
    refine rn_iinc (L' := [(9, .inl (l9 + 1)), (7, .inr (.inl (l7 * 16))), (0, .inr (.inr (some 94))), (3, .inl l3), (4, .inl l4), (5, .inr (.inl l5))]) dX12_odds_94 rfl (v := (l9 + 1)) rfl (Nat.le_of_ble_eq_true rfl) rfl ?_
    refine rn_goto (tgt := 77) dX12_odds_97 (by decide) ?_
    refine rn_sub [2, 3, 4, 5, 1, 0] (L' := [(0, .inr (.inr (some 94))), (3, .inl l3), (4, .inl l4), (5, .inr (.inl l5)), (7, .inr (.inl (l7 * 16))), (9, .inl (l9 + 1))]) rfl ?_
    exact V
set_option maxRecDepth 100000 in
set_option maxHeartbeats 4000000 in
theorem vc_X12_odds_103 {G : GT} {d : Nat} {l3 : Int32} {l4 : Int32} {l5 : Int64} {l7 : Int64} {l9 : Int32}  {h : Hp} {Q : Int64 → Hp → Prop} (hR : RF h) (V : (((1 <<< ((h.1 94 30) &&& 31)) ≤ l9 → EvL G d mX12_common [.inr (.inl l5), .inr (.inl l7)] h (fun x29 h28 => ((¬ l4 = 0 → ¬ x29 = 0 ∧ Q (l7 / x29) h28) ∧ (l4 = 0 → ¬ x29 = 0 ∧ Q (l5 / x29) h28)))) ∧ (¬ (1 <<< ((h.1 94 30) &&& 31)) ≤ l9 → Rg_X12_odds_123 G d l3 l4 l5 l7 l9 0 1 0 h Q))) : Rg_X12_odds_103 G d l3 l4 l5 l7 l9 h Q := by
  show Rn G (d + 1) 0 0 mX12_odds 103 [(0, .inr (.inr (some 94))), (3, .inl l3), (4, .inl l4), (5, .inr (.inl l5)), (7, .inr (.inl l7)), (9, .inl l9)] [] SH h (QL Q)
  refine rn_iload dX12_odds_103 rfl ?_
  refine rn_iconst (v := 1) dX12_odds_105 (by decide) ?_
  refine rn_aload_n dX12_odds_106 rfl rfl ?_
  refine rn_get (v := .inl (h.1 94 30)) dX12_odds_107 fl_X12_308 rfl rfl rfl ?_
  refine rn_ishl dX12_odds_110 ?_
  refine rn_icmp_ge (tgt := 219) dX12_odds_111 (by decide) (fun c27 => ?_) (fun c27 => ?_)
  · replace V := V.1 c27
    refine rn_lload dX12_odds_219 rfl ?_
    refine rn_lload dX12_odds_221 rfl ?_
    refine rn_cS (M' := mX12_common) (n := 2) (av := [.inr (.inl l5), .inr (.inl l7)]) (S := []) (rc := 0) (rs := 0) (mc := 0) (ms := 0) dX12_odds_223 pa_X12_common (Nat.le_refl _) rfl (Nat.le_of_ble_eq_true rfl) ml_X12_286 ss_X12_common rfl (Ev.mono V ?_)
    rintro v sh1 h28 ⟨rfl, Rh28, x29, rfl, V⟩
    show Rn G (d + 1) 0 0 mX12_odds 226 [(0, .inr (.inr (some 94))), (3, .inl l3), (4, .inl l4), (5, .inr (.inl l5)), (7, .inr (.inl l7)), (9, .inl l9)] [.inr (.inl x29)] SH h28 (QL Q)
    refine rn_lstore (L' := [(9, .inr (.inl x29)), (0, .inr (.inr (some 94))), (3, .inl l3), (4, .inl l4), (5, .inr (.inl l5)), (7, .inr (.inl l7))]) dX12_odds_226 (Nat.le_of_ble_eq_true rfl) rfl ?_
    refine rn_iload dX12_odds_228 rfl ?_
    refine rn_if_ne (tgt := 238) dX12_odds_230 (by decide) (fun c30 => ?_) (fun c30 => ?_)
    · replace V := V.1 c30
      refine rn_lload dX12_odds_238 rfl ?_
      refine rn_lload dX12_odds_240 rfl ?_
      obtain ⟨g, V⟩ := V
      refine rn_ldiv dX12_odds_242 g ?_
      exact rn_lret dX12_odds_243 rfl ⟨rfl, Rh28, _, rfl, V⟩
    · replace V := V.2 c30
      refine rn_lload dX12_odds_233 rfl ?_
      refine rn_goto (tgt := 240) dX12_odds_235 (by decide) ?_
      refine rn_lload dX12_odds_240 rfl ?_
      obtain ⟨g, V⟩ := V
      refine rn_ldiv dX12_odds_242 g ?_
      exact rn_lret dX12_odds_243 rfl ⟨rfl, Rh28, _, rfl, V⟩
  · replace V := V.2 c27
    refine rn_iconst (v := 0) dX12_odds_114 (by decide) ?_
    refine rn_istore (L' := [(10, .inl 0), (0, .inr (.inr (some 94))), (3, .inl l3), (4, .inl l4), (5, .inr (.inl l5)), (7, .inr (.inl l7)), (9, .inl l9)]) dX12_odds_115 (Nat.le_of_ble_eq_true rfl) rfl ?_
    refine rn_lconst (v := 1) dX12_odds_117 rfl ?_
    refine rn_lstore (L' := [(11, .inr (.inl 1)), (10, .inl 0), (0, .inr (.inr (some 94))), (3, .inl l3), (4, .inl l4), (5, .inr (.inl l5)), (7, .inr (.inl l7)), (9, .inl l9)]) dX12_odds_118 (Nat.le_of_ble_eq_true rfl) rfl ?_
    refine rn_iconst (v := 0) dX12_odds_120 (by decide) ?_
    refine rn_istore (L' := [(13, .inl 0), (11, .inr (.inl 1)), (10, .inl 0), (0, .inr (.inr (some 94))), (3, .inl l3), (4, .inl l4), (5, .inr (.inl l5)), (7, .inr (.inl l7)), (9, .inl l9)]) dX12_odds_121 (Nat.le_of_ble_eq_true rfl) rfl ?_
    refine rn_sub [3, 4, 5, 6, 7, 8, 2, 1, 0] (L' := [(0, .inr (.inr (some 94))), (3, .inl l3), (4, .inl l4), (5, .inr (.inl l5)), (7, .inr (.inl l7)), (9, .inl l9), (10, .inl 0), (11, .inr (.inl 1)), (13, .inl 0)]) rfl ?_
    exact V
set_option maxRecDepth 100000 in
set_option maxHeartbeats 4000000 in
theorem vc_X12_odds_123 {G : GT} {d : Nat} {l3 : Int32} {l4 : Int32} {l5 : Int64} {l7 : Int64} {l9 : Int32} {l10 : Int32} {l11 : Int64} {l13 : Int32}  {h : Hp} {Q : Int64 → Hp → Prop} (hR : RF h) (V : ((h.1 94 30 ≤ l13 → ((l10 ≤ 0 → Rg_X12_odds_103 G d l3 l4 (l5 + 0) l7 (l9 + 1) h Q) ∧ (¬ l10 ≤ 0 → Rg_X12_odds_103 G d l3 l4 (l5 + l11) l7 (l9 + 1) h Q))) ∧ (¬ h.1 94 30 ≤ l13 → ((¬ ((l9 >>> (l13 &&& 31)) &&& 1) = 1 → Rg_X12_odds_123 G d l3 l4 l5 l7 l9 (l10 + 0) (l11 * (Int32.toInt64 (16 - l3))) (l13 + 1) h Q) ∧ (((l9 >>> (l13 &&& 31)) &&& 1) = 1 → vp_in l13 10 ∧ Rg_X12_odds_123 G d l3 l4 l5 l7 l9 (l10 + h.1 112 (Int32.toNatClampNeg l13)) (l11 * (Int32.toInt64 l3)) (l13 + 1) h Q))))) : Rg_X12_odds_123 G d l3 l4 l5 l7 l9 l10 l11 l13 h Q := by
  show Rn G (d + 1) 0 0 mX12_odds 123 [(0, .inr (.inr (some 94))), (3, .inl l3), (4, .inl l4), (5, .inr (.inl l5)), (7, .inr (.inl l7)), (9, .inl l9), (10, .inl l10), (11, .inr (.inl l11)), (13, .inl l13)] [] SH h (QL Q)
  refine rn_iload dX12_odds_123 rfl ?_
  refine rn_aload_n dX12_odds_125 rfl rfl ?_
  refine rn_get (v := .inl (h.1 94 30)) dX12_odds_126 fl_X12_308 rfl rfl rfl ?_
  refine rn_icmp_ge (tgt := 197) dX12_odds_129 (by decide) (fun c31 => ?_) (fun c31 => ?_)
  · replace V := V.1 c31
    refine rn_lload dX12_odds_197 rfl ?_
    refine rn_iload dX12_odds_199 rfl ?_
    refine rn_if_le (tgt := 209) dX12_odds_201 (by decide) (fun c32 => ?_) (fun c32 => ?_)
    · replace V := V.1 c32
      refine rn_lconst (v := 0) dX12_odds_209 rfl ?_
      refine rn_ladd dX12_odds_210 ?_
      refine rn_lstore (L' := [(5, .inr (.inl (l5 + 0))), (0, .inr (.inr (some 94))), (3, .inl l3), (4, .inl l4), (7, .inr (.inl l7)), (9, .inl l9), (10, .inl l10), (11, .inr (.inl l11)), (13, .inl l13)]) dX12_odds_211 (Nat.le_of_ble_eq_true rfl) rfl ?_
      refine rn_iinc (L' := [(9, .inl (l9 + 1)), (5, .inr (.inl (l5 + 0))), (0, .inr (.inr (some 94))), (3, .inl l3), (4, .inl l4), (7, .inr (.inl l7)), (10, .inl l10), (11, .inr (.inl l11)), (13, .inl l13)]) dX12_odds_213 rfl (v := (l9 + 1)) rfl (Nat.le_of_ble_eq_true rfl) rfl ?_
      refine rn_goto (tgt := 103) dX12_odds_216 (by decide) ?_
      refine rn_sub [2, 3, 4, 1, 5, 0] (L' := [(0, .inr (.inr (some 94))), (3, .inl l3), (4, .inl l4), (5, .inr (.inl (l5 + 0))), (7, .inr (.inl l7)), (9, .inl (l9 + 1))]) rfl ?_
      exact V
    · replace V := V.2 c32
      refine rn_lload dX12_odds_204 rfl ?_
      refine rn_goto (tgt := 210) dX12_odds_206 (by decide) ?_
      refine rn_ladd dX12_odds_210 ?_
      refine rn_lstore (L' := [(5, .inr (.inl (l5 + l11))), (0, .inr (.inr (some 94))), (3, .inl l3), (4, .inl l4), (7, .inr (.inl l7)), (9, .inl l9), (10, .inl l10), (11, .inr (.inl l11)), (13, .inl l13)]) dX12_odds_211 (Nat.le_of_ble_eq_true rfl) rfl ?_
      refine rn_iinc (L' := [(9, .inl (l9 + 1)), (5, .inr (.inl (l5 + l11))), (0, .inr (.inr (some 94))), (3, .inl l3), (4, .inl l4), (7, .inr (.inl l7)), (10, .inl l10), (11, .inr (.inl l11)), (13, .inl l13)]) dX12_odds_213 rfl (v := (l9 + 1)) rfl (Nat.le_of_ble_eq_true rfl) rfl ?_
      refine rn_goto (tgt := 103) dX12_odds_216 (by decide) ?_
      refine rn_sub [2, 3, 4, 1, 5, 0] (L' := [(0, .inr (.inr (some 94))), (3, .inl l3), (4, .inl l4), (5, .inr (.inl (l5 + l11))), (7, .inr (.inl l7)), (9, .inl (l9 + 1))]) rfl ?_
      exact V
  · replace V := V.2 c31
    refine rn_iload dX12_odds_132 rfl ?_
    refine rn_iload dX12_odds_134 rfl ?_
    refine rn_ishr dX12_odds_136 ?_
    refine rn_iconst (v := 1) dX12_odds_137 (by decide) ?_
    refine rn_iand dX12_odds_138 ?_
    refine rn_iconst (v := 1) dX12_odds_139 (by decide) ?_
    refine rn_icmp_ne (tgt := 147) dX12_odds_140 (by decide) (fun c33 => ?_) (fun c33 => ?_)
    · replace V := V.1 c33
      refine rn_iconst (v := 0) dX12_odds_147 (by decide) ?_
      refine rn_istore (L' := [(14, .inl 0), (0, .inr (.inr (some 94))), (3, .inl l3), (4, .inl l4), (5, .inr (.inl l5)), (7, .inr (.inl l7)), (9, .inl l9), (10, .inl l10), (11, .inr (.inl l11)), (13, .inl l13)]) dX12_odds_148 (Nat.le_of_ble_eq_true rfl) rfl ?_
      refine rn_iload dX12_odds_150 rfl ?_
      refine rn_iload dX12_odds_152 rfl ?_
      refine rn_if_eq (tgt := 167) dX12_odds_154 (by decide) (fun c34 => ?_) (fun c34 => ?_)
      rotate_left
      · exact absurd (by decide) c34
      refine rn_iconst (v := 0) dX12_odds_167 (by decide) ?_
      refine rn_iadd dX12_odds_168 ?_
      refine rn_istore (L' := [(10, .inl (l10 + 0)), (14, .inl 0), (0, .inr (.inr (some 94))), (3, .inl l3), (4, .inl l4), (5, .inr (.inl l5)), (7, .inr (.inl l7)), (9, .inl l9), (11, .inr (.inl l11)), (13, .inl l13)]) dX12_odds_169 (Nat.le_of_ble_eq_true rfl) rfl ?_
      refine rn_lload dX12_odds_171 rfl ?_
      refine rn_iload dX12_odds_173 rfl ?_
      refine rn_if_eq (tgt := 183) dX12_odds_175 (by decide) (fun c35 => ?_) (fun c35 => ?_)
      rotate_left
      · exact absurd (by decide) c35
      refine rn_bipush (v := 16) dX12_odds_183 (by decide) ?_
      refine rn_iload_n dX12_odds_185 rfl rfl ?_
      refine rn_isub dX12_odds_186 ?_
      refine rn_i2l dX12_odds_187 ?_
      refine rn_lmul dX12_odds_188 ?_
      refine rn_lstore (L' := [(11, .inr (.inl (l11 * (Int32.toInt64 (16 - l3))))), (10, .inl (l10 + 0)), (14, .inl 0), (0, .inr (.inr (some 94))), (3, .inl l3), (4, .inl l4), (5, .inr (.inl l5)), (7, .inr (.inl l7)), (9, .inl l9), (13, .inl l13)]) dX12_odds_189 (Nat.le_of_ble_eq_true rfl) rfl ?_
      refine rn_iinc (L' := [(13, .inl (l13 + 1)), (11, .inr (.inl (l11 * (Int32.toInt64 (16 - l3))))), (10, .inl (l10 + 0)), (14, .inl 0), (0, .inr (.inr (some 94))), (3, .inl l3), (4, .inl l4), (5, .inr (.inl l5)), (7, .inr (.inl l7)), (9, .inl l9)]) dX12_odds_191 rfl (v := (l13 + 1)) rfl (Nat.le_of_ble_eq_true rfl) rfl ?_
      refine rn_goto (tgt := 123) dX12_odds_194 (by decide) ?_
      refine rn_sub [4, 5, 6, 7, 8, 9, 2, 1, 0] (L' := [(0, .inr (.inr (some 94))), (3, .inl l3), (4, .inl l4), (5, .inr (.inl l5)), (7, .inr (.inl l7)), (9, .inl l9), (10, .inl (l10 + 0)), (11, .inr (.inl (l11 * (Int32.toInt64 (16 - l3))))), (13, .inl (l13 + 1))]) rfl ?_
      exact V
    · replace V := V.2 c33
      refine rn_iconst (v := 1) dX12_odds_143 (by decide) ?_
      refine rn_goto (tgt := 148) dX12_odds_144 (by decide) ?_
      refine rn_istore (L' := [(14, .inl 1), (0, .inr (.inr (some 94))), (3, .inl l3), (4, .inl l4), (5, .inr (.inl l5)), (7, .inr (.inl l7)), (9, .inl l9), (10, .inl l10), (11, .inr (.inl l11)), (13, .inl l13)]) dX12_odds_148 (Nat.le_of_ble_eq_true rfl) rfl ?_
      refine rn_iload dX12_odds_150 rfl ?_
      refine rn_iload dX12_odds_152 rfl ?_
      refine rn_if_eq (tgt := 167) dX12_odds_154 (by decide) (fun c36 => ?_) (fun c36 => ?_)
      · exact absurd c36 (by decide)
      refine rn_aload_n dX12_odds_157 rfl rfl ?_
      refine rn_get (v := .inr (.inr (some 112))) dX12_odds_158 fl_X12_61 rfl rfl (congrArg (fun z => (Sum.inr (Sum.inr z) : MV)) (rf_94_29 hR)) ?_
      refine rn_iload dX12_odds_161 rfl ?_
      obtain ⟨g0, V⟩ := V
      refine rn_iald (k := (Int32.toNatClampNeg l13)) dX12_odds_163 rfl rfl g0 ?_
      refine rn_goto (tgt := 168) dX12_odds_164 (by decide) ?_
      refine rn_iadd dX12_odds_168 ?_
      refine rn_istore (L' := [(10, .inl (l10 + h.1 112 (Int32.toNatClampNeg l13))), (14, .inl 1), (0, .inr (.inr (some 94))), (3, .inl l3), (4, .inl l4), (5, .inr (.inl l5)), (7, .inr (.inl l7)), (9, .inl l9), (11, .inr (.inl l11)), (13, .inl l13)]) dX12_odds_169 (Nat.le_of_ble_eq_true rfl) rfl ?_
      refine rn_lload dX12_odds_171 rfl ?_
      refine rn_iload dX12_odds_173 rfl ?_
      refine rn_if_eq (tgt := 183) dX12_odds_175 (by decide) (fun c37 => ?_) (fun c37 => ?_)
      · exact absurd c37 (by decide)
      refine rn_iload_n dX12_odds_178 rfl rfl ?_
      refine rn_i2l dX12_odds_179 ?_
      refine rn_goto (tgt := 188) dX12_odds_180 (by decide) ?_
      refine rn_lmul dX12_odds_188 ?_
      refine rn_lstore (L' := [(11, .inr (.inl (l11 * (Int32.toInt64 l3)))), (10, .inl (l10 + h.1 112 (Int32.toNatClampNeg l13))), (14, .inl 1), (0, .inr (.inr (some 94))), (3, .inl l3), (4, .inl l4), (5, .inr (.inl l5)), (7, .inr (.inl l7)), (9, .inl l9), (13, .inl l13)]) dX12_odds_189 (Nat.le_of_ble_eq_true rfl) rfl ?_
      refine rn_iinc (L' := [(13, .inl (l13 + 1)), (11, .inr (.inl (l11 * (Int32.toInt64 l3)))), (10, .inl (l10 + h.1 112 (Int32.toNatClampNeg l13))), (14, .inl 1), (0, .inr (.inr (some 94))), (3, .inl l3), (4, .inl l4), (5, .inr (.inl l5)), (7, .inr (.inl l7)), (9, .inl l9)]) dX12_odds_191 rfl (v := (l13 + 1)) rfl (Nat.le_of_ble_eq_true rfl) rfl ?_
      refine rn_goto (tgt := 123) dX12_odds_194 (by decide) ?_
      refine rn_sub [4, 5, 6, 7, 8, 9, 2, 1, 0] (L' := [(0, .inr (.inr (some 94))), (3, .inl l3), (4, .inl l4), (5, .inr (.inl l5)), (7, .inr (.inl l7)), (9, .inl l9), (10, .inl (l10 + h.1 112 (Int32.toNatClampNeg l13))), (11, .inr (.inl (l11 * (Int32.toInt64 l3)))), (13, .inl (l13 + 1))]) rfl ?_
      exact V
set_option maxRecDepth 100000 in
set_option maxHeartbeats 4000000 in
theorem vc_X12_odds {G : GT} {d : Nat} {a1 : Int32} {a2 : Int32} {a3 : Int32} {a4 : Int32}  {h : Hp} {Q : Int64 → Hp → Prop} (hR : RF h) (V : EvI G d mX12_isParty [.inr (.inr (some 94)), .inl a1] h (fun x2 h1 => ((x2 = 0 → EvI G d mX12_finds [.inr (.inr (some 94)), .inl 1] h1 (fun x5 h4 => Q (Int32.toInt64 x5) h4)) ∧ (¬ x2 = 0 → EvI G d mX12_isParty [.inr (.inr (some 94)), .inl a2] h1 (fun x7 h6 => ((x7 = 0 → EvI G d mX12_finds [.inr (.inr (some 94)), .inl 1] h6 (fun x10 h9 => Q (Int32.toInt64 x10) h9)) ∧ (¬ x7 = 0 → ((a1 = a2 → EvI G d mX12_finds [.inr (.inr (some 94)), .inl 1] h6 (fun x13 h12 => Q (Int32.toInt64 x13) h12)) ∧ (¬ a1 = a2 → EvI G d mX12_in [.inr (.inl (Int32.toInt64 a3)), .inr (.inl 0), .inr (.inl 16)] h6 (fun x15 h14 => ((x15 = 0 → EvI G d mX12_finds [.inr (.inr (some 94)), .inl 1] h14 (fun x18 h17 => Q (Int32.toInt64 x18) h17)) ∧ (¬ x15 = 0 → EvI G d mX12_in [.inr (.inl (Int32.toInt64 a4)), .inr (.inl 0), .inr (.inl 1)] h14 (fun x20 h19 => ((¬ x20 = 0 → EvV G d mX12_hearsOf [.inr (.inr (some 94)), .inl a1, .inl 1] (sI h19 94 30 0) (fun h22 => EvV G d mX12_hearsOf [.inr (.inr (some 94)), .inl a2, .inl (-1)] h22 (fun h23 => Rg_X12_odds_77 G d a3 a4 0 1 0 h23 Q))) ∧ (x20 = 0 → EvI G d mX12_finds [.inr (.inr (some 94)), .inl 1] h19 (fun x25 h24 => Q (Int32.toInt64 x25) h24)))))))))))))))) : EvL G (d + 1) mX12_odds [.inr (.inr (some 94)), .inl a1, .inl a2, .inl a3, .inl a4] h Q := by
  refine Ev.of rfl (fun _ => Nat.le_of_ble_eq_true rfl) ?_
  show Rn G (d + 1) 0 0 mX12_odds 0 [(0, .inr (.inr (some 94))), (1, .inl a1), (2, .inl a2), (3, .inl a3), (4, .inl a4)] [] SH h (QL Q)
  refine rn_aload_n dX12_odds_0 rfl rfl ?_
  refine rn_iload_n dX12_odds_1 rfl rfl ?_
  refine rn_cV (M' := mX12_isParty) (n := 1) (av := [.inl a1]) (S := []) (rc := 0) (rs := 0) (mc := 0) (ms := 0) (a := 94) (ci := 11) (r := (RX12, TX12, 38)) dX12_odds_2 pa_X12_isParty (Nat.le_refl _) rfl (Nat.le_of_ble_eq_true rfl) ml_X12_174 im_X12_isParty se_X12_isParty rfl rfl rfl (Ev.mono V ?_)
  rintro v sh1 h1 ⟨rfl, Rh1, x2, rfl, V⟩
  show Rn G (d + 1) 0 0 mX12_odds 5 [(0, .inr (.inr (some 94))), (1, .inl a1), (2, .inl a2), (3, .inl a3), (4, .inl a4)] [.inl x2] SH h1 (QL Q)
  refine rn_if_eq (tgt := 44) dX12_odds_5 (by decide) (fun c3 => ?_) (fun c3 => ?_)
  · replace V := V.1 c3
    refine rn_aload_n dX12_odds_44 rfl rfl ?_
    refine rn_iconst (v := 1) dX12_odds_45 (by decide) ?_
    refine rn_cV (M' := mX12_finds) (n := 1) (av := [.inl 1]) (S := []) (rc := 0) (rs := 0) (mc := 0) (ms := 0) (a := 94) (ci := 11) (r := (RX12, TX12, 38)) dX12_odds_46 pa_X12_finds (Nat.le_refl _) rfl (Nat.le_of_ble_eq_true rfl) ml_X12_143 im_X12_finds se_X12_finds rfl rfl rfl (Ev.mono V ?_)
    rintro v sh1 h4 ⟨rfl, Rh4, x5, rfl, V⟩
    show Rn G (d + 1) 0 0 mX12_odds 49 [(0, .inr (.inr (some 94))), (1, .inl a1), (2, .inl a2), (3, .inl a3), (4, .inl a4)] [.inl x5] SH h4 (QL Q)
    refine rn_i2l dX12_odds_49 ?_
    exact rn_lret dX12_odds_50 rfl ⟨rfl, Rh4, _, rfl, V⟩
  · replace V := V.2 c3
    refine rn_aload_n dX12_odds_8 rfl rfl ?_
    refine rn_iload_n dX12_odds_9 rfl rfl ?_
    refine rn_cV (M' := mX12_isParty) (n := 1) (av := [.inl a2]) (S := []) (rc := 0) (rs := 0) (mc := 0) (ms := 0) (a := 94) (ci := 11) (r := (RX12, TX12, 38)) dX12_odds_10 pa_X12_isParty (Nat.le_refl _) rfl (Nat.le_of_ble_eq_true rfl) ml_X12_174 im_X12_isParty se_X12_isParty rfl rfl rfl (Ev.mono V ?_)
    rintro v sh1 h6 ⟨rfl, Rh6, x7, rfl, V⟩
    show Rn G (d + 1) 0 0 mX12_odds 13 [(0, .inr (.inr (some 94))), (1, .inl a1), (2, .inl a2), (3, .inl a3), (4, .inl a4)] [.inl x7] SH h6 (QL Q)
    refine rn_if_eq (tgt := 44) dX12_odds_13 (by decide) (fun c8 => ?_) (fun c8 => ?_)
    · replace V := V.1 c8
      refine rn_aload_n dX12_odds_44 rfl rfl ?_
      refine rn_iconst (v := 1) dX12_odds_45 (by decide) ?_
      refine rn_cV (M' := mX12_finds) (n := 1) (av := [.inl 1]) (S := []) (rc := 0) (rs := 0) (mc := 0) (ms := 0) (a := 94) (ci := 11) (r := (RX12, TX12, 38)) dX12_odds_46 pa_X12_finds (Nat.le_refl _) rfl (Nat.le_of_ble_eq_true rfl) ml_X12_143 im_X12_finds se_X12_finds rfl rfl rfl (Ev.mono V ?_)
      rintro v sh1 h9 ⟨rfl, Rh9, x10, rfl, V⟩
      show Rn G (d + 1) 0 0 mX12_odds 49 [(0, .inr (.inr (some 94))), (1, .inl a1), (2, .inl a2), (3, .inl a3), (4, .inl a4)] [.inl x10] SH h9 (QL Q)
      refine rn_i2l dX12_odds_49 ?_
      exact rn_lret dX12_odds_50 rfl ⟨rfl, Rh9, _, rfl, V⟩
    · replace V := V.2 c8
      refine rn_iload_n dX12_odds_16 rfl rfl ?_
      refine rn_iload_n dX12_odds_17 rfl rfl ?_
      refine rn_icmp_eq (tgt := 44) dX12_odds_18 (by decide) (fun c11 => ?_) (fun c11 => ?_)
      · replace V := V.1 c11
        refine rn_aload_n dX12_odds_44 rfl rfl ?_
        refine rn_iconst (v := 1) dX12_odds_45 (by decide) ?_
        refine rn_cV (M' := mX12_finds) (n := 1) (av := [.inl 1]) (S := []) (rc := 0) (rs := 0) (mc := 0) (ms := 0) (a := 94) (ci := 11) (r := (RX12, TX12, 38)) dX12_odds_46 pa_X12_finds (Nat.le_refl _) rfl (Nat.le_of_ble_eq_true rfl) ml_X12_143 im_X12_finds se_X12_finds rfl rfl rfl (Ev.mono V ?_)
        rintro v sh1 h12 ⟨rfl, Rh12, x13, rfl, V⟩
        show Rn G (d + 1) 0 0 mX12_odds 49 [(0, .inr (.inr (some 94))), (1, .inl a1), (2, .inl a2), (3, .inl a3), (4, .inl a4)] [.inl x13] SH h12 (QL Q)
        refine rn_i2l dX12_odds_49 ?_
        exact rn_lret dX12_odds_50 rfl ⟨rfl, Rh12, _, rfl, V⟩
      · replace V := V.2 c11
        refine rn_iload_n dX12_odds_21 rfl rfl ?_
        refine rn_i2l dX12_odds_22 ?_
        refine rn_lconst (v := 0) dX12_odds_23 rfl ?_
        refine rn_ldc2 (v := 16) dX12_odds_24 cw_X12_311 ?_
        refine rn_cS (M' := mX12_in) (n := 3) (av := [.inr (.inl (Int32.toInt64 a3)), .inr (.inl 0), .inr (.inl 16)]) (S := []) (rc := 0) (rs := 0) (mc := 0) (ms := 0) dX12_odds_27 pa_X12_in (Nat.le_refl _) rfl (Nat.le_of_ble_eq_true rfl) ml_X12_80 ss_X12_in rfl (Ev.mono V ?_)
        rintro v sh1 h14 ⟨rfl, Rh14, x15, rfl, V⟩
        show Rn G (d + 1) 0 0 mX12_odds 30 [(0, .inr (.inr (some 94))), (1, .inl a1), (2, .inl a2), (3, .inl a3), (4, .inl a4)] [.inl x15] SH h14 (QL Q)
        refine rn_if_eq (tgt := 44) dX12_odds_30 (by decide) (fun c16 => ?_) (fun c16 => ?_)
        · replace V := V.1 c16
          refine rn_aload_n dX12_odds_44 rfl rfl ?_
          refine rn_iconst (v := 1) dX12_odds_45 (by decide) ?_
          refine rn_cV (M' := mX12_finds) (n := 1) (av := [.inl 1]) (S := []) (rc := 0) (rs := 0) (mc := 0) (ms := 0) (a := 94) (ci := 11) (r := (RX12, TX12, 38)) dX12_odds_46 pa_X12_finds (Nat.le_refl _) rfl (Nat.le_of_ble_eq_true rfl) ml_X12_143 im_X12_finds se_X12_finds rfl rfl rfl (Ev.mono V ?_)
          rintro v sh1 h17 ⟨rfl, Rh17, x18, rfl, V⟩
          show Rn G (d + 1) 0 0 mX12_odds 49 [(0, .inr (.inr (some 94))), (1, .inl a1), (2, .inl a2), (3, .inl a3), (4, .inl a4)] [.inl x18] SH h17 (QL Q)
          refine rn_i2l dX12_odds_49 ?_
          exact rn_lret dX12_odds_50 rfl ⟨rfl, Rh17, _, rfl, V⟩
        · replace V := V.2 c16
          refine rn_iload dX12_odds_33 rfl ?_
          refine rn_i2l dX12_odds_35 ?_
          refine rn_lconst (v := 0) dX12_odds_36 rfl ?_
          refine rn_lconst (v := 1) dX12_odds_37 rfl ?_
          refine rn_cS (M' := mX12_in) (n := 3) (av := [.inr (.inl (Int32.toInt64 a4)), .inr (.inl 0), .inr (.inl 1)]) (S := []) (rc := 0) (rs := 0) (mc := 0) (ms := 0) dX12_odds_38 pa_X12_in (Nat.le_refl _) rfl (Nat.le_of_ble_eq_true rfl) ml_X12_80 ss_X12_in rfl (Ev.mono V ?_)
          rintro v sh1 h19 ⟨rfl, Rh19, x20, rfl, V⟩
          show Rn G (d + 1) 0 0 mX12_odds 41 [(0, .inr (.inr (some 94))), (1, .inl a1), (2, .inl a2), (3, .inl a3), (4, .inl a4)] [.inl x20] SH h19 (QL Q)
          refine rn_if_ne (tgt := 51) dX12_odds_41 (by decide) (fun c21 => ?_) (fun c21 => ?_)
          · replace V := V.1 c21
            refine rn_aload_n dX12_odds_51 rfl rfl ?_
            refine rn_iconst (v := 0) dX12_odds_52 (by decide) ?_
            refine rn_putI dX12_odds_53 fl_X12_308 rfl rfl (Or.inl rfl) rfl rfl ?_
            refine rn_aload_n dX12_odds_56 rfl rfl ?_
            refine rn_iload_n dX12_odds_57 rfl rfl ?_
            refine rn_iconst (v := 1) dX12_odds_58 (by decide) ?_
            refine rn_cV (M' := mX12_hearsOf) (n := 2) (av := [.inl a1, .inl 1]) (S := []) (rc := 0) (rs := 0) (mc := 0) (ms := 0) (a := 94) (ci := 11) (r := (RX12, TX12, 38)) dX12_odds_59 pa_X12_hearsOf (Nat.le_refl _) rfl (Nat.le_of_ble_eq_true rfl) ml_X12_313 im_X12_hearsOf se_X12_hearsOf rfl rfl rfl (Ev.mono V ?_)
            rintro v sh1 h22 ⟨rfl, Rh22, rfl, V⟩
            show Rn G (d + 1) 0 0 mX12_odds 62 [(0, .inr (.inr (some 94))), (1, .inl a1), (2, .inl a2), (3, .inl a3), (4, .inl a4)] [] SH h22 (QL Q)
            refine rn_aload_n dX12_odds_62 rfl rfl ?_
            refine rn_iload_n dX12_odds_63 rfl rfl ?_
            refine rn_iconst (v := (-1)) dX12_odds_64 (by decide) ?_
            refine rn_cV (M' := mX12_hearsOf) (n := 2) (av := [.inl a2, .inl (-1)]) (S := []) (rc := 0) (rs := 0) (mc := 0) (ms := 0) (a := 94) (ci := 11) (r := (RX12, TX12, 38)) dX12_odds_65 pa_X12_hearsOf (Nat.le_refl _) rfl (Nat.le_of_ble_eq_true rfl) ml_X12_313 im_X12_hearsOf se_X12_hearsOf rfl rfl rfl (Ev.mono V ?_)
            rintro v sh1 h23 ⟨rfl, Rh23, rfl, V⟩
            show Rn G (d + 1) 0 0 mX12_odds 68 [(0, .inr (.inr (some 94))), (1, .inl a1), (2, .inl a2), (3, .inl a3), (4, .inl a4)] [] SH h23 (QL Q)
            refine rn_lconst (v := 0) dX12_odds_68 rfl ?_
            refine rn_lstore (L' := [(5, .inr (.inl 0)), (0, .inr (.inr (some 94))), (1, .inl a1), (2, .inl a2), (3, .inl a3), (4, .inl a4)]) dX12_odds_69 (Nat.le_of_ble_eq_true rfl) rfl ?_
            refine rn_lconst (v := 1) dX12_odds_71 rfl ?_
            refine rn_lstore (L' := [(7, .inr (.inl 1)), (5, .inr (.inl 0)), (0, .inr (.inr (some 94))), (1, .inl a1), (2, .inl a2), (3, .inl a3), (4, .inl a4)]) dX12_odds_72 (Nat.le_of_ble_eq_true rfl) rfl ?_
            refine rn_iconst (v := 0) dX12_odds_74 (by decide) ?_
            refine rn_istore (L' := [(9, .inl 0), (7, .inr (.inl 1)), (5, .inr (.inl 0)), (0, .inr (.inr (some 94))), (1, .inl a1), (2, .inl a2), (3, .inl a3), (4, .inl a4)]) dX12_odds_75 (Nat.le_of_ble_eq_true rfl) rfl ?_
            refine rn_sub [3, 6, 7, 2, 1, 0] (L' := [(0, .inr (.inr (some 94))), (3, .inl a3), (4, .inl a4), (5, .inr (.inl 0)), (7, .inr (.inl 1)), (9, .inl 0)]) rfl ?_
            exact V
          · replace V := V.2 c21
            refine rn_aload_n dX12_odds_44 rfl rfl ?_
            refine rn_iconst (v := 1) dX12_odds_45 (by decide) ?_
            refine rn_cV (M' := mX12_finds) (n := 1) (av := [.inl 1]) (S := []) (rc := 0) (rs := 0) (mc := 0) (ms := 0) (a := 94) (ci := 11) (r := (RX12, TX12, 38)) dX12_odds_46 pa_X12_finds (Nat.le_refl _) rfl (Nat.le_of_ble_eq_true rfl) ml_X12_143 im_X12_finds se_X12_finds rfl rfl rfl (Ev.mono V ?_)
            rintro v sh1 h24 ⟨rfl, Rh24, x25, rfl, V⟩
            show Rn G (d + 1) 0 0 mX12_odds 49 [(0, .inr (.inr (some 94))), (1, .inl a1), (2, .inl a2), (3, .inl a3), (4, .inl a4)] [.inl x25] SH h24 (QL Q)
            refine rn_i2l dX12_odds_49 ?_
            exact rn_lret dX12_odds_50 rfl ⟨rfl, Rh24, _, rfl, V⟩
def Rg_X12_carried_58 (G : GT) (d : Nat) (l1 : Int32) (l2 : Int32) (l3 : Int32) (l4 : Int32) (l5 : Int32) (l6 : Int32) (l7 : Int32) (h : Hp) (Q : Int32 → Hp → Prop) : Prop := Rn G (d + 1) 0 0 mX12_carried 58 [(0, .inr (.inr (some 94))), (1, .inl l1), (2, .inl l2), (3, .inl l3), (4, .inl l4), (5, .inl l5), (6, .inl l6), (7, .inl l7)] [] SH h (QI Q)
set_option maxRecDepth 100000 in
set_option maxHeartbeats 4000000 in
theorem vc_X12_carried_58 {G : GT} {d : Nat} {l1 : Int32} {l2 : Int32} {l3 : Int32} {l4 : Int32} {l5 : Int32} {l6 : Int32} {l7 : Int32}  {h : Hp} {Q : Int32 → Hp → Prop} (hR : RF h) (V : EvI G d mX12_of [.inr (.inr (some 94)), .inl l1, .inl 2] h (fun x22 h21 => ((x22 < l7 → ((¬ l4 = 0 → Q l6 h21) ∧ (l4 = 0 → Q l5 h21))) ∧ (¬ x22 < l7 → ¬ (l3 * (2 + (l7 / 20))) = 0 ∧ ((¬ (l2 / (l3 * (2 + (l7 / 20)))) = 0 → EvI G d mX12_of [.inr (.inr (some 94)), .inl l1, .inl 1] h21 (fun x27 h26 => EvI G d mX12_textGives [.inr (.inr (some 94)), .inl 1, .inl l7, .inl l3, .inl x27] h26 (fun x29 h28 => ((((l2 / (l3 * (2 + (l7 / 20)))) * (l7 - x29)) ≤ l6 → Rg_X12_carried_58 G d l1 l2 l3 l4 l5 l6 (l7 + 1) h28 Q) ∧ (¬ ((l2 / (l3 * (2 + (l7 / 20)))) * (l7 - x29)) ≤ l6 → Rg_X12_carried_58 G d l1 l2 l3 l4 l7 ((l2 / (l3 * (2 + (l7 / 20)))) * (l7 - x29)) (l7 + 1) h28 Q))))) ∧ ((l2 / (l3 * (2 + (l7 / 20)))) = 0 → ((0 ≤ l6 → Rg_X12_carried_58 G d l1 l2 l3 l4 l5 l6 (l7 + 1) h21 Q) ∧ (¬ 0 ≤ l6 → Rg_X12_carried_58 G d l1 l2 l3 l4 l7 0 (l7 + 1) h21 Q)))))))) : Rg_X12_carried_58 G d l1 l2 l3 l4 l5 l6 l7 h Q := by
  show Rn G (d + 1) 0 0 mX12_carried 58 [(0, .inr (.inr (some 94))), (1, .inl l1), (2, .inl l2), (3, .inl l3), (4, .inl l4), (5, .inl l5), (6, .inl l6), (7, .inl l7)] [] SH h (QI Q)
  refine rn_iload dX12_carried_58 rfl ?_
  refine rn_aload_n dX12_carried_60 rfl rfl ?_
  refine rn_iload_n dX12_carried_61 rfl rfl ?_
  refine rn_iconst (v := 2) dX12_carried_62 (by decide) ?_
  refine rn_cV (M' := mX12_of) (n := 2) (av := [.inl l1, .inl 2]) (S := [.inl l7]) (rc := 0) (rs := 0) (mc := 0) (ms := 0) (a := 94) (ci := 11) (r := (RX12, TX12, 38)) dX12_carried_63 pa_X12_of (Nat.le_refl _) rfl (Nat.le_of_ble_eq_true rfl) ml_X12_161 im_X12_of se_X12_of rfl rfl rfl (Ev.mono V ?_)
  rintro v sh1 h21 ⟨rfl, Rh21, x22, rfl, V⟩
  show Rn G (d + 1) 0 0 mX12_carried 66 [(0, .inr (.inr (some 94))), (1, .inl l1), (2, .inl l2), (3, .inl l3), (4, .inl l4), (5, .inl l5), (6, .inl l6), (7, .inl l7)] [.inl x22, .inl l7] SH h21 (QI Q)
  refine rn_icmp_gt (tgt := 134) dX12_carried_66 (by decide) (fun c23 => ?_) (fun c23 => ?_)
  · replace V := V.1 c23
    refine rn_iload dX12_carried_134 rfl ?_
    refine rn_if_ne (tgt := 144) dX12_carried_136 (by decide) (fun c24 => ?_) (fun c24 => ?_)
    · replace V := V.1 c24
      refine rn_iload dX12_carried_144 rfl ?_
      exact rn_iret dX12_carried_146 rfl ⟨rfl, Rh21, _, rfl, V⟩
    · replace V := V.2 c24
      refine rn_iload dX12_carried_139 rfl ?_
      refine rn_goto (tgt := 146) dX12_carried_141 (by decide) ?_
      exact rn_iret dX12_carried_146 rfl ⟨rfl, Rh21, _, rfl, V⟩
  · replace V := V.2 c23
    refine rn_iload_n dX12_carried_69 rfl rfl ?_
    refine rn_iload_n dX12_carried_70 rfl rfl ?_
    refine rn_iconst (v := 2) dX12_carried_71 (by decide) ?_
    refine rn_iload dX12_carried_72 rfl ?_
    refine rn_bipush (v := 20) dX12_carried_74 (by decide) ?_
    refine rn_idiv dX12_carried_76 (by decide) ?_
    refine rn_iadd dX12_carried_77 ?_
    refine rn_imul dX12_carried_78 ?_
    obtain ⟨g, V⟩ := V
    refine rn_idiv dX12_carried_79 g ?_
    refine rn_istore (L' := [(8, .inl (l2 / (l3 * (2 + (l7 / 20))))), (0, .inr (.inr (some 94))), (1, .inl l1), (2, .inl l2), (3, .inl l3), (4, .inl l4), (5, .inl l5), (6, .inl l6), (7, .inl l7)]) dX12_carried_80 (Nat.le_of_ble_eq_true rfl) rfl ?_
    refine rn_iload dX12_carried_82 rfl ?_
    refine rn_if_ne (tgt := 91) dX12_carried_84 (by decide) (fun c25 => ?_) (fun c25 => ?_)
    · replace V := V.1 c25
      refine rn_iload dX12_carried_91 rfl ?_
      refine rn_iload dX12_carried_93 rfl ?_
      refine rn_aload_n dX12_carried_95 rfl rfl ?_
      refine rn_iconst (v := 1) dX12_carried_96 (by decide) ?_
      refine rn_iload dX12_carried_97 rfl ?_
      refine rn_iload_n dX12_carried_99 rfl rfl ?_
      refine rn_aload_n dX12_carried_100 rfl rfl ?_
      refine rn_iload_n dX12_carried_101 rfl rfl ?_
      refine rn_iconst (v := 1) dX12_carried_102 (by decide) ?_
      refine rn_cV (M' := mX12_of) (n := 2) (av := [.inl l1, .inl 1]) (S := [.inl l3, .inl l7, .inl 1, .inr (.inr (some 94)), .inl l7, .inl (l2 / (l3 * (2 + (l7 / 20))))]) (rc := 0) (rs := 0) (mc := 0) (ms := 0) (a := 94) (ci := 11) (r := (RX12, TX12, 38)) dX12_carried_103 pa_X12_of (Nat.le_refl _) rfl (Nat.le_of_ble_eq_true rfl) ml_X12_161 im_X12_of se_X12_of rfl rfl rfl (Ev.mono V ?_)
      rintro v sh1 h26 ⟨rfl, Rh26, x27, rfl, V⟩
      show Rn G (d + 1) 0 0 mX12_carried 106 [(8, .inl (l2 / (l3 * (2 + (l7 / 20))))), (0, .inr (.inr (some 94))), (1, .inl l1), (2, .inl l2), (3, .inl l3), (4, .inl l4), (5, .inl l5), (6, .inl l6), (7, .inl l7)] [.inl x27, .inl l3, .inl l7, .inl 1, .inr (.inr (some 94)), .inl l7, .inl (l2 / (l3 * (2 + (l7 / 20))))] SH h26 (QI Q)
      refine rn_cV (M' := mX12_textGives) (n := 4) (av := [.inl 1, .inl l7, .inl l3, .inl x27]) (S := [.inl l7, .inl (l2 / (l3 * (2 + (l7 / 20))))]) (rc := 0) (rs := 0) (mc := 0) (ms := 0) (a := 94) (ci := 11) (r := (RX12, TX12, 38)) dX12_carried_106 pa_X12_textGives (Nat.le_refl _) rfl (Nat.le_of_ble_eq_true rfl) ml_X12_157 im_X12_textGives se_X12_textGives rfl rfl rfl (Ev.mono V ?_)
      rintro v sh1 h28 ⟨rfl, Rh28, x29, rfl, V⟩
      show Rn G (d + 1) 0 0 mX12_carried 109 [(8, .inl (l2 / (l3 * (2 + (l7 / 20))))), (0, .inr (.inr (some 94))), (1, .inl l1), (2, .inl l2), (3, .inl l3), (4, .inl l4), (5, .inl l5), (6, .inl l6), (7, .inl l7)] [.inl x29, .inl l7, .inl (l2 / (l3 * (2 + (l7 / 20))))] SH h28 (QI Q)
      refine rn_isub dX12_carried_109 ?_
      refine rn_imul dX12_carried_110 ?_
      refine rn_istore (L' := [(9, .inl ((l2 / (l3 * (2 + (l7 / 20)))) * (l7 - x29))), (8, .inl (l2 / (l3 * (2 + (l7 / 20))))), (0, .inr (.inr (some 94))), (1, .inl l1), (2, .inl l2), (3, .inl l3), (4, .inl l4), (5, .inl l5), (6, .inl l6), (7, .inl l7)]) dX12_carried_111 (Nat.le_of_ble_eq_true rfl) rfl ?_
      refine rn_iload dX12_carried_113 rfl ?_
      refine rn_iload dX12_carried_115 rfl ?_
      refine rn_icmp_le (tgt := 128) dX12_carried_117 (by decide) (fun c30 => ?_) (fun c30 => ?_)
      · replace V := V.1 c30
        refine rn_iinc (L' := [(7, .inl (l7 + 1)), (9, .inl ((l2 / (l3 * (2 + (l7 / 20)))) * (l7 - x29))), (8, .inl (l2 / (l3 * (2 + (l7 / 20))))), (0, .inr (.inr (some 94))), (1, .inl l1), (2, .inl l2), (3, .inl l3), (4, .inl l4), (5, .inl l5), (6, .inl l6)]) dX12_carried_128 rfl (v := (l7 + 1)) rfl (Nat.le_of_ble_eq_true rfl) rfl ?_
        refine rn_goto (tgt := 58) dX12_carried_131 (by decide) ?_
        refine rn_sub [3, 4, 5, 6, 7, 8, 9, 0] (L' := [(0, .inr (.inr (some 94))), (1, .inl l1), (2, .inl l2), (3, .inl l3), (4, .inl l4), (5, .inl l5), (6, .inl l6), (7, .inl (l7 + 1))]) rfl ?_
        exact V
      · replace V := V.2 c30
        refine rn_iload dX12_carried_120 rfl ?_
        refine rn_istore (L' := [(6, .inl ((l2 / (l3 * (2 + (l7 / 20)))) * (l7 - x29))), (9, .inl ((l2 / (l3 * (2 + (l7 / 20)))) * (l7 - x29))), (8, .inl (l2 / (l3 * (2 + (l7 / 20))))), (0, .inr (.inr (some 94))), (1, .inl l1), (2, .inl l2), (3, .inl l3), (4, .inl l4), (5, .inl l5), (7, .inl l7)]) dX12_carried_122 (Nat.le_of_ble_eq_true rfl) rfl ?_
        refine rn_iload dX12_carried_124 rfl ?_
        refine rn_istore (L' := [(5, .inl l7), (6, .inl ((l2 / (l3 * (2 + (l7 / 20)))) * (l7 - x29))), (9, .inl ((l2 / (l3 * (2 + (l7 / 20)))) * (l7 - x29))), (8, .inl (l2 / (l3 * (2 + (l7 / 20))))), (0, .inr (.inr (some 94))), (1, .inl l1), (2, .inl l2), (3, .inl l3), (4, .inl l4), (7, .inl l7)]) dX12_carried_126 (Nat.le_of_ble_eq_true rfl) rfl ?_
        refine rn_iinc (L' := [(7, .inl (l7 + 1)), (5, .inl l7), (6, .inl ((l2 / (l3 * (2 + (l7 / 20)))) * (l7 - x29))), (9, .inl ((l2 / (l3 * (2 + (l7 / 20)))) * (l7 - x29))), (8, .inl (l2 / (l3 * (2 + (l7 / 20))))), (0, .inr (.inr (some 94))), (1, .inl l1), (2, .inl l2), (3, .inl l3), (4, .inl l4)]) dX12_carried_128 rfl (v := (l7 + 1)) rfl (Nat.le_of_ble_eq_true rfl) rfl ?_
        refine rn_goto (tgt := 58) dX12_carried_131 (by decide) ?_
        refine rn_sub [5, 6, 7, 8, 9, 1, 2, 0] (L' := [(0, .inr (.inr (some 94))), (1, .inl l1), (2, .inl l2), (3, .inl l3), (4, .inl l4), (5, .inl l7), (6, .inl ((l2 / (l3 * (2 + (l7 / 20)))) * (l7 - x29))), (7, .inl (l7 + 1))]) rfl ?_
        exact V
    · replace V := V.2 c25
      refine rn_iconst (v := 0) dX12_carried_87 (by decide) ?_
      refine rn_goto (tgt := 111) dX12_carried_88 (by decide) ?_
      refine rn_istore (L' := [(9, .inl 0), (8, .inl (l2 / (l3 * (2 + (l7 / 20))))), (0, .inr (.inr (some 94))), (1, .inl l1), (2, .inl l2), (3, .inl l3), (4, .inl l4), (5, .inl l5), (6, .inl l6), (7, .inl l7)]) dX12_carried_111 (Nat.le_of_ble_eq_true rfl) rfl ?_
      refine rn_iload dX12_carried_113 rfl ?_
      refine rn_iload dX12_carried_115 rfl ?_
      refine rn_icmp_le (tgt := 128) dX12_carried_117 (by decide) (fun c31 => ?_) (fun c31 => ?_)
      · replace V := V.1 c31
        refine rn_iinc (L' := [(7, .inl (l7 + 1)), (9, .inl 0), (8, .inl (l2 / (l3 * (2 + (l7 / 20))))), (0, .inr (.inr (some 94))), (1, .inl l1), (2, .inl l2), (3, .inl l3), (4, .inl l4), (5, .inl l5), (6, .inl l6)]) dX12_carried_128 rfl (v := (l7 + 1)) rfl (Nat.le_of_ble_eq_true rfl) rfl ?_
        refine rn_goto (tgt := 58) dX12_carried_131 (by decide) ?_
        refine rn_sub [3, 4, 5, 6, 7, 8, 9, 0] (L' := [(0, .inr (.inr (some 94))), (1, .inl l1), (2, .inl l2), (3, .inl l3), (4, .inl l4), (5, .inl l5), (6, .inl l6), (7, .inl (l7 + 1))]) rfl ?_
        exact V
      · replace V := V.2 c31
        refine rn_iload dX12_carried_120 rfl ?_
        refine rn_istore (L' := [(6, .inl 0), (9, .inl 0), (8, .inl (l2 / (l3 * (2 + (l7 / 20))))), (0, .inr (.inr (some 94))), (1, .inl l1), (2, .inl l2), (3, .inl l3), (4, .inl l4), (5, .inl l5), (7, .inl l7)]) dX12_carried_122 (Nat.le_of_ble_eq_true rfl) rfl ?_
        refine rn_iload dX12_carried_124 rfl ?_
        refine rn_istore (L' := [(5, .inl l7), (6, .inl 0), (9, .inl 0), (8, .inl (l2 / (l3 * (2 + (l7 / 20))))), (0, .inr (.inr (some 94))), (1, .inl l1), (2, .inl l2), (3, .inl l3), (4, .inl l4), (7, .inl l7)]) dX12_carried_126 (Nat.le_of_ble_eq_true rfl) rfl ?_
        refine rn_iinc (L' := [(7, .inl (l7 + 1)), (5, .inl l7), (6, .inl 0), (9, .inl 0), (8, .inl (l2 / (l3 * (2 + (l7 / 20))))), (0, .inr (.inr (some 94))), (1, .inl l1), (2, .inl l2), (3, .inl l3), (4, .inl l4)]) dX12_carried_128 rfl (v := (l7 + 1)) rfl (Nat.le_of_ble_eq_true rfl) rfl ?_
        refine rn_goto (tgt := 58) dX12_carried_131 (by decide) ?_
        refine rn_sub [5, 6, 7, 8, 9, 1, 2, 0] (L' := [(0, .inr (.inr (some 94))), (1, .inl l1), (2, .inl l2), (3, .inl l3), (4, .inl l4), (5, .inl l7), (6, .inl 0), (7, .inl (l7 + 1))]) rfl ?_
        exact V
set_option maxRecDepth 100000 in
set_option maxHeartbeats 4000000 in
theorem vc_X12_carried {G : GT} {d : Nat} {a1 : Int32} {a2 : Int32} {a3 : Int32} {a4 : Int32}  {h : Hp} {Q : Int32 → Hp → Prop} (hR : RF h) (V : EvI G d mX12_isParty [.inr (.inr (some 94)), .inl a1] h (fun x2 h1 => ((x2 = 0 → EvI G d mX12_finds [.inr (.inr (some 94)), .inl 1] h1 (fun x5 h4 => Q x5 h4)) ∧ (¬ x2 = 0 → EvI G d mX12_in [.inr (.inl (Int32.toInt64 a2)), .inr (.inl 1), .inr (.inl 9999)] h1 (fun x7 h6 => ((x7 = 0 → EvI G d mX12_finds [.inr (.inr (some 94)), .inl 1] h6 (fun x10 h9 => Q x10 h9)) ∧ (¬ x7 = 0 → EvI G d mX12_in [.inr (.inl (Int32.toInt64 a3)), .inr (.inl 1), .inr (.inl 99)] h6 (fun x12 h11 => ((x12 = 0 → EvI G d mX12_finds [.inr (.inr (some 94)), .inl 1] h11 (fun x15 h14 => Q x15 h14)) ∧ (¬ x12 = 0 → EvI G d mX12_in [.inr (.inl (Int32.toInt64 a4)), .inr (.inl 0), .inr (.inl 1)] h11 (fun x17 h16 => ((¬ x17 = 0 → Rg_X12_carried_58 G d a1 a2 a3 a4 0 (-1) 1 h16 Q) ∧ (x17 = 0 → EvI G d mX12_finds [.inr (.inr (some 94)), .inl 1] h16 (fun x20 h19 => Q x20 h19)))))))))))))) : EvI G (d + 1) mX12_carried [.inr (.inr (some 94)), .inl a1, .inl a2, .inl a3, .inl a4] h Q := by
  refine Ev.of rfl (fun _ => Nat.le_of_ble_eq_true rfl) ?_
  show Rn G (d + 1) 0 0 mX12_carried 0 [(0, .inr (.inr (some 94))), (1, .inl a1), (2, .inl a2), (3, .inl a3), (4, .inl a4)] [] SH h (QI Q)
  refine rn_aload_n dX12_carried_0 rfl rfl ?_
  refine rn_iload_n dX12_carried_1 rfl rfl ?_
  refine rn_cV (M' := mX12_isParty) (n := 1) (av := [.inl a1]) (S := []) (rc := 0) (rs := 0) (mc := 0) (ms := 0) (a := 94) (ci := 11) (r := (RX12, TX12, 38)) dX12_carried_2 pa_X12_isParty (Nat.le_refl _) rfl (Nat.le_of_ble_eq_true rfl) ml_X12_174 im_X12_isParty se_X12_isParty rfl rfl rfl (Ev.mono V ?_)
  rintro v sh1 h1 ⟨rfl, Rh1, x2, rfl, V⟩
  show Rn G (d + 1) 0 0 mX12_carried 5 [(0, .inr (.inr (some 94))), (1, .inl a1), (2, .inl a2), (3, .inl a3), (4, .inl a4)] [.inl x2] SH h1 (QI Q)
  refine rn_if_eq (tgt := 43) dX12_carried_5 (by decide) (fun c3 => ?_) (fun c3 => ?_)
  · replace V := V.1 c3
    refine rn_aload_n dX12_carried_43 rfl rfl ?_
    refine rn_iconst (v := 1) dX12_carried_44 (by decide) ?_
    refine rn_cV (M' := mX12_finds) (n := 1) (av := [.inl 1]) (S := []) (rc := 0) (rs := 0) (mc := 0) (ms := 0) (a := 94) (ci := 11) (r := (RX12, TX12, 38)) dX12_carried_45 pa_X12_finds (Nat.le_refl _) rfl (Nat.le_of_ble_eq_true rfl) ml_X12_143 im_X12_finds se_X12_finds rfl rfl rfl (Ev.mono V ?_)
    rintro v sh1 h4 ⟨rfl, Rh4, x5, rfl, V⟩
    show Rn G (d + 1) 0 0 mX12_carried 48 [(0, .inr (.inr (some 94))), (1, .inl a1), (2, .inl a2), (3, .inl a3), (4, .inl a4)] [.inl x5] SH h4 (QI Q)
    exact rn_iret dX12_carried_48 rfl ⟨rfl, Rh4, _, rfl, V⟩
  · replace V := V.2 c3
    refine rn_iload_n dX12_carried_8 rfl rfl ?_
    refine rn_i2l dX12_carried_9 ?_
    refine rn_lconst (v := 1) dX12_carried_10 rfl ?_
    refine rn_ldc2 (v := 9999) dX12_carried_11 cw_X12_317 ?_
    refine rn_cS (M' := mX12_in) (n := 3) (av := [.inr (.inl (Int32.toInt64 a2)), .inr (.inl 1), .inr (.inl 9999)]) (S := []) (rc := 0) (rs := 0) (mc := 0) (ms := 0) dX12_carried_14 pa_X12_in (Nat.le_refl _) rfl (Nat.le_of_ble_eq_true rfl) ml_X12_80 ss_X12_in rfl (Ev.mono V ?_)
    rintro v sh1 h6 ⟨rfl, Rh6, x7, rfl, V⟩
    show Rn G (d + 1) 0 0 mX12_carried 17 [(0, .inr (.inr (some 94))), (1, .inl a1), (2, .inl a2), (3, .inl a3), (4, .inl a4)] [.inl x7] SH h6 (QI Q)
    refine rn_if_eq (tgt := 43) dX12_carried_17 (by decide) (fun c8 => ?_) (fun c8 => ?_)
    · replace V := V.1 c8
      refine rn_aload_n dX12_carried_43 rfl rfl ?_
      refine rn_iconst (v := 1) dX12_carried_44 (by decide) ?_
      refine rn_cV (M' := mX12_finds) (n := 1) (av := [.inl 1]) (S := []) (rc := 0) (rs := 0) (mc := 0) (ms := 0) (a := 94) (ci := 11) (r := (RX12, TX12, 38)) dX12_carried_45 pa_X12_finds (Nat.le_refl _) rfl (Nat.le_of_ble_eq_true rfl) ml_X12_143 im_X12_finds se_X12_finds rfl rfl rfl (Ev.mono V ?_)
      rintro v sh1 h9 ⟨rfl, Rh9, x10, rfl, V⟩
      show Rn G (d + 1) 0 0 mX12_carried 48 [(0, .inr (.inr (some 94))), (1, .inl a1), (2, .inl a2), (3, .inl a3), (4, .inl a4)] [.inl x10] SH h9 (QI Q)
      exact rn_iret dX12_carried_48 rfl ⟨rfl, Rh9, _, rfl, V⟩
    · replace V := V.2 c8
      refine rn_iload_n dX12_carried_20 rfl rfl ?_
      refine rn_i2l dX12_carried_21 ?_
      refine rn_lconst (v := 1) dX12_carried_22 rfl ?_
      refine rn_ldc2 (v := 99) dX12_carried_23 cw_X12_195 ?_
      refine rn_cS (M' := mX12_in) (n := 3) (av := [.inr (.inl (Int32.toInt64 a3)), .inr (.inl 1), .inr (.inl 99)]) (S := []) (rc := 0) (rs := 0) (mc := 0) (ms := 0) dX12_carried_26 pa_X12_in (Nat.le_refl _) rfl (Nat.le_of_ble_eq_true rfl) ml_X12_80 ss_X12_in rfl (Ev.mono V ?_)
      rintro v sh1 h11 ⟨rfl, Rh11, x12, rfl, V⟩
      show Rn G (d + 1) 0 0 mX12_carried 29 [(0, .inr (.inr (some 94))), (1, .inl a1), (2, .inl a2), (3, .inl a3), (4, .inl a4)] [.inl x12] SH h11 (QI Q)
      refine rn_if_eq (tgt := 43) dX12_carried_29 (by decide) (fun c13 => ?_) (fun c13 => ?_)
      · replace V := V.1 c13
        refine rn_aload_n dX12_carried_43 rfl rfl ?_
        refine rn_iconst (v := 1) dX12_carried_44 (by decide) ?_
        refine rn_cV (M' := mX12_finds) (n := 1) (av := [.inl 1]) (S := []) (rc := 0) (rs := 0) (mc := 0) (ms := 0) (a := 94) (ci := 11) (r := (RX12, TX12, 38)) dX12_carried_45 pa_X12_finds (Nat.le_refl _) rfl (Nat.le_of_ble_eq_true rfl) ml_X12_143 im_X12_finds se_X12_finds rfl rfl rfl (Ev.mono V ?_)
        rintro v sh1 h14 ⟨rfl, Rh14, x15, rfl, V⟩
        show Rn G (d + 1) 0 0 mX12_carried 48 [(0, .inr (.inr (some 94))), (1, .inl a1), (2, .inl a2), (3, .inl a3), (4, .inl a4)] [.inl x15] SH h14 (QI Q)
        exact rn_iret dX12_carried_48 rfl ⟨rfl, Rh14, _, rfl, V⟩
      · replace V := V.2 c13
        refine rn_iload dX12_carried_32 rfl ?_
        refine rn_i2l dX12_carried_34 ?_
        refine rn_lconst (v := 0) dX12_carried_35 rfl ?_
        refine rn_lconst (v := 1) dX12_carried_36 rfl ?_
        refine rn_cS (M' := mX12_in) (n := 3) (av := [.inr (.inl (Int32.toInt64 a4)), .inr (.inl 0), .inr (.inl 1)]) (S := []) (rc := 0) (rs := 0) (mc := 0) (ms := 0) dX12_carried_37 pa_X12_in (Nat.le_refl _) rfl (Nat.le_of_ble_eq_true rfl) ml_X12_80 ss_X12_in rfl (Ev.mono V ?_)
        rintro v sh1 h16 ⟨rfl, Rh16, x17, rfl, V⟩
        show Rn G (d + 1) 0 0 mX12_carried 40 [(0, .inr (.inr (some 94))), (1, .inl a1), (2, .inl a2), (3, .inl a3), (4, .inl a4)] [.inl x17] SH h16 (QI Q)
        refine rn_if_ne (tgt := 49) dX12_carried_40 (by decide) (fun c18 => ?_) (fun c18 => ?_)
        · replace V := V.1 c18
          refine rn_iconst (v := 0) dX12_carried_49 (by decide) ?_
          refine rn_istore (L' := [(5, .inl 0), (0, .inr (.inr (some 94))), (1, .inl a1), (2, .inl a2), (3, .inl a3), (4, .inl a4)]) dX12_carried_50 (Nat.le_of_ble_eq_true rfl) rfl ?_
          refine rn_iconst (v := (-1)) dX12_carried_52 (by decide) ?_
          refine rn_istore (L' := [(6, .inl (-1)), (5, .inl 0), (0, .inr (.inr (some 94))), (1, .inl a1), (2, .inl a2), (3, .inl a3), (4, .inl a4)]) dX12_carried_53 (Nat.le_of_ble_eq_true rfl) rfl ?_
          refine rn_iconst (v := 1) dX12_carried_55 (by decide) ?_
          refine rn_istore (L' := [(7, .inl 1), (6, .inl (-1)), (5, .inl 0), (0, .inr (.inr (some 94))), (1, .inl a1), (2, .inl a2), (3, .inl a3), (4, .inl a4)]) dX12_carried_56 (Nat.le_of_ble_eq_true rfl) rfl ?_
          refine rn_sub [3, 4, 5, 6, 7, 2, 1, 0] (L' := [(0, .inr (.inr (some 94))), (1, .inl a1), (2, .inl a2), (3, .inl a3), (4, .inl a4), (5, .inl 0), (6, .inl (-1)), (7, .inl 1)]) rfl ?_
          exact V
        · replace V := V.2 c18
          refine rn_aload_n dX12_carried_43 rfl rfl ?_
          refine rn_iconst (v := 1) dX12_carried_44 (by decide) ?_
          refine rn_cV (M' := mX12_finds) (n := 1) (av := [.inl 1]) (S := []) (rc := 0) (rs := 0) (mc := 0) (ms := 0) (a := 94) (ci := 11) (r := (RX12, TX12, 38)) dX12_carried_45 pa_X12_finds (Nat.le_refl _) rfl (Nat.le_of_ble_eq_true rfl) ml_X12_143 im_X12_finds se_X12_finds rfl rfl rfl (Ev.mono V ?_)
          rintro v sh1 h19 ⟨rfl, Rh19, x20, rfl, V⟩
          show Rn G (d + 1) 0 0 mX12_carried 48 [(0, .inr (.inr (some 94))), (1, .inl a1), (2, .inl a2), (3, .inl a3), (4, .inl a4)] [.inl x20] SH h19 (QI Q)
          exact rn_iret dX12_carried_48 rfl ⟨rfl, Rh19, _, rfl, V⟩
def Rg_X12_floorsOf_8 (G : GT) (d : Nat) (l1 : Int32) (l2 : Int32) (l3 : Int32) (h : Hp) (Q : Int32 → Hp → Prop) : Prop := Rn G (d + 1) 0 0 mX12_floorsOf 8 [(0, .inr (.inr (some 94))), (1, .inl l1), (2, .inl l2), (3, .inl l3)] [] SH h (QI Q)
set_option maxRecDepth 100000 in
set_option maxHeartbeats 4000000 in
theorem vc_X12_floorsOf_8 {G : GT} {d : Nat} {l1 : Int32} {l2 : Int32} {l3 : Int32}  {h : Hp} {Q : Int32 → Hp → Prop} (hR : RF h) (V : vp_in l1 4 ∧ ((h.1 115 (Int32.toNatClampNeg l1) ≤ l2 → EvV G d mX12_putBack [.inr (.inr (some 94))] h (fun h3 => Q l2 h3)) ∧ (¬ h.1 115 (Int32.toNatClampNeg l1) ≤ l2 → ((l3 = 0 → EvV G d mX12_putBack [.inr (.inr (some 94))] h (fun h5 => Q l2 h5)) ∧ (¬ l3 = 0 → EvV G d mX12_aSecond [.inr (.inr (some 94))] h (fun h6 => vp_in ((40 * l1) + l2) 160 ∧ ((¬ h6.1 95 4 = h6.1 116 (Int32.toNatClampNeg ((40 * l1) + l2)) → Rg_X12_floorsOf_8 G d l1 (l2 + 0) 0 h6 Q) ∧ (h6.1 95 4 = h6.1 116 (Int32.toNatClampNeg ((40 * l1) + l2)) → Rg_X12_floorsOf_8 G d l1 (l2 + 1) 1 h6 Q)))))))) : Rg_X12_floorsOf_8 G d l1 l2 l3 h Q := by
  show Rn G (d + 1) 0 0 mX12_floorsOf 8 [(0, .inr (.inr (some 94))), (1, .inl l1), (2, .inl l2), (3, .inl l3)] [] SH h (QI Q)
  refine rn_iload_n dX12_floorsOf_8 rfl rfl ?_
  refine rn_aload_n dX12_floorsOf_9 rfl rfl ?_
  refine rn_get (v := .inr (.inr (some 115))) dX12_floorsOf_10 fl_X12_70 rfl rfl (congrArg (fun z => (Sum.inr (Sum.inr z) : MV)) (rf_94_35 hR)) ?_
  refine rn_iload_n dX12_floorsOf_13 rfl rfl ?_
  obtain ⟨g0, V⟩ := V
  refine rn_iald (k := (Int32.toNatClampNeg l1)) dX12_floorsOf_14 rfl rfl g0 ?_
  refine rn_icmp_ge (tgt := 67) dX12_floorsOf_15 (by decide) (fun c2 => ?_) (fun c2 => ?_)
  · replace V := V.1 c2
    refine rn_aload_n dX12_floorsOf_67 rfl rfl ?_
    refine rn_cV (M' := mX12_putBack) (n := 0) (av := []) (S := []) (rc := 0) (rs := 0) (mc := 0) (ms := 0) (a := 94) (ci := 11) (r := (RX12, TX12, 38)) dX12_floorsOf_68 pa_X12_putBack (Nat.le_refl _) rfl (Nat.le_of_ble_eq_true rfl) ml_X12_247 im_X12_putBack se_X12_putBack rfl rfl rfl (Ev.mono V ?_)
    rintro v sh1 h3 ⟨rfl, Rh3, rfl, V⟩
    show Rn G (d + 1) 0 0 mX12_floorsOf 71 [(0, .inr (.inr (some 94))), (1, .inl l1), (2, .inl l2), (3, .inl l3)] [] SH h3 (QI Q)
    refine rn_iload_n dX12_floorsOf_71 rfl rfl ?_
    exact rn_iret dX12_floorsOf_72 rfl ⟨rfl, Rh3, _, rfl, V⟩
  · replace V := V.2 c2
    refine rn_iload_n dX12_floorsOf_18 rfl rfl ?_
    refine rn_if_eq (tgt := 67) dX12_floorsOf_19 (by decide) (fun c4 => ?_) (fun c4 => ?_)
    · replace V := V.1 c4
      refine rn_aload_n dX12_floorsOf_67 rfl rfl ?_
      refine rn_cV (M' := mX12_putBack) (n := 0) (av := []) (S := []) (rc := 0) (rs := 0) (mc := 0) (ms := 0) (a := 94) (ci := 11) (r := (RX12, TX12, 38)) dX12_floorsOf_68 pa_X12_putBack (Nat.le_refl _) rfl (Nat.le_of_ble_eq_true rfl) ml_X12_247 im_X12_putBack se_X12_putBack rfl rfl rfl (Ev.mono V ?_)
      rintro v sh1 h5 ⟨rfl, Rh5, rfl, V⟩
      show Rn G (d + 1) 0 0 mX12_floorsOf 71 [(0, .inr (.inr (some 94))), (1, .inl l1), (2, .inl l2), (3, .inl l3)] [] SH h5 (QI Q)
      refine rn_iload_n dX12_floorsOf_71 rfl rfl ?_
      exact rn_iret dX12_floorsOf_72 rfl ⟨rfl, Rh5, _, rfl, V⟩
    · replace V := V.2 c4
      refine rn_aload_n dX12_floorsOf_22 rfl rfl ?_
      refine rn_cV (M' := mX12_aSecond) (n := 0) (av := []) (S := []) (rc := 0) (rs := 0) (mc := 0) (ms := 0) (a := 94) (ci := 11) (r := (RX12, TX12, 38)) dX12_floorsOf_23 pa_X12_aSecond (Nat.le_refl _) rfl (Nat.le_of_ble_eq_true rfl) ml_X12_235 im_X12_aSecond se_X12_aSecond rfl rfl rfl (Ev.mono V ?_)
      rintro v sh1 h6 ⟨rfl, Rh6, rfl, V⟩
      show Rn G (d + 1) 0 0 mX12_floorsOf 26 [(0, .inr (.inr (some 94))), (1, .inl l1), (2, .inl l2), (3, .inl l3)] [] SH h6 (QI Q)
      refine rn_aload_n dX12_floorsOf_26 rfl rfl ?_
      refine rn_get (v := .inr (.inr (some 95))) dX12_floorsOf_27 fl_X12_7 rfl rfl (congrArg (fun z => (Sum.inr (Sum.inr z) : MV)) (rf_94_0 Rh6)) ?_
      refine rn_iconst (v := 4) dX12_floorsOf_30 (by decide) ?_
      refine rn_iald (k := 4) dX12_floorsOf_31 rfl (by decide) (by unfold vp_in; decide) ?_
      refine rn_aload_n dX12_floorsOf_32 rfl rfl ?_
      refine rn_get (v := .inr (.inr (some 116))) dX12_floorsOf_33 fl_X12_73 rfl rfl (congrArg (fun z => (Sum.inr (Sum.inr z) : MV)) (rf_94_36 Rh6)) ?_
      refine rn_bipush (v := 40) dX12_floorsOf_36 (by decide) ?_
      refine rn_iload_n dX12_floorsOf_38 rfl rfl ?_
      refine rn_imul dX12_floorsOf_39 ?_
      refine rn_iload_n dX12_floorsOf_40 rfl rfl ?_
      refine rn_iadd dX12_floorsOf_41 ?_
      obtain ⟨g0, V⟩ := V
      refine rn_iald (k := (Int32.toNatClampNeg ((40 * l1) + l2))) dX12_floorsOf_42 rfl rfl g0 ?_
      refine rn_icmp_ne (tgt := 50) dX12_floorsOf_43 (by decide) (fun c7 => ?_) (fun c7 => ?_)
      · replace V := V.1 c7
        refine rn_iconst (v := 0) dX12_floorsOf_50 (by decide) ?_
        refine rn_istore_n (L' := [(3, .inl 0), (0, .inr (.inr (some 94))), (1, .inl l1), (2, .inl l2)]) dX12_floorsOf_51 rfl (Nat.le_of_ble_eq_true rfl) rfl ?_
        refine rn_iload_n dX12_floorsOf_52 rfl rfl ?_
        refine rn_iload_n dX12_floorsOf_53 rfl rfl ?_
        refine rn_if_eq (tgt := 61) dX12_floorsOf_54 (by decide) (fun c8 => ?_) (fun c8 => ?_)
        rotate_left
        · exact absurd (by decide) c8
        refine rn_iconst (v := 0) dX12_floorsOf_61 (by decide) ?_
        refine rn_iadd dX12_floorsOf_62 ?_
        refine rn_istore_n (L' := [(2, .inl (l2 + 0)), (3, .inl 0), (0, .inr (.inr (some 94))), (1, .inl l1)]) dX12_floorsOf_63 rfl (Nat.le_of_ble_eq_true rfl) rfl ?_
        refine rn_goto (tgt := 8) dX12_floorsOf_64 (by decide) ?_
        refine rn_sub [2, 3, 0, 1] (L' := [(0, .inr (.inr (some 94))), (1, .inl l1), (2, .inl (l2 + 0)), (3, .inl 0)]) rfl ?_
        exact V
      · replace V := V.2 c7
        refine rn_iconst (v := 1) dX12_floorsOf_46 (by decide) ?_
        refine rn_goto (tgt := 51) dX12_floorsOf_47 (by decide) ?_
        refine rn_istore_n (L' := [(3, .inl 1), (0, .inr (.inr (some 94))), (1, .inl l1), (2, .inl l2)]) dX12_floorsOf_51 rfl (Nat.le_of_ble_eq_true rfl) rfl ?_
        refine rn_iload_n dX12_floorsOf_52 rfl rfl ?_
        refine rn_iload_n dX12_floorsOf_53 rfl rfl ?_
        refine rn_if_eq (tgt := 61) dX12_floorsOf_54 (by decide) (fun c9 => ?_) (fun c9 => ?_)
        · exact absurd c9 (by decide)
        refine rn_iconst (v := 1) dX12_floorsOf_57 (by decide) ?_
        refine rn_goto (tgt := 62) dX12_floorsOf_58 (by decide) ?_
        refine rn_iadd dX12_floorsOf_62 ?_
        refine rn_istore_n (L' := [(2, .inl (l2 + 1)), (3, .inl 1), (0, .inr (.inr (some 94))), (1, .inl l1)]) dX12_floorsOf_63 rfl (Nat.le_of_ble_eq_true rfl) rfl ?_
        refine rn_goto (tgt := 8) dX12_floorsOf_64 (by decide) ?_
        refine rn_sub [2, 3, 0, 1] (L' := [(0, .inr (.inr (some 94))), (1, .inl l1), (2, .inl (l2 + 1)), (3, .inl 1)]) rfl ?_
        exact V
set_option maxRecDepth 100000 in
set_option maxHeartbeats 4000000 in
theorem vc_X12_floorsOf {G : GT} {d : Nat} {a1 : Int32}  {h : Hp} {Q : Int32 → Hp → Prop} (hR : RF h) (V : EvV G d mX12_keepAside [.inr (.inr (some 94))] h (fun h1 => Rg_X12_floorsOf_8 G d a1 0 1 h1 Q)) : EvI G (d + 1) mX12_floorsOf [.inr (.inr (some 94)), .inl a1] h Q := by
  refine Ev.of rfl (fun _ => Nat.le_of_ble_eq_true rfl) ?_
  show Rn G (d + 1) 0 0 mX12_floorsOf 0 [(0, .inr (.inr (some 94))), (1, .inl a1)] [] SH h (QI Q)
  refine rn_aload_n dX12_floorsOf_0 rfl rfl ?_
  refine rn_cV (M' := mX12_keepAside) (n := 0) (av := []) (S := []) (rc := 0) (rs := 0) (mc := 0) (ms := 0) (a := 94) (ci := 11) (r := (RX12, TX12, 38)) dX12_floorsOf_1 pa_X12_keepAside (Nat.le_refl _) rfl (Nat.le_of_ble_eq_true rfl) ml_X12_244 im_X12_keepAside se_X12_keepAside rfl rfl rfl (Ev.mono V ?_)
  rintro v sh1 h1 ⟨rfl, Rh1, rfl, V⟩
  show Rn G (d + 1) 0 0 mX12_floorsOf 4 [(0, .inr (.inr (some 94))), (1, .inl a1)] [] SH h1 (QI Q)
  refine rn_iconst (v := 0) dX12_floorsOf_4 (by decide) ?_
  refine rn_istore_n (L' := [(2, .inl 0), (0, .inr (.inr (some 94))), (1, .inl a1)]) dX12_floorsOf_5 rfl (Nat.le_of_ble_eq_true rfl) rfl ?_
  refine rn_iconst (v := 1) dX12_floorsOf_6 (by decide) ?_
  refine rn_istore_n (L' := [(3, .inl 1), (2, .inl 0), (0, .inr (.inr (some 94))), (1, .inl a1)]) dX12_floorsOf_7 rfl (Nat.le_of_ble_eq_true rfl) rfl ?_
  refine rn_sub [2, 3, 1, 0] (L' := [(0, .inr (.inr (some 94))), (1, .inl a1), (2, .inl 0), (3, .inl 1)]) rfl ?_
  exact V
def Rg_X12_explained_49 (G : GT) (d : Nat) (l1 : Int32) (l2 : Int32) (l3 : Int32) (l4 : Int32) (l5 : Int32) (h : Hp) (Q : Int32 → Hp → Prop) : Prop := Rn G (d + 1) 0 0 mX12_explained 49 [(0, .inr (.inr (some 94))), (1, .inl l1), (2, .inl l2), (3, .inl l3), (4, .inl l4), (5, .inl l5)] [] SH h (QI Q)
set_option maxRecDepth 100000 in
set_option maxHeartbeats 4000000 in
theorem vc_X12_explained_49 {G : GT} {d : Nat} {l1 : Int32} {l2 : Int32} {l3 : Int32} {l4 : Int32} {l5 : Int32}  {h : Hp} {Q : Int32 → Hp → Prop} (hR : RF h) (V : ((9 < l5 → EvV G d mX12_sets [.inr (.inr (some 94)), .inl l1, .inl 1, .inl l3] h (fun h17 => ((0 ≤ l4 → Q l4 h17) ∧ (¬ 0 ≤ l4 → EvI G d mX12_finds [.inr (.inr (some 94)), .inl 2] h17 (fun x20 h19 => Q x20 h19))))) ∧ (¬ 9 < l5 → ((0 ≤ l4 → EvV G d mX12_sets [.inr (.inr (some 94)), .inl l1, .inl 1, .inl l3] h (fun h22 => ((0 ≤ l4 → Q l4 h22) ∧ (¬ 0 ≤ l4 → EvI G d mX12_finds [.inr (.inr (some 94)), .inl 2] h22 (fun x25 h24 => Q x25 h24))))) ∧ (¬ 0 ≤ l4 → EvV G d mX12_sets [.inr (.inr (some 94)), .inl l1, .inl 1, .inl l5] h (fun h26 => EvI G d mX12_floorsOf [.inr (.inr (some 94)), .inl l2] h26 (fun x28 h27 => vp_in l2 4 ∧ ((¬ x28 = h27.1 115 (Int32.toNatClampNeg l2) → Rg_X12_explained_49 G d l1 l2 l3 (-1) (l5 + 1) h27 Q) ∧ (x28 = h27.1 115 (Int32.toNatClampNeg l2) → Rg_X12_explained_49 G d l1 l2 l3 l5 (l5 + 1) h27 Q))))))))) : Rg_X12_explained_49 G d l1 l2 l3 l4 l5 h Q := by
  show Rn G (d + 1) 0 0 mX12_explained 49 [(0, .inr (.inr (some 94))), (1, .inl l1), (2, .inl l2), (3, .inl l3), (4, .inl l4), (5, .inl l5)] [] SH h (QI Q)
  refine rn_iload dX12_explained_49 rfl ?_
  refine rn_bipush (v := 9) dX12_explained_51 (by decide) ?_
  refine rn_icmp_gt (tgt := 97) dX12_explained_53 (by decide) (fun c16 => ?_) (fun c16 => ?_)
  · replace V := V.1 c16
    refine rn_aload_n dX12_explained_97 rfl rfl ?_
    refine rn_iload_n dX12_explained_98 rfl rfl ?_
    refine rn_iconst (v := 1) dX12_explained_99 (by decide) ?_
    refine rn_iload_n dX12_explained_100 rfl rfl ?_
    refine rn_cV (M' := mX12_sets) (n := 3) (av := [.inl l1, .inl 1, .inl l3]) (S := []) (rc := 0) (rs := 0) (mc := 0) (ms := 0) (a := 94) (ci := 11) (r := (RX12, TX12, 38)) dX12_explained_101 pa_X12_sets (Nat.le_refl _) rfl (Nat.le_of_ble_eq_true rfl) ml_X12_167 im_X12_sets se_X12_sets rfl rfl rfl (Ev.mono V ?_)
    rintro v sh1 h17 ⟨rfl, Rh17, rfl, V⟩
    show Rn G (d + 1) 0 0 mX12_explained 104 [(0, .inr (.inr (some 94))), (1, .inl l1), (2, .inl l2), (3, .inl l3), (4, .inl l4), (5, .inl l5)] [] SH h17 (QI Q)
    refine rn_iload dX12_explained_104 rfl ?_
    refine rn_if_ge (tgt := 117) dX12_explained_106 (by decide) (fun c18 => ?_) (fun c18 => ?_)
    · replace V := V.1 c18
      refine rn_iload dX12_explained_117 rfl ?_
      exact rn_iret dX12_explained_119 rfl ⟨rfl, Rh17, _, rfl, V⟩
    · replace V := V.2 c18
      refine rn_aload_n dX12_explained_109 rfl rfl ?_
      refine rn_iconst (v := 2) dX12_explained_110 (by decide) ?_
      refine rn_cV (M' := mX12_finds) (n := 1) (av := [.inl 2]) (S := []) (rc := 0) (rs := 0) (mc := 0) (ms := 0) (a := 94) (ci := 11) (r := (RX12, TX12, 38)) dX12_explained_111 pa_X12_finds (Nat.le_refl _) rfl (Nat.le_of_ble_eq_true rfl) ml_X12_143 im_X12_finds se_X12_finds rfl rfl rfl (Ev.mono V ?_)
      rintro v sh1 h19 ⟨rfl, Rh19, x20, rfl, V⟩
      show Rn G (d + 1) 0 0 mX12_explained 114 [(0, .inr (.inr (some 94))), (1, .inl l1), (2, .inl l2), (3, .inl l3), (4, .inl l4), (5, .inl l5)] [.inl x20] SH h19 (QI Q)
      refine rn_goto (tgt := 119) dX12_explained_114 (by decide) ?_
      exact rn_iret dX12_explained_119 rfl ⟨rfl, Rh19, _, rfl, V⟩
  · replace V := V.2 c16
    refine rn_iload dX12_explained_56 rfl ?_
    refine rn_if_ge (tgt := 97) dX12_explained_58 (by decide) (fun c21 => ?_) (fun c21 => ?_)
    · replace V := V.1 c21
      refine rn_aload_n dX12_explained_97 rfl rfl ?_
      refine rn_iload_n dX12_explained_98 rfl rfl ?_
      refine rn_iconst (v := 1) dX12_explained_99 (by decide) ?_
      refine rn_iload_n dX12_explained_100 rfl rfl ?_
      refine rn_cV (M' := mX12_sets) (n := 3) (av := [.inl l1, .inl 1, .inl l3]) (S := []) (rc := 0) (rs := 0) (mc := 0) (ms := 0) (a := 94) (ci := 11) (r := (RX12, TX12, 38)) dX12_explained_101 pa_X12_sets (Nat.le_refl _) rfl (Nat.le_of_ble_eq_true rfl) ml_X12_167 im_X12_sets se_X12_sets rfl rfl rfl (Ev.mono V ?_)
      rintro v sh1 h22 ⟨rfl, Rh22, rfl, V⟩
      show Rn G (d + 1) 0 0 mX12_explained 104 [(0, .inr (.inr (some 94))), (1, .inl l1), (2, .inl l2), (3, .inl l3), (4, .inl l4), (5, .inl l5)] [] SH h22 (QI Q)
      refine rn_iload dX12_explained_104 rfl ?_
      refine rn_if_ge (tgt := 117) dX12_explained_106 (by decide) (fun c23 => ?_) (fun c23 => ?_)
      · replace V := V.1 c23
        refine rn_iload dX12_explained_117 rfl ?_
        exact rn_iret dX12_explained_119 rfl ⟨rfl, Rh22, _, rfl, V⟩
      · replace V := V.2 c23
        refine rn_aload_n dX12_explained_109 rfl rfl ?_
        refine rn_iconst (v := 2) dX12_explained_110 (by decide) ?_
        refine rn_cV (M' := mX12_finds) (n := 1) (av := [.inl 2]) (S := []) (rc := 0) (rs := 0) (mc := 0) (ms := 0) (a := 94) (ci := 11) (r := (RX12, TX12, 38)) dX12_explained_111 pa_X12_finds (Nat.le_refl _) rfl (Nat.le_of_ble_eq_true rfl) ml_X12_143 im_X12_finds se_X12_finds rfl rfl rfl (Ev.mono V ?_)
        rintro v sh1 h24 ⟨rfl, Rh24, x25, rfl, V⟩
        show Rn G (d + 1) 0 0 mX12_explained 114 [(0, .inr (.inr (some 94))), (1, .inl l1), (2, .inl l2), (3, .inl l3), (4, .inl l4), (5, .inl l5)] [.inl x25] SH h24 (QI Q)
        refine rn_goto (tgt := 119) dX12_explained_114 (by decide) ?_
        exact rn_iret dX12_explained_119 rfl ⟨rfl, Rh24, _, rfl, V⟩
    · replace V := V.2 c21
      refine rn_aload_n dX12_explained_61 rfl rfl ?_
      refine rn_iload_n dX12_explained_62 rfl rfl ?_
      refine rn_iconst (v := 1) dX12_explained_63 (by decide) ?_
      refine rn_iload dX12_explained_64 rfl ?_
      refine rn_cV (M' := mX12_sets) (n := 3) (av := [.inl l1, .inl 1, .inl l5]) (S := []) (rc := 0) (rs := 0) (mc := 0) (ms := 0) (a := 94) (ci := 11) (r := (RX12, TX12, 38)) dX12_explained_66 pa_X12_sets (Nat.le_refl _) rfl (Nat.le_of_ble_eq_true rfl) ml_X12_167 im_X12_sets se_X12_sets rfl rfl rfl (Ev.mono V ?_)
      rintro v sh1 h26 ⟨rfl, Rh26, rfl, V⟩
      show Rn G (d + 1) 0 0 mX12_explained 69 [(0, .inr (.inr (some 94))), (1, .inl l1), (2, .inl l2), (3, .inl l3), (4, .inl l4), (5, .inl l5)] [] SH h26 (QI Q)
      refine rn_aload_n dX12_explained_69 rfl rfl ?_
      refine rn_iload_n dX12_explained_70 rfl rfl ?_
      refine rn_cV (M' := mX12_floorsOf) (n := 1) (av := [.inl l2]) (S := []) (rc := 0) (rs := 0) (mc := 0) (ms := 0) (a := 94) (ci := 11) (r := (RX12, TX12, 38)) dX12_explained_71 pa_X12_floorsOf (Nat.le_refl _) rfl (Nat.le_of_ble_eq_true rfl) ml_X12_322 im_X12_floorsOf se_X12_floorsOf rfl rfl rfl (Ev.mono V ?_)
      rintro v sh1 h27 ⟨rfl, Rh27, x28, rfl, V⟩
      show Rn G (d + 1) 0 0 mX12_explained 74 [(0, .inr (.inr (some 94))), (1, .inl l1), (2, .inl l2), (3, .inl l3), (4, .inl l4), (5, .inl l5)] [.inl x28] SH h27 (QI Q)
      refine rn_aload_n dX12_explained_74 rfl rfl ?_
      refine rn_get (v := .inr (.inr (some 115))) dX12_explained_75 fl_X12_70 rfl rfl (congrArg (fun z => (Sum.inr (Sum.inr z) : MV)) (rf_94_35 Rh27)) ?_
      refine rn_iload_n dX12_explained_78 rfl rfl ?_
      obtain ⟨g0, V⟩ := V
      refine rn_iald (k := (Int32.toNatClampNeg l2)) dX12_explained_79 rfl rfl g0 ?_
      refine rn_icmp_ne (tgt := 88) dX12_explained_80 (by decide) (fun c29 => ?_) (fun c29 => ?_)
      · replace V := V.1 c29
        refine rn_iconst (v := (-1)) dX12_explained_88 (by decide) ?_
        refine rn_istore (L' := [(4, .inl (-1)), (0, .inr (.inr (some 94))), (1, .inl l1), (2, .inl l2), (3, .inl l3), (5, .inl l5)]) dX12_explained_89 (Nat.le_of_ble_eq_true rfl) rfl ?_
        refine rn_iinc (L' := [(5, .inl (l5 + 1)), (4, .inl (-1)), (0, .inr (.inr (some 94))), (1, .inl l1), (2, .inl l2), (3, .inl l3)]) dX12_explained_91 rfl (v := (l5 + 1)) rfl (Nat.le_of_ble_eq_true rfl) rfl ?_
        refine rn_goto (tgt := 49) dX12_explained_94 (by decide) ?_
        refine rn_sub [2, 3, 4, 5, 1, 0] (L' := [(0, .inr (.inr (some 94))), (1, .inl l1), (2, .inl l2), (3, .inl l3), (4, .inl (-1)), (5, .inl (l5 + 1))]) rfl ?_
        exact V
      · replace V := V.2 c29
        refine rn_iload dX12_explained_83 rfl ?_
        refine rn_goto (tgt := 89) dX12_explained_85 (by decide) ?_
        refine rn_istore (L' := [(4, .inl l5), (0, .inr (.inr (some 94))), (1, .inl l1), (2, .inl l2), (3, .inl l3), (5, .inl l5)]) dX12_explained_89 (Nat.le_of_ble_eq_true rfl) rfl ?_
        refine rn_iinc (L' := [(5, .inl (l5 + 1)), (4, .inl l5), (0, .inr (.inr (some 94))), (1, .inl l1), (2, .inl l2), (3, .inl l3)]) dX12_explained_91 rfl (v := (l5 + 1)) rfl (Nat.le_of_ble_eq_true rfl) rfl ?_
        refine rn_goto (tgt := 49) dX12_explained_94 (by decide) ?_
        refine rn_sub [2, 3, 4, 5, 1, 0] (L' := [(0, .inr (.inr (some 94))), (1, .inl l1), (2, .inl l2), (3, .inl l3), (4, .inl l5), (5, .inl (l5 + 1))]) rfl ?_
        exact V
set_option maxRecDepth 100000 in
set_option maxHeartbeats 4000000 in
theorem vc_X12_explained {G : GT} {d : Nat} {a1 : Int32} {a2 : Int32}  {h : Hp} {Q : Int32 → Hp → Prop} (hR : RF h) (V : EvI G d mX12_isParty [.inr (.inr (some 94)), .inl a1] h (fun x2 h1 => ((x2 = 0 → EvI G d mX12_finds [.inr (.inr (some 94)), .inl 1] h1 (fun x5 h4 => Q x5 h4)) ∧ (¬ x2 = 0 → EvI G d mX12_isSheet [.inl a2] h1 (fun x7 h6 => ((¬ x7 = 0 → vp_in a2 4 ∧ ((¬ h6.1 114 (Int32.toNatClampNeg a2) = 0 → EvI G d mX12_of [.inr (.inr (some 94)), .inl a1, .inl 1] h6 (fun x11 h10 => Rg_X12_explained_49 G d a1 a2 x11 (-1) 0 h10 Q)) ∧ (h6.1 114 (Int32.toNatClampNeg a2) = 0 → EvI G d mX12_finds [.inr (.inr (some 94)), .inl 2] h6 (fun x13 h12 => Q x13 h12)))) ∧ (x7 = 0 → EvI G d mX12_finds [.inr (.inr (some 94)), .inl 1] h6 (fun x15 h14 => Q x15 h14)))))))) : EvI G (d + 1) mX12_explained [.inr (.inr (some 94)), .inl a1, .inl a2] h Q := by
  refine Ev.of rfl (fun _ => Nat.le_of_ble_eq_true rfl) ?_
  show Rn G (d + 1) 0 0 mX12_explained 0 [(0, .inr (.inr (some 94))), (1, .inl a1), (2, .inl a2)] [] SH h (QI Q)
  refine rn_aload_n dX12_explained_0 rfl rfl ?_
  refine rn_iload_n dX12_explained_1 rfl rfl ?_
  refine rn_cV (M' := mX12_isParty) (n := 1) (av := [.inl a1]) (S := []) (rc := 0) (rs := 0) (mc := 0) (ms := 0) (a := 94) (ci := 11) (r := (RX12, TX12, 38)) dX12_explained_2 pa_X12_isParty (Nat.le_refl _) rfl (Nat.le_of_ble_eq_true rfl) ml_X12_174 im_X12_isParty se_X12_isParty rfl rfl rfl (Ev.mono V ?_)
  rintro v sh1 h1 ⟨rfl, Rh1, x2, rfl, V⟩
  show Rn G (d + 1) 0 0 mX12_explained 5 [(0, .inr (.inr (some 94))), (1, .inl a1), (2, .inl a2)] [.inl x2] SH h1 (QI Q)
  refine rn_if_eq (tgt := 15) dX12_explained_5 (by decide) (fun c3 => ?_) (fun c3 => ?_)
  · replace V := V.1 c3
    refine rn_aload_n dX12_explained_15 rfl rfl ?_
    refine rn_iconst (v := 1) dX12_explained_16 (by decide) ?_
    refine rn_cV (M' := mX12_finds) (n := 1) (av := [.inl 1]) (S := []) (rc := 0) (rs := 0) (mc := 0) (ms := 0) (a := 94) (ci := 11) (r := (RX12, TX12, 38)) dX12_explained_17 pa_X12_finds (Nat.le_refl _) rfl (Nat.le_of_ble_eq_true rfl) ml_X12_143 im_X12_finds se_X12_finds rfl rfl rfl (Ev.mono V ?_)
    rintro v sh1 h4 ⟨rfl, Rh4, x5, rfl, V⟩
    show Rn G (d + 1) 0 0 mX12_explained 20 [(0, .inr (.inr (some 94))), (1, .inl a1), (2, .inl a2)] [.inl x5] SH h4 (QI Q)
    exact rn_iret dX12_explained_20 rfl ⟨rfl, Rh4, _, rfl, V⟩
  · replace V := V.2 c3
    refine rn_iload_n dX12_explained_8 rfl rfl ?_
    refine rn_cS (M' := mX12_isSheet) (n := 1) (av := [.inl a2]) (S := []) (rc := 0) (rs := 0) (mc := 0) (ms := 0) dX12_explained_9 pa_X12_isSheet (Nat.le_refl _) rfl (Nat.le_of_ble_eq_true rfl) ml_X12_319 ss_X12_isSheet rfl (Ev.mono V ?_)
    rintro v sh1 h6 ⟨rfl, Rh6, x7, rfl, V⟩
    show Rn G (d + 1) 0 0 mX12_explained 12 [(0, .inr (.inr (some 94))), (1, .inl a1), (2, .inl a2)] [.inl x7] SH h6 (QI Q)
    refine rn_if_ne (tgt := 21) dX12_explained_12 (by decide) (fun c8 => ?_) (fun c8 => ?_)
    · replace V := V.1 c8
      refine rn_aload_n dX12_explained_21 rfl rfl ?_
      refine rn_get (v := .inr (.inr (some 114))) dX12_explained_22 fl_X12_67 rfl rfl (congrArg (fun z => (Sum.inr (Sum.inr z) : MV)) (rf_94_34 Rh6)) ?_
      refine rn_iload_n dX12_explained_25 rfl rfl ?_
      obtain ⟨g0, V⟩ := V
      refine rn_iald (k := (Int32.toNatClampNeg a2)) dX12_explained_26 rfl rfl g0 ?_
      refine rn_if_ne (tgt := 36) dX12_explained_27 (by decide) (fun c9 => ?_) (fun c9 => ?_)
      · replace V := V.1 c9
        refine rn_aload_n dX12_explained_36 rfl rfl ?_
        refine rn_iload_n dX12_explained_37 rfl rfl ?_
        refine rn_iconst (v := 1) dX12_explained_38 (by decide) ?_
        refine rn_cV (M' := mX12_of) (n := 2) (av := [.inl a1, .inl 1]) (S := []) (rc := 0) (rs := 0) (mc := 0) (ms := 0) (a := 94) (ci := 11) (r := (RX12, TX12, 38)) dX12_explained_39 pa_X12_of (Nat.le_refl _) rfl (Nat.le_of_ble_eq_true rfl) ml_X12_161 im_X12_of se_X12_of rfl rfl rfl (Ev.mono V ?_)
        rintro v sh1 h10 ⟨rfl, Rh10, x11, rfl, V⟩
        show Rn G (d + 1) 0 0 mX12_explained 42 [(0, .inr (.inr (some 94))), (1, .inl a1), (2, .inl a2)] [.inl x11] SH h10 (QI Q)
        refine rn_istore_n (L' := [(3, .inl x11), (0, .inr (.inr (some 94))), (1, .inl a1), (2, .inl a2)]) dX12_explained_42 rfl (Nat.le_of_ble_eq_true rfl) rfl ?_
        refine rn_iconst (v := (-1)) dX12_explained_43 (by decide) ?_
        refine rn_istore (L' := [(4, .inl (-1)), (3, .inl x11), (0, .inr (.inr (some 94))), (1, .inl a1), (2, .inl a2)]) dX12_explained_44 (Nat.le_of_ble_eq_true rfl) rfl ?_
        refine rn_iconst (v := 0) dX12_explained_46 (by decide) ?_
        refine rn_istore (L' := [(5, .inl 0), (4, .inl (-1)), (3, .inl x11), (0, .inr (.inr (some 94))), (1, .inl a1), (2, .inl a2)]) dX12_explained_47 (Nat.le_of_ble_eq_true rfl) rfl ?_
        refine rn_sub [3, 4, 5, 2, 1, 0] (L' := [(0, .inr (.inr (some 94))), (1, .inl a1), (2, .inl a2), (3, .inl x11), (4, .inl (-1)), (5, .inl 0)]) rfl ?_
        exact V
      · replace V := V.2 c9
        refine rn_aload_n dX12_explained_30 rfl rfl ?_
        refine rn_iconst (v := 2) dX12_explained_31 (by decide) ?_
        refine rn_cV (M' := mX12_finds) (n := 1) (av := [.inl 2]) (S := []) (rc := 0) (rs := 0) (mc := 0) (ms := 0) (a := 94) (ci := 11) (r := (RX12, TX12, 38)) dX12_explained_32 pa_X12_finds (Nat.le_refl _) rfl (Nat.le_of_ble_eq_true rfl) ml_X12_143 im_X12_finds se_X12_finds rfl rfl rfl (Ev.mono V ?_)
        rintro v sh1 h12 ⟨rfl, Rh12, x13, rfl, V⟩
        show Rn G (d + 1) 0 0 mX12_explained 35 [(0, .inr (.inr (some 94))), (1, .inl a1), (2, .inl a2)] [.inl x13] SH h12 (QI Q)
        exact rn_iret dX12_explained_35 rfl ⟨rfl, Rh12, _, rfl, V⟩
    · replace V := V.2 c8
      refine rn_aload_n dX12_explained_15 rfl rfl ?_
      refine rn_iconst (v := 1) dX12_explained_16 (by decide) ?_
      refine rn_cV (M' := mX12_finds) (n := 1) (av := [.inl 1]) (S := []) (rc := 0) (rs := 0) (mc := 0) (ms := 0) (a := 94) (ci := 11) (r := (RX12, TX12, 38)) dX12_explained_17 pa_X12_finds (Nat.le_refl _) rfl (Nat.le_of_ble_eq_true rfl) ml_X12_143 im_X12_finds se_X12_finds rfl rfl rfl (Ev.mono V ?_)
      rintro v sh1 h14 ⟨rfl, Rh14, x15, rfl, V⟩
      show Rn G (d + 1) 0 0 mX12_explained 20 [(0, .inr (.inr (some 94))), (1, .inl a1), (2, .inl a2)] [.inl x15] SH h14 (QI Q)
      exact rn_iret dX12_explained_20 rfl ⟨rfl, Rh14, _, rfl, V⟩
set_option maxRecDepth 100000 in
set_option maxHeartbeats 4000000 in
theorem vc_X12_seed {G : GT} {d : Nat} {a1 : Int32}  {h : Hp} {Q : Int32 → Hp → Prop} (hR : RF h) (V : Q (h.1 95 2) (sI h 95 2 a1)) : EvI G (d + 1) mX12_seed [.inr (.inr (some 94)), .inl a1] h Q := by
  refine Ev.of rfl (fun _ => Nat.le_of_ble_eq_true rfl) ?_
  show Rn G (d + 1) 0 0 mX12_seed 0 [(0, .inr (.inr (some 94))), (1, .inl a1)] [] SH h (QI Q)
  refine rn_aload_n dX12_seed_0 rfl rfl ?_
  refine rn_get (v := .inr (.inr (some 95))) dX12_seed_1 fl_X12_7 rfl rfl (congrArg (fun z => (Sum.inr (Sum.inr z) : MV)) (rf_94_0 hR)) ?_
  refine rn_iconst (v := 2) dX12_seed_4 (by decide) ?_
  refine rn_iald (k := 2) dX12_seed_5 rfl (by decide) (by unfold vp_in; decide) ?_
  refine rn_istore_n (L' := [(2, .inl (h.1 95 2)), (0, .inr (.inr (some 94))), (1, .inl a1)]) dX12_seed_6 rfl (Nat.le_of_ble_eq_true rfl) rfl ?_
  refine rn_aload_n dX12_seed_7 rfl rfl ?_
  refine rn_get (v := .inr (.inr (some 95))) dX12_seed_8 fl_X12_7 rfl rfl (congrArg (fun z => (Sum.inr (Sum.inr z) : MV)) (rf_94_0 hR)) ?_
  refine rn_iconst (v := 2) dX12_seed_11 (by decide) ?_
  refine rn_iload_n dX12_seed_12 rfl rfl ?_
  refine rn_iast (k := 2) dX12_seed_13 rfl (by decide) (by unfold vp_in; decide) ?_
  refine rn_iload_n dX12_seed_14 rfl rfl ?_
  exact rn_iret dX12_seed_15 rfl ⟨rfl, hR, _, rfl, V⟩
set_option maxRecDepth 100000 in
set_option maxHeartbeats 4000000 in
theorem vc_X12_ran {G : GT} {d : Nat} {a1 : Int32}  {h : Hp} {Q : Hp → Prop} (hR : RF h) (V : ((40 ≤ h.1 94 32 → Q h) ∧ (¬ 40 ≤ h.1 94 32 → vp_in (h.1 94 32) 40 ∧ Q (sI (sI h 113 (Int32.toNatClampNeg (h.1 94 32)) a1) 94 32 (h.1 94 32 + 1))))) : EvV G (d + 1) mX12_ran [.inr (.inr (some 94)), .inl a1] h Q := by
  refine Ev.of rfl (fun _ => Nat.le_of_ble_eq_true rfl) ?_
  show Rn G (d + 1) 0 0 mX12_ran 0 [(0, .inr (.inr (some 94))), (1, .inl a1)] [] SH h (QV Q)
  refine rn_aload_n dX12_ran_0 rfl rfl ?_
  refine rn_get (v := .inl (h.1 94 32)) dX12_ran_1 fl_X12_325 rfl rfl rfl ?_
  refine rn_bipush (v := 40) dX12_ran_4 (by decide) ?_
  refine rn_icmp_ge (tgt := 29) dX12_ran_6 (by decide) (fun c1 => ?_) (fun c1 => ?_)
  · replace V := V.1 c1
    exact rn_vret dX12_ran_29 rfl ⟨rfl, hR, rfl, V⟩
  · replace V := V.2 c1
    refine rn_aload_n dX12_ran_9 rfl rfl ?_
    refine rn_get (v := .inr (.inr (some 113))) dX12_ran_10 fl_X12_64 rfl rfl (congrArg (fun z => (Sum.inr (Sum.inr z) : MV)) (rf_94_31 hR)) ?_
    refine rn_aload_n dX12_ran_13 rfl rfl ?_
    refine rn_get (v := .inl (h.1 94 32)) dX12_ran_14 fl_X12_325 rfl rfl rfl ?_
    refine rn_iload_n dX12_ran_17 rfl rfl ?_
    obtain ⟨g0, V⟩ := V
    refine rn_iast (k := (Int32.toNatClampNeg (h.1 94 32))) dX12_ran_18 rfl rfl g0 ?_
    refine rn_aload_n dX12_ran_19 rfl rfl ?_
    refine rn_dup dX12_ran_20 rfl ?_
    refine rn_get (v := .inl (h.1 94 32)) dX12_ran_21 fl_X12_325 rfl rfl rfl ?_
    refine rn_iconst (v := 1) dX12_ran_24 (by decide) ?_
    refine rn_iadd dX12_ran_25 ?_
    refine rn_putI dX12_ran_26 fl_X12_325 rfl rfl (Or.inl rfl) rfl rfl ?_
    exact rn_vret dX12_ran_29 rfl ⟨rfl, hR, rfl, V⟩
set_option maxRecDepth 100000 in
set_option maxHeartbeats 4000000 in
theorem vc_X12_own {G : GT} {d : Nat}   {h : Hp} {Q : Int32 → Hp → Prop} (hR : RF h) (V : EvI G d mX12_of [.inr (.inr (some 94)), .inl (h.1 94 33), .inl 0] h (fun x2 h1 => Q x2 h1)) : EvI G (d + 1) mX12_own [.inr (.inr (some 94))] h Q := by
  refine Ev.of rfl (fun _ => Nat.le_of_ble_eq_true rfl) ?_
  show Rn G (d + 1) 0 0 mX12_own 0 [(0, .inr (.inr (some 94)))] [] SH h (QI Q)
  refine rn_aload_n dX12_own_0 rfl rfl ?_
  refine rn_aload_n dX12_own_1 rfl rfl ?_
  refine rn_get (v := .inl (h.1 94 33)) dX12_own_2 fl_X12_328 rfl rfl rfl ?_
  refine rn_iconst (v := 0) dX12_own_5 (by decide) ?_
  refine rn_cV (M' := mX12_of) (n := 2) (av := [.inl (h.1 94 33), .inl 0]) (S := []) (rc := 0) (rs := 0) (mc := 0) (ms := 0) (a := 94) (ci := 11) (r := (RX12, TX12, 38)) dX12_own_6 pa_X12_of (Nat.le_refl _) rfl (Nat.le_of_ble_eq_true rfl) ml_X12_161 im_X12_of se_X12_of rfl rfl rfl (Ev.mono V ?_)
  rintro v sh1 h1 ⟨rfl, Rh1, x2, rfl, V⟩
  show Rn G (d + 1) 0 0 mX12_own 9 [(0, .inr (.inr (some 94)))] [.inl x2] SH h1 (QI Q)
  exact rn_iret dX12_own_9 rfl ⟨rfl, Rh1, _, rfl, V⟩
set_option maxRecDepth 100000 in
set_option maxHeartbeats 4000000 in
theorem vc_X12_poursBy {G : GT} {d : Nat} {a1 : Int32} {a2 : Int32}  {h : Hp} {Q : Int32 → Hp → Prop} (hR : RF h) (V : (((a1).toInt = 0 → EvV G d mX12_ran [.inr (.inr (some 94)), .inl 10] h (fun h2 => Q (a2 + h2.1 94 33) h2)) ∧ (¬ (a1).toInt = 0 → (((a1).toInt = 2 → EvV G d mX12_ran [.inr (.inr (some 94)), .inl 30] h (fun h4 => EvI G d mX12_above [.inl 2] h4 (fun x6 h5 => EvI G d mX12_poursBy [.inr (.inr (some 94)), .inl x6, .inl a2] h5 (fun x8 h7 => Q (x8 * 3) h7)))) ∧ (¬ (a1).toInt = 2 → EvI G d mX12_above [.inl a1] h (fun x10 h9 => EvI G d mX12_poursBy [.inr (.inr (some 94)), .inl x10, .inl a2] h9 (fun x12 h11 => Q x12 h11))))))) : EvI G (d + 1) mX12_poursBy [.inr (.inr (some 94)), .inl a1, .inl a2] h Q := by
  refine Ev.of rfl (fun _ => Nat.le_of_ble_eq_true rfl) ?_
  show Rn G (d + 1) 0 0 mX12_poursBy 0 [(0, .inr (.inr (some 94))), (1, .inl a1), (2, .inl a2)] [] SH h (QI Q)
  refine rn_iload_n dX12_poursBy_0 rfl rfl ?_
  by_cases c1 : (a1).toInt = 0
  · replace V := V.1 c1
    refine rn_lsw (off := 27) (tgt := 28) dX12_poursBy_1 (by decide) (by rw [c1]; decide) (by decide) ?_
    refine rn_aload_n dX12_poursBy_28 rfl rfl ?_
    refine rn_bipush (v := 10) dX12_poursBy_29 (by decide) ?_
    refine rn_cV (M' := mX12_ran) (n := 1) (av := [.inl 10]) (S := []) (rc := 0) (rs := 0) (mc := 0) (ms := 0) (a := 94) (ci := 11) (r := (RX12, TX12, 38)) dX12_poursBy_31 pa_X12_ran (Nat.le_refl _) rfl (Nat.le_of_ble_eq_true rfl) ml_X12_331 im_X12_ran se_X12_ran rfl rfl rfl (Ev.mono V ?_)
    rintro v sh1 h2 ⟨rfl, Rh2, rfl, V⟩
    show Rn G (d + 1) 0 0 mX12_poursBy 34 [(0, .inr (.inr (some 94))), (1, .inl a1), (2, .inl a2)] [] SH h2 (QI Q)
    refine rn_iload_n dX12_poursBy_34 rfl rfl ?_
    refine rn_aload_n dX12_poursBy_35 rfl rfl ?_
    refine rn_get (v := .inl (h2.1 94 33)) dX12_poursBy_36 fl_X12_328 rfl rfl rfl ?_
    refine rn_iadd dX12_poursBy_39 ?_
    exact rn_iret dX12_poursBy_40 rfl ⟨rfl, Rh2, _, rfl, V⟩
  · replace V := V.2 c1
    by_cases c3 : (a1).toInt = 2
    · replace V := V.1 c3
      refine rn_lsw (off := 40) (tgt := 41) dX12_poursBy_1 (by decide) (by rw [c3]; decide) (by decide) ?_
      refine rn_aload_n dX12_poursBy_41 rfl rfl ?_
      refine rn_bipush (v := 30) dX12_poursBy_42 (by decide) ?_
      refine rn_cV (M' := mX12_ran) (n := 1) (av := [.inl 30]) (S := []) (rc := 0) (rs := 0) (mc := 0) (ms := 0) (a := 94) (ci := 11) (r := (RX12, TX12, 38)) dX12_poursBy_44 pa_X12_ran (Nat.le_refl _) rfl (Nat.le_of_ble_eq_true rfl) ml_X12_331 im_X12_ran se_X12_ran rfl rfl rfl (Ev.mono V ?_)
      rintro v sh1 h4 ⟨rfl, Rh4, rfl, V⟩
      show Rn G (d + 1) 0 0 mX12_poursBy 47 [(0, .inr (.inr (some 94))), (1, .inl a1), (2, .inl a2)] [] SH h4 (QI Q)
      refine rn_aload_n dX12_poursBy_47 rfl rfl ?_
      refine rn_iconst (v := 2) dX12_poursBy_48 (by decide) ?_
      refine rn_cS (M' := mX12_above) (n := 1) (av := [.inl 2]) (S := [.inr (.inr (some 94))]) (rc := 0) (rs := 0) (mc := 0) (ms := 0) dX12_poursBy_49 pa_X12_above (Nat.le_refl _) rfl (Nat.le_of_ble_eq_true rfl) ml_X12_190 ss_X12_above rfl (Ev.mono V ?_)
      rintro v sh1 h5 ⟨rfl, Rh5, x6, rfl, V⟩
      show Rn G (d + 1) 0 0 mX12_poursBy 52 [(0, .inr (.inr (some 94))), (1, .inl a1), (2, .inl a2)] [.inl x6, .inr (.inr (some 94))] SH h5 (QI Q)
      refine rn_iload_n dX12_poursBy_52 rfl rfl ?_
      refine rn_cV (M' := mX12_poursBy) (n := 2) (av := [.inl x6, .inl a2]) (S := []) (rc := 0) (rs := 0) (mc := 0) (ms := 0) (a := 94) (ci := 11) (r := (RX12, TX12, 38)) dX12_poursBy_53 pa_X12_poursBy (Nat.le_refl _) rfl (Nat.le_of_ble_eq_true rfl) ml_X12_334 im_X12_poursBy se_X12_poursBy rfl rfl rfl (Ev.mono V ?_)
      rintro v sh1 h7 ⟨rfl, Rh7, x8, rfl, V⟩
      show Rn G (d + 1) 0 0 mX12_poursBy 56 [(0, .inr (.inr (some 94))), (1, .inl a1), (2, .inl a2)] [.inl x8] SH h7 (QI Q)
      refine rn_iconst (v := 3) dX12_poursBy_56 (by decide) ?_
      refine rn_imul dX12_poursBy_57 ?_
      exact rn_iret dX12_poursBy_58 rfl ⟨rfl, Rh7, _, rfl, V⟩
    · replace V := V.2 c3
      refine rn_lsw (off := 58) (tgt := 59) dX12_poursBy_1 (by decide) (by simp [Op.lookupswitch.offset, Ne.symm c1, Ne.symm c3]) (by decide) ?_
      refine rn_aload_n dX12_poursBy_59 rfl rfl ?_
      refine rn_iload_n dX12_poursBy_60 rfl rfl ?_
      refine rn_cS (M' := mX12_above) (n := 1) (av := [.inl a1]) (S := [.inr (.inr (some 94))]) (rc := 0) (rs := 0) (mc := 0) (ms := 0) dX12_poursBy_61 pa_X12_above (Nat.le_refl _) rfl (Nat.le_of_ble_eq_true rfl) ml_X12_190 ss_X12_above rfl (Ev.mono V ?_)
      rintro v sh1 h9 ⟨rfl, Rh9, x10, rfl, V⟩
      show Rn G (d + 1) 0 0 mX12_poursBy 64 [(0, .inr (.inr (some 94))), (1, .inl a1), (2, .inl a2)] [.inl x10, .inr (.inr (some 94))] SH h9 (QI Q)
      refine rn_iload_n dX12_poursBy_64 rfl rfl ?_
      refine rn_cV (M' := mX12_poursBy) (n := 2) (av := [.inl x10, .inl a2]) (S := []) (rc := 0) (rs := 0) (mc := 0) (ms := 0) (a := 94) (ci := 11) (r := (RX12, TX12, 38)) dX12_poursBy_65 pa_X12_poursBy (Nat.le_refl _) rfl (Nat.le_of_ble_eq_true rfl) ml_X12_334 im_X12_poursBy se_X12_poursBy rfl rfl rfl (Ev.mono V ?_)
      rintro v sh1 h11 ⟨rfl, Rh11, x12, rfl, V⟩
      show Rn G (d + 1) 0 0 mX12_poursBy 68 [(0, .inr (.inr (some 94))), (1, .inl a1), (2, .inl a2)] [.inl x12] SH h11 (QI Q)
      exact rn_iret dX12_poursBy_68 rfl ⟨rfl, Rh11, _, rfl, V⟩
set_option maxRecDepth 100000 in
set_option maxHeartbeats 4000000 in
theorem vc_X12_speaksBy {G : GT} {d : Nat} {a1 : Int32} {a2 : Int32}  {h : Hp} {Q : Int32 → Hp → Prop} (hR : RF h) (V : ((((a1).toInt = 0 + (0 : Nat) → EvV G d mX12_ran [.inr (.inr (some 94)), .inl 11] h (fun h3 => EvI G d mX12_own [.inr (.inr (some 94))] h3 (fun x5 h4 => EvI G d mX12_poursBy [.inr (.inr (some 94)), .inl x5, .inl a2] h4 (fun x7 h6 => Q (x7 * 2) h6)))) ∧ ((a1).toInt = 0 + (1 : Nat) → EvV G d mX12_ran [.inr (.inr (some 94)), .inl 20] h (fun h8 => EvI G d mX12_above [.inl 1] h8 (fun x10 h9 => EvI G d mX12_speaksBy [.inr (.inr (some 94)), .inl x10, .inl a2] h9 (fun x12 h11 => EvI G d mX12_own [.inr (.inr (some 94))] h11 (fun x14 h13 => EvI G d mX12_restsBy [.inr (.inr (some 94)), .inl x14, .inl 1] h13 (fun x16 h15 => Q (x12 - x16) h15)))))) ∧ ((a1).toInt = 0 + (2 : Nat) → EvI G d mX12_above [.inl a1] h (fun x18 h17 => EvI G d mX12_speaksBy [.inr (.inr (some 94)), .inl x18, .inl a2] h17 (fun x20 h19 => Q x20 h19))) ∧ ((a1).toInt = 0 + (3 : Nat) → EvI G d mX12_above [.inl a1] h (fun x22 h21 => EvI G d mX12_speaksBy [.inr (.inr (some 94)), .inl x22, .inl a2] h21 (fun x24 h23 => Q x24 h23))) ∧ ((a1).toInt = 0 + (4 : Nat) → EvV G d mX12_ran [.inr (.inr (some 94)), .inl 50] h (fun h25 => EvI G d mX12_above [.inl 4] h25 (fun x27 h26 => EvI G d mX12_speaksBy [.inr (.inr (some 94)), .inl x27, .inl (a2 + 1)] h26 (fun x29 h28 => Q x29 h28))))) ∧ ((a1).toInt < 0 ∨ 4 < (a1).toInt → EvI G d mX12_above [.inl a1] h (fun x31 h30 => EvI G d mX12_speaksBy [.inr (.inr (some 94)), .inl x31, .inl a2] h30 (fun x33 h32 => Q x33 h32))))) : EvI G (d + 1) mX12_speaksBy [.inr (.inr (some 94)), .inl a1, .inl a2] h Q := by
  refine Ev.of rfl (fun _ => Nat.le_of_ble_eq_true rfl) ?_
  show Rn G (d + 1) 0 0 mX12_speaksBy 0 [(0, .inr (.inr (some 94))), (1, .inl a1), (2, .inl a2)] [] SH h (QI Q)
  refine rn_iload_n dX12_speaksBy_0 rfl rfl ?_
  refine rn_tsw (td := 100) [36, 54, 100, 100, 82] dX12_speaksBy_1 (by decide) (by decide +kernel) (by decide) (fun i2 hi c1 => ?_) (fun c1 => ?_)
  · replace V := V.1
    match i2, hi, c1 with
    | 0, _, c1 =>
      replace V := V.1 c1
      show Rn G (d + 1) 0 0 mX12_speaksBy 36 [(0, .inr (.inr (some 94))), (1, .inl a1), (2, .inl a2)] [] SH h (QI Q)
      refine rn_aload_n dX12_speaksBy_36 rfl rfl ?_
      refine rn_bipush (v := 11) dX12_speaksBy_37 (by decide) ?_
      refine rn_cV (M' := mX12_ran) (n := 1) (av := [.inl 11]) (S := []) (rc := 0) (rs := 0) (mc := 0) (ms := 0) (a := 94) (ci := 11) (r := (RX12, TX12, 38)) dX12_speaksBy_39 pa_X12_ran (Nat.le_refl _) rfl (Nat.le_of_ble_eq_true rfl) ml_X12_331 im_X12_ran se_X12_ran rfl rfl rfl (Ev.mono V ?_)
      rintro v sh1 h3 ⟨rfl, Rh3, rfl, V⟩
      show Rn G (d + 1) 0 0 mX12_speaksBy 42 [(0, .inr (.inr (some 94))), (1, .inl a1), (2, .inl a2)] [] SH h3 (QI Q)
      refine rn_aload_n dX12_speaksBy_42 rfl rfl ?_
      refine rn_aload_n dX12_speaksBy_43 rfl rfl ?_
      refine rn_cV (M' := mX12_own) (n := 0) (av := []) (S := [.inr (.inr (some 94))]) (rc := 0) (rs := 0) (mc := 0) (ms := 0) (a := 94) (ci := 11) (r := (RX12, TX12, 38)) dX12_speaksBy_44 pa_X12_own (Nat.le_refl _) rfl (Nat.le_of_ble_eq_true rfl) ml_X12_337 im_X12_own se_X12_own rfl rfl rfl (Ev.mono V ?_)
      rintro v sh1 h4 ⟨rfl, Rh4, x5, rfl, V⟩
      show Rn G (d + 1) 0 0 mX12_speaksBy 47 [(0, .inr (.inr (some 94))), (1, .inl a1), (2, .inl a2)] [.inl x5, .inr (.inr (some 94))] SH h4 (QI Q)
      refine rn_iload_n dX12_speaksBy_47 rfl rfl ?_
      refine rn_cV (M' := mX12_poursBy) (n := 2) (av := [.inl x5, .inl a2]) (S := []) (rc := 0) (rs := 0) (mc := 0) (ms := 0) (a := 94) (ci := 11) (r := (RX12, TX12, 38)) dX12_speaksBy_48 pa_X12_poursBy (Nat.le_refl _) rfl (Nat.le_of_ble_eq_true rfl) ml_X12_334 im_X12_poursBy se_X12_poursBy rfl rfl rfl (Ev.mono V ?_)
      rintro v sh1 h6 ⟨rfl, Rh6, x7, rfl, V⟩
      show Rn G (d + 1) 0 0 mX12_speaksBy 51 [(0, .inr (.inr (some 94))), (1, .inl a1), (2, .inl a2)] [.inl x7] SH h6 (QI Q)
      refine rn_iconst (v := 2) dX12_speaksBy_51 (by decide) ?_
      refine rn_imul dX12_speaksBy_52 ?_
      exact rn_iret dX12_speaksBy_53 rfl ⟨rfl, Rh6, _, rfl, V⟩
    | 1, _, c1 =>
      replace V := V.2.1 c1
      show Rn G (d + 1) 0 0 mX12_speaksBy 54 [(0, .inr (.inr (some 94))), (1, .inl a1), (2, .inl a2)] [] SH h (QI Q)
      refine rn_aload_n dX12_speaksBy_54 rfl rfl ?_
      refine rn_bipush (v := 20) dX12_speaksBy_55 (by decide) ?_
      refine rn_cV (M' := mX12_ran) (n := 1) (av := [.inl 20]) (S := []) (rc := 0) (rs := 0) (mc := 0) (ms := 0) (a := 94) (ci := 11) (r := (RX12, TX12, 38)) dX12_speaksBy_57 pa_X12_ran (Nat.le_refl _) rfl (Nat.le_of_ble_eq_true rfl) ml_X12_331 im_X12_ran se_X12_ran rfl rfl rfl (Ev.mono V ?_)
      rintro v sh1 h8 ⟨rfl, Rh8, rfl, V⟩
      show Rn G (d + 1) 0 0 mX12_speaksBy 60 [(0, .inr (.inr (some 94))), (1, .inl a1), (2, .inl a2)] [] SH h8 (QI Q)
      refine rn_aload_n dX12_speaksBy_60 rfl rfl ?_
      refine rn_iconst (v := 1) dX12_speaksBy_61 (by decide) ?_
      refine rn_cS (M' := mX12_above) (n := 1) (av := [.inl 1]) (S := [.inr (.inr (some 94))]) (rc := 0) (rs := 0) (mc := 0) (ms := 0) dX12_speaksBy_62 pa_X12_above (Nat.le_refl _) rfl (Nat.le_of_ble_eq_true rfl) ml_X12_190 ss_X12_above rfl (Ev.mono V ?_)
      rintro v sh1 h9 ⟨rfl, Rh9, x10, rfl, V⟩
      show Rn G (d + 1) 0 0 mX12_speaksBy 65 [(0, .inr (.inr (some 94))), (1, .inl a1), (2, .inl a2)] [.inl x10, .inr (.inr (some 94))] SH h9 (QI Q)
      refine rn_iload_n dX12_speaksBy_65 rfl rfl ?_
      refine rn_cV (M' := mX12_speaksBy) (n := 2) (av := [.inl x10, .inl a2]) (S := []) (rc := 0) (rs := 0) (mc := 0) (ms := 0) (a := 94) (ci := 11) (r := (RX12, TX12, 38)) dX12_speaksBy_66 pa_X12_speaksBy (Nat.le_refl _) rfl (Nat.le_of_ble_eq_true rfl) ml_X12_340 im_X12_speaksBy se_X12_speaksBy rfl rfl rfl (Ev.mono V ?_)
      rintro v sh1 h11 ⟨rfl, Rh11, x12, rfl, V⟩
      show Rn G (d + 1) 0 0 mX12_speaksBy 69 [(0, .inr (.inr (some 94))), (1, .inl a1), (2, .inl a2)] [.inl x12] SH h11 (QI Q)
      refine rn_istore_n (L' := [(3, .inl x12), (0, .inr (.inr (some 94))), (1, .inl a1), (2, .inl a2)]) dX12_speaksBy_69 rfl (Nat.le_of_ble_eq_true rfl) rfl ?_
      refine rn_iload_n dX12_speaksBy_70 rfl rfl ?_
      refine rn_aload_n dX12_speaksBy_71 rfl rfl ?_
      refine rn_aload_n dX12_speaksBy_72 rfl rfl ?_
      refine rn_cV (M' := mX12_own) (n := 0) (av := []) (S := [.inr (.inr (some 94)), .inl x12]) (rc := 0) (rs := 0) (mc := 0) (ms := 0) (a := 94) (ci := 11) (r := (RX12, TX12, 38)) dX12_speaksBy_73 pa_X12_own (Nat.le_refl _) rfl (Nat.le_of_ble_eq_true rfl) ml_X12_337 im_X12_own se_X12_own rfl rfl rfl (Ev.mono V ?_)
      rintro v sh1 h13 ⟨rfl, Rh13, x14, rfl, V⟩
      show Rn G (d + 1) 0 0 mX12_speaksBy 76 [(3, .inl x12), (0, .inr (.inr (some 94))), (1, .inl a1), (2, .inl a2)] [.inl x14, .inr (.inr (some 94)), .inl x12] SH h13 (QI Q)
      refine rn_iconst (v := 1) dX12_speaksBy_76 (by decide) ?_
      refine rn_cV (M' := mX12_restsBy) (n := 2) (av := [.inl x14, .inl 1]) (S := [.inl x12]) (rc := 0) (rs := 0) (mc := 0) (ms := 0) (a := 94) (ci := 11) (r := (RX12, TX12, 38)) dX12_speaksBy_77 pa_X12_restsBy (Nat.le_refl _) rfl (Nat.le_of_ble_eq_true rfl) ml_X12_343 im_X12_restsBy se_X12_restsBy rfl rfl rfl (Ev.mono V ?_)
      rintro v sh1 h15 ⟨rfl, Rh15, x16, rfl, V⟩
      show Rn G (d + 1) 0 0 mX12_speaksBy 80 [(3, .inl x12), (0, .inr (.inr (some 94))), (1, .inl a1), (2, .inl a2)] [.inl x16, .inl x12] SH h15 (QI Q)
      refine rn_isub dX12_speaksBy_80 ?_
      exact rn_iret dX12_speaksBy_81 rfl ⟨rfl, Rh15, _, rfl, V⟩
    | 2, _, c1 =>
      replace V := V.2.2.1 c1
      show Rn G (d + 1) 0 0 mX12_speaksBy 100 [(0, .inr (.inr (some 94))), (1, .inl a1), (2, .inl a2)] [] SH h (QI Q)
      refine rn_aload_n dX12_speaksBy_100 rfl rfl ?_
      refine rn_iload_n dX12_speaksBy_101 rfl rfl ?_
      refine rn_cS (M' := mX12_above) (n := 1) (av := [.inl a1]) (S := [.inr (.inr (some 94))]) (rc := 0) (rs := 0) (mc := 0) (ms := 0) dX12_speaksBy_102 pa_X12_above (Nat.le_refl _) rfl (Nat.le_of_ble_eq_true rfl) ml_X12_190 ss_X12_above rfl (Ev.mono V ?_)
      rintro v sh1 h17 ⟨rfl, Rh17, x18, rfl, V⟩
      show Rn G (d + 1) 0 0 mX12_speaksBy 105 [(0, .inr (.inr (some 94))), (1, .inl a1), (2, .inl a2)] [.inl x18, .inr (.inr (some 94))] SH h17 (QI Q)
      refine rn_iload_n dX12_speaksBy_105 rfl rfl ?_
      refine rn_cV (M' := mX12_speaksBy) (n := 2) (av := [.inl x18, .inl a2]) (S := []) (rc := 0) (rs := 0) (mc := 0) (ms := 0) (a := 94) (ci := 11) (r := (RX12, TX12, 38)) dX12_speaksBy_106 pa_X12_speaksBy (Nat.le_refl _) rfl (Nat.le_of_ble_eq_true rfl) ml_X12_340 im_X12_speaksBy se_X12_speaksBy rfl rfl rfl (Ev.mono V ?_)
      rintro v sh1 h19 ⟨rfl, Rh19, x20, rfl, V⟩
      show Rn G (d + 1) 0 0 mX12_speaksBy 109 [(0, .inr (.inr (some 94))), (1, .inl a1), (2, .inl a2)] [.inl x20] SH h19 (QI Q)
      exact rn_iret dX12_speaksBy_109 rfl ⟨rfl, Rh19, _, rfl, V⟩
    | 3, _, c1 =>
      replace V := V.2.2.2.1 c1
      show Rn G (d + 1) 0 0 mX12_speaksBy 100 [(0, .inr (.inr (some 94))), (1, .inl a1), (2, .inl a2)] [] SH h (QI Q)
      refine rn_aload_n dX12_speaksBy_100 rfl rfl ?_
      refine rn_iload_n dX12_speaksBy_101 rfl rfl ?_
      refine rn_cS (M' := mX12_above) (n := 1) (av := [.inl a1]) (S := [.inr (.inr (some 94))]) (rc := 0) (rs := 0) (mc := 0) (ms := 0) dX12_speaksBy_102 pa_X12_above (Nat.le_refl _) rfl (Nat.le_of_ble_eq_true rfl) ml_X12_190 ss_X12_above rfl (Ev.mono V ?_)
      rintro v sh1 h21 ⟨rfl, Rh21, x22, rfl, V⟩
      show Rn G (d + 1) 0 0 mX12_speaksBy 105 [(0, .inr (.inr (some 94))), (1, .inl a1), (2, .inl a2)] [.inl x22, .inr (.inr (some 94))] SH h21 (QI Q)
      refine rn_iload_n dX12_speaksBy_105 rfl rfl ?_
      refine rn_cV (M' := mX12_speaksBy) (n := 2) (av := [.inl x22, .inl a2]) (S := []) (rc := 0) (rs := 0) (mc := 0) (ms := 0) (a := 94) (ci := 11) (r := (RX12, TX12, 38)) dX12_speaksBy_106 pa_X12_speaksBy (Nat.le_refl _) rfl (Nat.le_of_ble_eq_true rfl) ml_X12_340 im_X12_speaksBy se_X12_speaksBy rfl rfl rfl (Ev.mono V ?_)
      rintro v sh1 h23 ⟨rfl, Rh23, x24, rfl, V⟩
      show Rn G (d + 1) 0 0 mX12_speaksBy 109 [(0, .inr (.inr (some 94))), (1, .inl a1), (2, .inl a2)] [.inl x24] SH h23 (QI Q)
      exact rn_iret dX12_speaksBy_109 rfl ⟨rfl, Rh23, _, rfl, V⟩
    | 4, _, c1 =>
      replace V := V.2.2.2.2 c1
      show Rn G (d + 1) 0 0 mX12_speaksBy 82 [(0, .inr (.inr (some 94))), (1, .inl a1), (2, .inl a2)] [] SH h (QI Q)
      refine rn_aload_n dX12_speaksBy_82 rfl rfl ?_
      refine rn_bipush (v := 50) dX12_speaksBy_83 (by decide) ?_
      refine rn_cV (M' := mX12_ran) (n := 1) (av := [.inl 50]) (S := []) (rc := 0) (rs := 0) (mc := 0) (ms := 0) (a := 94) (ci := 11) (r := (RX12, TX12, 38)) dX12_speaksBy_85 pa_X12_ran (Nat.le_refl _) rfl (Nat.le_of_ble_eq_true rfl) ml_X12_331 im_X12_ran se_X12_ran rfl rfl rfl (Ev.mono V ?_)
      rintro v sh1 h25 ⟨rfl, Rh25, rfl, V⟩
      show Rn G (d + 1) 0 0 mX12_speaksBy 88 [(0, .inr (.inr (some 94))), (1, .inl a1), (2, .inl a2)] [] SH h25 (QI Q)
      refine rn_aload_n dX12_speaksBy_88 rfl rfl ?_
      refine rn_iconst (v := 4) dX12_speaksBy_89 (by decide) ?_
      refine rn_cS (M' := mX12_above) (n := 1) (av := [.inl 4]) (S := [.inr (.inr (some 94))]) (rc := 0) (rs := 0) (mc := 0) (ms := 0) dX12_speaksBy_90 pa_X12_above (Nat.le_refl _) rfl (Nat.le_of_ble_eq_true rfl) ml_X12_190 ss_X12_above rfl (Ev.mono V ?_)
      rintro v sh1 h26 ⟨rfl, Rh26, x27, rfl, V⟩
      show Rn G (d + 1) 0 0 mX12_speaksBy 93 [(0, .inr (.inr (some 94))), (1, .inl a1), (2, .inl a2)] [.inl x27, .inr (.inr (some 94))] SH h26 (QI Q)
      refine rn_iload_n dX12_speaksBy_93 rfl rfl ?_
      refine rn_iconst (v := 1) dX12_speaksBy_94 (by decide) ?_
      refine rn_iadd dX12_speaksBy_95 ?_
      refine rn_cV (M' := mX12_speaksBy) (n := 2) (av := [.inl x27, .inl (a2 + 1)]) (S := []) (rc := 0) (rs := 0) (mc := 0) (ms := 0) (a := 94) (ci := 11) (r := (RX12, TX12, 38)) dX12_speaksBy_96 pa_X12_speaksBy (Nat.le_refl _) rfl (Nat.le_of_ble_eq_true rfl) ml_X12_340 im_X12_speaksBy se_X12_speaksBy rfl rfl rfl (Ev.mono V ?_)
      rintro v sh1 h28 ⟨rfl, Rh28, x29, rfl, V⟩
      show Rn G (d + 1) 0 0 mX12_speaksBy 99 [(0, .inr (.inr (some 94))), (1, .inl a1), (2, .inl a2)] [.inl x29] SH h28 (QI Q)
      exact rn_iret dX12_speaksBy_99 rfl ⟨rfl, Rh28, _, rfl, V⟩
    | n + 5, hi, _ => exact absurd hi (by simp)
  · replace V := V.2 c1
    refine rn_aload_n dX12_speaksBy_100 rfl rfl ?_
    refine rn_iload_n dX12_speaksBy_101 rfl rfl ?_
    refine rn_cS (M' := mX12_above) (n := 1) (av := [.inl a1]) (S := [.inr (.inr (some 94))]) (rc := 0) (rs := 0) (mc := 0) (ms := 0) dX12_speaksBy_102 pa_X12_above (Nat.le_refl _) rfl (Nat.le_of_ble_eq_true rfl) ml_X12_190 ss_X12_above rfl (Ev.mono V ?_)
    rintro v sh1 h30 ⟨rfl, Rh30, x31, rfl, V⟩
    show Rn G (d + 1) 0 0 mX12_speaksBy 105 [(0, .inr (.inr (some 94))), (1, .inl a1), (2, .inl a2)] [.inl x31, .inr (.inr (some 94))] SH h30 (QI Q)
    refine rn_iload_n dX12_speaksBy_105 rfl rfl ?_
    refine rn_cV (M' := mX12_speaksBy) (n := 2) (av := [.inl x31, .inl a2]) (S := []) (rc := 0) (rs := 0) (mc := 0) (ms := 0) (a := 94) (ci := 11) (r := (RX12, TX12, 38)) dX12_speaksBy_106 pa_X12_speaksBy (Nat.le_refl _) rfl (Nat.le_of_ble_eq_true rfl) ml_X12_340 im_X12_speaksBy se_X12_speaksBy rfl rfl rfl (Ev.mono V ?_)
    rintro v sh1 h32 ⟨rfl, Rh32, x33, rfl, V⟩
    show Rn G (d + 1) 0 0 mX12_speaksBy 109 [(0, .inr (.inr (some 94))), (1, .inl a1), (2, .inl a2)] [.inl x33] SH h32 (QI Q)
    exact rn_iret dX12_speaksBy_109 rfl ⟨rfl, Rh32, _, rfl, V⟩
set_option maxRecDepth 100000 in
set_option maxHeartbeats 4000000 in
theorem vc_X12_restsBy {G : GT} {d : Nat} {a1 : Int32} {a2 : Int32}  {h : Hp} {Q : Int32 → Hp → Prop} (hR : RF h) (V : (((a1).toInt = 0 → EvV G d mX12_ran [.inr (.inr (some 94)), .inl 12] h (fun h2 => EvI G d mX12_of [.inr (.inr (some 94)), .inl (h2.1 94 33), .inl 1] h2 (fun x4 h3 => Q (a2 - x4) h3))) ∧ (¬ (a1).toInt = 0 → (((a1).toInt = 3 → EvV G d mX12_ran [.inr (.inr (some 94)), .inl 40] h (fun h6 => EvI G d mX12_above [.inl 3] h6 (fun x8 h7 => EvI G d mX12_restsBy [.inr (.inr (some 94)), .inl x8, .inl a2] h7 (fun x10 h9 => Q (-x10) h9)))) ∧ (¬ (a1).toInt = 3 → (((a1).toInt = 6 → EvV G d mX12_ran [.inr (.inr (some 94)), .inl 70] h (fun h12 => EvI G d mX12_above [.inl 6] h12 (fun x14 h13 => EvI G d mX12_restsBy [.inr (.inr (some 94)), .inl x14, .inl a2] h13 (fun x16 h15 => Q (x16 ^^^ h15.1 94 33) h15)))) ∧ (¬ (a1).toInt = 6 → EvI G d mX12_above [.inl a1] h (fun x18 h17 => EvI G d mX12_restsBy [.inr (.inr (some 94)), .inl x18, .inl a2] h17 (fun x20 h19 => Q x20 h19))))))))) : EvI G (d + 1) mX12_restsBy [.inr (.inr (some 94)), .inl a1, .inl a2] h Q := by
  refine Ev.of rfl (fun _ => Nat.le_of_ble_eq_true rfl) ?_
  show Rn G (d + 1) 0 0 mX12_restsBy 0 [(0, .inr (.inr (some 94))), (1, .inl a1), (2, .inl a2)] [] SH h (QI Q)
  refine rn_iload_n dX12_restsBy_0 rfl rfl ?_
  by_cases c1 : (a1).toInt = 0
  · replace V := V.1 c1
    refine rn_lsw (off := 35) (tgt := 36) dX12_restsBy_1 (by decide) (by rw [c1]; decide) (by decide) ?_
    refine rn_aload_n dX12_restsBy_36 rfl rfl ?_
    refine rn_bipush (v := 12) dX12_restsBy_37 (by decide) ?_
    refine rn_cV (M' := mX12_ran) (n := 1) (av := [.inl 12]) (S := []) (rc := 0) (rs := 0) (mc := 0) (ms := 0) (a := 94) (ci := 11) (r := (RX12, TX12, 38)) dX12_restsBy_39 pa_X12_ran (Nat.le_refl _) rfl (Nat.le_of_ble_eq_true rfl) ml_X12_331 im_X12_ran se_X12_ran rfl rfl rfl (Ev.mono V ?_)
    rintro v sh1 h2 ⟨rfl, Rh2, rfl, V⟩
    show Rn G (d + 1) 0 0 mX12_restsBy 42 [(0, .inr (.inr (some 94))), (1, .inl a1), (2, .inl a2)] [] SH h2 (QI Q)
    refine rn_iload_n dX12_restsBy_42 rfl rfl ?_
    refine rn_aload_n dX12_restsBy_43 rfl rfl ?_
    refine rn_aload_n dX12_restsBy_44 rfl rfl ?_
    refine rn_get (v := .inl (h2.1 94 33)) dX12_restsBy_45 fl_X12_328 rfl rfl rfl ?_
    refine rn_iconst (v := 1) dX12_restsBy_48 (by decide) ?_
    refine rn_cV (M' := mX12_of) (n := 2) (av := [.inl (h2.1 94 33), .inl 1]) (S := [.inl a2]) (rc := 0) (rs := 0) (mc := 0) (ms := 0) (a := 94) (ci := 11) (r := (RX12, TX12, 38)) dX12_restsBy_49 pa_X12_of (Nat.le_refl _) rfl (Nat.le_of_ble_eq_true rfl) ml_X12_161 im_X12_of se_X12_of rfl rfl rfl (Ev.mono V ?_)
    rintro v sh1 h3 ⟨rfl, Rh3, x4, rfl, V⟩
    show Rn G (d + 1) 0 0 mX12_restsBy 52 [(0, .inr (.inr (some 94))), (1, .inl a1), (2, .inl a2)] [.inl x4, .inl a2] SH h3 (QI Q)
    refine rn_isub dX12_restsBy_52 ?_
    exact rn_iret dX12_restsBy_53 rfl ⟨rfl, Rh3, _, rfl, V⟩
  · replace V := V.2 c1
    by_cases c5 : (a1).toInt = 3
    · replace V := V.1 c5
      refine rn_lsw (off := 53) (tgt := 54) dX12_restsBy_1 (by decide) (by rw [c5]; decide) (by decide) ?_
      refine rn_aload_n dX12_restsBy_54 rfl rfl ?_
      refine rn_bipush (v := 40) dX12_restsBy_55 (by decide) ?_
      refine rn_cV (M' := mX12_ran) (n := 1) (av := [.inl 40]) (S := []) (rc := 0) (rs := 0) (mc := 0) (ms := 0) (a := 94) (ci := 11) (r := (RX12, TX12, 38)) dX12_restsBy_57 pa_X12_ran (Nat.le_refl _) rfl (Nat.le_of_ble_eq_true rfl) ml_X12_331 im_X12_ran se_X12_ran rfl rfl rfl (Ev.mono V ?_)
      rintro v sh1 h6 ⟨rfl, Rh6, rfl, V⟩
      show Rn G (d + 1) 0 0 mX12_restsBy 60 [(0, .inr (.inr (some 94))), (1, .inl a1), (2, .inl a2)] [] SH h6 (QI Q)
      refine rn_aload_n dX12_restsBy_60 rfl rfl ?_
      refine rn_iconst (v := 3) dX12_restsBy_61 (by decide) ?_
      refine rn_cS (M' := mX12_above) (n := 1) (av := [.inl 3]) (S := [.inr (.inr (some 94))]) (rc := 0) (rs := 0) (mc := 0) (ms := 0) dX12_restsBy_62 pa_X12_above (Nat.le_refl _) rfl (Nat.le_of_ble_eq_true rfl) ml_X12_190 ss_X12_above rfl (Ev.mono V ?_)
      rintro v sh1 h7 ⟨rfl, Rh7, x8, rfl, V⟩
      show Rn G (d + 1) 0 0 mX12_restsBy 65 [(0, .inr (.inr (some 94))), (1, .inl a1), (2, .inl a2)] [.inl x8, .inr (.inr (some 94))] SH h7 (QI Q)
      refine rn_iload_n dX12_restsBy_65 rfl rfl ?_
      refine rn_cV (M' := mX12_restsBy) (n := 2) (av := [.inl x8, .inl a2]) (S := []) (rc := 0) (rs := 0) (mc := 0) (ms := 0) (a := 94) (ci := 11) (r := (RX12, TX12, 38)) dX12_restsBy_66 pa_X12_restsBy (Nat.le_refl _) rfl (Nat.le_of_ble_eq_true rfl) ml_X12_343 im_X12_restsBy se_X12_restsBy rfl rfl rfl (Ev.mono V ?_)
      rintro v sh1 h9 ⟨rfl, Rh9, x10, rfl, V⟩
      show Rn G (d + 1) 0 0 mX12_restsBy 69 [(0, .inr (.inr (some 94))), (1, .inl a1), (2, .inl a2)] [.inl x10] SH h9 (QI Q)
      refine rn_ineg dX12_restsBy_69 ?_
      exact rn_iret dX12_restsBy_70 rfl ⟨rfl, Rh9, _, rfl, V⟩
    · replace V := V.2 c5
      by_cases c11 : (a1).toInt = 6
      · replace V := V.1 c11
        refine rn_lsw (off := 70) (tgt := 71) dX12_restsBy_1 (by decide) (by rw [c11]; decide) (by decide) ?_
        refine rn_aload_n dX12_restsBy_71 rfl rfl ?_
        refine rn_bipush (v := 70) dX12_restsBy_72 (by decide) ?_
        refine rn_cV (M' := mX12_ran) (n := 1) (av := [.inl 70]) (S := []) (rc := 0) (rs := 0) (mc := 0) (ms := 0) (a := 94) (ci := 11) (r := (RX12, TX12, 38)) dX12_restsBy_74 pa_X12_ran (Nat.le_refl _) rfl (Nat.le_of_ble_eq_true rfl) ml_X12_331 im_X12_ran se_X12_ran rfl rfl rfl (Ev.mono V ?_)
        rintro v sh1 h12 ⟨rfl, Rh12, rfl, V⟩
        show Rn G (d + 1) 0 0 mX12_restsBy 77 [(0, .inr (.inr (some 94))), (1, .inl a1), (2, .inl a2)] [] SH h12 (QI Q)
        refine rn_aload_n dX12_restsBy_77 rfl rfl ?_
        refine rn_bipush (v := 6) dX12_restsBy_78 (by decide) ?_
        refine rn_cS (M' := mX12_above) (n := 1) (av := [.inl 6]) (S := [.inr (.inr (some 94))]) (rc := 0) (rs := 0) (mc := 0) (ms := 0) dX12_restsBy_80 pa_X12_above (Nat.le_refl _) rfl (Nat.le_of_ble_eq_true rfl) ml_X12_190 ss_X12_above rfl (Ev.mono V ?_)
        rintro v sh1 h13 ⟨rfl, Rh13, x14, rfl, V⟩
        show Rn G (d + 1) 0 0 mX12_restsBy 83 [(0, .inr (.inr (some 94))), (1, .inl a1), (2, .inl a2)] [.inl x14, .inr (.inr (some 94))] SH h13 (QI Q)
        refine rn_iload_n dX12_restsBy_83 rfl rfl ?_
        refine rn_cV (M' := mX12_restsBy) (n := 2) (av := [.inl x14, .inl a2]) (S := []) (rc := 0) (rs := 0) (mc := 0) (ms := 0) (a := 94) (ci := 11) (r := (RX12, TX12, 38)) dX12_restsBy_84 pa_X12_restsBy (Nat.le_refl _) rfl (Nat.le_of_ble_eq_true rfl) ml_X12_343 im_X12_restsBy se_X12_restsBy rfl rfl rfl (Ev.mono V ?_)
        rintro v sh1 h15 ⟨rfl, Rh15, x16, rfl, V⟩
        show Rn G (d + 1) 0 0 mX12_restsBy 87 [(0, .inr (.inr (some 94))), (1, .inl a1), (2, .inl a2)] [.inl x16] SH h15 (QI Q)
        refine rn_aload_n dX12_restsBy_87 rfl rfl ?_
        refine rn_get (v := .inl (h15.1 94 33)) dX12_restsBy_88 fl_X12_328 rfl rfl rfl ?_
        refine rn_ixor dX12_restsBy_91 ?_
        exact rn_iret dX12_restsBy_92 rfl ⟨rfl, Rh15, _, rfl, V⟩
      · replace V := V.2 c11
        refine rn_lsw (off := 92) (tgt := 93) dX12_restsBy_1 (by decide) (by simp [Op.lookupswitch.offset, Ne.symm c1, Ne.symm c5, Ne.symm c11]) (by decide) ?_
        refine rn_aload_n dX12_restsBy_93 rfl rfl ?_
        refine rn_iload_n dX12_restsBy_94 rfl rfl ?_
        refine rn_cS (M' := mX12_above) (n := 1) (av := [.inl a1]) (S := [.inr (.inr (some 94))]) (rc := 0) (rs := 0) (mc := 0) (ms := 0) dX12_restsBy_95 pa_X12_above (Nat.le_refl _) rfl (Nat.le_of_ble_eq_true rfl) ml_X12_190 ss_X12_above rfl (Ev.mono V ?_)
        rintro v sh1 h17 ⟨rfl, Rh17, x18, rfl, V⟩
        show Rn G (d + 1) 0 0 mX12_restsBy 98 [(0, .inr (.inr (some 94))), (1, .inl a1), (2, .inl a2)] [.inl x18, .inr (.inr (some 94))] SH h17 (QI Q)
        refine rn_iload_n dX12_restsBy_98 rfl rfl ?_
        refine rn_cV (M' := mX12_restsBy) (n := 2) (av := [.inl x18, .inl a2]) (S := []) (rc := 0) (rs := 0) (mc := 0) (ms := 0) (a := 94) (ci := 11) (r := (RX12, TX12, 38)) dX12_restsBy_99 pa_X12_restsBy (Nat.le_refl _) rfl (Nat.le_of_ble_eq_true rfl) ml_X12_343 im_X12_restsBy se_X12_restsBy rfl rfl rfl (Ev.mono V ?_)
        rintro v sh1 h19 ⟨rfl, Rh19, x20, rfl, V⟩
        show Rn G (d + 1) 0 0 mX12_restsBy 102 [(0, .inr (.inr (some 94))), (1, .inl a1), (2, .inl a2)] [.inl x20] SH h19 (QI Q)
        exact rn_iret dX12_restsBy_102 rfl ⟨rfl, Rh19, _, rfl, V⟩
set_option maxRecDepth 100000 in
set_option maxHeartbeats 4000000 in
theorem vc_X12_tellsBy {G : GT} {d : Nat} {a1 : Int32} {a2 : Int32}  {h : Hp} {Q : Int32 → Hp → Prop} (hR : RF h) (V : (((a1).toInt = 0 → EvV G d mX12_ran [.inr (.inr (some 94)), .inl 13] h (fun h2 => EvI G d mX12_own [.inr (.inr (some 94))] h2 (fun x4 h3 => EvI G d mX12_speaksBy [.inr (.inr (some 94)), .inl x4, .inl a2] h3 (fun x6 h5 => EvI G d mX12_own [.inr (.inr (some 94))] h5 (fun x8 h7 => EvI G d mX12_restsBy [.inr (.inr (some 94)), .inl x8, .inl a2] h7 (fun x10 h9 => Q (x6 ^^^ x10) h9)))))) ∧ (¬ (a1).toInt = 0 → (((a1).toInt = 5 → EvV G d mX12_ran [.inr (.inr (some 94)), .inl 60] h (fun h12 => EvI G d mX12_above [.inl 5] h12 (fun x14 h13 => EvI G d mX12_tellsBy [.inr (.inr (some 94)), .inl x14, .inl a2] h13 (fun x16 h15 => EvI G d mX12_own [.inr (.inr (some 94))] h15 (fun x18 h17 => EvI G d mX12_poursBy [.inr (.inr (some 94)), .inl x18, .inl 2] h17 (fun x20 h19 => Q (x16 - x20) h19)))))) ∧ (¬ (a1).toInt = 5 → (((a1).toInt = 6 → EvV G d mX12_ran [.inr (.inr (some 94)), .inl 71] h (fun h22 => EvI G d mX12_own [.inr (.inr (some 94))] h22 (fun x24 h23 => EvI G d mX12_speaksBy [.inr (.inr (some 94)), .inl x24, .inl a2] h23 (fun x26 h25 => EvI G d mX12_above [.inl 6] h25 (fun x28 h27 => EvI G d mX12_tellsBy [.inr (.inr (some 94)), .inl x28, .inl a2] h27 (fun x30 h29 => Q (x26 - x30) h29)))))) ∧ (¬ (a1).toInt = 6 → EvI G d mX12_above [.inl a1] h (fun x32 h31 => EvI G d mX12_tellsBy [.inr (.inr (some 94)), .inl x32, .inl a2] h31 (fun x34 h33 => Q x34 h33))))))))) : EvI G (d + 1) mX12_tellsBy [.inr (.inr (some 94)), .inl a1, .inl a2] h Q := by
  refine Ev.of rfl (fun _ => Nat.le_of_ble_eq_true rfl) ?_
  show Rn G (d + 1) 0 0 mX12_tellsBy 0 [(0, .inr (.inr (some 94))), (1, .inl a1), (2, .inl a2)] [] SH h (QI Q)
  refine rn_iload_n dX12_tellsBy_0 rfl rfl ?_
  by_cases c1 : (a1).toInt = 0
  · replace V := V.1 c1
    refine rn_lsw (off := 35) (tgt := 36) dX12_tellsBy_1 (by decide) (by rw [c1]; decide) (by decide) ?_
    refine rn_aload_n dX12_tellsBy_36 rfl rfl ?_
    refine rn_bipush (v := 13) dX12_tellsBy_37 (by decide) ?_
    refine rn_cV (M' := mX12_ran) (n := 1) (av := [.inl 13]) (S := []) (rc := 0) (rs := 0) (mc := 0) (ms := 0) (a := 94) (ci := 11) (r := (RX12, TX12, 38)) dX12_tellsBy_39 pa_X12_ran (Nat.le_refl _) rfl (Nat.le_of_ble_eq_true rfl) ml_X12_331 im_X12_ran se_X12_ran rfl rfl rfl (Ev.mono V ?_)
    rintro v sh1 h2 ⟨rfl, Rh2, rfl, V⟩
    show Rn G (d + 1) 0 0 mX12_tellsBy 42 [(0, .inr (.inr (some 94))), (1, .inl a1), (2, .inl a2)] [] SH h2 (QI Q)
    refine rn_aload_n dX12_tellsBy_42 rfl rfl ?_
    refine rn_aload_n dX12_tellsBy_43 rfl rfl ?_
    refine rn_cV (M' := mX12_own) (n := 0) (av := []) (S := [.inr (.inr (some 94))]) (rc := 0) (rs := 0) (mc := 0) (ms := 0) (a := 94) (ci := 11) (r := (RX12, TX12, 38)) dX12_tellsBy_44 pa_X12_own (Nat.le_refl _) rfl (Nat.le_of_ble_eq_true rfl) ml_X12_337 im_X12_own se_X12_own rfl rfl rfl (Ev.mono V ?_)
    rintro v sh1 h3 ⟨rfl, Rh3, x4, rfl, V⟩
    show Rn G (d + 1) 0 0 mX12_tellsBy 47 [(0, .inr (.inr (some 94))), (1, .inl a1), (2, .inl a2)] [.inl x4, .inr (.inr (some 94))] SH h3 (QI Q)
    refine rn_iload_n dX12_tellsBy_47 rfl rfl ?_
    refine rn_cV (M' := mX12_speaksBy) (n := 2) (av := [.inl x4, .inl a2]) (S := []) (rc := 0) (rs := 0) (mc := 0) (ms := 0) (a := 94) (ci := 11) (r := (RX12, TX12, 38)) dX12_tellsBy_48 pa_X12_speaksBy (Nat.le_refl _) rfl (Nat.le_of_ble_eq_true rfl) ml_X12_340 im_X12_speaksBy se_X12_speaksBy rfl rfl rfl (Ev.mono V ?_)
    rintro v sh1 h5 ⟨rfl, Rh5, x6, rfl, V⟩
    show Rn G (d + 1) 0 0 mX12_tellsBy 51 [(0, .inr (.inr (some 94))), (1, .inl a1), (2, .inl a2)] [.inl x6] SH h5 (QI Q)
    refine rn_istore_n (L' := [(3, .inl x6), (0, .inr (.inr (some 94))), (1, .inl a1), (2, .inl a2)]) dX12_tellsBy_51 rfl (Nat.le_of_ble_eq_true rfl) rfl ?_
    refine rn_iload_n dX12_tellsBy_52 rfl rfl ?_
    refine rn_aload_n dX12_tellsBy_53 rfl rfl ?_
    refine rn_aload_n dX12_tellsBy_54 rfl rfl ?_
    refine rn_cV (M' := mX12_own) (n := 0) (av := []) (S := [.inr (.inr (some 94)), .inl x6]) (rc := 0) (rs := 0) (mc := 0) (ms := 0) (a := 94) (ci := 11) (r := (RX12, TX12, 38)) dX12_tellsBy_55 pa_X12_own (Nat.le_refl _) rfl (Nat.le_of_ble_eq_true rfl) ml_X12_337 im_X12_own se_X12_own rfl rfl rfl (Ev.mono V ?_)
    rintro v sh1 h7 ⟨rfl, Rh7, x8, rfl, V⟩
    show Rn G (d + 1) 0 0 mX12_tellsBy 58 [(3, .inl x6), (0, .inr (.inr (some 94))), (1, .inl a1), (2, .inl a2)] [.inl x8, .inr (.inr (some 94)), .inl x6] SH h7 (QI Q)
    refine rn_iload_n dX12_tellsBy_58 rfl rfl ?_
    refine rn_cV (M' := mX12_restsBy) (n := 2) (av := [.inl x8, .inl a2]) (S := [.inl x6]) (rc := 0) (rs := 0) (mc := 0) (ms := 0) (a := 94) (ci := 11) (r := (RX12, TX12, 38)) dX12_tellsBy_59 pa_X12_restsBy (Nat.le_refl _) rfl (Nat.le_of_ble_eq_true rfl) ml_X12_343 im_X12_restsBy se_X12_restsBy rfl rfl rfl (Ev.mono V ?_)
    rintro v sh1 h9 ⟨rfl, Rh9, x10, rfl, V⟩
    show Rn G (d + 1) 0 0 mX12_tellsBy 62 [(3, .inl x6), (0, .inr (.inr (some 94))), (1, .inl a1), (2, .inl a2)] [.inl x10, .inl x6] SH h9 (QI Q)
    refine rn_ixor dX12_tellsBy_62 ?_
    exact rn_iret dX12_tellsBy_63 rfl ⟨rfl, Rh9, _, rfl, V⟩
  · replace V := V.2 c1
    by_cases c11 : (a1).toInt = 5
    · replace V := V.1 c11
      refine rn_lsw (off := 63) (tgt := 64) dX12_tellsBy_1 (by decide) (by rw [c11]; decide) (by decide) ?_
      refine rn_aload_n dX12_tellsBy_64 rfl rfl ?_
      refine rn_bipush (v := 60) dX12_tellsBy_65 (by decide) ?_
      refine rn_cV (M' := mX12_ran) (n := 1) (av := [.inl 60]) (S := []) (rc := 0) (rs := 0) (mc := 0) (ms := 0) (a := 94) (ci := 11) (r := (RX12, TX12, 38)) dX12_tellsBy_67 pa_X12_ran (Nat.le_refl _) rfl (Nat.le_of_ble_eq_true rfl) ml_X12_331 im_X12_ran se_X12_ran rfl rfl rfl (Ev.mono V ?_)
      rintro v sh1 h12 ⟨rfl, Rh12, rfl, V⟩
      show Rn G (d + 1) 0 0 mX12_tellsBy 70 [(0, .inr (.inr (some 94))), (1, .inl a1), (2, .inl a2)] [] SH h12 (QI Q)
      refine rn_aload_n dX12_tellsBy_70 rfl rfl ?_
      refine rn_iconst (v := 5) dX12_tellsBy_71 (by decide) ?_
      refine rn_cS (M' := mX12_above) (n := 1) (av := [.inl 5]) (S := [.inr (.inr (some 94))]) (rc := 0) (rs := 0) (mc := 0) (ms := 0) dX12_tellsBy_72 pa_X12_above (Nat.le_refl _) rfl (Nat.le_of_ble_eq_true rfl) ml_X12_190 ss_X12_above rfl (Ev.mono V ?_)
      rintro v sh1 h13 ⟨rfl, Rh13, x14, rfl, V⟩
      show Rn G (d + 1) 0 0 mX12_tellsBy 75 [(0, .inr (.inr (some 94))), (1, .inl a1), (2, .inl a2)] [.inl x14, .inr (.inr (some 94))] SH h13 (QI Q)
      refine rn_iload_n dX12_tellsBy_75 rfl rfl ?_
      refine rn_cV (M' := mX12_tellsBy) (n := 2) (av := [.inl x14, .inl a2]) (S := []) (rc := 0) (rs := 0) (mc := 0) (ms := 0) (a := 94) (ci := 11) (r := (RX12, TX12, 38)) dX12_tellsBy_76 pa_X12_tellsBy (Nat.le_refl _) rfl (Nat.le_of_ble_eq_true rfl) ml_X12_346 im_X12_tellsBy se_X12_tellsBy rfl rfl rfl (Ev.mono V ?_)
      rintro v sh1 h15 ⟨rfl, Rh15, x16, rfl, V⟩
      show Rn G (d + 1) 0 0 mX12_tellsBy 79 [(0, .inr (.inr (some 94))), (1, .inl a1), (2, .inl a2)] [.inl x16] SH h15 (QI Q)
      refine rn_istore_n (L' := [(3, .inl x16), (0, .inr (.inr (some 94))), (1, .inl a1), (2, .inl a2)]) dX12_tellsBy_79 rfl (Nat.le_of_ble_eq_true rfl) rfl ?_
      refine rn_iload_n dX12_tellsBy_80 rfl rfl ?_
      refine rn_aload_n dX12_tellsBy_81 rfl rfl ?_
      refine rn_aload_n dX12_tellsBy_82 rfl rfl ?_
      refine rn_cV (M' := mX12_own) (n := 0) (av := []) (S := [.inr (.inr (some 94)), .inl x16]) (rc := 0) (rs := 0) (mc := 0) (ms := 0) (a := 94) (ci := 11) (r := (RX12, TX12, 38)) dX12_tellsBy_83 pa_X12_own (Nat.le_refl _) rfl (Nat.le_of_ble_eq_true rfl) ml_X12_337 im_X12_own se_X12_own rfl rfl rfl (Ev.mono V ?_)
      rintro v sh1 h17 ⟨rfl, Rh17, x18, rfl, V⟩
      show Rn G (d + 1) 0 0 mX12_tellsBy 86 [(3, .inl x16), (0, .inr (.inr (some 94))), (1, .inl a1), (2, .inl a2)] [.inl x18, .inr (.inr (some 94)), .inl x16] SH h17 (QI Q)
      refine rn_iconst (v := 2) dX12_tellsBy_86 (by decide) ?_
      refine rn_cV (M' := mX12_poursBy) (n := 2) (av := [.inl x18, .inl 2]) (S := [.inl x16]) (rc := 0) (rs := 0) (mc := 0) (ms := 0) (a := 94) (ci := 11) (r := (RX12, TX12, 38)) dX12_tellsBy_87 pa_X12_poursBy (Nat.le_refl _) rfl (Nat.le_of_ble_eq_true rfl) ml_X12_334 im_X12_poursBy se_X12_poursBy rfl rfl rfl (Ev.mono V ?_)
      rintro v sh1 h19 ⟨rfl, Rh19, x20, rfl, V⟩
      show Rn G (d + 1) 0 0 mX12_tellsBy 90 [(3, .inl x16), (0, .inr (.inr (some 94))), (1, .inl a1), (2, .inl a2)] [.inl x20, .inl x16] SH h19 (QI Q)
      refine rn_isub dX12_tellsBy_90 ?_
      exact rn_iret dX12_tellsBy_91 rfl ⟨rfl, Rh19, _, rfl, V⟩
    · replace V := V.2 c11
      by_cases c21 : (a1).toInt = 6
      · replace V := V.1 c21
        refine rn_lsw (off := 91) (tgt := 92) dX12_tellsBy_1 (by decide) (by rw [c21]; decide) (by decide) ?_
        refine rn_aload_n dX12_tellsBy_92 rfl rfl ?_
        refine rn_bipush (v := 71) dX12_tellsBy_93 (by decide) ?_
        refine rn_cV (M' := mX12_ran) (n := 1) (av := [.inl 71]) (S := []) (rc := 0) (rs := 0) (mc := 0) (ms := 0) (a := 94) (ci := 11) (r := (RX12, TX12, 38)) dX12_tellsBy_95 pa_X12_ran (Nat.le_refl _) rfl (Nat.le_of_ble_eq_true rfl) ml_X12_331 im_X12_ran se_X12_ran rfl rfl rfl (Ev.mono V ?_)
        rintro v sh1 h22 ⟨rfl, Rh22, rfl, V⟩
        show Rn G (d + 1) 0 0 mX12_tellsBy 98 [(0, .inr (.inr (some 94))), (1, .inl a1), (2, .inl a2)] [] SH h22 (QI Q)
        refine rn_aload_n dX12_tellsBy_98 rfl rfl ?_
        refine rn_aload_n dX12_tellsBy_99 rfl rfl ?_
        refine rn_cV (M' := mX12_own) (n := 0) (av := []) (S := [.inr (.inr (some 94))]) (rc := 0) (rs := 0) (mc := 0) (ms := 0) (a := 94) (ci := 11) (r := (RX12, TX12, 38)) dX12_tellsBy_100 pa_X12_own (Nat.le_refl _) rfl (Nat.le_of_ble_eq_true rfl) ml_X12_337 im_X12_own se_X12_own rfl rfl rfl (Ev.mono V ?_)
        rintro v sh1 h23 ⟨rfl, Rh23, x24, rfl, V⟩
        show Rn G (d + 1) 0 0 mX12_tellsBy 103 [(0, .inr (.inr (some 94))), (1, .inl a1), (2, .inl a2)] [.inl x24, .inr (.inr (some 94))] SH h23 (QI Q)
        refine rn_iload_n dX12_tellsBy_103 rfl rfl ?_
        refine rn_cV (M' := mX12_speaksBy) (n := 2) (av := [.inl x24, .inl a2]) (S := []) (rc := 0) (rs := 0) (mc := 0) (ms := 0) (a := 94) (ci := 11) (r := (RX12, TX12, 38)) dX12_tellsBy_104 pa_X12_speaksBy (Nat.le_refl _) rfl (Nat.le_of_ble_eq_true rfl) ml_X12_340 im_X12_speaksBy se_X12_speaksBy rfl rfl rfl (Ev.mono V ?_)
        rintro v sh1 h25 ⟨rfl, Rh25, x26, rfl, V⟩
        show Rn G (d + 1) 0 0 mX12_tellsBy 107 [(0, .inr (.inr (some 94))), (1, .inl a1), (2, .inl a2)] [.inl x26] SH h25 (QI Q)
        refine rn_istore_n (L' := [(3, .inl x26), (0, .inr (.inr (some 94))), (1, .inl a1), (2, .inl a2)]) dX12_tellsBy_107 rfl (Nat.le_of_ble_eq_true rfl) rfl ?_
        refine rn_iload_n dX12_tellsBy_108 rfl rfl ?_
        refine rn_aload_n dX12_tellsBy_109 rfl rfl ?_
        refine rn_bipush (v := 6) dX12_tellsBy_110 (by decide) ?_
        refine rn_cS (M' := mX12_above) (n := 1) (av := [.inl 6]) (S := [.inr (.inr (some 94)), .inl x26]) (rc := 0) (rs := 0) (mc := 0) (ms := 0) dX12_tellsBy_112 pa_X12_above (Nat.le_refl _) rfl (Nat.le_of_ble_eq_true rfl) ml_X12_190 ss_X12_above rfl (Ev.mono V ?_)
        rintro v sh1 h27 ⟨rfl, Rh27, x28, rfl, V⟩
        show Rn G (d + 1) 0 0 mX12_tellsBy 115 [(3, .inl x26), (0, .inr (.inr (some 94))), (1, .inl a1), (2, .inl a2)] [.inl x28, .inr (.inr (some 94)), .inl x26] SH h27 (QI Q)
        refine rn_iload_n dX12_tellsBy_115 rfl rfl ?_
        refine rn_cV (M' := mX12_tellsBy) (n := 2) (av := [.inl x28, .inl a2]) (S := [.inl x26]) (rc := 0) (rs := 0) (mc := 0) (ms := 0) (a := 94) (ci := 11) (r := (RX12, TX12, 38)) dX12_tellsBy_116 pa_X12_tellsBy (Nat.le_refl _) rfl (Nat.le_of_ble_eq_true rfl) ml_X12_346 im_X12_tellsBy se_X12_tellsBy rfl rfl rfl (Ev.mono V ?_)
        rintro v sh1 h29 ⟨rfl, Rh29, x30, rfl, V⟩
        show Rn G (d + 1) 0 0 mX12_tellsBy 119 [(3, .inl x26), (0, .inr (.inr (some 94))), (1, .inl a1), (2, .inl a2)] [.inl x30, .inl x26] SH h29 (QI Q)
        refine rn_isub dX12_tellsBy_119 ?_
        exact rn_iret dX12_tellsBy_120 rfl ⟨rfl, Rh29, _, rfl, V⟩
      · replace V := V.2 c21
        refine rn_lsw (off := 120) (tgt := 121) dX12_tellsBy_1 (by decide) (by simp [Op.lookupswitch.offset, Ne.symm c1, Ne.symm c11, Ne.symm c21]) (by decide) ?_
        refine rn_aload_n dX12_tellsBy_121 rfl rfl ?_
        refine rn_iload_n dX12_tellsBy_122 rfl rfl ?_
        refine rn_cS (M' := mX12_above) (n := 1) (av := [.inl a1]) (S := [.inr (.inr (some 94))]) (rc := 0) (rs := 0) (mc := 0) (ms := 0) dX12_tellsBy_123 pa_X12_above (Nat.le_refl _) rfl (Nat.le_of_ble_eq_true rfl) ml_X12_190 ss_X12_above rfl (Ev.mono V ?_)
        rintro v sh1 h31 ⟨rfl, Rh31, x32, rfl, V⟩
        show Rn G (d + 1) 0 0 mX12_tellsBy 126 [(0, .inr (.inr (some 94))), (1, .inl a1), (2, .inl a2)] [.inl x32, .inr (.inr (some 94))] SH h31 (QI Q)
        refine rn_iload_n dX12_tellsBy_126 rfl rfl ?_
        refine rn_cV (M' := mX12_tellsBy) (n := 2) (av := [.inl x32, .inl a2]) (S := []) (rc := 0) (rs := 0) (mc := 0) (ms := 0) (a := 94) (ci := 11) (r := (RX12, TX12, 38)) dX12_tellsBy_127 pa_X12_tellsBy (Nat.le_refl _) rfl (Nat.le_of_ble_eq_true rfl) ml_X12_346 im_X12_tellsBy se_X12_tellsBy rfl rfl rfl (Ev.mono V ?_)
        rintro v sh1 h33 ⟨rfl, Rh33, x34, rfl, V⟩
        show Rn G (d + 1) 0 0 mX12_tellsBy 130 [(0, .inr (.inr (some 94))), (1, .inl a1), (2, .inl a2)] [.inl x34] SH h33 (QI Q)
        exact rn_iret dX12_tellsBy_130 rfl ⟨rfl, Rh33, _, rfl, V⟩
set_option maxRecDepth 100000 in
set_option maxHeartbeats 4000000 in
theorem vc_X12_voice {G : GT} {d : Nat} {a1 : Int32} {a2 : Int32} {a3 : Int32}  {h : Hp} {Q : Int32 → Hp → Prop} (hR : RF h) (V : EvI G d mX12_isParty [.inr (.inr (some 94)), .inl a1] h (fun x2 h1 => ((x2 = 0 → EvI G d mX12_finds [.inr (.inr (some 94)), .inl 1] h1 (fun x5 h4 => Q x5 h4)) ∧ (¬ x2 = 0 → EvI G d mX12_in [.inr (.inl (Int32.toInt64 a2)), .inr (.inl 0), .inr (.inl 3)] h1 (fun x7 h6 => ((¬ x7 = 0 → EvI G d mX12_own [.inr (.inr (some 94))] (sI (sI h6 94 32 0) 94 33 a1) (fun x10 h9 => ((¬ a2 = 0 → ((¬ a2 = 1 → ((¬ a2 = 2 → EvI G d mX12_tellsBy [.inr (.inr (some 94)), .inl x10, .inl a3] h9 (fun x15 h14 => Q x15 h14)) ∧ (a2 = 2 → EvI G d mX12_restsBy [.inr (.inr (some 94)), .inl x10, .inl a3] h9 (fun x17 h16 => Q x17 h16)))) ∧ (a2 = 1 → EvI G d mX12_speaksBy [.inr (.inr (some 94)), .inl x10, .inl a3] h9 (fun x19 h18 => Q x19 h18)))) ∧ (a2 = 0 → EvI G d mX12_poursBy [.inr (.inr (some 94)), .inl x10, .inl a3] h9 (fun x21 h20 => Q x21 h20))))) ∧ (x7 = 0 → EvI G d mX12_finds [.inr (.inr (some 94)), .inl 1] h6 (fun x23 h22 => Q x23 h22)))))))) : EvI G (d + 1) mX12_voice [.inr (.inr (some 94)), .inl a1, .inl a2, .inl a3] h Q := by
  refine Ev.of rfl (fun _ => Nat.le_of_ble_eq_true rfl) ?_
  show Rn G (d + 1) 0 0 mX12_voice 0 [(0, .inr (.inr (some 94))), (1, .inl a1), (2, .inl a2), (3, .inl a3)] [] SH h (QI Q)
  refine rn_aload_n dX12_voice_0 rfl rfl ?_
  refine rn_iload_n dX12_voice_1 rfl rfl ?_
  refine rn_cV (M' := mX12_isParty) (n := 1) (av := [.inl a1]) (S := []) (rc := 0) (rs := 0) (mc := 0) (ms := 0) (a := 94) (ci := 11) (r := (RX12, TX12, 38)) dX12_voice_2 pa_X12_isParty (Nat.le_refl _) rfl (Nat.le_of_ble_eq_true rfl) ml_X12_174 im_X12_isParty se_X12_isParty rfl rfl rfl (Ev.mono V ?_)
  rintro v sh1 h1 ⟨rfl, Rh1, x2, rfl, V⟩
  show Rn G (d + 1) 0 0 mX12_voice 5 [(0, .inr (.inr (some 94))), (1, .inl a1), (2, .inl a2), (3, .inl a3)] [.inl x2] SH h1 (QI Q)
  refine rn_if_eq (tgt := 20) dX12_voice_5 (by decide) (fun c3 => ?_) (fun c3 => ?_)
  · replace V := V.1 c3
    refine rn_aload_n dX12_voice_20 rfl rfl ?_
    refine rn_iconst (v := 1) dX12_voice_21 (by decide) ?_
    refine rn_cV (M' := mX12_finds) (n := 1) (av := [.inl 1]) (S := []) (rc := 0) (rs := 0) (mc := 0) (ms := 0) (a := 94) (ci := 11) (r := (RX12, TX12, 38)) dX12_voice_22 pa_X12_finds (Nat.le_refl _) rfl (Nat.le_of_ble_eq_true rfl) ml_X12_143 im_X12_finds se_X12_finds rfl rfl rfl (Ev.mono V ?_)
    rintro v sh1 h4 ⟨rfl, Rh4, x5, rfl, V⟩
    show Rn G (d + 1) 0 0 mX12_voice 25 [(0, .inr (.inr (some 94))), (1, .inl a1), (2, .inl a2), (3, .inl a3)] [.inl x5] SH h4 (QI Q)
    exact rn_iret dX12_voice_25 rfl ⟨rfl, Rh4, _, rfl, V⟩
  · replace V := V.2 c3
    refine rn_iload_n dX12_voice_8 rfl rfl ?_
    refine rn_i2l dX12_voice_9 ?_
    refine rn_lconst (v := 0) dX12_voice_10 rfl ?_
    refine rn_ldc2 (v := 3) dX12_voice_11 cw_X12_242 ?_
    refine rn_cS (M' := mX12_in) (n := 3) (av := [.inr (.inl (Int32.toInt64 a2)), .inr (.inl 0), .inr (.inl 3)]) (S := []) (rc := 0) (rs := 0) (mc := 0) (ms := 0) dX12_voice_14 pa_X12_in (Nat.le_refl _) rfl (Nat.le_of_ble_eq_true rfl) ml_X12_80 ss_X12_in rfl (Ev.mono V ?_)
    rintro v sh1 h6 ⟨rfl, Rh6, x7, rfl, V⟩
    show Rn G (d + 1) 0 0 mX12_voice 17 [(0, .inr (.inr (some 94))), (1, .inl a1), (2, .inl a2), (3, .inl a3)] [.inl x7] SH h6 (QI Q)
    refine rn_if_ne (tgt := 26) dX12_voice_17 (by decide) (fun c8 => ?_) (fun c8 => ?_)
    · replace V := V.1 c8
      refine rn_aload_n dX12_voice_26 rfl rfl ?_
      refine rn_iconst (v := 0) dX12_voice_27 (by decide) ?_
      refine rn_putI dX12_voice_28 fl_X12_325 rfl rfl (Or.inl rfl) rfl rfl ?_
      refine rn_aload_n dX12_voice_31 rfl rfl ?_
      refine rn_iload_n dX12_voice_32 rfl rfl ?_
      refine rn_putI dX12_voice_33 fl_X12_328 rfl rfl (Or.inl rfl) rfl rfl ?_
      refine rn_aload_n dX12_voice_36 rfl rfl ?_
      refine rn_cV (M' := mX12_own) (n := 0) (av := []) (S := []) (rc := 0) (rs := 0) (mc := 0) (ms := 0) (a := 94) (ci := 11) (r := (RX12, TX12, 38)) dX12_voice_37 pa_X12_own (Nat.le_refl _) rfl (Nat.le_of_ble_eq_true rfl) ml_X12_337 im_X12_own se_X12_own rfl rfl rfl (Ev.mono V ?_)
      rintro v sh1 h9 ⟨rfl, Rh9, x10, rfl, V⟩
      show Rn G (d + 1) 0 0 mX12_voice 40 [(0, .inr (.inr (some 94))), (1, .inl a1), (2, .inl a2), (3, .inl a3)] [.inl x10] SH h9 (QI Q)
      refine rn_istore (L' := [(4, .inl x10), (0, .inr (.inr (some 94))), (1, .inl a1), (2, .inl a2), (3, .inl a3)]) dX12_voice_40 (Nat.le_of_ble_eq_true rfl) rfl ?_
      refine rn_iload_n dX12_voice_42 rfl rfl ?_
      refine rn_if_ne (tgt := 56) dX12_voice_43 (by decide) (fun c11 => ?_) (fun c11 => ?_)
      · replace V := V.1 c11
        refine rn_iload_n dX12_voice_56 rfl rfl ?_
        refine rn_iconst (v := 1) dX12_voice_57 (by decide) ?_
        refine rn_icmp_ne (tgt := 71) dX12_voice_58 (by decide) (fun c12 => ?_) (fun c12 => ?_)
        · replace V := V.1 c12
          refine rn_iload_n dX12_voice_71 rfl rfl ?_
          refine rn_iconst (v := 2) dX12_voice_72 (by decide) ?_
          refine rn_icmp_ne (tgt := 86) dX12_voice_73 (by decide) (fun c13 => ?_) (fun c13 => ?_)
          · replace V := V.1 c13
            refine rn_aload_n dX12_voice_86 rfl rfl ?_
            refine rn_iload dX12_voice_87 rfl ?_
            refine rn_iload_n dX12_voice_89 rfl rfl ?_
            refine rn_cV (M' := mX12_tellsBy) (n := 2) (av := [.inl x10, .inl a3]) (S := []) (rc := 0) (rs := 0) (mc := 0) (ms := 0) (a := 94) (ci := 11) (r := (RX12, TX12, 38)) dX12_voice_90 pa_X12_tellsBy (Nat.le_refl _) rfl (Nat.le_of_ble_eq_true rfl) ml_X12_346 im_X12_tellsBy se_X12_tellsBy rfl rfl rfl (Ev.mono V ?_)
            rintro v sh1 h14 ⟨rfl, Rh14, x15, rfl, V⟩
            show Rn G (d + 1) 0 0 mX12_voice 93 [(4, .inl x10), (0, .inr (.inr (some 94))), (1, .inl a1), (2, .inl a2), (3, .inl a3)] [.inl x15] SH h14 (QI Q)
            exact rn_iret dX12_voice_93 rfl ⟨rfl, Rh14, _, rfl, V⟩
          · replace V := V.2 c13
            refine rn_aload_n dX12_voice_76 rfl rfl ?_
            refine rn_iload dX12_voice_77 rfl ?_
            refine rn_iload_n dX12_voice_79 rfl rfl ?_
            refine rn_cV (M' := mX12_restsBy) (n := 2) (av := [.inl x10, .inl a3]) (S := []) (rc := 0) (rs := 0) (mc := 0) (ms := 0) (a := 94) (ci := 11) (r := (RX12, TX12, 38)) dX12_voice_80 pa_X12_restsBy (Nat.le_refl _) rfl (Nat.le_of_ble_eq_true rfl) ml_X12_343 im_X12_restsBy se_X12_restsBy rfl rfl rfl (Ev.mono V ?_)
            rintro v sh1 h16 ⟨rfl, Rh16, x17, rfl, V⟩
            show Rn G (d + 1) 0 0 mX12_voice 83 [(4, .inl x10), (0, .inr (.inr (some 94))), (1, .inl a1), (2, .inl a2), (3, .inl a3)] [.inl x17] SH h16 (QI Q)
            refine rn_goto (tgt := 93) dX12_voice_83 (by decide) ?_
            exact rn_iret dX12_voice_93 rfl ⟨rfl, Rh16, _, rfl, V⟩
        · replace V := V.2 c12
          refine rn_aload_n dX12_voice_61 rfl rfl ?_
          refine rn_iload dX12_voice_62 rfl ?_
          refine rn_iload_n dX12_voice_64 rfl rfl ?_
          refine rn_cV (M' := mX12_speaksBy) (n := 2) (av := [.inl x10, .inl a3]) (S := []) (rc := 0) (rs := 0) (mc := 0) (ms := 0) (a := 94) (ci := 11) (r := (RX12, TX12, 38)) dX12_voice_65 pa_X12_speaksBy (Nat.le_refl _) rfl (Nat.le_of_ble_eq_true rfl) ml_X12_340 im_X12_speaksBy se_X12_speaksBy rfl rfl rfl (Ev.mono V ?_)
          rintro v sh1 h18 ⟨rfl, Rh18, x19, rfl, V⟩
          show Rn G (d + 1) 0 0 mX12_voice 68 [(4, .inl x10), (0, .inr (.inr (some 94))), (1, .inl a1), (2, .inl a2), (3, .inl a3)] [.inl x19] SH h18 (QI Q)
          refine rn_goto (tgt := 93) dX12_voice_68 (by decide) ?_
          exact rn_iret dX12_voice_93 rfl ⟨rfl, Rh18, _, rfl, V⟩
      · replace V := V.2 c11
        refine rn_aload_n dX12_voice_46 rfl rfl ?_
        refine rn_iload dX12_voice_47 rfl ?_
        refine rn_iload_n dX12_voice_49 rfl rfl ?_
        refine rn_cV (M' := mX12_poursBy) (n := 2) (av := [.inl x10, .inl a3]) (S := []) (rc := 0) (rs := 0) (mc := 0) (ms := 0) (a := 94) (ci := 11) (r := (RX12, TX12, 38)) dX12_voice_50 pa_X12_poursBy (Nat.le_refl _) rfl (Nat.le_of_ble_eq_true rfl) ml_X12_334 im_X12_poursBy se_X12_poursBy rfl rfl rfl (Ev.mono V ?_)
        rintro v sh1 h20 ⟨rfl, Rh20, x21, rfl, V⟩
        show Rn G (d + 1) 0 0 mX12_voice 53 [(4, .inl x10), (0, .inr (.inr (some 94))), (1, .inl a1), (2, .inl a2), (3, .inl a3)] [.inl x21] SH h20 (QI Q)
        refine rn_goto (tgt := 93) dX12_voice_53 (by decide) ?_
        exact rn_iret dX12_voice_93 rfl ⟨rfl, Rh20, _, rfl, V⟩
    · replace V := V.2 c8
      refine rn_aload_n dX12_voice_20 rfl rfl ?_
      refine rn_iconst (v := 1) dX12_voice_21 (by decide) ?_
      refine rn_cV (M' := mX12_finds) (n := 1) (av := [.inl 1]) (S := []) (rc := 0) (rs := 0) (mc := 0) (ms := 0) (a := 94) (ci := 11) (r := (RX12, TX12, 38)) dX12_voice_22 pa_X12_finds (Nat.le_refl _) rfl (Nat.le_of_ble_eq_true rfl) ml_X12_143 im_X12_finds se_X12_finds rfl rfl rfl (Ev.mono V ?_)
      rintro v sh1 h22 ⟨rfl, Rh22, x23, rfl, V⟩
      show Rn G (d + 1) 0 0 mX12_voice 25 [(0, .inr (.inr (some 94))), (1, .inl a1), (2, .inl a2), (3, .inl a3)] [.inl x23] SH h22 (QI Q)
      exact rn_iret dX12_voice_25 rfl ⟨rfl, Rh22, _, rfl, V⟩
set_option maxRecDepth 100000 in
set_option maxHeartbeats 4000000 in
theorem vc_X12_trace {G : GT} {d : Nat} {a1 : Int32}  {h : Hp} {Q : Int32 → Hp → Prop} (hR : RF h) (V : EvI G d mX12_in [.inr (.inl (Int32.toInt64 a1)), .inr (.inl 0), .inr (.inl (Int32.toInt64 (h.1 94 32 - 1)))] h (fun x2 h1 => ((x2 = 0 → EvI G d mX12_finds [.inr (.inr (some 94)), .inl 2] h1 (fun x5 h4 => Q x5 h4)) ∧ (¬ x2 = 0 → vp_in a1 40 ∧ Q (h1.1 113 (Int32.toNatClampNeg a1)) h1)))) : EvI G (d + 1) mX12_trace [.inr (.inr (some 94)), .inl a1] h Q := by
  refine Ev.of rfl (fun _ => Nat.le_of_ble_eq_true rfl) ?_
  show Rn G (d + 1) 0 0 mX12_trace 0 [(0, .inr (.inr (some 94))), (1, .inl a1)] [] SH h (QI Q)
  refine rn_iload_n dX12_trace_0 rfl rfl ?_
  refine rn_i2l dX12_trace_1 ?_
  refine rn_lconst (v := 0) dX12_trace_2 rfl ?_
  refine rn_aload_n dX12_trace_3 rfl rfl ?_
  refine rn_get (v := .inl (h.1 94 32)) dX12_trace_4 fl_X12_325 rfl rfl rfl ?_
  refine rn_iconst (v := 1) dX12_trace_7 (by decide) ?_
  refine rn_isub dX12_trace_8 ?_
  refine rn_i2l dX12_trace_9 ?_
  refine rn_cS (M' := mX12_in) (n := 3) (av := [.inr (.inl (Int32.toInt64 a1)), .inr (.inl 0), .inr (.inl (Int32.toInt64 (h.1 94 32 - 1)))]) (S := []) (rc := 0) (rs := 0) (mc := 0) (ms := 0) dX12_trace_10 pa_X12_in (Nat.le_refl _) rfl (Nat.le_of_ble_eq_true rfl) ml_X12_80 ss_X12_in rfl (Ev.mono V ?_)
  rintro v sh1 h1 ⟨rfl, Rh1, x2, rfl, V⟩
  show Rn G (d + 1) 0 0 mX12_trace 13 [(0, .inr (.inr (some 94))), (1, .inl a1)] [.inl x2] SH h1 (QI Q)
  refine rn_if_eq (tgt := 25) dX12_trace_13 (by decide) (fun c3 => ?_) (fun c3 => ?_)
  · replace V := V.1 c3
    refine rn_aload_n dX12_trace_25 rfl rfl ?_
    refine rn_iconst (v := 2) dX12_trace_26 (by decide) ?_
    refine rn_cV (M' := mX12_finds) (n := 1) (av := [.inl 2]) (S := []) (rc := 0) (rs := 0) (mc := 0) (ms := 0) (a := 94) (ci := 11) (r := (RX12, TX12, 38)) dX12_trace_27 pa_X12_finds (Nat.le_refl _) rfl (Nat.le_of_ble_eq_true rfl) ml_X12_143 im_X12_finds se_X12_finds rfl rfl rfl (Ev.mono V ?_)
    rintro v sh1 h4 ⟨rfl, Rh4, x5, rfl, V⟩
    show Rn G (d + 1) 0 0 mX12_trace 30 [(0, .inr (.inr (some 94))), (1, .inl a1)] [.inl x5] SH h4 (QI Q)
    exact rn_iret dX12_trace_30 rfl ⟨rfl, Rh4, _, rfl, V⟩
  · replace V := V.2 c3
    refine rn_aload_n dX12_trace_16 rfl rfl ?_
    refine rn_get (v := .inr (.inr (some 113))) dX12_trace_17 fl_X12_64 rfl rfl (congrArg (fun z => (Sum.inr (Sum.inr z) : MV)) (rf_94_31 Rh1)) ?_
    refine rn_iload_n dX12_trace_20 rfl rfl ?_
    obtain ⟨g0, V⟩ := V
    refine rn_iald (k := (Int32.toNatClampNeg a1)) dX12_trace_21 rfl rfl g0 ?_
    refine rn_goto (tgt := 30) dX12_trace_22 (by decide) ?_
    exact rn_iret dX12_trace_30 rfl ⟨rfl, Rh1, _, rfl, V⟩
set_option maxRecDepth 100000 in
set_option maxHeartbeats 4000000 in
theorem vc_X12_isSheet {G : GT} {d : Nat} {a0 : Int32}  {h : Hp} {Q : Int32 → Hp → Prop} (hR : RF h) (V : EvI G d mX12_in [.inr (.inl (Int32.toInt64 a0)), .inr (.inl 0), .inr (.inl 3)] h (fun x2 h1 => (narrow .boolean (.int x2) = .int x2 ∧ Q x2 h1))) : EvI G (d + 1) mX12_isSheet [.inl a0] h Q := by
  refine Ev.of rfl (fun _ => Nat.le_of_ble_eq_true rfl) ?_
  show Rn G (d + 1) 0 0 mX12_isSheet 0 [(0, .inl a0)] [] SH h (QI Q)
  refine rn_iload_n dX12_isSheet_0 rfl rfl ?_
  refine rn_i2l dX12_isSheet_1 ?_
  refine rn_lconst (v := 0) dX12_isSheet_2 rfl ?_
  refine rn_ldc2 (v := 3) dX12_isSheet_3 cw_X12_242 ?_
  refine rn_cS (M' := mX12_in) (n := 3) (av := [.inr (.inl (Int32.toInt64 a0)), .inr (.inl 0), .inr (.inl 3)]) (S := []) (rc := 0) (rs := 0) (mc := 0) (ms := 0) dX12_isSheet_6 pa_X12_in (Nat.le_refl _) rfl (Nat.le_of_ble_eq_true rfl) ml_X12_80 ss_X12_in rfl (Ev.mono V ?_)
  rintro v sh1 h1 ⟨rfl, Rh1, x2, rfl, V⟩
  show Rn G (d + 1) 0 0 mX12_isSheet 9 [(0, .inl a0)] [.inl x2] SH h1 (QI Q)
  exact rn_zret dX12_isSheet_9 rfl V.1 ⟨rfl, Rh1, _, rfl, V.2⟩
def Rg_X12_sheet_90 (G : GT) (d : Nat) (l1 : Int32) (l4 : Int32) (h : Hp) (Q : Int32 → Hp → Prop) : Prop := Rn G (d + 1) 0 0 mX12_sheet 90 [(0, .inr (.inr (some 94))), (1, .inl l1), (4, .inl l4)] [] SH h (QI Q)
set_option maxRecDepth 100000 in
set_option maxHeartbeats 4000000 in
theorem vc_X12_sheet_90 {G : GT} {d : Nat} {l1 : Int32} {l4 : Int32}  {h : Hp} {Q : Int32 → Hp → Prop} (hR : RF h) (V : ((40 ≤ l4 → Q 1 h) ∧ (¬ 40 ≤ l4 → vp_in ((40 * l1) + l4) 160 ∧ Rg_X12_sheet_90 G d l1 (l4 + 1) (sI h 116 (Int32.toNatClampNeg ((40 * l1) + l4)) 0) Q))) : Rg_X12_sheet_90 G d l1 l4 h Q := by
  show Rn G (d + 1) 0 0 mX12_sheet 90 [(0, .inr (.inr (some 94))), (1, .inl l1), (4, .inl l4)] [] SH h (QI Q)
  refine rn_iload dX12_sheet_90 rfl ?_
  refine rn_bipush (v := 40) dX12_sheet_92 (by decide) ?_
  refine rn_icmp_ge (tgt := 116) dX12_sheet_94 (by decide) (fun c76 => ?_) (fun c76 => ?_)
  · replace V := V.1 c76
    refine rn_iconst (v := 1) dX12_sheet_116 (by decide) ?_
    exact rn_iret dX12_sheet_117 rfl ⟨rfl, hR, _, rfl, V⟩
  · replace V := V.2 c76
    refine rn_aload_n dX12_sheet_97 rfl rfl ?_
    refine rn_get (v := .inr (.inr (some 116))) dX12_sheet_98 fl_X12_73 rfl rfl (congrArg (fun z => (Sum.inr (Sum.inr z) : MV)) (rf_94_36 hR)) ?_
    refine rn_bipush (v := 40) dX12_sheet_101 (by decide) ?_
    refine rn_iload_n dX12_sheet_103 rfl rfl ?_
    refine rn_imul dX12_sheet_104 ?_
    refine rn_iload dX12_sheet_105 rfl ?_
    refine rn_iadd dX12_sheet_107 ?_
    refine rn_iconst (v := 0) dX12_sheet_108 (by decide) ?_
    obtain ⟨g0, V⟩ := V
    refine rn_iast (k := (Int32.toNatClampNeg ((40 * l1) + l4))) dX12_sheet_109 rfl rfl g0 ?_
    refine rn_iinc (L' := [(4, .inl (l4 + 1)), (0, .inr (.inr (some 94))), (1, .inl l1)]) dX12_sheet_110 rfl (v := (l4 + 1)) rfl (Nat.le_of_ble_eq_true rfl) rfl ?_
    refine rn_goto (tgt := 90) dX12_sheet_113 (by decide) ?_
    refine rn_sub [1, 2, 0] (L' := [(0, .inr (.inr (some 94))), (1, .inl l1), (4, .inl (l4 + 1))]) rfl ?_
    exact V
set_option maxRecDepth 100000 in
set_option maxHeartbeats 4000000 in
theorem vc_X12_sheet {G : GT} {d : Nat} {a1 : Int32} {a2 : Int32} {a3 : Int32}  {h : Hp} {Q : Int32 → Hp → Prop} (hR : RF h) (V : EvI G d mX12_isSheet [.inl a1] h (fun x2 h1 => ((x2 = 0 → EvI G d mX12_finds [.inr (.inr (some 94)), .inl 1] h1 (fun x5 h4 => Q x5 h4)) ∧ (¬ x2 = 0 → ((a2 = 0 → ((a2 = 0 → ((a2 = 0 → vp_in a1 4 ∧ ((¬ a2 = 0 → vp_in a1 4 ∧ Rg_X12_sheet_90 G d a1 0 (sI (sI h1 114 (Int32.toNatClampNeg a1) a2) 115 (Int32.toNatClampNeg a1) a3) Q) ∧ (a2 = 0 → vp_in a1 4 ∧ Rg_X12_sheet_90 G d a1 0 (sI (sI h1 114 (Int32.toNatClampNeg a1) a2) 115 (Int32.toNatClampNeg a1) 0) Q))) ∧ (¬ a2 = 0 → ((a3 ≤ 40 → vp_in a1 4 ∧ ((¬ a2 = 0 → vp_in a1 4 ∧ Rg_X12_sheet_90 G d a1 0 (sI (sI h1 114 (Int32.toNatClampNeg a1) a2) 115 (Int32.toNatClampNeg a1) a3) Q) ∧ (a2 = 0 → vp_in a1 4 ∧ Rg_X12_sheet_90 G d a1 0 (sI (sI h1 114 (Int32.toNatClampNeg a1) a2) 115 (Int32.toNatClampNeg a1) 0) Q))) ∧ (¬ a3 ≤ 40 → EvI G d mX12_finds [.inr (.inr (some 94)), .inl 1] h1 (fun x13 h12 => Q x13 h12)))))) ∧ (¬ a2 = 0 → ((0 ≤ a3 → ((a2 = 0 → vp_in a1 4 ∧ ((¬ a2 = 0 → vp_in a1 4 ∧ Rg_X12_sheet_90 G d a1 0 (sI (sI h1 114 (Int32.toNatClampNeg a1) a2) 115 (Int32.toNatClampNeg a1) a3) Q) ∧ (a2 = 0 → vp_in a1 4 ∧ Rg_X12_sheet_90 G d a1 0 (sI (sI h1 114 (Int32.toNatClampNeg a1) a2) 115 (Int32.toNatClampNeg a1) 0) Q))) ∧ (¬ a2 = 0 → ((a3 ≤ 40 → vp_in a1 4 ∧ ((¬ a2 = 0 → vp_in a1 4 ∧ Rg_X12_sheet_90 G d a1 0 (sI (sI h1 114 (Int32.toNatClampNeg a1) a2) 115 (Int32.toNatClampNeg a1) a3) Q) ∧ (a2 = 0 → vp_in a1 4 ∧ Rg_X12_sheet_90 G d a1 0 (sI (sI h1 114 (Int32.toNatClampNeg a1) a2) 115 (Int32.toNatClampNeg a1) 0) Q))) ∧ (¬ a3 ≤ 40 → EvI G d mX12_finds [.inr (.inr (some 94)), .inl 1] h1 (fun x20 h19 => Q x20 h19)))))) ∧ (¬ 0 ≤ a3 → EvI G d mX12_finds [.inr (.inr (some 94)), .inl 3] h1 (fun x22 h21 => Q x22 h21)))))) ∧ (¬ a2 = 0 → ((a2 = 8 → ((a2 = 0 → ((a2 = 0 → vp_in a1 4 ∧ ((¬ a2 = 0 → vp_in a1 4 ∧ Rg_X12_sheet_90 G d a1 0 (sI (sI h1 114 (Int32.toNatClampNeg a1) a2) 115 (Int32.toNatClampNeg a1) a3) Q) ∧ (a2 = 0 → vp_in a1 4 ∧ Rg_X12_sheet_90 G d a1 0 (sI (sI h1 114 (Int32.toNatClampNeg a1) a2) 115 (Int32.toNatClampNeg a1) 0) Q))) ∧ (¬ a2 = 0 → ((a3 ≤ 40 → vp_in a1 4 ∧ ((¬ a2 = 0 → vp_in a1 4 ∧ Rg_X12_sheet_90 G d a1 0 (sI (sI h1 114 (Int32.toNatClampNeg a1) a2) 115 (Int32.toNatClampNeg a1) a3) Q) ∧ (a2 = 0 → vp_in a1 4 ∧ Rg_X12_sheet_90 G d a1 0 (sI (sI h1 114 (Int32.toNatClampNeg a1) a2) 115 (Int32.toNatClampNeg a1) 0) Q))) ∧ (¬ a3 ≤ 40 → EvI G d mX12_finds [.inr (.inr (some 94)), .inl 1] h1 (fun x30 h29 => Q x30 h29)))))) ∧ (¬ a2 = 0 → ((0 ≤ a3 → ((a2 = 0 → vp_in a1 4 ∧ ((¬ a2 = 0 → vp_in a1 4 ∧ Rg_X12_sheet_90 G d a1 0 (sI (sI h1 114 (Int32.toNatClampNeg a1) a2) 115 (Int32.toNatClampNeg a1) a3) Q) ∧ (a2 = 0 → vp_in a1 4 ∧ Rg_X12_sheet_90 G d a1 0 (sI (sI h1 114 (Int32.toNatClampNeg a1) a2) 115 (Int32.toNatClampNeg a1) 0) Q))) ∧ (¬ a2 = 0 → ((a3 ≤ 40 → vp_in a1 4 ∧ ((¬ a2 = 0 → vp_in a1 4 ∧ Rg_X12_sheet_90 G d a1 0 (sI (sI h1 114 (Int32.toNatClampNeg a1) a2) 115 (Int32.toNatClampNeg a1) a3) Q) ∧ (a2 = 0 → vp_in a1 4 ∧ Rg_X12_sheet_90 G d a1 0 (sI (sI h1 114 (Int32.toNatClampNeg a1) a2) 115 (Int32.toNatClampNeg a1) 0) Q))) ∧ (¬ a3 ≤ 40 → EvI G d mX12_finds [.inr (.inr (some 94)), .inl 1] h1 (fun x37 h36 => Q x37 h36)))))) ∧ (¬ 0 ≤ a3 → EvI G d mX12_finds [.inr (.inr (some 94)), .inl 3] h1 (fun x39 h38 => Q x39 h38)))))) ∧ (¬ a2 = 8 → ((a2 = 16 → ((a2 = 0 → ((a2 = 0 → vp_in a1 4 ∧ ((¬ a2 = 0 → vp_in a1 4 ∧ Rg_X12_sheet_90 G d a1 0 (sI (sI h1 114 (Int32.toNatClampNeg a1) a2) 115 (Int32.toNatClampNeg a1) a3) Q) ∧ (a2 = 0 → vp_in a1 4 ∧ Rg_X12_sheet_90 G d a1 0 (sI (sI h1 114 (Int32.toNatClampNeg a1) a2) 115 (Int32.toNatClampNeg a1) 0) Q))) ∧ (¬ a2 = 0 → ((a3 ≤ 40 → vp_in a1 4 ∧ ((¬ a2 = 0 → vp_in a1 4 ∧ Rg_X12_sheet_90 G d a1 0 (sI (sI h1 114 (Int32.toNatClampNeg a1) a2) 115 (Int32.toNatClampNeg a1) a3) Q) ∧ (a2 = 0 → vp_in a1 4 ∧ Rg_X12_sheet_90 G d a1 0 (sI (sI h1 114 (Int32.toNatClampNeg a1) a2) 115 (Int32.toNatClampNeg a1) 0) Q))) ∧ (¬ a3 ≤ 40 → EvI G d mX12_finds [.inr (.inr (some 94)), .inl 1] h1 (fun x47 h46 => Q x47 h46)))))) ∧ (¬ a2 = 0 → ((0 ≤ a3 → ((a2 = 0 → vp_in a1 4 ∧ ((¬ a2 = 0 → vp_in a1 4 ∧ Rg_X12_sheet_90 G d a1 0 (sI (sI h1 114 (Int32.toNatClampNeg a1) a2) 115 (Int32.toNatClampNeg a1) a3) Q) ∧ (a2 = 0 → vp_in a1 4 ∧ Rg_X12_sheet_90 G d a1 0 (sI (sI h1 114 (Int32.toNatClampNeg a1) a2) 115 (Int32.toNatClampNeg a1) 0) Q))) ∧ (¬ a2 = 0 → ((a3 ≤ 40 → vp_in a1 4 ∧ ((¬ a2 = 0 → vp_in a1 4 ∧ Rg_X12_sheet_90 G d a1 0 (sI (sI h1 114 (Int32.toNatClampNeg a1) a2) 115 (Int32.toNatClampNeg a1) a3) Q) ∧ (a2 = 0 → vp_in a1 4 ∧ Rg_X12_sheet_90 G d a1 0 (sI (sI h1 114 (Int32.toNatClampNeg a1) a2) 115 (Int32.toNatClampNeg a1) 0) Q))) ∧ (¬ a3 ≤ 40 → EvI G d mX12_finds [.inr (.inr (some 94)), .inl 1] h1 (fun x54 h53 => Q x54 h53)))))) ∧ (¬ 0 ≤ a3 → EvI G d mX12_finds [.inr (.inr (some 94)), .inl 3] h1 (fun x56 h55 => Q x56 h55)))))) ∧ (¬ a2 = 16 → ((a2 = 32 → ((a2 = 0 → ((a2 = 0 → vp_in a1 4 ∧ ((¬ a2 = 0 → vp_in a1 4 ∧ Rg_X12_sheet_90 G d a1 0 (sI (sI h1 114 (Int32.toNatClampNeg a1) a2) 115 (Int32.toNatClampNeg a1) a3) Q) ∧ (a2 = 0 → vp_in a1 4 ∧ Rg_X12_sheet_90 G d a1 0 (sI (sI h1 114 (Int32.toNatClampNeg a1) a2) 115 (Int32.toNatClampNeg a1) 0) Q))) ∧ (¬ a2 = 0 → ((a3 ≤ 40 → vp_in a1 4 ∧ ((¬ a2 = 0 → vp_in a1 4 ∧ Rg_X12_sheet_90 G d a1 0 (sI (sI h1 114 (Int32.toNatClampNeg a1) a2) 115 (Int32.toNatClampNeg a1) a3) Q) ∧ (a2 = 0 → vp_in a1 4 ∧ Rg_X12_sheet_90 G d a1 0 (sI (sI h1 114 (Int32.toNatClampNeg a1) a2) 115 (Int32.toNatClampNeg a1) 0) Q))) ∧ (¬ a3 ≤ 40 → EvI G d mX12_finds [.inr (.inr (some 94)), .inl 1] h1 (fun x64 h63 => Q x64 h63)))))) ∧ (¬ a2 = 0 → ((0 ≤ a3 → ((a2 = 0 → vp_in a1 4 ∧ ((¬ a2 = 0 → vp_in a1 4 ∧ Rg_X12_sheet_90 G d a1 0 (sI (sI h1 114 (Int32.toNatClampNeg a1) a2) 115 (Int32.toNatClampNeg a1) a3) Q) ∧ (a2 = 0 → vp_in a1 4 ∧ Rg_X12_sheet_90 G d a1 0 (sI (sI h1 114 (Int32.toNatClampNeg a1) a2) 115 (Int32.toNatClampNeg a1) 0) Q))) ∧ (¬ a2 = 0 → ((a3 ≤ 40 → vp_in a1 4 ∧ ((¬ a2 = 0 → vp_in a1 4 ∧ Rg_X12_sheet_90 G d a1 0 (sI (sI h1 114 (Int32.toNatClampNeg a1) a2) 115 (Int32.toNatClampNeg a1) a3) Q) ∧ (a2 = 0 → vp_in a1 4 ∧ Rg_X12_sheet_90 G d a1 0 (sI (sI h1 114 (Int32.toNatClampNeg a1) a2) 115 (Int32.toNatClampNeg a1) 0) Q))) ∧ (¬ a3 ≤ 40 → EvI G d mX12_finds [.inr (.inr (some 94)), .inl 1] h1 (fun x71 h70 => Q x71 h70)))))) ∧ (¬ 0 ≤ a3 → EvI G d mX12_finds [.inr (.inr (some 94)), .inl 3] h1 (fun x73 h72 => Q x73 h72)))))) ∧ (¬ a2 = 32 → EvI G d mX12_finds [.inr (.inr (some 94)), .inl 1] h1 (fun x75 h74 => Q x75 h74))))))))))))) : EvI G (d + 1) mX12_sheet [.inr (.inr (some 94)), .inl a1, .inl a2, .inl a3] h Q := by
  refine Ev.of rfl (fun _ => Nat.le_of_ble_eq_true rfl) ?_
  show Rn G (d + 1) 0 0 mX12_sheet 0 [(0, .inr (.inr (some 94))), (1, .inl a1), (2, .inl a2), (3, .inl a3)] [] SH h (QI Q)
  refine rn_iload_n dX12_sheet_0 rfl rfl ?_
  refine rn_cS (M' := mX12_isSheet) (n := 1) (av := [.inl a1]) (S := []) (rc := 0) (rs := 0) (mc := 0) (ms := 0) dX12_sheet_1 pa_X12_isSheet (Nat.le_refl _) rfl (Nat.le_of_ble_eq_true rfl) ml_X12_319 ss_X12_isSheet rfl (Ev.mono V ?_)
  rintro v sh1 h1 ⟨rfl, Rh1, x2, rfl, V⟩
  show Rn G (d + 1) 0 0 mX12_sheet 4 [(0, .inr (.inr (some 94))), (1, .inl a1), (2, .inl a2), (3, .inl a3)] [.inl x2] SH h1 (QI Q)
  refine rn_if_eq (tgt := 29) dX12_sheet_4 (by decide) (fun c3 => ?_) (fun c3 => ?_)
  · replace V := V.1 c3
    refine rn_aload_n dX12_sheet_29 rfl rfl ?_
    refine rn_iconst (v := 1) dX12_sheet_30 (by decide) ?_
    refine rn_cV (M' := mX12_finds) (n := 1) (av := [.inl 1]) (S := []) (rc := 0) (rs := 0) (mc := 0) (ms := 0) (a := 94) (ci := 11) (r := (RX12, TX12, 38)) dX12_sheet_31 pa_X12_finds (Nat.le_refl _) rfl (Nat.le_of_ble_eq_true rfl) ml_X12_143 im_X12_finds se_X12_finds rfl rfl rfl (Ev.mono V ?_)
    rintro v sh1 h4 ⟨rfl, Rh4, x5, rfl, V⟩
    show Rn G (d + 1) 0 0 mX12_sheet 34 [(0, .inr (.inr (some 94))), (1, .inl a1), (2, .inl a2), (3, .inl a3)] [.inl x5] SH h4 (QI Q)
    exact rn_iret dX12_sheet_34 rfl ⟨rfl, Rh4, _, rfl, V⟩
  · replace V := V.2 c3
    refine rn_iload_n dX12_sheet_7 rfl rfl ?_
    refine rn_if_eq (tgt := 35) dX12_sheet_8 (by decide) (fun c6 => ?_) (fun c6 => ?_)
    · replace V := V.1 c6
      refine rn_iload_n dX12_sheet_35 rfl rfl ?_
      refine rn_if_eq (tgt := 49) dX12_sheet_36 (by decide) (fun c7 => ?_) (fun c7 => ?_)
      · replace V := V.1 c7
        refine rn_iload_n dX12_sheet_49 rfl rfl ?_
        refine rn_if_eq (tgt := 65) dX12_sheet_50 (by decide) (fun c8 => ?_) (fun c8 => ?_)
        · replace V := V.1 c8
          refine rn_aload_n dX12_sheet_65 rfl rfl ?_
          refine rn_get (v := .inr (.inr (some 114))) dX12_sheet_66 fl_X12_67 rfl rfl (congrArg (fun z => (Sum.inr (Sum.inr z) : MV)) (rf_94_34 Rh1)) ?_
          refine rn_iload_n dX12_sheet_69 rfl rfl ?_
          refine rn_iload_n dX12_sheet_70 rfl rfl ?_
          obtain ⟨g0, V⟩ := V
          refine rn_iast (k := (Int32.toNatClampNeg a1)) dX12_sheet_71 rfl rfl g0 ?_
          refine rn_aload_n dX12_sheet_72 rfl rfl ?_
          refine rn_get (v := .inr (.inr (some 115))) dX12_sheet_73 fl_X12_70 rfl rfl (congrArg (fun z => (Sum.inr (Sum.inr z) : MV)) (rf_94_35 Rh1)) ?_
          refine rn_iload_n dX12_sheet_76 rfl rfl ?_
          refine rn_iload_n dX12_sheet_77 rfl rfl ?_
          refine rn_if_ne (tgt := 85) dX12_sheet_78 (by decide) (fun c9 => ?_) (fun c9 => ?_)
          · replace V := V.1 c9
            refine rn_iload_n dX12_sheet_85 rfl rfl ?_
            obtain ⟨g0, V⟩ := V
            refine rn_iast (k := (Int32.toNatClampNeg a1)) dX12_sheet_86 rfl rfl g0 ?_
            refine rn_iconst (v := 0) dX12_sheet_87 (by decide) ?_
            refine rn_istore (L' := [(4, .inl 0), (0, .inr (.inr (some 94))), (1, .inl a1), (2, .inl a2), (3, .inl a3)]) dX12_sheet_88 (Nat.le_of_ble_eq_true rfl) rfl ?_
            refine rn_sub [1, 2, 0] (L' := [(0, .inr (.inr (some 94))), (1, .inl a1), (4, .inl 0)]) rfl ?_
            exact V
          · replace V := V.2 c9
            refine rn_iconst (v := 0) dX12_sheet_81 (by decide) ?_
            refine rn_goto (tgt := 86) dX12_sheet_82 (by decide) ?_
            obtain ⟨g0, V⟩ := V
            refine rn_iast (k := (Int32.toNatClampNeg a1)) dX12_sheet_86 rfl rfl g0 ?_
            refine rn_iconst (v := 0) dX12_sheet_87 (by decide) ?_
            refine rn_istore (L' := [(4, .inl 0), (0, .inr (.inr (some 94))), (1, .inl a1), (2, .inl a2), (3, .inl a3)]) dX12_sheet_88 (Nat.le_of_ble_eq_true rfl) rfl ?_
            refine rn_sub [1, 2, 0] (L' := [(0, .inr (.inr (some 94))), (1, .inl a1), (4, .inl 0)]) rfl ?_
            exact V
        · replace V := V.2 c8
          refine rn_iload_n dX12_sheet_53 rfl rfl ?_
          refine rn_bipush (v := 40) dX12_sheet_54 (by decide) ?_
          refine rn_icmp_le (tgt := 65) dX12_sheet_56 (by decide) (fun c10 => ?_) (fun c10 => ?_)
          · replace V := V.1 c10
            refine rn_aload_n dX12_sheet_65 rfl rfl ?_
            refine rn_get (v := .inr (.inr (some 114))) dX12_sheet_66 fl_X12_67 rfl rfl (congrArg (fun z => (Sum.inr (Sum.inr z) : MV)) (rf_94_34 Rh1)) ?_
            refine rn_iload_n dX12_sheet_69 rfl rfl ?_
            refine rn_iload_n dX12_sheet_70 rfl rfl ?_
            obtain ⟨g0, V⟩ := V
            refine rn_iast (k := (Int32.toNatClampNeg a1)) dX12_sheet_71 rfl rfl g0 ?_
            refine rn_aload_n dX12_sheet_72 rfl rfl ?_
            refine rn_get (v := .inr (.inr (some 115))) dX12_sheet_73 fl_X12_70 rfl rfl (congrArg (fun z => (Sum.inr (Sum.inr z) : MV)) (rf_94_35 Rh1)) ?_
            refine rn_iload_n dX12_sheet_76 rfl rfl ?_
            refine rn_iload_n dX12_sheet_77 rfl rfl ?_
            refine rn_if_ne (tgt := 85) dX12_sheet_78 (by decide) (fun c11 => ?_) (fun c11 => ?_)
            · replace V := V.1 c11
              refine rn_iload_n dX12_sheet_85 rfl rfl ?_
              obtain ⟨g0, V⟩ := V
              refine rn_iast (k := (Int32.toNatClampNeg a1)) dX12_sheet_86 rfl rfl g0 ?_
              refine rn_iconst (v := 0) dX12_sheet_87 (by decide) ?_
              refine rn_istore (L' := [(4, .inl 0), (0, .inr (.inr (some 94))), (1, .inl a1), (2, .inl a2), (3, .inl a3)]) dX12_sheet_88 (Nat.le_of_ble_eq_true rfl) rfl ?_
              refine rn_sub [1, 2, 0] (L' := [(0, .inr (.inr (some 94))), (1, .inl a1), (4, .inl 0)]) rfl ?_
              exact V
            · replace V := V.2 c11
              refine rn_iconst (v := 0) dX12_sheet_81 (by decide) ?_
              refine rn_goto (tgt := 86) dX12_sheet_82 (by decide) ?_
              obtain ⟨g0, V⟩ := V
              refine rn_iast (k := (Int32.toNatClampNeg a1)) dX12_sheet_86 rfl rfl g0 ?_
              refine rn_iconst (v := 0) dX12_sheet_87 (by decide) ?_
              refine rn_istore (L' := [(4, .inl 0), (0, .inr (.inr (some 94))), (1, .inl a1), (2, .inl a2), (3, .inl a3)]) dX12_sheet_88 (Nat.le_of_ble_eq_true rfl) rfl ?_
              refine rn_sub [1, 2, 0] (L' := [(0, .inr (.inr (some 94))), (1, .inl a1), (4, .inl 0)]) rfl ?_
              exact V
          · replace V := V.2 c10
            refine rn_aload_n dX12_sheet_59 rfl rfl ?_
            refine rn_iconst (v := 1) dX12_sheet_60 (by decide) ?_
            refine rn_cV (M' := mX12_finds) (n := 1) (av := [.inl 1]) (S := []) (rc := 0) (rs := 0) (mc := 0) (ms := 0) (a := 94) (ci := 11) (r := (RX12, TX12, 38)) dX12_sheet_61 pa_X12_finds (Nat.le_refl _) rfl (Nat.le_of_ble_eq_true rfl) ml_X12_143 im_X12_finds se_X12_finds rfl rfl rfl (Ev.mono V ?_)
            rintro v sh1 h12 ⟨rfl, Rh12, x13, rfl, V⟩
            show Rn G (d + 1) 0 0 mX12_sheet 64 [(0, .inr (.inr (some 94))), (1, .inl a1), (2, .inl a2), (3, .inl a3)] [.inl x13] SH h12 (QI Q)
            exact rn_iret dX12_sheet_64 rfl ⟨rfl, Rh12, _, rfl, V⟩
      · replace V := V.2 c7
        refine rn_iload_n dX12_sheet_39 rfl rfl ?_
        refine rn_if_ge (tgt := 49) dX12_sheet_40 (by decide) (fun c14 => ?_) (fun c14 => ?_)
        · replace V := V.1 c14
          refine rn_iload_n dX12_sheet_49 rfl rfl ?_
          refine rn_if_eq (tgt := 65) dX12_sheet_50 (by decide) (fun c15 => ?_) (fun c15 => ?_)
          · replace V := V.1 c15
            refine rn_aload_n dX12_sheet_65 rfl rfl ?_
            refine rn_get (v := .inr (.inr (some 114))) dX12_sheet_66 fl_X12_67 rfl rfl (congrArg (fun z => (Sum.inr (Sum.inr z) : MV)) (rf_94_34 Rh1)) ?_
            refine rn_iload_n dX12_sheet_69 rfl rfl ?_
            refine rn_iload_n dX12_sheet_70 rfl rfl ?_
            obtain ⟨g0, V⟩ := V
            refine rn_iast (k := (Int32.toNatClampNeg a1)) dX12_sheet_71 rfl rfl g0 ?_
            refine rn_aload_n dX12_sheet_72 rfl rfl ?_
            refine rn_get (v := .inr (.inr (some 115))) dX12_sheet_73 fl_X12_70 rfl rfl (congrArg (fun z => (Sum.inr (Sum.inr z) : MV)) (rf_94_35 Rh1)) ?_
            refine rn_iload_n dX12_sheet_76 rfl rfl ?_
            refine rn_iload_n dX12_sheet_77 rfl rfl ?_
            refine rn_if_ne (tgt := 85) dX12_sheet_78 (by decide) (fun c16 => ?_) (fun c16 => ?_)
            · replace V := V.1 c16
              refine rn_iload_n dX12_sheet_85 rfl rfl ?_
              obtain ⟨g0, V⟩ := V
              refine rn_iast (k := (Int32.toNatClampNeg a1)) dX12_sheet_86 rfl rfl g0 ?_
              refine rn_iconst (v := 0) dX12_sheet_87 (by decide) ?_
              refine rn_istore (L' := [(4, .inl 0), (0, .inr (.inr (some 94))), (1, .inl a1), (2, .inl a2), (3, .inl a3)]) dX12_sheet_88 (Nat.le_of_ble_eq_true rfl) rfl ?_
              refine rn_sub [1, 2, 0] (L' := [(0, .inr (.inr (some 94))), (1, .inl a1), (4, .inl 0)]) rfl ?_
              exact V
            · replace V := V.2 c16
              refine rn_iconst (v := 0) dX12_sheet_81 (by decide) ?_
              refine rn_goto (tgt := 86) dX12_sheet_82 (by decide) ?_
              obtain ⟨g0, V⟩ := V
              refine rn_iast (k := (Int32.toNatClampNeg a1)) dX12_sheet_86 rfl rfl g0 ?_
              refine rn_iconst (v := 0) dX12_sheet_87 (by decide) ?_
              refine rn_istore (L' := [(4, .inl 0), (0, .inr (.inr (some 94))), (1, .inl a1), (2, .inl a2), (3, .inl a3)]) dX12_sheet_88 (Nat.le_of_ble_eq_true rfl) rfl ?_
              refine rn_sub [1, 2, 0] (L' := [(0, .inr (.inr (some 94))), (1, .inl a1), (4, .inl 0)]) rfl ?_
              exact V
          · replace V := V.2 c15
            refine rn_iload_n dX12_sheet_53 rfl rfl ?_
            refine rn_bipush (v := 40) dX12_sheet_54 (by decide) ?_
            refine rn_icmp_le (tgt := 65) dX12_sheet_56 (by decide) (fun c17 => ?_) (fun c17 => ?_)
            · replace V := V.1 c17
              refine rn_aload_n dX12_sheet_65 rfl rfl ?_
              refine rn_get (v := .inr (.inr (some 114))) dX12_sheet_66 fl_X12_67 rfl rfl (congrArg (fun z => (Sum.inr (Sum.inr z) : MV)) (rf_94_34 Rh1)) ?_
              refine rn_iload_n dX12_sheet_69 rfl rfl ?_
              refine rn_iload_n dX12_sheet_70 rfl rfl ?_
              obtain ⟨g0, V⟩ := V
              refine rn_iast (k := (Int32.toNatClampNeg a1)) dX12_sheet_71 rfl rfl g0 ?_
              refine rn_aload_n dX12_sheet_72 rfl rfl ?_
              refine rn_get (v := .inr (.inr (some 115))) dX12_sheet_73 fl_X12_70 rfl rfl (congrArg (fun z => (Sum.inr (Sum.inr z) : MV)) (rf_94_35 Rh1)) ?_
              refine rn_iload_n dX12_sheet_76 rfl rfl ?_
              refine rn_iload_n dX12_sheet_77 rfl rfl ?_
              refine rn_if_ne (tgt := 85) dX12_sheet_78 (by decide) (fun c18 => ?_) (fun c18 => ?_)
              · replace V := V.1 c18
                refine rn_iload_n dX12_sheet_85 rfl rfl ?_
                obtain ⟨g0, V⟩ := V
                refine rn_iast (k := (Int32.toNatClampNeg a1)) dX12_sheet_86 rfl rfl g0 ?_
                refine rn_iconst (v := 0) dX12_sheet_87 (by decide) ?_
                refine rn_istore (L' := [(4, .inl 0), (0, .inr (.inr (some 94))), (1, .inl a1), (2, .inl a2), (3, .inl a3)]) dX12_sheet_88 (Nat.le_of_ble_eq_true rfl) rfl ?_
                refine rn_sub [1, 2, 0] (L' := [(0, .inr (.inr (some 94))), (1, .inl a1), (4, .inl 0)]) rfl ?_
                exact V
              · replace V := V.2 c18
                refine rn_iconst (v := 0) dX12_sheet_81 (by decide) ?_
                refine rn_goto (tgt := 86) dX12_sheet_82 (by decide) ?_
                obtain ⟨g0, V⟩ := V
                refine rn_iast (k := (Int32.toNatClampNeg a1)) dX12_sheet_86 rfl rfl g0 ?_
                refine rn_iconst (v := 0) dX12_sheet_87 (by decide) ?_
                refine rn_istore (L' := [(4, .inl 0), (0, .inr (.inr (some 94))), (1, .inl a1), (2, .inl a2), (3, .inl a3)]) dX12_sheet_88 (Nat.le_of_ble_eq_true rfl) rfl ?_
                refine rn_sub [1, 2, 0] (L' := [(0, .inr (.inr (some 94))), (1, .inl a1), (4, .inl 0)]) rfl ?_
                exact V
            · replace V := V.2 c17
              refine rn_aload_n dX12_sheet_59 rfl rfl ?_
              refine rn_iconst (v := 1) dX12_sheet_60 (by decide) ?_
              refine rn_cV (M' := mX12_finds) (n := 1) (av := [.inl 1]) (S := []) (rc := 0) (rs := 0) (mc := 0) (ms := 0) (a := 94) (ci := 11) (r := (RX12, TX12, 38)) dX12_sheet_61 pa_X12_finds (Nat.le_refl _) rfl (Nat.le_of_ble_eq_true rfl) ml_X12_143 im_X12_finds se_X12_finds rfl rfl rfl (Ev.mono V ?_)
              rintro v sh1 h19 ⟨rfl, Rh19, x20, rfl, V⟩
              show Rn G (d + 1) 0 0 mX12_sheet 64 [(0, .inr (.inr (some 94))), (1, .inl a1), (2, .inl a2), (3, .inl a3)] [.inl x20] SH h19 (QI Q)
              exact rn_iret dX12_sheet_64 rfl ⟨rfl, Rh19, _, rfl, V⟩
        · replace V := V.2 c14
          refine rn_aload_n dX12_sheet_43 rfl rfl ?_
          refine rn_iconst (v := 3) dX12_sheet_44 (by decide) ?_
          refine rn_cV (M' := mX12_finds) (n := 1) (av := [.inl 3]) (S := []) (rc := 0) (rs := 0) (mc := 0) (ms := 0) (a := 94) (ci := 11) (r := (RX12, TX12, 38)) dX12_sheet_45 pa_X12_finds (Nat.le_refl _) rfl (Nat.le_of_ble_eq_true rfl) ml_X12_143 im_X12_finds se_X12_finds rfl rfl rfl (Ev.mono V ?_)
          rintro v sh1 h21 ⟨rfl, Rh21, x22, rfl, V⟩
          show Rn G (d + 1) 0 0 mX12_sheet 48 [(0, .inr (.inr (some 94))), (1, .inl a1), (2, .inl a2), (3, .inl a3)] [.inl x22] SH h21 (QI Q)
          exact rn_iret dX12_sheet_48 rfl ⟨rfl, Rh21, _, rfl, V⟩
    · replace V := V.2 c6
      refine rn_iload_n dX12_sheet_11 rfl rfl ?_
      refine rn_bipush (v := 8) dX12_sheet_12 (by decide) ?_
      refine rn_icmp_eq (tgt := 35) dX12_sheet_14 (by decide) (fun c23 => ?_) (fun c23 => ?_)
      · replace V := V.1 c23
        refine rn_iload_n dX12_sheet_35 rfl rfl ?_
        refine rn_if_eq (tgt := 49) dX12_sheet_36 (by decide) (fun c24 => ?_) (fun c24 => ?_)
        · replace V := V.1 c24
          refine rn_iload_n dX12_sheet_49 rfl rfl ?_
          refine rn_if_eq (tgt := 65) dX12_sheet_50 (by decide) (fun c25 => ?_) (fun c25 => ?_)
          · replace V := V.1 c25
            refine rn_aload_n dX12_sheet_65 rfl rfl ?_
            refine rn_get (v := .inr (.inr (some 114))) dX12_sheet_66 fl_X12_67 rfl rfl (congrArg (fun z => (Sum.inr (Sum.inr z) : MV)) (rf_94_34 Rh1)) ?_
            refine rn_iload_n dX12_sheet_69 rfl rfl ?_
            refine rn_iload_n dX12_sheet_70 rfl rfl ?_
            obtain ⟨g0, V⟩ := V
            refine rn_iast (k := (Int32.toNatClampNeg a1)) dX12_sheet_71 rfl rfl g0 ?_
            refine rn_aload_n dX12_sheet_72 rfl rfl ?_
            refine rn_get (v := .inr (.inr (some 115))) dX12_sheet_73 fl_X12_70 rfl rfl (congrArg (fun z => (Sum.inr (Sum.inr z) : MV)) (rf_94_35 Rh1)) ?_
            refine rn_iload_n dX12_sheet_76 rfl rfl ?_
            refine rn_iload_n dX12_sheet_77 rfl rfl ?_
            refine rn_if_ne (tgt := 85) dX12_sheet_78 (by decide) (fun c26 => ?_) (fun c26 => ?_)
            · replace V := V.1 c26
              refine rn_iload_n dX12_sheet_85 rfl rfl ?_
              obtain ⟨g0, V⟩ := V
              refine rn_iast (k := (Int32.toNatClampNeg a1)) dX12_sheet_86 rfl rfl g0 ?_
              refine rn_iconst (v := 0) dX12_sheet_87 (by decide) ?_
              refine rn_istore (L' := [(4, .inl 0), (0, .inr (.inr (some 94))), (1, .inl a1), (2, .inl a2), (3, .inl a3)]) dX12_sheet_88 (Nat.le_of_ble_eq_true rfl) rfl ?_
              refine rn_sub [1, 2, 0] (L' := [(0, .inr (.inr (some 94))), (1, .inl a1), (4, .inl 0)]) rfl ?_
              exact V
            · replace V := V.2 c26
              refine rn_iconst (v := 0) dX12_sheet_81 (by decide) ?_
              refine rn_goto (tgt := 86) dX12_sheet_82 (by decide) ?_
              obtain ⟨g0, V⟩ := V
              refine rn_iast (k := (Int32.toNatClampNeg a1)) dX12_sheet_86 rfl rfl g0 ?_
              refine rn_iconst (v := 0) dX12_sheet_87 (by decide) ?_
              refine rn_istore (L' := [(4, .inl 0), (0, .inr (.inr (some 94))), (1, .inl a1), (2, .inl a2), (3, .inl a3)]) dX12_sheet_88 (Nat.le_of_ble_eq_true rfl) rfl ?_
              refine rn_sub [1, 2, 0] (L' := [(0, .inr (.inr (some 94))), (1, .inl a1), (4, .inl 0)]) rfl ?_
              exact V
          · replace V := V.2 c25
            refine rn_iload_n dX12_sheet_53 rfl rfl ?_
            refine rn_bipush (v := 40) dX12_sheet_54 (by decide) ?_
            refine rn_icmp_le (tgt := 65) dX12_sheet_56 (by decide) (fun c27 => ?_) (fun c27 => ?_)
            · replace V := V.1 c27
              refine rn_aload_n dX12_sheet_65 rfl rfl ?_
              refine rn_get (v := .inr (.inr (some 114))) dX12_sheet_66 fl_X12_67 rfl rfl (congrArg (fun z => (Sum.inr (Sum.inr z) : MV)) (rf_94_34 Rh1)) ?_
              refine rn_iload_n dX12_sheet_69 rfl rfl ?_
              refine rn_iload_n dX12_sheet_70 rfl rfl ?_
              obtain ⟨g0, V⟩ := V
              refine rn_iast (k := (Int32.toNatClampNeg a1)) dX12_sheet_71 rfl rfl g0 ?_
              refine rn_aload_n dX12_sheet_72 rfl rfl ?_
              refine rn_get (v := .inr (.inr (some 115))) dX12_sheet_73 fl_X12_70 rfl rfl (congrArg (fun z => (Sum.inr (Sum.inr z) : MV)) (rf_94_35 Rh1)) ?_
              refine rn_iload_n dX12_sheet_76 rfl rfl ?_
              refine rn_iload_n dX12_sheet_77 rfl rfl ?_
              refine rn_if_ne (tgt := 85) dX12_sheet_78 (by decide) (fun c28 => ?_) (fun c28 => ?_)
              · replace V := V.1 c28
                refine rn_iload_n dX12_sheet_85 rfl rfl ?_
                obtain ⟨g0, V⟩ := V
                refine rn_iast (k := (Int32.toNatClampNeg a1)) dX12_sheet_86 rfl rfl g0 ?_
                refine rn_iconst (v := 0) dX12_sheet_87 (by decide) ?_
                refine rn_istore (L' := [(4, .inl 0), (0, .inr (.inr (some 94))), (1, .inl a1), (2, .inl a2), (3, .inl a3)]) dX12_sheet_88 (Nat.le_of_ble_eq_true rfl) rfl ?_
                refine rn_sub [1, 2, 0] (L' := [(0, .inr (.inr (some 94))), (1, .inl a1), (4, .inl 0)]) rfl ?_
                exact V
              · replace V := V.2 c28
                refine rn_iconst (v := 0) dX12_sheet_81 (by decide) ?_
                refine rn_goto (tgt := 86) dX12_sheet_82 (by decide) ?_
                obtain ⟨g0, V⟩ := V
                refine rn_iast (k := (Int32.toNatClampNeg a1)) dX12_sheet_86 rfl rfl g0 ?_
                refine rn_iconst (v := 0) dX12_sheet_87 (by decide) ?_
                refine rn_istore (L' := [(4, .inl 0), (0, .inr (.inr (some 94))), (1, .inl a1), (2, .inl a2), (3, .inl a3)]) dX12_sheet_88 (Nat.le_of_ble_eq_true rfl) rfl ?_
                refine rn_sub [1, 2, 0] (L' := [(0, .inr (.inr (some 94))), (1, .inl a1), (4, .inl 0)]) rfl ?_
                exact V
            · replace V := V.2 c27
              refine rn_aload_n dX12_sheet_59 rfl rfl ?_
              refine rn_iconst (v := 1) dX12_sheet_60 (by decide) ?_
              refine rn_cV (M' := mX12_finds) (n := 1) (av := [.inl 1]) (S := []) (rc := 0) (rs := 0) (mc := 0) (ms := 0) (a := 94) (ci := 11) (r := (RX12, TX12, 38)) dX12_sheet_61 pa_X12_finds (Nat.le_refl _) rfl (Nat.le_of_ble_eq_true rfl) ml_X12_143 im_X12_finds se_X12_finds rfl rfl rfl (Ev.mono V ?_)
              rintro v sh1 h29 ⟨rfl, Rh29, x30, rfl, V⟩
              show Rn G (d + 1) 0 0 mX12_sheet 64 [(0, .inr (.inr (some 94))), (1, .inl a1), (2, .inl a2), (3, .inl a3)] [.inl x30] SH h29 (QI Q)
              exact rn_iret dX12_sheet_64 rfl ⟨rfl, Rh29, _, rfl, V⟩
        · replace V := V.2 c24
          refine rn_iload_n dX12_sheet_39 rfl rfl ?_
          refine rn_if_ge (tgt := 49) dX12_sheet_40 (by decide) (fun c31 => ?_) (fun c31 => ?_)
          · replace V := V.1 c31
            refine rn_iload_n dX12_sheet_49 rfl rfl ?_
            refine rn_if_eq (tgt := 65) dX12_sheet_50 (by decide) (fun c32 => ?_) (fun c32 => ?_)
            · replace V := V.1 c32
              refine rn_aload_n dX12_sheet_65 rfl rfl ?_
              refine rn_get (v := .inr (.inr (some 114))) dX12_sheet_66 fl_X12_67 rfl rfl (congrArg (fun z => (Sum.inr (Sum.inr z) : MV)) (rf_94_34 Rh1)) ?_
              refine rn_iload_n dX12_sheet_69 rfl rfl ?_
              refine rn_iload_n dX12_sheet_70 rfl rfl ?_
              obtain ⟨g0, V⟩ := V
              refine rn_iast (k := (Int32.toNatClampNeg a1)) dX12_sheet_71 rfl rfl g0 ?_
              refine rn_aload_n dX12_sheet_72 rfl rfl ?_
              refine rn_get (v := .inr (.inr (some 115))) dX12_sheet_73 fl_X12_70 rfl rfl (congrArg (fun z => (Sum.inr (Sum.inr z) : MV)) (rf_94_35 Rh1)) ?_
              refine rn_iload_n dX12_sheet_76 rfl rfl ?_
              refine rn_iload_n dX12_sheet_77 rfl rfl ?_
              refine rn_if_ne (tgt := 85) dX12_sheet_78 (by decide) (fun c33 => ?_) (fun c33 => ?_)
              · replace V := V.1 c33
                refine rn_iload_n dX12_sheet_85 rfl rfl ?_
                obtain ⟨g0, V⟩ := V
                refine rn_iast (k := (Int32.toNatClampNeg a1)) dX12_sheet_86 rfl rfl g0 ?_
                refine rn_iconst (v := 0) dX12_sheet_87 (by decide) ?_
                refine rn_istore (L' := [(4, .inl 0), (0, .inr (.inr (some 94))), (1, .inl a1), (2, .inl a2), (3, .inl a3)]) dX12_sheet_88 (Nat.le_of_ble_eq_true rfl) rfl ?_
                refine rn_sub [1, 2, 0] (L' := [(0, .inr (.inr (some 94))), (1, .inl a1), (4, .inl 0)]) rfl ?_
                exact V
              · replace V := V.2 c33
                refine rn_iconst (v := 0) dX12_sheet_81 (by decide) ?_
                refine rn_goto (tgt := 86) dX12_sheet_82 (by decide) ?_
                obtain ⟨g0, V⟩ := V
                refine rn_iast (k := (Int32.toNatClampNeg a1)) dX12_sheet_86 rfl rfl g0 ?_
                refine rn_iconst (v := 0) dX12_sheet_87 (by decide) ?_
                refine rn_istore (L' := [(4, .inl 0), (0, .inr (.inr (some 94))), (1, .inl a1), (2, .inl a2), (3, .inl a3)]) dX12_sheet_88 (Nat.le_of_ble_eq_true rfl) rfl ?_
                refine rn_sub [1, 2, 0] (L' := [(0, .inr (.inr (some 94))), (1, .inl a1), (4, .inl 0)]) rfl ?_
                exact V
            · replace V := V.2 c32
              refine rn_iload_n dX12_sheet_53 rfl rfl ?_
              refine rn_bipush (v := 40) dX12_sheet_54 (by decide) ?_
              refine rn_icmp_le (tgt := 65) dX12_sheet_56 (by decide) (fun c34 => ?_) (fun c34 => ?_)
              · replace V := V.1 c34
                refine rn_aload_n dX12_sheet_65 rfl rfl ?_
                refine rn_get (v := .inr (.inr (some 114))) dX12_sheet_66 fl_X12_67 rfl rfl (congrArg (fun z => (Sum.inr (Sum.inr z) : MV)) (rf_94_34 Rh1)) ?_
                refine rn_iload_n dX12_sheet_69 rfl rfl ?_
                refine rn_iload_n dX12_sheet_70 rfl rfl ?_
                obtain ⟨g0, V⟩ := V
                refine rn_iast (k := (Int32.toNatClampNeg a1)) dX12_sheet_71 rfl rfl g0 ?_
                refine rn_aload_n dX12_sheet_72 rfl rfl ?_
                refine rn_get (v := .inr (.inr (some 115))) dX12_sheet_73 fl_X12_70 rfl rfl (congrArg (fun z => (Sum.inr (Sum.inr z) : MV)) (rf_94_35 Rh1)) ?_
                refine rn_iload_n dX12_sheet_76 rfl rfl ?_
                refine rn_iload_n dX12_sheet_77 rfl rfl ?_
                refine rn_if_ne (tgt := 85) dX12_sheet_78 (by decide) (fun c35 => ?_) (fun c35 => ?_)
                · replace V := V.1 c35
                  refine rn_iload_n dX12_sheet_85 rfl rfl ?_
                  obtain ⟨g0, V⟩ := V
                  refine rn_iast (k := (Int32.toNatClampNeg a1)) dX12_sheet_86 rfl rfl g0 ?_
                  refine rn_iconst (v := 0) dX12_sheet_87 (by decide) ?_
                  refine rn_istore (L' := [(4, .inl 0), (0, .inr (.inr (some 94))), (1, .inl a1), (2, .inl a2), (3, .inl a3)]) dX12_sheet_88 (Nat.le_of_ble_eq_true rfl) rfl ?_
                  refine rn_sub [1, 2, 0] (L' := [(0, .inr (.inr (some 94))), (1, .inl a1), (4, .inl 0)]) rfl ?_
                  exact V
                · replace V := V.2 c35
                  refine rn_iconst (v := 0) dX12_sheet_81 (by decide) ?_
                  refine rn_goto (tgt := 86) dX12_sheet_82 (by decide) ?_
                  obtain ⟨g0, V⟩ := V
                  refine rn_iast (k := (Int32.toNatClampNeg a1)) dX12_sheet_86 rfl rfl g0 ?_
                  refine rn_iconst (v := 0) dX12_sheet_87 (by decide) ?_
                  refine rn_istore (L' := [(4, .inl 0), (0, .inr (.inr (some 94))), (1, .inl a1), (2, .inl a2), (3, .inl a3)]) dX12_sheet_88 (Nat.le_of_ble_eq_true rfl) rfl ?_
                  refine rn_sub [1, 2, 0] (L' := [(0, .inr (.inr (some 94))), (1, .inl a1), (4, .inl 0)]) rfl ?_
                  exact V
              · replace V := V.2 c34
                refine rn_aload_n dX12_sheet_59 rfl rfl ?_
                refine rn_iconst (v := 1) dX12_sheet_60 (by decide) ?_
                refine rn_cV (M' := mX12_finds) (n := 1) (av := [.inl 1]) (S := []) (rc := 0) (rs := 0) (mc := 0) (ms := 0) (a := 94) (ci := 11) (r := (RX12, TX12, 38)) dX12_sheet_61 pa_X12_finds (Nat.le_refl _) rfl (Nat.le_of_ble_eq_true rfl) ml_X12_143 im_X12_finds se_X12_finds rfl rfl rfl (Ev.mono V ?_)
                rintro v sh1 h36 ⟨rfl, Rh36, x37, rfl, V⟩
                show Rn G (d + 1) 0 0 mX12_sheet 64 [(0, .inr (.inr (some 94))), (1, .inl a1), (2, .inl a2), (3, .inl a3)] [.inl x37] SH h36 (QI Q)
                exact rn_iret dX12_sheet_64 rfl ⟨rfl, Rh36, _, rfl, V⟩
          · replace V := V.2 c31
            refine rn_aload_n dX12_sheet_43 rfl rfl ?_
            refine rn_iconst (v := 3) dX12_sheet_44 (by decide) ?_
            refine rn_cV (M' := mX12_finds) (n := 1) (av := [.inl 3]) (S := []) (rc := 0) (rs := 0) (mc := 0) (ms := 0) (a := 94) (ci := 11) (r := (RX12, TX12, 38)) dX12_sheet_45 pa_X12_finds (Nat.le_refl _) rfl (Nat.le_of_ble_eq_true rfl) ml_X12_143 im_X12_finds se_X12_finds rfl rfl rfl (Ev.mono V ?_)
            rintro v sh1 h38 ⟨rfl, Rh38, x39, rfl, V⟩
            show Rn G (d + 1) 0 0 mX12_sheet 48 [(0, .inr (.inr (some 94))), (1, .inl a1), (2, .inl a2), (3, .inl a3)] [.inl x39] SH h38 (QI Q)
            exact rn_iret dX12_sheet_48 rfl ⟨rfl, Rh38, _, rfl, V⟩
      · replace V := V.2 c23
        refine rn_iload_n dX12_sheet_17 rfl rfl ?_
        refine rn_bipush (v := 16) dX12_sheet_18 (by decide) ?_
        refine rn_icmp_eq (tgt := 35) dX12_sheet_20 (by decide) (fun c40 => ?_) (fun c40 => ?_)
        · replace V := V.1 c40
          refine rn_iload_n dX12_sheet_35 rfl rfl ?_
          refine rn_if_eq (tgt := 49) dX12_sheet_36 (by decide) (fun c41 => ?_) (fun c41 => ?_)
          · replace V := V.1 c41
            refine rn_iload_n dX12_sheet_49 rfl rfl ?_
            refine rn_if_eq (tgt := 65) dX12_sheet_50 (by decide) (fun c42 => ?_) (fun c42 => ?_)
            · replace V := V.1 c42
              refine rn_aload_n dX12_sheet_65 rfl rfl ?_
              refine rn_get (v := .inr (.inr (some 114))) dX12_sheet_66 fl_X12_67 rfl rfl (congrArg (fun z => (Sum.inr (Sum.inr z) : MV)) (rf_94_34 Rh1)) ?_
              refine rn_iload_n dX12_sheet_69 rfl rfl ?_
              refine rn_iload_n dX12_sheet_70 rfl rfl ?_
              obtain ⟨g0, V⟩ := V
              refine rn_iast (k := (Int32.toNatClampNeg a1)) dX12_sheet_71 rfl rfl g0 ?_
              refine rn_aload_n dX12_sheet_72 rfl rfl ?_
              refine rn_get (v := .inr (.inr (some 115))) dX12_sheet_73 fl_X12_70 rfl rfl (congrArg (fun z => (Sum.inr (Sum.inr z) : MV)) (rf_94_35 Rh1)) ?_
              refine rn_iload_n dX12_sheet_76 rfl rfl ?_
              refine rn_iload_n dX12_sheet_77 rfl rfl ?_
              refine rn_if_ne (tgt := 85) dX12_sheet_78 (by decide) (fun c43 => ?_) (fun c43 => ?_)
              · replace V := V.1 c43
                refine rn_iload_n dX12_sheet_85 rfl rfl ?_
                obtain ⟨g0, V⟩ := V
                refine rn_iast (k := (Int32.toNatClampNeg a1)) dX12_sheet_86 rfl rfl g0 ?_
                refine rn_iconst (v := 0) dX12_sheet_87 (by decide) ?_
                refine rn_istore (L' := [(4, .inl 0), (0, .inr (.inr (some 94))), (1, .inl a1), (2, .inl a2), (3, .inl a3)]) dX12_sheet_88 (Nat.le_of_ble_eq_true rfl) rfl ?_
                refine rn_sub [1, 2, 0] (L' := [(0, .inr (.inr (some 94))), (1, .inl a1), (4, .inl 0)]) rfl ?_
                exact V
              · replace V := V.2 c43
                refine rn_iconst (v := 0) dX12_sheet_81 (by decide) ?_
                refine rn_goto (tgt := 86) dX12_sheet_82 (by decide) ?_
                obtain ⟨g0, V⟩ := V
                refine rn_iast (k := (Int32.toNatClampNeg a1)) dX12_sheet_86 rfl rfl g0 ?_
                refine rn_iconst (v := 0) dX12_sheet_87 (by decide) ?_
                refine rn_istore (L' := [(4, .inl 0), (0, .inr (.inr (some 94))), (1, .inl a1), (2, .inl a2), (3, .inl a3)]) dX12_sheet_88 (Nat.le_of_ble_eq_true rfl) rfl ?_
                refine rn_sub [1, 2, 0] (L' := [(0, .inr (.inr (some 94))), (1, .inl a1), (4, .inl 0)]) rfl ?_
                exact V
            · replace V := V.2 c42
              refine rn_iload_n dX12_sheet_53 rfl rfl ?_
              refine rn_bipush (v := 40) dX12_sheet_54 (by decide) ?_
              refine rn_icmp_le (tgt := 65) dX12_sheet_56 (by decide) (fun c44 => ?_) (fun c44 => ?_)
              · replace V := V.1 c44
                refine rn_aload_n dX12_sheet_65 rfl rfl ?_
                refine rn_get (v := .inr (.inr (some 114))) dX12_sheet_66 fl_X12_67 rfl rfl (congrArg (fun z => (Sum.inr (Sum.inr z) : MV)) (rf_94_34 Rh1)) ?_
                refine rn_iload_n dX12_sheet_69 rfl rfl ?_
                refine rn_iload_n dX12_sheet_70 rfl rfl ?_
                obtain ⟨g0, V⟩ := V
                refine rn_iast (k := (Int32.toNatClampNeg a1)) dX12_sheet_71 rfl rfl g0 ?_
                refine rn_aload_n dX12_sheet_72 rfl rfl ?_
                refine rn_get (v := .inr (.inr (some 115))) dX12_sheet_73 fl_X12_70 rfl rfl (congrArg (fun z => (Sum.inr (Sum.inr z) : MV)) (rf_94_35 Rh1)) ?_
                refine rn_iload_n dX12_sheet_76 rfl rfl ?_
                refine rn_iload_n dX12_sheet_77 rfl rfl ?_
                refine rn_if_ne (tgt := 85) dX12_sheet_78 (by decide) (fun c45 => ?_) (fun c45 => ?_)
                · replace V := V.1 c45
                  refine rn_iload_n dX12_sheet_85 rfl rfl ?_
                  obtain ⟨g0, V⟩ := V
                  refine rn_iast (k := (Int32.toNatClampNeg a1)) dX12_sheet_86 rfl rfl g0 ?_
                  refine rn_iconst (v := 0) dX12_sheet_87 (by decide) ?_
                  refine rn_istore (L' := [(4, .inl 0), (0, .inr (.inr (some 94))), (1, .inl a1), (2, .inl a2), (3, .inl a3)]) dX12_sheet_88 (Nat.le_of_ble_eq_true rfl) rfl ?_
                  refine rn_sub [1, 2, 0] (L' := [(0, .inr (.inr (some 94))), (1, .inl a1), (4, .inl 0)]) rfl ?_
                  exact V
                · replace V := V.2 c45
                  refine rn_iconst (v := 0) dX12_sheet_81 (by decide) ?_
                  refine rn_goto (tgt := 86) dX12_sheet_82 (by decide) ?_
                  obtain ⟨g0, V⟩ := V
                  refine rn_iast (k := (Int32.toNatClampNeg a1)) dX12_sheet_86 rfl rfl g0 ?_
                  refine rn_iconst (v := 0) dX12_sheet_87 (by decide) ?_
                  refine rn_istore (L' := [(4, .inl 0), (0, .inr (.inr (some 94))), (1, .inl a1), (2, .inl a2), (3, .inl a3)]) dX12_sheet_88 (Nat.le_of_ble_eq_true rfl) rfl ?_
                  refine rn_sub [1, 2, 0] (L' := [(0, .inr (.inr (some 94))), (1, .inl a1), (4, .inl 0)]) rfl ?_
                  exact V
              · replace V := V.2 c44
                refine rn_aload_n dX12_sheet_59 rfl rfl ?_
                refine rn_iconst (v := 1) dX12_sheet_60 (by decide) ?_
                refine rn_cV (M' := mX12_finds) (n := 1) (av := [.inl 1]) (S := []) (rc := 0) (rs := 0) (mc := 0) (ms := 0) (a := 94) (ci := 11) (r := (RX12, TX12, 38)) dX12_sheet_61 pa_X12_finds (Nat.le_refl _) rfl (Nat.le_of_ble_eq_true rfl) ml_X12_143 im_X12_finds se_X12_finds rfl rfl rfl (Ev.mono V ?_)
                rintro v sh1 h46 ⟨rfl, Rh46, x47, rfl, V⟩
                show Rn G (d + 1) 0 0 mX12_sheet 64 [(0, .inr (.inr (some 94))), (1, .inl a1), (2, .inl a2), (3, .inl a3)] [.inl x47] SH h46 (QI Q)
                exact rn_iret dX12_sheet_64 rfl ⟨rfl, Rh46, _, rfl, V⟩
          · replace V := V.2 c41
            refine rn_iload_n dX12_sheet_39 rfl rfl ?_
            refine rn_if_ge (tgt := 49) dX12_sheet_40 (by decide) (fun c48 => ?_) (fun c48 => ?_)
            · replace V := V.1 c48
              refine rn_iload_n dX12_sheet_49 rfl rfl ?_
              refine rn_if_eq (tgt := 65) dX12_sheet_50 (by decide) (fun c49 => ?_) (fun c49 => ?_)
              · replace V := V.1 c49
                refine rn_aload_n dX12_sheet_65 rfl rfl ?_
                refine rn_get (v := .inr (.inr (some 114))) dX12_sheet_66 fl_X12_67 rfl rfl (congrArg (fun z => (Sum.inr (Sum.inr z) : MV)) (rf_94_34 Rh1)) ?_
                refine rn_iload_n dX12_sheet_69 rfl rfl ?_
                refine rn_iload_n dX12_sheet_70 rfl rfl ?_
                obtain ⟨g0, V⟩ := V
                refine rn_iast (k := (Int32.toNatClampNeg a1)) dX12_sheet_71 rfl rfl g0 ?_
                refine rn_aload_n dX12_sheet_72 rfl rfl ?_
                refine rn_get (v := .inr (.inr (some 115))) dX12_sheet_73 fl_X12_70 rfl rfl (congrArg (fun z => (Sum.inr (Sum.inr z) : MV)) (rf_94_35 Rh1)) ?_
                refine rn_iload_n dX12_sheet_76 rfl rfl ?_
                refine rn_iload_n dX12_sheet_77 rfl rfl ?_
                refine rn_if_ne (tgt := 85) dX12_sheet_78 (by decide) (fun c50 => ?_) (fun c50 => ?_)
                · replace V := V.1 c50
                  refine rn_iload_n dX12_sheet_85 rfl rfl ?_
                  obtain ⟨g0, V⟩ := V
                  refine rn_iast (k := (Int32.toNatClampNeg a1)) dX12_sheet_86 rfl rfl g0 ?_
                  refine rn_iconst (v := 0) dX12_sheet_87 (by decide) ?_
                  refine rn_istore (L' := [(4, .inl 0), (0, .inr (.inr (some 94))), (1, .inl a1), (2, .inl a2), (3, .inl a3)]) dX12_sheet_88 (Nat.le_of_ble_eq_true rfl) rfl ?_
                  refine rn_sub [1, 2, 0] (L' := [(0, .inr (.inr (some 94))), (1, .inl a1), (4, .inl 0)]) rfl ?_
                  exact V
                · replace V := V.2 c50
                  refine rn_iconst (v := 0) dX12_sheet_81 (by decide) ?_
                  refine rn_goto (tgt := 86) dX12_sheet_82 (by decide) ?_
                  obtain ⟨g0, V⟩ := V
                  refine rn_iast (k := (Int32.toNatClampNeg a1)) dX12_sheet_86 rfl rfl g0 ?_
                  refine rn_iconst (v := 0) dX12_sheet_87 (by decide) ?_
                  refine rn_istore (L' := [(4, .inl 0), (0, .inr (.inr (some 94))), (1, .inl a1), (2, .inl a2), (3, .inl a3)]) dX12_sheet_88 (Nat.le_of_ble_eq_true rfl) rfl ?_
                  refine rn_sub [1, 2, 0] (L' := [(0, .inr (.inr (some 94))), (1, .inl a1), (4, .inl 0)]) rfl ?_
                  exact V
              · replace V := V.2 c49
                refine rn_iload_n dX12_sheet_53 rfl rfl ?_
                refine rn_bipush (v := 40) dX12_sheet_54 (by decide) ?_
                refine rn_icmp_le (tgt := 65) dX12_sheet_56 (by decide) (fun c51 => ?_) (fun c51 => ?_)
                · replace V := V.1 c51
                  refine rn_aload_n dX12_sheet_65 rfl rfl ?_
                  refine rn_get (v := .inr (.inr (some 114))) dX12_sheet_66 fl_X12_67 rfl rfl (congrArg (fun z => (Sum.inr (Sum.inr z) : MV)) (rf_94_34 Rh1)) ?_
                  refine rn_iload_n dX12_sheet_69 rfl rfl ?_
                  refine rn_iload_n dX12_sheet_70 rfl rfl ?_
                  obtain ⟨g0, V⟩ := V
                  refine rn_iast (k := (Int32.toNatClampNeg a1)) dX12_sheet_71 rfl rfl g0 ?_
                  refine rn_aload_n dX12_sheet_72 rfl rfl ?_
                  refine rn_get (v := .inr (.inr (some 115))) dX12_sheet_73 fl_X12_70 rfl rfl (congrArg (fun z => (Sum.inr (Sum.inr z) : MV)) (rf_94_35 Rh1)) ?_
                  refine rn_iload_n dX12_sheet_76 rfl rfl ?_
                  refine rn_iload_n dX12_sheet_77 rfl rfl ?_
                  refine rn_if_ne (tgt := 85) dX12_sheet_78 (by decide) (fun c52 => ?_) (fun c52 => ?_)
                  · replace V := V.1 c52
                    refine rn_iload_n dX12_sheet_85 rfl rfl ?_
                    obtain ⟨g0, V⟩ := V
                    refine rn_iast (k := (Int32.toNatClampNeg a1)) dX12_sheet_86 rfl rfl g0 ?_
                    refine rn_iconst (v := 0) dX12_sheet_87 (by decide) ?_
                    refine rn_istore (L' := [(4, .inl 0), (0, .inr (.inr (some 94))), (1, .inl a1), (2, .inl a2), (3, .inl a3)]) dX12_sheet_88 (Nat.le_of_ble_eq_true rfl) rfl ?_
                    refine rn_sub [1, 2, 0] (L' := [(0, .inr (.inr (some 94))), (1, .inl a1), (4, .inl 0)]) rfl ?_
                    exact V
                  · replace V := V.2 c52
                    refine rn_iconst (v := 0) dX12_sheet_81 (by decide) ?_
                    refine rn_goto (tgt := 86) dX12_sheet_82 (by decide) ?_
                    obtain ⟨g0, V⟩ := V
                    refine rn_iast (k := (Int32.toNatClampNeg a1)) dX12_sheet_86 rfl rfl g0 ?_
                    refine rn_iconst (v := 0) dX12_sheet_87 (by decide) ?_
                    refine rn_istore (L' := [(4, .inl 0), (0, .inr (.inr (some 94))), (1, .inl a1), (2, .inl a2), (3, .inl a3)]) dX12_sheet_88 (Nat.le_of_ble_eq_true rfl) rfl ?_
                    refine rn_sub [1, 2, 0] (L' := [(0, .inr (.inr (some 94))), (1, .inl a1), (4, .inl 0)]) rfl ?_
                    exact V
                · replace V := V.2 c51
                  refine rn_aload_n dX12_sheet_59 rfl rfl ?_
                  refine rn_iconst (v := 1) dX12_sheet_60 (by decide) ?_
                  refine rn_cV (M' := mX12_finds) (n := 1) (av := [.inl 1]) (S := []) (rc := 0) (rs := 0) (mc := 0) (ms := 0) (a := 94) (ci := 11) (r := (RX12, TX12, 38)) dX12_sheet_61 pa_X12_finds (Nat.le_refl _) rfl (Nat.le_of_ble_eq_true rfl) ml_X12_143 im_X12_finds se_X12_finds rfl rfl rfl (Ev.mono V ?_)
                  rintro v sh1 h53 ⟨rfl, Rh53, x54, rfl, V⟩
                  show Rn G (d + 1) 0 0 mX12_sheet 64 [(0, .inr (.inr (some 94))), (1, .inl a1), (2, .inl a2), (3, .inl a3)] [.inl x54] SH h53 (QI Q)
                  exact rn_iret dX12_sheet_64 rfl ⟨rfl, Rh53, _, rfl, V⟩
            · replace V := V.2 c48
              refine rn_aload_n dX12_sheet_43 rfl rfl ?_
              refine rn_iconst (v := 3) dX12_sheet_44 (by decide) ?_
              refine rn_cV (M' := mX12_finds) (n := 1) (av := [.inl 3]) (S := []) (rc := 0) (rs := 0) (mc := 0) (ms := 0) (a := 94) (ci := 11) (r := (RX12, TX12, 38)) dX12_sheet_45 pa_X12_finds (Nat.le_refl _) rfl (Nat.le_of_ble_eq_true rfl) ml_X12_143 im_X12_finds se_X12_finds rfl rfl rfl (Ev.mono V ?_)
              rintro v sh1 h55 ⟨rfl, Rh55, x56, rfl, V⟩
              show Rn G (d + 1) 0 0 mX12_sheet 48 [(0, .inr (.inr (some 94))), (1, .inl a1), (2, .inl a2), (3, .inl a3)] [.inl x56] SH h55 (QI Q)
              exact rn_iret dX12_sheet_48 rfl ⟨rfl, Rh55, _, rfl, V⟩
        · replace V := V.2 c40
          refine rn_iload_n dX12_sheet_23 rfl rfl ?_
          refine rn_bipush (v := 32) dX12_sheet_24 (by decide) ?_
          refine rn_icmp_eq (tgt := 35) dX12_sheet_26 (by decide) (fun c57 => ?_) (fun c57 => ?_)
          · replace V := V.1 c57
            refine rn_iload_n dX12_sheet_35 rfl rfl ?_
            refine rn_if_eq (tgt := 49) dX12_sheet_36 (by decide) (fun c58 => ?_) (fun c58 => ?_)
            · replace V := V.1 c58
              refine rn_iload_n dX12_sheet_49 rfl rfl ?_
              refine rn_if_eq (tgt := 65) dX12_sheet_50 (by decide) (fun c59 => ?_) (fun c59 => ?_)
              · replace V := V.1 c59
                refine rn_aload_n dX12_sheet_65 rfl rfl ?_
                refine rn_get (v := .inr (.inr (some 114))) dX12_sheet_66 fl_X12_67 rfl rfl (congrArg (fun z => (Sum.inr (Sum.inr z) : MV)) (rf_94_34 Rh1)) ?_
                refine rn_iload_n dX12_sheet_69 rfl rfl ?_
                refine rn_iload_n dX12_sheet_70 rfl rfl ?_
                obtain ⟨g0, V⟩ := V
                refine rn_iast (k := (Int32.toNatClampNeg a1)) dX12_sheet_71 rfl rfl g0 ?_
                refine rn_aload_n dX12_sheet_72 rfl rfl ?_
                refine rn_get (v := .inr (.inr (some 115))) dX12_sheet_73 fl_X12_70 rfl rfl (congrArg (fun z => (Sum.inr (Sum.inr z) : MV)) (rf_94_35 Rh1)) ?_
                refine rn_iload_n dX12_sheet_76 rfl rfl ?_
                refine rn_iload_n dX12_sheet_77 rfl rfl ?_
                refine rn_if_ne (tgt := 85) dX12_sheet_78 (by decide) (fun c60 => ?_) (fun c60 => ?_)
                · replace V := V.1 c60
                  refine rn_iload_n dX12_sheet_85 rfl rfl ?_
                  obtain ⟨g0, V⟩ := V
                  refine rn_iast (k := (Int32.toNatClampNeg a1)) dX12_sheet_86 rfl rfl g0 ?_
                  refine rn_iconst (v := 0) dX12_sheet_87 (by decide) ?_
                  refine rn_istore (L' := [(4, .inl 0), (0, .inr (.inr (some 94))), (1, .inl a1), (2, .inl a2), (3, .inl a3)]) dX12_sheet_88 (Nat.le_of_ble_eq_true rfl) rfl ?_
                  refine rn_sub [1, 2, 0] (L' := [(0, .inr (.inr (some 94))), (1, .inl a1), (4, .inl 0)]) rfl ?_
                  exact V
                · replace V := V.2 c60
                  refine rn_iconst (v := 0) dX12_sheet_81 (by decide) ?_
                  refine rn_goto (tgt := 86) dX12_sheet_82 (by decide) ?_
                  obtain ⟨g0, V⟩ := V
                  refine rn_iast (k := (Int32.toNatClampNeg a1)) dX12_sheet_86 rfl rfl g0 ?_
                  refine rn_iconst (v := 0) dX12_sheet_87 (by decide) ?_
                  refine rn_istore (L' := [(4, .inl 0), (0, .inr (.inr (some 94))), (1, .inl a1), (2, .inl a2), (3, .inl a3)]) dX12_sheet_88 (Nat.le_of_ble_eq_true rfl) rfl ?_
                  refine rn_sub [1, 2, 0] (L' := [(0, .inr (.inr (some 94))), (1, .inl a1), (4, .inl 0)]) rfl ?_
                  exact V
              · replace V := V.2 c59
                refine rn_iload_n dX12_sheet_53 rfl rfl ?_
                refine rn_bipush (v := 40) dX12_sheet_54 (by decide) ?_
                refine rn_icmp_le (tgt := 65) dX12_sheet_56 (by decide) (fun c61 => ?_) (fun c61 => ?_)
                · replace V := V.1 c61
                  refine rn_aload_n dX12_sheet_65 rfl rfl ?_
                  refine rn_get (v := .inr (.inr (some 114))) dX12_sheet_66 fl_X12_67 rfl rfl (congrArg (fun z => (Sum.inr (Sum.inr z) : MV)) (rf_94_34 Rh1)) ?_
                  refine rn_iload_n dX12_sheet_69 rfl rfl ?_
                  refine rn_iload_n dX12_sheet_70 rfl rfl ?_
                  obtain ⟨g0, V⟩ := V
                  refine rn_iast (k := (Int32.toNatClampNeg a1)) dX12_sheet_71 rfl rfl g0 ?_
                  refine rn_aload_n dX12_sheet_72 rfl rfl ?_
                  refine rn_get (v := .inr (.inr (some 115))) dX12_sheet_73 fl_X12_70 rfl rfl (congrArg (fun z => (Sum.inr (Sum.inr z) : MV)) (rf_94_35 Rh1)) ?_
                  refine rn_iload_n dX12_sheet_76 rfl rfl ?_
                  refine rn_iload_n dX12_sheet_77 rfl rfl ?_
                  refine rn_if_ne (tgt := 85) dX12_sheet_78 (by decide) (fun c62 => ?_) (fun c62 => ?_)
                  · replace V := V.1 c62
                    refine rn_iload_n dX12_sheet_85 rfl rfl ?_
                    obtain ⟨g0, V⟩ := V
                    refine rn_iast (k := (Int32.toNatClampNeg a1)) dX12_sheet_86 rfl rfl g0 ?_
                    refine rn_iconst (v := 0) dX12_sheet_87 (by decide) ?_
                    refine rn_istore (L' := [(4, .inl 0), (0, .inr (.inr (some 94))), (1, .inl a1), (2, .inl a2), (3, .inl a3)]) dX12_sheet_88 (Nat.le_of_ble_eq_true rfl) rfl ?_
                    refine rn_sub [1, 2, 0] (L' := [(0, .inr (.inr (some 94))), (1, .inl a1), (4, .inl 0)]) rfl ?_
                    exact V
                  · replace V := V.2 c62
                    refine rn_iconst (v := 0) dX12_sheet_81 (by decide) ?_
                    refine rn_goto (tgt := 86) dX12_sheet_82 (by decide) ?_
                    obtain ⟨g0, V⟩ := V
                    refine rn_iast (k := (Int32.toNatClampNeg a1)) dX12_sheet_86 rfl rfl g0 ?_
                    refine rn_iconst (v := 0) dX12_sheet_87 (by decide) ?_
                    refine rn_istore (L' := [(4, .inl 0), (0, .inr (.inr (some 94))), (1, .inl a1), (2, .inl a2), (3, .inl a3)]) dX12_sheet_88 (Nat.le_of_ble_eq_true rfl) rfl ?_
                    refine rn_sub [1, 2, 0] (L' := [(0, .inr (.inr (some 94))), (1, .inl a1), (4, .inl 0)]) rfl ?_
                    exact V
                · replace V := V.2 c61
                  refine rn_aload_n dX12_sheet_59 rfl rfl ?_
                  refine rn_iconst (v := 1) dX12_sheet_60 (by decide) ?_
                  refine rn_cV (M' := mX12_finds) (n := 1) (av := [.inl 1]) (S := []) (rc := 0) (rs := 0) (mc := 0) (ms := 0) (a := 94) (ci := 11) (r := (RX12, TX12, 38)) dX12_sheet_61 pa_X12_finds (Nat.le_refl _) rfl (Nat.le_of_ble_eq_true rfl) ml_X12_143 im_X12_finds se_X12_finds rfl rfl rfl (Ev.mono V ?_)
                  rintro v sh1 h63 ⟨rfl, Rh63, x64, rfl, V⟩
                  show Rn G (d + 1) 0 0 mX12_sheet 64 [(0, .inr (.inr (some 94))), (1, .inl a1), (2, .inl a2), (3, .inl a3)] [.inl x64] SH h63 (QI Q)
                  exact rn_iret dX12_sheet_64 rfl ⟨rfl, Rh63, _, rfl, V⟩
            · replace V := V.2 c58
              refine rn_iload_n dX12_sheet_39 rfl rfl ?_
              refine rn_if_ge (tgt := 49) dX12_sheet_40 (by decide) (fun c65 => ?_) (fun c65 => ?_)
              · replace V := V.1 c65
                refine rn_iload_n dX12_sheet_49 rfl rfl ?_
                refine rn_if_eq (tgt := 65) dX12_sheet_50 (by decide) (fun c66 => ?_) (fun c66 => ?_)
                · replace V := V.1 c66
                  refine rn_aload_n dX12_sheet_65 rfl rfl ?_
                  refine rn_get (v := .inr (.inr (some 114))) dX12_sheet_66 fl_X12_67 rfl rfl (congrArg (fun z => (Sum.inr (Sum.inr z) : MV)) (rf_94_34 Rh1)) ?_
                  refine rn_iload_n dX12_sheet_69 rfl rfl ?_
                  refine rn_iload_n dX12_sheet_70 rfl rfl ?_
                  obtain ⟨g0, V⟩ := V
                  refine rn_iast (k := (Int32.toNatClampNeg a1)) dX12_sheet_71 rfl rfl g0 ?_
                  refine rn_aload_n dX12_sheet_72 rfl rfl ?_
                  refine rn_get (v := .inr (.inr (some 115))) dX12_sheet_73 fl_X12_70 rfl rfl (congrArg (fun z => (Sum.inr (Sum.inr z) : MV)) (rf_94_35 Rh1)) ?_
                  refine rn_iload_n dX12_sheet_76 rfl rfl ?_
                  refine rn_iload_n dX12_sheet_77 rfl rfl ?_
                  refine rn_if_ne (tgt := 85) dX12_sheet_78 (by decide) (fun c67 => ?_) (fun c67 => ?_)
                  · replace V := V.1 c67
                    refine rn_iload_n dX12_sheet_85 rfl rfl ?_
                    obtain ⟨g0, V⟩ := V
                    refine rn_iast (k := (Int32.toNatClampNeg a1)) dX12_sheet_86 rfl rfl g0 ?_
                    refine rn_iconst (v := 0) dX12_sheet_87 (by decide) ?_
                    refine rn_istore (L' := [(4, .inl 0), (0, .inr (.inr (some 94))), (1, .inl a1), (2, .inl a2), (3, .inl a3)]) dX12_sheet_88 (Nat.le_of_ble_eq_true rfl) rfl ?_
                    refine rn_sub [1, 2, 0] (L' := [(0, .inr (.inr (some 94))), (1, .inl a1), (4, .inl 0)]) rfl ?_
                    exact V
                  · replace V := V.2 c67
                    refine rn_iconst (v := 0) dX12_sheet_81 (by decide) ?_
                    refine rn_goto (tgt := 86) dX12_sheet_82 (by decide) ?_
                    obtain ⟨g0, V⟩ := V
                    refine rn_iast (k := (Int32.toNatClampNeg a1)) dX12_sheet_86 rfl rfl g0 ?_
                    refine rn_iconst (v := 0) dX12_sheet_87 (by decide) ?_
                    refine rn_istore (L' := [(4, .inl 0), (0, .inr (.inr (some 94))), (1, .inl a1), (2, .inl a2), (3, .inl a3)]) dX12_sheet_88 (Nat.le_of_ble_eq_true rfl) rfl ?_
                    refine rn_sub [1, 2, 0] (L' := [(0, .inr (.inr (some 94))), (1, .inl a1), (4, .inl 0)]) rfl ?_
                    exact V
                · replace V := V.2 c66
                  refine rn_iload_n dX12_sheet_53 rfl rfl ?_
                  refine rn_bipush (v := 40) dX12_sheet_54 (by decide) ?_
                  refine rn_icmp_le (tgt := 65) dX12_sheet_56 (by decide) (fun c68 => ?_) (fun c68 => ?_)
                  · replace V := V.1 c68
                    refine rn_aload_n dX12_sheet_65 rfl rfl ?_
                    refine rn_get (v := .inr (.inr (some 114))) dX12_sheet_66 fl_X12_67 rfl rfl (congrArg (fun z => (Sum.inr (Sum.inr z) : MV)) (rf_94_34 Rh1)) ?_
                    refine rn_iload_n dX12_sheet_69 rfl rfl ?_
                    refine rn_iload_n dX12_sheet_70 rfl rfl ?_
                    obtain ⟨g0, V⟩ := V
                    refine rn_iast (k := (Int32.toNatClampNeg a1)) dX12_sheet_71 rfl rfl g0 ?_
                    refine rn_aload_n dX12_sheet_72 rfl rfl ?_
                    refine rn_get (v := .inr (.inr (some 115))) dX12_sheet_73 fl_X12_70 rfl rfl (congrArg (fun z => (Sum.inr (Sum.inr z) : MV)) (rf_94_35 Rh1)) ?_
                    refine rn_iload_n dX12_sheet_76 rfl rfl ?_
                    refine rn_iload_n dX12_sheet_77 rfl rfl ?_
                    refine rn_if_ne (tgt := 85) dX12_sheet_78 (by decide) (fun c69 => ?_) (fun c69 => ?_)
                    · replace V := V.1 c69
                      refine rn_iload_n dX12_sheet_85 rfl rfl ?_
                      obtain ⟨g0, V⟩ := V
                      refine rn_iast (k := (Int32.toNatClampNeg a1)) dX12_sheet_86 rfl rfl g0 ?_
                      refine rn_iconst (v := 0) dX12_sheet_87 (by decide) ?_
                      refine rn_istore (L' := [(4, .inl 0), (0, .inr (.inr (some 94))), (1, .inl a1), (2, .inl a2), (3, .inl a3)]) dX12_sheet_88 (Nat.le_of_ble_eq_true rfl) rfl ?_
                      refine rn_sub [1, 2, 0] (L' := [(0, .inr (.inr (some 94))), (1, .inl a1), (4, .inl 0)]) rfl ?_
                      exact V
                    · replace V := V.2 c69
                      refine rn_iconst (v := 0) dX12_sheet_81 (by decide) ?_
                      refine rn_goto (tgt := 86) dX12_sheet_82 (by decide) ?_
                      obtain ⟨g0, V⟩ := V
                      refine rn_iast (k := (Int32.toNatClampNeg a1)) dX12_sheet_86 rfl rfl g0 ?_
                      refine rn_iconst (v := 0) dX12_sheet_87 (by decide) ?_
                      refine rn_istore (L' := [(4, .inl 0), (0, .inr (.inr (some 94))), (1, .inl a1), (2, .inl a2), (3, .inl a3)]) dX12_sheet_88 (Nat.le_of_ble_eq_true rfl) rfl ?_
                      refine rn_sub [1, 2, 0] (L' := [(0, .inr (.inr (some 94))), (1, .inl a1), (4, .inl 0)]) rfl ?_
                      exact V
                  · replace V := V.2 c68
                    refine rn_aload_n dX12_sheet_59 rfl rfl ?_
                    refine rn_iconst (v := 1) dX12_sheet_60 (by decide) ?_
                    refine rn_cV (M' := mX12_finds) (n := 1) (av := [.inl 1]) (S := []) (rc := 0) (rs := 0) (mc := 0) (ms := 0) (a := 94) (ci := 11) (r := (RX12, TX12, 38)) dX12_sheet_61 pa_X12_finds (Nat.le_refl _) rfl (Nat.le_of_ble_eq_true rfl) ml_X12_143 im_X12_finds se_X12_finds rfl rfl rfl (Ev.mono V ?_)
                    rintro v sh1 h70 ⟨rfl, Rh70, x71, rfl, V⟩
                    show Rn G (d + 1) 0 0 mX12_sheet 64 [(0, .inr (.inr (some 94))), (1, .inl a1), (2, .inl a2), (3, .inl a3)] [.inl x71] SH h70 (QI Q)
                    exact rn_iret dX12_sheet_64 rfl ⟨rfl, Rh70, _, rfl, V⟩
              · replace V := V.2 c65
                refine rn_aload_n dX12_sheet_43 rfl rfl ?_
                refine rn_iconst (v := 3) dX12_sheet_44 (by decide) ?_
                refine rn_cV (M' := mX12_finds) (n := 1) (av := [.inl 3]) (S := []) (rc := 0) (rs := 0) (mc := 0) (ms := 0) (a := 94) (ci := 11) (r := (RX12, TX12, 38)) dX12_sheet_45 pa_X12_finds (Nat.le_refl _) rfl (Nat.le_of_ble_eq_true rfl) ml_X12_143 im_X12_finds se_X12_finds rfl rfl rfl (Ev.mono V ?_)
                rintro v sh1 h72 ⟨rfl, Rh72, x73, rfl, V⟩
                show Rn G (d + 1) 0 0 mX12_sheet 48 [(0, .inr (.inr (some 94))), (1, .inl a1), (2, .inl a2), (3, .inl a3)] [.inl x73] SH h72 (QI Q)
                exact rn_iret dX12_sheet_48 rfl ⟨rfl, Rh72, _, rfl, V⟩
          · replace V := V.2 c57
            refine rn_aload_n dX12_sheet_29 rfl rfl ?_
            refine rn_iconst (v := 1) dX12_sheet_30 (by decide) ?_
            refine rn_cV (M' := mX12_finds) (n := 1) (av := [.inl 1]) (S := []) (rc := 0) (rs := 0) (mc := 0) (ms := 0) (a := 94) (ci := 11) (r := (RX12, TX12, 38)) dX12_sheet_31 pa_X12_finds (Nat.le_refl _) rfl (Nat.le_of_ble_eq_true rfl) ml_X12_143 im_X12_finds se_X12_finds rfl rfl rfl (Ev.mono V ?_)
            rintro v sh1 h74 ⟨rfl, Rh74, x75, rfl, V⟩
            show Rn G (d + 1) 0 0 mX12_sheet 34 [(0, .inr (.inr (some 94))), (1, .inl a1), (2, .inl a2), (3, .inl a3)] [.inl x75] SH h74 (QI Q)
            exact rn_iret dX12_sheet_34 rfl ⟨rfl, Rh74, _, rfl, V⟩
set_option maxRecDepth 100000 in
set_option maxHeartbeats 4000000 in
theorem vc_X12_put {G : GT} {d : Nat} {a1 : Int32} {a2 : Int32} {a3 : Int32}  {h : Hp} {Q : Int32 → Hp → Prop} (hR : RF h) (V : EvI G d mX12_isSheet [.inl a1] h (fun x2 h1 => ((¬ x2 = 0 → vp_in a1 4 ∧ ((¬ h1.1 114 (Int32.toNatClampNeg a1) = 0 → vp_in a1 4 ∧ EvI G d mX12_in [.inr (.inl (Int32.toInt64 a2)), .inr (.inl 0), .inr (.inl (Int32.toInt64 (h1.1 115 (Int32.toNatClampNeg a1) - 1)))] h1 (fun x6 h5 => ((¬ x6 = 0 → vp_in a1 4 ∧ ((¬ h5.1 114 (Int32.toNatClampNeg a1) = 8 → vp_in a1 4 ∧ ((¬ h5.1 114 (Int32.toNatClampNeg a1) = 16 → vp_in ((40 * a1) + a2) 160 ∧ Q 1 (sI h5 116 (Int32.toNatClampNeg ((40 * a1) + a2)) a3)) ∧ (h5.1 114 (Int32.toNatClampNeg a1) = 16 → vp_in ((40 * a1) + a2) 160 ∧ Q 1 (sI h5 116 (Int32.toNatClampNeg ((40 * a1) + a2)) ((Int32.toInt16 a3).toInt32))))) ∧ (h5.1 114 (Int32.toNatClampNeg a1) = 8 → vp_in ((40 * a1) + a2) 160 ∧ Q 1 (sI h5 116 (Int32.toNatClampNeg ((40 * a1) + a2)) ((Int32.toInt8 a3).toInt32))))) ∧ (x6 = 0 → EvI G d mX12_finds [.inr (.inr (some 94)), .inl 1] h5 (fun x11 h10 => Q x11 h10))))) ∧ (h1.1 114 (Int32.toNatClampNeg a1) = 0 → EvI G d mX12_finds [.inr (.inr (some 94)), .inl 2] h1 (fun x13 h12 => Q x13 h12)))) ∧ (x2 = 0 → EvI G d mX12_finds [.inr (.inr (some 94)), .inl 1] h1 (fun x15 h14 => Q x15 h14))))) : EvI G (d + 1) mX12_put [.inr (.inr (some 94)), .inl a1, .inl a2, .inl a3] h Q := by
  refine Ev.of rfl (fun _ => Nat.le_of_ble_eq_true rfl) ?_
  show Rn G (d + 1) 0 0 mX12_put 0 [(0, .inr (.inr (some 94))), (1, .inl a1), (2, .inl a2), (3, .inl a3)] [] SH h (QI Q)
  refine rn_iload_n dX12_put_0 rfl rfl ?_
  refine rn_cS (M' := mX12_isSheet) (n := 1) (av := [.inl a1]) (S := []) (rc := 0) (rs := 0) (mc := 0) (ms := 0) dX12_put_1 pa_X12_isSheet (Nat.le_refl _) rfl (Nat.le_of_ble_eq_true rfl) ml_X12_319 ss_X12_isSheet rfl (Ev.mono V ?_)
  rintro v sh1 h1 ⟨rfl, Rh1, x2, rfl, V⟩
  show Rn G (d + 1) 0 0 mX12_put 4 [(0, .inr (.inr (some 94))), (1, .inl a1), (2, .inl a2), (3, .inl a3)] [.inl x2] SH h1 (QI Q)
  refine rn_if_ne (tgt := 13) dX12_put_4 (by decide) (fun c3 => ?_) (fun c3 => ?_)
  · replace V := V.1 c3
    refine rn_aload_n dX12_put_13 rfl rfl ?_
    refine rn_get (v := .inr (.inr (some 114))) dX12_put_14 fl_X12_67 rfl rfl (congrArg (fun z => (Sum.inr (Sum.inr z) : MV)) (rf_94_34 Rh1)) ?_
    refine rn_iload_n dX12_put_17 rfl rfl ?_
    obtain ⟨g0, V⟩ := V
    refine rn_iald (k := (Int32.toNatClampNeg a1)) dX12_put_18 rfl rfl g0 ?_
    refine rn_if_ne (tgt := 28) dX12_put_19 (by decide) (fun c4 => ?_) (fun c4 => ?_)
    · replace V := V.1 c4
      refine rn_iload_n dX12_put_28 rfl rfl ?_
      refine rn_i2l dX12_put_29 ?_
      refine rn_lconst (v := 0) dX12_put_30 rfl ?_
      refine rn_aload_n dX12_put_31 rfl rfl ?_
      refine rn_get (v := .inr (.inr (some 115))) dX12_put_32 fl_X12_70 rfl rfl (congrArg (fun z => (Sum.inr (Sum.inr z) : MV)) (rf_94_35 Rh1)) ?_
      refine rn_iload_n dX12_put_35 rfl rfl ?_
      obtain ⟨g0, V⟩ := V
      refine rn_iald (k := (Int32.toNatClampNeg a1)) dX12_put_36 rfl rfl g0 ?_
      refine rn_iconst (v := 1) dX12_put_37 (by decide) ?_
      refine rn_isub dX12_put_38 ?_
      refine rn_i2l dX12_put_39 ?_
      refine rn_cS (M' := mX12_in) (n := 3) (av := [.inr (.inl (Int32.toInt64 a2)), .inr (.inl 0), .inr (.inl (Int32.toInt64 (h1.1 115 (Int32.toNatClampNeg a1) - 1)))]) (S := []) (rc := 0) (rs := 0) (mc := 0) (ms := 0) dX12_put_40 pa_X12_in (Nat.le_refl _) rfl (Nat.le_of_ble_eq_true rfl) ml_X12_80 ss_X12_in rfl (Ev.mono V ?_)
      rintro v sh1 h5 ⟨rfl, Rh5, x6, rfl, V⟩
      show Rn G (d + 1) 0 0 mX12_put 43 [(0, .inr (.inr (some 94))), (1, .inl a1), (2, .inl a2), (3, .inl a3)] [.inl x6] SH h5 (QI Q)
      refine rn_if_ne (tgt := 52) dX12_put_43 (by decide) (fun c7 => ?_) (fun c7 => ?_)
      · replace V := V.1 c7
        refine rn_aload_n dX12_put_52 rfl rfl ?_
        refine rn_get (v := .inr (.inr (some 116))) dX12_put_53 fl_X12_73 rfl rfl (congrArg (fun z => (Sum.inr (Sum.inr z) : MV)) (rf_94_36 Rh5)) ?_
        refine rn_bipush (v := 40) dX12_put_56 (by decide) ?_
        refine rn_iload_n dX12_put_58 rfl rfl ?_
        refine rn_imul dX12_put_59 ?_
        refine rn_iload_n dX12_put_60 rfl rfl ?_
        refine rn_iadd dX12_put_61 ?_
        refine rn_aload_n dX12_put_62 rfl rfl ?_
        refine rn_get (v := .inr (.inr (some 114))) dX12_put_63 fl_X12_67 rfl rfl (congrArg (fun z => (Sum.inr (Sum.inr z) : MV)) (rf_94_34 Rh5)) ?_
        refine rn_iload_n dX12_put_66 rfl rfl ?_
        obtain ⟨g0, V⟩ := V
        refine rn_iald (k := (Int32.toNatClampNeg a1)) dX12_put_67 rfl rfl g0 ?_
        refine rn_bipush (v := 8) dX12_put_68 (by decide) ?_
        refine rn_icmp_ne (tgt := 78) dX12_put_70 (by decide) (fun c8 => ?_) (fun c8 => ?_)
        · replace V := V.1 c8
          refine rn_aload_n dX12_put_78 rfl rfl ?_
          refine rn_get (v := .inr (.inr (some 114))) dX12_put_79 fl_X12_67 rfl rfl (congrArg (fun z => (Sum.inr (Sum.inr z) : MV)) (rf_94_34 Rh5)) ?_
          refine rn_iload_n dX12_put_82 rfl rfl ?_
          obtain ⟨g0, V⟩ := V
          refine rn_iald (k := (Int32.toNatClampNeg a1)) dX12_put_83 rfl rfl g0 ?_
          refine rn_bipush (v := 16) dX12_put_84 (by decide) ?_
          refine rn_icmp_ne (tgt := 94) dX12_put_86 (by decide) (fun c9 => ?_) (fun c9 => ?_)
          · replace V := V.1 c9
            refine rn_iload_n dX12_put_94 rfl rfl ?_
            obtain ⟨g0, V⟩ := V
            refine rn_iast (k := (Int32.toNatClampNeg ((40 * a1) + a2))) dX12_put_95 rfl rfl g0 ?_
            refine rn_iconst (v := 1) dX12_put_96 (by decide) ?_
            exact rn_iret dX12_put_97 rfl ⟨rfl, Rh5, _, rfl, V⟩
          · replace V := V.2 c9
            refine rn_iload_n dX12_put_89 rfl rfl ?_
            refine rn_i2s dX12_put_90 ?_
            refine rn_goto (tgt := 95) dX12_put_91 (by decide) ?_
            obtain ⟨g0, V⟩ := V
            refine rn_iast (k := (Int32.toNatClampNeg ((40 * a1) + a2))) dX12_put_95 rfl rfl g0 ?_
            refine rn_iconst (v := 1) dX12_put_96 (by decide) ?_
            exact rn_iret dX12_put_97 rfl ⟨rfl, Rh5, _, rfl, V⟩
        · replace V := V.2 c8
          refine rn_iload_n dX12_put_73 rfl rfl ?_
          refine rn_i2b dX12_put_74 ?_
          refine rn_goto (tgt := 95) dX12_put_75 (by decide) ?_
          obtain ⟨g0, V⟩ := V
          refine rn_iast (k := (Int32.toNatClampNeg ((40 * a1) + a2))) dX12_put_95 rfl rfl g0 ?_
          refine rn_iconst (v := 1) dX12_put_96 (by decide) ?_
          exact rn_iret dX12_put_97 rfl ⟨rfl, Rh5, _, rfl, V⟩
      · replace V := V.2 c7
        refine rn_aload_n dX12_put_46 rfl rfl ?_
        refine rn_iconst (v := 1) dX12_put_47 (by decide) ?_
        refine rn_cV (M' := mX12_finds) (n := 1) (av := [.inl 1]) (S := []) (rc := 0) (rs := 0) (mc := 0) (ms := 0) (a := 94) (ci := 11) (r := (RX12, TX12, 38)) dX12_put_48 pa_X12_finds (Nat.le_refl _) rfl (Nat.le_of_ble_eq_true rfl) ml_X12_143 im_X12_finds se_X12_finds rfl rfl rfl (Ev.mono V ?_)
        rintro v sh1 h10 ⟨rfl, Rh10, x11, rfl, V⟩
        show Rn G (d + 1) 0 0 mX12_put 51 [(0, .inr (.inr (some 94))), (1, .inl a1), (2, .inl a2), (3, .inl a3)] [.inl x11] SH h10 (QI Q)
        exact rn_iret dX12_put_51 rfl ⟨rfl, Rh10, _, rfl, V⟩
    · replace V := V.2 c4
      refine rn_aload_n dX12_put_22 rfl rfl ?_
      refine rn_iconst (v := 2) dX12_put_23 (by decide) ?_
      refine rn_cV (M' := mX12_finds) (n := 1) (av := [.inl 2]) (S := []) (rc := 0) (rs := 0) (mc := 0) (ms := 0) (a := 94) (ci := 11) (r := (RX12, TX12, 38)) dX12_put_24 pa_X12_finds (Nat.le_refl _) rfl (Nat.le_of_ble_eq_true rfl) ml_X12_143 im_X12_finds se_X12_finds rfl rfl rfl (Ev.mono V ?_)
      rintro v sh1 h12 ⟨rfl, Rh12, x13, rfl, V⟩
      show Rn G (d + 1) 0 0 mX12_put 27 [(0, .inr (.inr (some 94))), (1, .inl a1), (2, .inl a2), (3, .inl a3)] [.inl x13] SH h12 (QI Q)
      exact rn_iret dX12_put_27 rfl ⟨rfl, Rh12, _, rfl, V⟩
  · replace V := V.2 c3
    refine rn_aload_n dX12_put_7 rfl rfl ?_
    refine rn_iconst (v := 1) dX12_put_8 (by decide) ?_
    refine rn_cV (M' := mX12_finds) (n := 1) (av := [.inl 1]) (S := []) (rc := 0) (rs := 0) (mc := 0) (ms := 0) (a := 94) (ci := 11) (r := (RX12, TX12, 38)) dX12_put_9 pa_X12_finds (Nat.le_refl _) rfl (Nat.le_of_ble_eq_true rfl) ml_X12_143 im_X12_finds se_X12_finds rfl rfl rfl (Ev.mono V ?_)
    rintro v sh1 h14 ⟨rfl, Rh14, x15, rfl, V⟩
    show Rn G (d + 1) 0 0 mX12_put 12 [(0, .inr (.inr (some 94))), (1, .inl a1), (2, .inl a2), (3, .inl a3)] [.inl x15] SH h14 (QI Q)
    exact rn_iret dX12_put_12 rfl ⟨rfl, Rh14, _, rfl, V⟩
def Rg_X12_move_115 (G : GT) (d : Nat) (l1 : Int32) (l2 : Int32) (l3 : Int32) (l4 : Int32) (l5 : Int32) (l6 : Int32) (h : Hp) (Q : Int32 → Hp → Prop) : Prop := Rn G (d + 1) 0 0 mX12_move 115 [(0, .inr (.inr (some 94))), (1, .inl l1), (2, .inl l2), (3, .inl l3), (4, .inl l4), (5, .inl l5), (6, .inl l6)] [] SH h (QI Q)
def Rg_X12_move_152 (G : GT) (d : Nat) (l3 : Int32) (l4 : Int32) (l5 : Int32) (l6 : Int32) (h : Hp) (Q : Int32 → Hp → Prop) : Prop := Rn G (d + 1) 0 0 mX12_move 152 [(0, .inr (.inr (some 94))), (3, .inl l3), (4, .inl l4), (5, .inl l5), (6, .inl l6)] [] SH h (QI Q)
set_option maxRecDepth 100000 in
set_option maxHeartbeats 4000000 in
theorem vc_X12_move_115 {G : GT} {d : Nat} {l1 : Int32} {l2 : Int32} {l3 : Int32} {l4 : Int32} {l5 : Int32} {l6 : Int32}  {h : Hp} {Q : Int32 → Hp → Prop} (hR : RF h) (V : ((l5 ≤ l6 → Rg_X12_move_152 G d l3 l4 l5 0 h Q) ∧ (¬ l5 ≤ l6 → vp_in (((40 * l1) + l2) + l6) 160 ∧ vp_in l6 40 ∧ Rg_X12_move_115 G d l1 l2 l3 l4 l5 (l6 + 1) (sI h 117 (Int32.toNatClampNeg l6) (h.1 116 (Int32.toNatClampNeg (((40 * l1) + l2) + l6)))) Q))) : Rg_X12_move_115 G d l1 l2 l3 l4 l5 l6 h Q := by
  show Rn G (d + 1) 0 0 mX12_move 115 [(0, .inr (.inr (some 94))), (1, .inl l1), (2, .inl l2), (3, .inl l3), (4, .inl l4), (5, .inl l5), (6, .inl l6)] [] SH h (QI Q)
  refine rn_iload dX12_move_115 rfl ?_
  refine rn_iload dX12_move_117 rfl ?_
  refine rn_icmp_ge (tgt := 149) dX12_move_119 (by decide) (fun c35 => ?_) (fun c35 => ?_)
  · replace V := V.1 c35
    refine rn_iconst (v := 0) dX12_move_149 (by decide) ?_
    refine rn_istore (L' := [(6, .inl 0), (0, .inr (.inr (some 94))), (1, .inl l1), (2, .inl l2), (3, .inl l3), (4, .inl l4), (5, .inl l5)]) dX12_move_150 (Nat.le_of_ble_eq_true rfl) rfl ?_
    refine rn_sub [1, 4, 5, 6, 0] (L' := [(0, .inr (.inr (some 94))), (3, .inl l3), (4, .inl l4), (5, .inl l5), (6, .inl 0)]) rfl ?_
    exact V
  · replace V := V.2 c35
    refine rn_aload_n dX12_move_122 rfl rfl ?_
    refine rn_get (v := .inr (.inr (some 117))) dX12_move_123 fl_X12_76 rfl rfl (congrArg (fun z => (Sum.inr (Sum.inr z) : MV)) (rf_94_37 hR)) ?_
    refine rn_iload dX12_move_126 rfl ?_
    refine rn_aload_n dX12_move_128 rfl rfl ?_
    refine rn_get (v := .inr (.inr (some 116))) dX12_move_129 fl_X12_73 rfl rfl (congrArg (fun z => (Sum.inr (Sum.inr z) : MV)) (rf_94_36 hR)) ?_
    refine rn_bipush (v := 40) dX12_move_132 (by decide) ?_
    refine rn_iload_n dX12_move_134 rfl rfl ?_
    refine rn_imul dX12_move_135 ?_
    refine rn_iload_n dX12_move_136 rfl rfl ?_
    refine rn_iadd dX12_move_137 ?_
    refine rn_iload dX12_move_138 rfl ?_
    refine rn_iadd dX12_move_140 ?_
    obtain ⟨g0, V⟩ := V
    refine rn_iald (k := (Int32.toNatClampNeg (((40 * l1) + l2) + l6))) dX12_move_141 rfl rfl g0 ?_
    obtain ⟨g0, V⟩ := V
    refine rn_iast (k := (Int32.toNatClampNeg l6)) dX12_move_142 rfl rfl g0 ?_
    refine rn_iinc (L' := [(6, .inl (l6 + 1)), (0, .inr (.inr (some 94))), (1, .inl l1), (2, .inl l2), (3, .inl l3), (4, .inl l4), (5, .inl l5)]) dX12_move_143 rfl (v := (l6 + 1)) rfl (Nat.le_of_ble_eq_true rfl) rfl ?_
    refine rn_goto (tgt := 115) dX12_move_146 (by decide) ?_
    refine rn_sub [1, 2, 3, 4, 5, 6, 0] (L' := [(0, .inr (.inr (some 94))), (1, .inl l1), (2, .inl l2), (3, .inl l3), (4, .inl l4), (5, .inl l5), (6, .inl (l6 + 1))]) rfl ?_
    exact V
set_option maxRecDepth 100000 in
set_option maxHeartbeats 4000000 in
theorem vc_X12_move_152 {G : GT} {d : Nat} {l3 : Int32} {l4 : Int32} {l5 : Int32} {l6 : Int32}  {h : Hp} {Q : Int32 → Hp → Prop} (hR : RF h) (V : ((l5 ≤ l6 → Q l5 h) ∧ (¬ l5 ≤ l6 → vp_in l6 40 ∧ vp_in (((40 * l3) + l4) + l6) 160 ∧ Rg_X12_move_152 G d l3 l4 l5 (l6 + 1) (sI h 116 (Int32.toNatClampNeg (((40 * l3) + l4) + l6)) (h.1 117 (Int32.toNatClampNeg l6))) Q))) : Rg_X12_move_152 G d l3 l4 l5 l6 h Q := by
  show Rn G (d + 1) 0 0 mX12_move 152 [(0, .inr (.inr (some 94))), (3, .inl l3), (4, .inl l4), (5, .inl l5), (6, .inl l6)] [] SH h (QI Q)
  refine rn_iload dX12_move_152 rfl ?_
  refine rn_iload dX12_move_154 rfl ?_
  refine rn_icmp_ge (tgt := 187) dX12_move_156 (by decide) (fun c36 => ?_) (fun c36 => ?_)
  · replace V := V.1 c36
    refine rn_iload dX12_move_187 rfl ?_
    exact rn_iret dX12_move_189 rfl ⟨rfl, hR, _, rfl, V⟩
  · replace V := V.2 c36
    refine rn_aload_n dX12_move_159 rfl rfl ?_
    refine rn_get (v := .inr (.inr (some 116))) dX12_move_160 fl_X12_73 rfl rfl (congrArg (fun z => (Sum.inr (Sum.inr z) : MV)) (rf_94_36 hR)) ?_
    refine rn_bipush (v := 40) dX12_move_163 (by decide) ?_
    refine rn_iload_n dX12_move_165 rfl rfl ?_
    refine rn_imul dX12_move_166 ?_
    refine rn_iload dX12_move_167 rfl ?_
    refine rn_iadd dX12_move_169 ?_
    refine rn_iload dX12_move_170 rfl ?_
    refine rn_iadd dX12_move_172 ?_
    refine rn_aload_n dX12_move_173 rfl rfl ?_
    refine rn_get (v := .inr (.inr (some 117))) dX12_move_174 fl_X12_76 rfl rfl (congrArg (fun z => (Sum.inr (Sum.inr z) : MV)) (rf_94_37 hR)) ?_
    refine rn_iload dX12_move_177 rfl ?_
    obtain ⟨g0, V⟩ := V
    refine rn_iald (k := (Int32.toNatClampNeg l6)) dX12_move_179 rfl rfl g0 ?_
    obtain ⟨g0, V⟩ := V
    refine rn_iast (k := (Int32.toNatClampNeg (((40 * l3) + l4) + l6))) dX12_move_180 rfl rfl g0 ?_
    refine rn_iinc (L' := [(6, .inl (l6 + 1)), (0, .inr (.inr (some 94))), (3, .inl l3), (4, .inl l4), (5, .inl l5)]) dX12_move_181 rfl (v := (l6 + 1)) rfl (Nat.le_of_ble_eq_true rfl) rfl ?_
    refine rn_goto (tgt := 152) dX12_move_184 (by decide) ?_
    refine rn_sub [1, 2, 3, 4, 0] (L' := [(0, .inr (.inr (some 94))), (3, .inl l3), (4, .inl l4), (5, .inl l5), (6, .inl (l6 + 1))]) rfl ?_
    exact V
set_option maxRecDepth 100000 in
set_option maxHeartbeats 4000000 in
theorem vc_X12_move {G : GT} {d : Nat} {a1 : Int32} {a2 : Int32} {a3 : Int32} {a4 : Int32} {a5 : Int32}  {h : Hp} {Q : Int32 → Hp → Prop} (hR : RF h) (V : EvI G d mX12_isSheet [.inl a1] h (fun x2 h1 => ((x2 = 0 → EvI G d mX12_finds [.inr (.inr (some 94)), .inl 1] h1 (fun x5 h4 => Q x5 h4)) ∧ (¬ x2 = 0 → EvI G d mX12_isSheet [.inl a3] h1 (fun x7 h6 => ((¬ x7 = 0 → vp_in a1 4 ∧ ((h6.1 114 (Int32.toNatClampNeg a1) = 0 → EvI G d mX12_finds [.inr (.inr (some 94)), .inl 2] h6 (fun x11 h10 => Q x11 h10)) ∧ (¬ h6.1 114 (Int32.toNatClampNeg a1) = 0 → vp_in a3 4 ∧ ((¬ h6.1 114 (Int32.toNatClampNeg a3) = 0 → vp_in a1 4 ∧ vp_in a3 4 ∧ ((h6.1 114 (Int32.toNatClampNeg a1) = h6.1 114 (Int32.toNatClampNeg a3) → ((a5 < 0 → EvI G d mX12_finds [.inr (.inr (some 94)), .inl 1] h6 (fun x16 h15 => Q x16 h15)) ∧ (¬ a5 < 0 → ((a2 < 0 → EvI G d mX12_finds [.inr (.inr (some 94)), .inl 1] h6 (fun x19 h18 => Q x19 h18)) ∧ (¬ a2 < 0 → ((a4 < 0 → EvI G d mX12_finds [.inr (.inr (some 94)), .inl 1] h6 (fun x22 h21 => Q x22 h21)) ∧ (¬ a4 < 0 → vp_in a1 4 ∧ (((h6.1 115 (Int32.toNatClampNeg a1) - a2) < a5 → EvI G d mX12_finds [.inr (.inr (some 94)), .inl 1] h6 (fun x25 h24 => Q x25 h24)) ∧ (¬ (h6.1 115 (Int32.toNatClampNeg a1) - a2) < a5 → vp_in a3 4 ∧ ((a5 ≤ (h6.1 115 (Int32.toNatClampNeg a3) - a4) → Rg_X12_move_115 G d a1 a2 a3 a4 a5 0 h6 Q) ∧ (¬ a5 ≤ (h6.1 115 (Int32.toNatClampNeg a3) - a4) → EvI G d mX12_finds [.inr (.inr (some 94)), .inl 1] h6 (fun x28 h27 => Q x28 h27)))))))))))) ∧ (¬ h6.1 114 (Int32.toNatClampNeg a1) = h6.1 114 (Int32.toNatClampNeg a3) → EvI G d mX12_finds [.inr (.inr (some 94)), .inl 5] h6 (fun x30 h29 => Q x30 h29)))) ∧ (h6.1 114 (Int32.toNatClampNeg a3) = 0 → EvI G d mX12_finds [.inr (.inr (some 94)), .inl 2] h6 (fun x32 h31 => Q x32 h31)))))) ∧ (x7 = 0 → EvI G d mX12_finds [.inr (.inr (some 94)), .inl 1] h6 (fun x34 h33 => Q x34 h33)))))))) : EvI G (d + 1) mX12_move [.inr (.inr (some 94)), .inl a1, .inl a2, .inl a3, .inl a4, .inl a5] h Q := by
  refine Ev.of rfl (fun _ => Nat.le_of_ble_eq_true rfl) ?_
  show Rn G (d + 1) 0 0 mX12_move 0 [(0, .inr (.inr (some 94))), (1, .inl a1), (2, .inl a2), (3, .inl a3), (4, .inl a4), (5, .inl a5)] [] SH h (QI Q)
  refine rn_iload_n dX12_move_0 rfl rfl ?_
  refine rn_cS (M' := mX12_isSheet) (n := 1) (av := [.inl a1]) (S := []) (rc := 0) (rs := 0) (mc := 0) (ms := 0) dX12_move_1 pa_X12_isSheet (Nat.le_refl _) rfl (Nat.le_of_ble_eq_true rfl) ml_X12_319 ss_X12_isSheet rfl (Ev.mono V ?_)
  rintro v sh1 h1 ⟨rfl, Rh1, x2, rfl, V⟩
  show Rn G (d + 1) 0 0 mX12_move 4 [(0, .inr (.inr (some 94))), (1, .inl a1), (2, .inl a2), (3, .inl a3), (4, .inl a4), (5, .inl a5)] [.inl x2] SH h1 (QI Q)
  refine rn_if_eq (tgt := 14) dX12_move_4 (by decide) (fun c3 => ?_) (fun c3 => ?_)
  · replace V := V.1 c3
    refine rn_aload_n dX12_move_14 rfl rfl ?_
    refine rn_iconst (v := 1) dX12_move_15 (by decide) ?_
    refine rn_cV (M' := mX12_finds) (n := 1) (av := [.inl 1]) (S := []) (rc := 0) (rs := 0) (mc := 0) (ms := 0) (a := 94) (ci := 11) (r := (RX12, TX12, 38)) dX12_move_16 pa_X12_finds (Nat.le_refl _) rfl (Nat.le_of_ble_eq_true rfl) ml_X12_143 im_X12_finds se_X12_finds rfl rfl rfl (Ev.mono V ?_)
    rintro v sh1 h4 ⟨rfl, Rh4, x5, rfl, V⟩
    show Rn G (d + 1) 0 0 mX12_move 19 [(0, .inr (.inr (some 94))), (1, .inl a1), (2, .inl a2), (3, .inl a3), (4, .inl a4), (5, .inl a5)] [.inl x5] SH h4 (QI Q)
    exact rn_iret dX12_move_19 rfl ⟨rfl, Rh4, _, rfl, V⟩
  · replace V := V.2 c3
    refine rn_iload_n dX12_move_7 rfl rfl ?_
    refine rn_cS (M' := mX12_isSheet) (n := 1) (av := [.inl a3]) (S := []) (rc := 0) (rs := 0) (mc := 0) (ms := 0) dX12_move_8 pa_X12_isSheet (Nat.le_refl _) rfl (Nat.le_of_ble_eq_true rfl) ml_X12_319 ss_X12_isSheet rfl (Ev.mono V ?_)
    rintro v sh1 h6 ⟨rfl, Rh6, x7, rfl, V⟩
    show Rn G (d + 1) 0 0 mX12_move 11 [(0, .inr (.inr (some 94))), (1, .inl a1), (2, .inl a2), (3, .inl a3), (4, .inl a4), (5, .inl a5)] [.inl x7] SH h6 (QI Q)
    refine rn_if_ne (tgt := 20) dX12_move_11 (by decide) (fun c8 => ?_) (fun c8 => ?_)
    · replace V := V.1 c8
      refine rn_aload_n dX12_move_20 rfl rfl ?_
      refine rn_get (v := .inr (.inr (some 114))) dX12_move_21 fl_X12_67 rfl rfl (congrArg (fun z => (Sum.inr (Sum.inr z) : MV)) (rf_94_34 Rh6)) ?_
      refine rn_iload_n dX12_move_24 rfl rfl ?_
      obtain ⟨g0, V⟩ := V
      refine rn_iald (k := (Int32.toNatClampNeg a1)) dX12_move_25 rfl rfl g0 ?_
      refine rn_if_eq (tgt := 38) dX12_move_26 (by decide) (fun c9 => ?_) (fun c9 => ?_)
      · replace V := V.1 c9
        refine rn_aload_n dX12_move_38 rfl rfl ?_
        refine rn_iconst (v := 2) dX12_move_39 (by decide) ?_
        refine rn_cV (M' := mX12_finds) (n := 1) (av := [.inl 2]) (S := []) (rc := 0) (rs := 0) (mc := 0) (ms := 0) (a := 94) (ci := 11) (r := (RX12, TX12, 38)) dX12_move_40 pa_X12_finds (Nat.le_refl _) rfl (Nat.le_of_ble_eq_true rfl) ml_X12_143 im_X12_finds se_X12_finds rfl rfl rfl (Ev.mono V ?_)
        rintro v sh1 h10 ⟨rfl, Rh10, x11, rfl, V⟩
        show Rn G (d + 1) 0 0 mX12_move 43 [(0, .inr (.inr (some 94))), (1, .inl a1), (2, .inl a2), (3, .inl a3), (4, .inl a4), (5, .inl a5)] [.inl x11] SH h10 (QI Q)
        exact rn_iret dX12_move_43 rfl ⟨rfl, Rh10, _, rfl, V⟩
      · replace V := V.2 c9
        refine rn_aload_n dX12_move_29 rfl rfl ?_
        refine rn_get (v := .inr (.inr (some 114))) dX12_move_30 fl_X12_67 rfl rfl (congrArg (fun z => (Sum.inr (Sum.inr z) : MV)) (rf_94_34 Rh6)) ?_
        refine rn_iload_n dX12_move_33 rfl rfl ?_
        obtain ⟨g0, V⟩ := V
        refine rn_iald (k := (Int32.toNatClampNeg a3)) dX12_move_34 rfl rfl g0 ?_
        refine rn_if_ne (tgt := 44) dX12_move_35 (by decide) (fun c12 => ?_) (fun c12 => ?_)
        · replace V := V.1 c12
          refine rn_aload_n dX12_move_44 rfl rfl ?_
          refine rn_get (v := .inr (.inr (some 114))) dX12_move_45 fl_X12_67 rfl rfl (congrArg (fun z => (Sum.inr (Sum.inr z) : MV)) (rf_94_34 Rh6)) ?_
          refine rn_iload_n dX12_move_48 rfl rfl ?_
          obtain ⟨g0, V⟩ := V
          refine rn_iald (k := (Int32.toNatClampNeg a1)) dX12_move_49 rfl rfl g0 ?_
          refine rn_aload_n dX12_move_50 rfl rfl ?_
          refine rn_get (v := .inr (.inr (some 114))) dX12_move_51 fl_X12_67 rfl rfl (congrArg (fun z => (Sum.inr (Sum.inr z) : MV)) (rf_94_34 Rh6)) ?_
          refine rn_iload_n dX12_move_54 rfl rfl ?_
          obtain ⟨g0, V⟩ := V
          refine rn_iald (k := (Int32.toNatClampNeg a3)) dX12_move_55 rfl rfl g0 ?_
          refine rn_icmp_eq (tgt := 65) dX12_move_56 (by decide) (fun c13 => ?_) (fun c13 => ?_)
          · replace V := V.1 c13
            refine rn_iload dX12_move_65 rfl ?_
            refine rn_if_lt (tgt := 106) dX12_move_67 (by decide) (fun c14 => ?_) (fun c14 => ?_)
            · replace V := V.1 c14
              refine rn_aload_n dX12_move_106 rfl rfl ?_
              refine rn_iconst (v := 1) dX12_move_107 (by decide) ?_
              refine rn_cV (M' := mX12_finds) (n := 1) (av := [.inl 1]) (S := []) (rc := 0) (rs := 0) (mc := 0) (ms := 0) (a := 94) (ci := 11) (r := (RX12, TX12, 38)) dX12_move_108 pa_X12_finds (Nat.le_refl _) rfl (Nat.le_of_ble_eq_true rfl) ml_X12_143 im_X12_finds se_X12_finds rfl rfl rfl (Ev.mono V ?_)
              rintro v sh1 h15 ⟨rfl, Rh15, x16, rfl, V⟩
              show Rn G (d + 1) 0 0 mX12_move 111 [(0, .inr (.inr (some 94))), (1, .inl a1), (2, .inl a2), (3, .inl a3), (4, .inl a4), (5, .inl a5)] [.inl x16] SH h15 (QI Q)
              exact rn_iret dX12_move_111 rfl ⟨rfl, Rh15, _, rfl, V⟩
            · replace V := V.2 c14
              refine rn_iload_n dX12_move_70 rfl rfl ?_
              refine rn_if_lt (tgt := 106) dX12_move_71 (by decide) (fun c17 => ?_) (fun c17 => ?_)
              · replace V := V.1 c17
                refine rn_aload_n dX12_move_106 rfl rfl ?_
                refine rn_iconst (v := 1) dX12_move_107 (by decide) ?_
                refine rn_cV (M' := mX12_finds) (n := 1) (av := [.inl 1]) (S := []) (rc := 0) (rs := 0) (mc := 0) (ms := 0) (a := 94) (ci := 11) (r := (RX12, TX12, 38)) dX12_move_108 pa_X12_finds (Nat.le_refl _) rfl (Nat.le_of_ble_eq_true rfl) ml_X12_143 im_X12_finds se_X12_finds rfl rfl rfl (Ev.mono V ?_)
                rintro v sh1 h18 ⟨rfl, Rh18, x19, rfl, V⟩
                show Rn G (d + 1) 0 0 mX12_move 111 [(0, .inr (.inr (some 94))), (1, .inl a1), (2, .inl a2), (3, .inl a3), (4, .inl a4), (5, .inl a5)] [.inl x19] SH h18 (QI Q)
                exact rn_iret dX12_move_111 rfl ⟨rfl, Rh18, _, rfl, V⟩
              · replace V := V.2 c17
                refine rn_iload dX12_move_74 rfl ?_
                refine rn_if_lt (tgt := 106) dX12_move_76 (by decide) (fun c20 => ?_) (fun c20 => ?_)
                · replace V := V.1 c20
                  refine rn_aload_n dX12_move_106 rfl rfl ?_
                  refine rn_iconst (v := 1) dX12_move_107 (by decide) ?_
                  refine rn_cV (M' := mX12_finds) (n := 1) (av := [.inl 1]) (S := []) (rc := 0) (rs := 0) (mc := 0) (ms := 0) (a := 94) (ci := 11) (r := (RX12, TX12, 38)) dX12_move_108 pa_X12_finds (Nat.le_refl _) rfl (Nat.le_of_ble_eq_true rfl) ml_X12_143 im_X12_finds se_X12_finds rfl rfl rfl (Ev.mono V ?_)
                  rintro v sh1 h21 ⟨rfl, Rh21, x22, rfl, V⟩
                  show Rn G (d + 1) 0 0 mX12_move 111 [(0, .inr (.inr (some 94))), (1, .inl a1), (2, .inl a2), (3, .inl a3), (4, .inl a4), (5, .inl a5)] [.inl x22] SH h21 (QI Q)
                  exact rn_iret dX12_move_111 rfl ⟨rfl, Rh21, _, rfl, V⟩
                · replace V := V.2 c20
                  refine rn_iload dX12_move_79 rfl ?_
                  refine rn_aload_n dX12_move_81 rfl rfl ?_
                  refine rn_get (v := .inr (.inr (some 115))) dX12_move_82 fl_X12_70 rfl rfl (congrArg (fun z => (Sum.inr (Sum.inr z) : MV)) (rf_94_35 Rh6)) ?_
                  refine rn_iload_n dX12_move_85 rfl rfl ?_
                  obtain ⟨g0, V⟩ := V
                  refine rn_iald (k := (Int32.toNatClampNeg a1)) dX12_move_86 rfl rfl g0 ?_
                  refine rn_iload_n dX12_move_87 rfl rfl ?_
                  refine rn_isub dX12_move_88 ?_
                  refine rn_icmp_gt (tgt := 106) dX12_move_89 (by decide) (fun c23 => ?_) (fun c23 => ?_)
                  · replace V := V.1 c23
                    refine rn_aload_n dX12_move_106 rfl rfl ?_
                    refine rn_iconst (v := 1) dX12_move_107 (by decide) ?_
                    refine rn_cV (M' := mX12_finds) (n := 1) (av := [.inl 1]) (S := []) (rc := 0) (rs := 0) (mc := 0) (ms := 0) (a := 94) (ci := 11) (r := (RX12, TX12, 38)) dX12_move_108 pa_X12_finds (Nat.le_refl _) rfl (Nat.le_of_ble_eq_true rfl) ml_X12_143 im_X12_finds se_X12_finds rfl rfl rfl (Ev.mono V ?_)
                    rintro v sh1 h24 ⟨rfl, Rh24, x25, rfl, V⟩
                    show Rn G (d + 1) 0 0 mX12_move 111 [(0, .inr (.inr (some 94))), (1, .inl a1), (2, .inl a2), (3, .inl a3), (4, .inl a4), (5, .inl a5)] [.inl x25] SH h24 (QI Q)
                    exact rn_iret dX12_move_111 rfl ⟨rfl, Rh24, _, rfl, V⟩
                  · replace V := V.2 c23
                    refine rn_iload dX12_move_92 rfl ?_
                    refine rn_aload_n dX12_move_94 rfl rfl ?_
                    refine rn_get (v := .inr (.inr (some 115))) dX12_move_95 fl_X12_70 rfl rfl (congrArg (fun z => (Sum.inr (Sum.inr z) : MV)) (rf_94_35 Rh6)) ?_
                    refine rn_iload_n dX12_move_98 rfl rfl ?_
                    obtain ⟨g0, V⟩ := V
                    refine rn_iald (k := (Int32.toNatClampNeg a3)) dX12_move_99 rfl rfl g0 ?_
                    refine rn_iload dX12_move_100 rfl ?_
                    refine rn_isub dX12_move_102 ?_
                    refine rn_icmp_le (tgt := 112) dX12_move_103 (by decide) (fun c26 => ?_) (fun c26 => ?_)
                    · replace V := V.1 c26
                      refine rn_iconst (v := 0) dX12_move_112 (by decide) ?_
                      refine rn_istore (L' := [(6, .inl 0), (0, .inr (.inr (some 94))), (1, .inl a1), (2, .inl a2), (3, .inl a3), (4, .inl a4), (5, .inl a5)]) dX12_move_113 (Nat.le_of_ble_eq_true rfl) rfl ?_
                      refine rn_sub [1, 2, 3, 4, 5, 6, 0] (L' := [(0, .inr (.inr (some 94))), (1, .inl a1), (2, .inl a2), (3, .inl a3), (4, .inl a4), (5, .inl a5), (6, .inl 0)]) rfl ?_
                      exact V
                    · replace V := V.2 c26
                      refine rn_aload_n dX12_move_106 rfl rfl ?_
                      refine rn_iconst (v := 1) dX12_move_107 (by decide) ?_
                      refine rn_cV (M' := mX12_finds) (n := 1) (av := [.inl 1]) (S := []) (rc := 0) (rs := 0) (mc := 0) (ms := 0) (a := 94) (ci := 11) (r := (RX12, TX12, 38)) dX12_move_108 pa_X12_finds (Nat.le_refl _) rfl (Nat.le_of_ble_eq_true rfl) ml_X12_143 im_X12_finds se_X12_finds rfl rfl rfl (Ev.mono V ?_)
                      rintro v sh1 h27 ⟨rfl, Rh27, x28, rfl, V⟩
                      show Rn G (d + 1) 0 0 mX12_move 111 [(0, .inr (.inr (some 94))), (1, .inl a1), (2, .inl a2), (3, .inl a3), (4, .inl a4), (5, .inl a5)] [.inl x28] SH h27 (QI Q)
                      exact rn_iret dX12_move_111 rfl ⟨rfl, Rh27, _, rfl, V⟩
          · replace V := V.2 c13
            refine rn_aload_n dX12_move_59 rfl rfl ?_
            refine rn_iconst (v := 5) dX12_move_60 (by decide) ?_
            refine rn_cV (M' := mX12_finds) (n := 1) (av := [.inl 5]) (S := []) (rc := 0) (rs := 0) (mc := 0) (ms := 0) (a := 94) (ci := 11) (r := (RX12, TX12, 38)) dX12_move_61 pa_X12_finds (Nat.le_refl _) rfl (Nat.le_of_ble_eq_true rfl) ml_X12_143 im_X12_finds se_X12_finds rfl rfl rfl (Ev.mono V ?_)
            rintro v sh1 h29 ⟨rfl, Rh29, x30, rfl, V⟩
            show Rn G (d + 1) 0 0 mX12_move 64 [(0, .inr (.inr (some 94))), (1, .inl a1), (2, .inl a2), (3, .inl a3), (4, .inl a4), (5, .inl a5)] [.inl x30] SH h29 (QI Q)
            exact rn_iret dX12_move_64 rfl ⟨rfl, Rh29, _, rfl, V⟩
        · replace V := V.2 c12
          refine rn_aload_n dX12_move_38 rfl rfl ?_
          refine rn_iconst (v := 2) dX12_move_39 (by decide) ?_
          refine rn_cV (M' := mX12_finds) (n := 1) (av := [.inl 2]) (S := []) (rc := 0) (rs := 0) (mc := 0) (ms := 0) (a := 94) (ci := 11) (r := (RX12, TX12, 38)) dX12_move_40 pa_X12_finds (Nat.le_refl _) rfl (Nat.le_of_ble_eq_true rfl) ml_X12_143 im_X12_finds se_X12_finds rfl rfl rfl (Ev.mono V ?_)
          rintro v sh1 h31 ⟨rfl, Rh31, x32, rfl, V⟩
          show Rn G (d + 1) 0 0 mX12_move 43 [(0, .inr (.inr (some 94))), (1, .inl a1), (2, .inl a2), (3, .inl a3), (4, .inl a4), (5, .inl a5)] [.inl x32] SH h31 (QI Q)
          exact rn_iret dX12_move_43 rfl ⟨rfl, Rh31, _, rfl, V⟩
    · replace V := V.2 c8
      refine rn_aload_n dX12_move_14 rfl rfl ?_
      refine rn_iconst (v := 1) dX12_move_15 (by decide) ?_
      refine rn_cV (M' := mX12_finds) (n := 1) (av := [.inl 1]) (S := []) (rc := 0) (rs := 0) (mc := 0) (ms := 0) (a := 94) (ci := 11) (r := (RX12, TX12, 38)) dX12_move_16 pa_X12_finds (Nat.le_refl _) rfl (Nat.le_of_ble_eq_true rfl) ml_X12_143 im_X12_finds se_X12_finds rfl rfl rfl (Ev.mono V ?_)
      rintro v sh1 h33 ⟨rfl, Rh33, x34, rfl, V⟩
      show Rn G (d + 1) 0 0 mX12_move 19 [(0, .inr (.inr (some 94))), (1, .inl a1), (2, .inl a2), (3, .inl a3), (4, .inl a4), (5, .inl a5)] [.inl x34] SH h33 (QI Q)
      exact rn_iret dX12_move_19 rfl ⟨rfl, Rh33, _, rfl, V⟩
def Rg_X12_judge_57 (G : GT) (d : Nat) (l1 : Int32) (l2 : Int32) (l3 : Int32) (h : Hp) (Q : Int32 → Hp → Prop) : Prop := Rn G (d + 1) 0 0 mX12_judge 57 [(0, .inr (.inr (some 94))), (1, .inl l1), (2, .inl l2), (3, .inl l3)] [] SH h (QI Q)
set_option maxRecDepth 100000 in
set_option maxHeartbeats 4000000 in
theorem vc_X12_judge_57 {G : GT} {d : Nat} {l1 : Int32} {l2 : Int32} {l3 : Int32}  {h : Hp} {Q : Int32 → Hp → Prop} (hR : RF h) (V : vp_in l1 4 ∧ ((h.1 115 (Int32.toNatClampNeg l1) ≤ l2 → EvV G d mX12_putBack [.inr (.inr (some 94))] h (fun h12 => Q l2 h12)) ∧ (¬ h.1 115 (Int32.toNatClampNeg l1) ≤ l2 → ((l3 = 0 → EvV G d mX12_putBack [.inr (.inr (some 94))] h (fun h14 => Q l2 h14)) ∧ (¬ l3 = 0 → vp_in ((40 * l1) + l2) 160 ∧ EvI G d mX12_isWord [.inr (.inr (some 94)), .inl (h.1 116 (Int32.toNatClampNeg ((40 * l1) + l2)))] h (fun x16 h15 => ((x16 = 0 → Rg_X12_judge_57 G d l1 (l2 + 0) 0 h15 Q) ∧ (¬ x16 = 0 → EvI G d mX12_isReady [.inr (.inr (some 94)), .inl (h.1 116 (Int32.toNatClampNeg ((40 * l1) + l2)))] h15 (fun x21 h20 => ((x21 = 0 → Rg_X12_judge_57 G d l1 (l2 + 0) 0 h20 Q) ∧ (¬ x21 = 0 → EvV G d mX12_goes [.inr (.inr (some 94)), .inl (h.1 116 (Int32.toNatClampNeg ((40 * l1) + l2)))] h20 (fun h26 => EvI G d mX12_its [.inr (.inr (some 94)), .inl (h.1 116 (Int32.toNatClampNeg ((40 * l1) + l2))), .inl 4] h26 (fun x28 h27 => ((¬ x28 = 1 → Rg_X12_judge_57 G d l1 (l2 + 0) 0 h27 Q) ∧ (x28 = 1 → Rg_X12_judge_57 G d l1 (l2 + 1) 1 h27 Q))))))))))))))) : Rg_X12_judge_57 G d l1 l2 l3 h Q := by
  show Rn G (d + 1) 0 0 mX12_judge 57 [(0, .inr (.inr (some 94))), (1, .inl l1), (2, .inl l2), (3, .inl l3)] [] SH h (QI Q)
  refine rn_iload_n dX12_judge_57 rfl rfl ?_
  refine rn_aload_n dX12_judge_58 rfl rfl ?_
  refine rn_get (v := .inr (.inr (some 115))) dX12_judge_59 fl_X12_70 rfl rfl (congrArg (fun z => (Sum.inr (Sum.inr z) : MV)) (rf_94_35 hR)) ?_
  refine rn_iload_n dX12_judge_62 rfl rfl ?_
  obtain ⟨g0, V⟩ := V
  refine rn_iald (k := (Int32.toNatClampNeg l1)) dX12_judge_63 rfl rfl g0 ?_
  refine rn_icmp_ge (tgt := 150) dX12_judge_64 (by decide) (fun c11 => ?_) (fun c11 => ?_)
  · replace V := V.1 c11
    refine rn_aload_n dX12_judge_150 rfl rfl ?_
    refine rn_cV (M' := mX12_putBack) (n := 0) (av := []) (S := []) (rc := 0) (rs := 0) (mc := 0) (ms := 0) (a := 94) (ci := 11) (r := (RX12, TX12, 38)) dX12_judge_151 pa_X12_putBack (Nat.le_refl _) rfl (Nat.le_of_ble_eq_true rfl) ml_X12_247 im_X12_putBack se_X12_putBack rfl rfl rfl (Ev.mono V ?_)
    rintro v sh1 h12 ⟨rfl, Rh12, rfl, V⟩
    show Rn G (d + 1) 0 0 mX12_judge 154 [(0, .inr (.inr (some 94))), (1, .inl l1), (2, .inl l2), (3, .inl l3)] [] SH h12 (QI Q)
    refine rn_iload_n dX12_judge_154 rfl rfl ?_
    exact rn_iret dX12_judge_155 rfl ⟨rfl, Rh12, _, rfl, V⟩
  · replace V := V.2 c11
    refine rn_iload_n dX12_judge_67 rfl rfl ?_
    refine rn_if_eq (tgt := 150) dX12_judge_68 (by decide) (fun c13 => ?_) (fun c13 => ?_)
    · replace V := V.1 c13
      refine rn_aload_n dX12_judge_150 rfl rfl ?_
      refine rn_cV (M' := mX12_putBack) (n := 0) (av := []) (S := []) (rc := 0) (rs := 0) (mc := 0) (ms := 0) (a := 94) (ci := 11) (r := (RX12, TX12, 38)) dX12_judge_151 pa_X12_putBack (Nat.le_refl _) rfl (Nat.le_of_ble_eq_true rfl) ml_X12_247 im_X12_putBack se_X12_putBack rfl rfl rfl (Ev.mono V ?_)
      rintro v sh1 h14 ⟨rfl, Rh14, rfl, V⟩
      show Rn G (d + 1) 0 0 mX12_judge 154 [(0, .inr (.inr (some 94))), (1, .inl l1), (2, .inl l2), (3, .inl l3)] [] SH h14 (QI Q)
      refine rn_iload_n dX12_judge_154 rfl rfl ?_
      exact rn_iret dX12_judge_155 rfl ⟨rfl, Rh14, _, rfl, V⟩
    · replace V := V.2 c13
      refine rn_aload_n dX12_judge_71 rfl rfl ?_
      refine rn_get (v := .inr (.inr (some 116))) dX12_judge_72 fl_X12_73 rfl rfl (congrArg (fun z => (Sum.inr (Sum.inr z) : MV)) (rf_94_36 hR)) ?_
      refine rn_bipush (v := 40) dX12_judge_75 (by decide) ?_
      refine rn_iload_n dX12_judge_77 rfl rfl ?_
      refine rn_imul dX12_judge_78 ?_
      refine rn_iload_n dX12_judge_79 rfl rfl ?_
      refine rn_iadd dX12_judge_80 ?_
      obtain ⟨g0, V⟩ := V
      refine rn_iald (k := (Int32.toNatClampNeg ((40 * l1) + l2))) dX12_judge_81 rfl rfl g0 ?_
      refine rn_istore (L' := [(4, .inl (h.1 116 (Int32.toNatClampNeg ((40 * l1) + l2)))), (0, .inr (.inr (some 94))), (1, .inl l1), (2, .inl l2), (3, .inl l3)]) dX12_judge_82 (Nat.le_of_ble_eq_true rfl) rfl ?_
      refine rn_aload_n dX12_judge_84 rfl rfl ?_
      refine rn_iload dX12_judge_85 rfl ?_
      refine rn_cV (M' := mX12_isWord) (n := 1) (av := [.inl (h.1 116 (Int32.toNatClampNeg ((40 * l1) + l2)))]) (S := []) (rc := 0) (rs := 0) (mc := 0) (ms := 0) (a := 94) (ci := 11) (r := (RX12, TX12, 38)) dX12_judge_87 pa_X12_isWord (Nat.le_refl _) rfl (Nat.le_of_ble_eq_true rfl) ml_X12_202 im_X12_isWord se_X12_isWord rfl rfl rfl (Ev.mono V ?_)
      rintro v sh1 h15 ⟨rfl, Rh15, x16, rfl, V⟩
      show Rn G (d + 1) 0 0 mX12_judge 90 [(4, .inl (h.1 116 (Int32.toNatClampNeg ((40 * l1) + l2)))), (0, .inr (.inr (some 94))), (1, .inl l1), (2, .inl l2), (3, .inl l3)] [.inl x16] SH h15 (QI Q)
      refine rn_if_eq (tgt := 106) dX12_judge_90 (by decide) (fun c17 => ?_) (fun c17 => ?_)
      · replace V := V.1 c17
        refine rn_iconst (v := 0) dX12_judge_106 (by decide) ?_
        refine rn_istore_n (L' := [(3, .inl 0), (4, .inl (h.1 116 (Int32.toNatClampNeg ((40 * l1) + l2)))), (0, .inr (.inr (some 94))), (1, .inl l1), (2, .inl l2)]) dX12_judge_107 rfl (Nat.le_of_ble_eq_true rfl) rfl ?_
        refine rn_iload_n dX12_judge_108 rfl rfl ?_
        refine rn_if_eq (tgt := 135) dX12_judge_109 (by decide) (fun c18 => ?_) (fun c18 => ?_)
        rotate_left
        · exact absurd (by decide) c18
        refine rn_iload_n dX12_judge_135 rfl rfl ?_
        refine rn_iload_n dX12_judge_136 rfl rfl ?_
        refine rn_if_eq (tgt := 144) dX12_judge_137 (by decide) (fun c19 => ?_) (fun c19 => ?_)
        rotate_left
        · exact absurd (by decide) c19
        refine rn_iconst (v := 0) dX12_judge_144 (by decide) ?_
        refine rn_iadd dX12_judge_145 ?_
        refine rn_istore_n (L' := [(2, .inl (l2 + 0)), (3, .inl 0), (4, .inl (h.1 116 (Int32.toNatClampNeg ((40 * l1) + l2)))), (0, .inr (.inr (some 94))), (1, .inl l1)]) dX12_judge_146 rfl (Nat.le_of_ble_eq_true rfl) rfl ?_
        refine rn_goto (tgt := 57) dX12_judge_147 (by decide) ?_
        refine rn_sub [3, 4, 0, 1] (L' := [(0, .inr (.inr (some 94))), (1, .inl l1), (2, .inl (l2 + 0)), (3, .inl 0)]) rfl ?_
        exact V
      · replace V := V.2 c17
        refine rn_aload_n dX12_judge_93 rfl rfl ?_
        refine rn_iload dX12_judge_94 rfl ?_
        refine rn_cV (M' := mX12_isReady) (n := 1) (av := [.inl (h.1 116 (Int32.toNatClampNeg ((40 * l1) + l2)))]) (S := []) (rc := 0) (rs := 0) (mc := 0) (ms := 0) (a := 94) (ci := 11) (r := (RX12, TX12, 38)) dX12_judge_96 pa_X12_isReady (Nat.le_refl _) rfl (Nat.le_of_ble_eq_true rfl) ml_X12_220 im_X12_isReady se_X12_isReady rfl rfl rfl (Ev.mono V ?_)
        rintro v sh1 h20 ⟨rfl, Rh20, x21, rfl, V⟩
        show Rn G (d + 1) 0 0 mX12_judge 99 [(4, .inl (h.1 116 (Int32.toNatClampNeg ((40 * l1) + l2)))), (0, .inr (.inr (some 94))), (1, .inl l1), (2, .inl l2), (3, .inl l3)] [.inl x21] SH h20 (QI Q)
        refine rn_if_eq (tgt := 106) dX12_judge_99 (by decide) (fun c22 => ?_) (fun c22 => ?_)
        · replace V := V.1 c22
          refine rn_iconst (v := 0) dX12_judge_106 (by decide) ?_
          refine rn_istore_n (L' := [(3, .inl 0), (4, .inl (h.1 116 (Int32.toNatClampNeg ((40 * l1) + l2)))), (0, .inr (.inr (some 94))), (1, .inl l1), (2, .inl l2)]) dX12_judge_107 rfl (Nat.le_of_ble_eq_true rfl) rfl ?_
          refine rn_iload_n dX12_judge_108 rfl rfl ?_
          refine rn_if_eq (tgt := 135) dX12_judge_109 (by decide) (fun c23 => ?_) (fun c23 => ?_)
          rotate_left
          · exact absurd (by decide) c23
          refine rn_iload_n dX12_judge_135 rfl rfl ?_
          refine rn_iload_n dX12_judge_136 rfl rfl ?_
          refine rn_if_eq (tgt := 144) dX12_judge_137 (by decide) (fun c24 => ?_) (fun c24 => ?_)
          rotate_left
          · exact absurd (by decide) c24
          refine rn_iconst (v := 0) dX12_judge_144 (by decide) ?_
          refine rn_iadd dX12_judge_145 ?_
          refine rn_istore_n (L' := [(2, .inl (l2 + 0)), (3, .inl 0), (4, .inl (h.1 116 (Int32.toNatClampNeg ((40 * l1) + l2)))), (0, .inr (.inr (some 94))), (1, .inl l1)]) dX12_judge_146 rfl (Nat.le_of_ble_eq_true rfl) rfl ?_
          refine rn_goto (tgt := 57) dX12_judge_147 (by decide) ?_
          refine rn_sub [3, 4, 0, 1] (L' := [(0, .inr (.inr (some 94))), (1, .inl l1), (2, .inl (l2 + 0)), (3, .inl 0)]) rfl ?_
          exact V
        · replace V := V.2 c22
          refine rn_iconst (v := 1) dX12_judge_102 (by decide) ?_
          refine rn_goto (tgt := 107) dX12_judge_103 (by decide) ?_
          refine rn_istore_n (L' := [(3, .inl 1), (4, .inl (h.1 116 (Int32.toNatClampNeg ((40 * l1) + l2)))), (0, .inr (.inr (some 94))), (1, .inl l1), (2, .inl l2)]) dX12_judge_107 rfl (Nat.le_of_ble_eq_true rfl) rfl ?_
          refine rn_iload_n dX12_judge_108 rfl rfl ?_
          refine rn_if_eq (tgt := 135) dX12_judge_109 (by decide) (fun c25 => ?_) (fun c25 => ?_)
          · exact absurd c25 (by decide)
          refine rn_aload_n dX12_judge_112 rfl rfl ?_
          refine rn_iload dX12_judge_113 rfl ?_
          refine rn_cV (M' := mX12_goes) (n := 1) (av := [.inl (h.1 116 (Int32.toNatClampNeg ((40 * l1) + l2)))]) (S := []) (rc := 0) (rs := 0) (mc := 0) (ms := 0) (a := 94) (ci := 11) (r := (RX12, TX12, 38)) dX12_judge_115 pa_X12_goes (Nat.le_refl _) rfl (Nat.le_of_ble_eq_true rfl) ml_X12_302 im_X12_goes se_X12_goes rfl rfl rfl (Ev.mono V ?_)
          rintro v sh1 h26 ⟨rfl, Rh26, rfl, V⟩
          show Rn G (d + 1) 0 0 mX12_judge 118 [(3, .inl 1), (4, .inl (h.1 116 (Int32.toNatClampNeg ((40 * l1) + l2)))), (0, .inr (.inr (some 94))), (1, .inl l1), (2, .inl l2)] [] SH h26 (QI Q)
          refine rn_aload_n dX12_judge_118 rfl rfl ?_
          refine rn_iload dX12_judge_119 rfl ?_
          refine rn_iconst (v := 4) dX12_judge_121 (by decide) ?_
          refine rn_cV (M' := mX12_its) (n := 2) (av := [.inl (h.1 116 (Int32.toNatClampNeg ((40 * l1) + l2))), .inl 4]) (S := []) (rc := 0) (rs := 0) (mc := 0) (ms := 0) (a := 94) (ci := 11) (r := (RX12, TX12, 38)) dX12_judge_122 pa_X12_its (Nat.le_refl _) rfl (Nat.le_of_ble_eq_true rfl) ml_X12_171 im_X12_its se_X12_its rfl rfl rfl (Ev.mono V ?_)
          rintro v sh1 h27 ⟨rfl, Rh27, x28, rfl, V⟩
          show Rn G (d + 1) 0 0 mX12_judge 125 [(3, .inl 1), (4, .inl (h.1 116 (Int32.toNatClampNeg ((40 * l1) + l2)))), (0, .inr (.inr (some 94))), (1, .inl l1), (2, .inl l2)] [.inl x28] SH h27 (QI Q)
          refine rn_iconst (v := 1) dX12_judge_125 (by decide) ?_
          refine rn_icmp_ne (tgt := 133) dX12_judge_126 (by decide) (fun c29 => ?_) (fun c29 => ?_)
          · replace V := V.1 c29
            refine rn_iconst (v := 0) dX12_judge_133 (by decide) ?_
            refine rn_istore_n (L' := [(3, .inl 0), (4, .inl (h.1 116 (Int32.toNatClampNeg ((40 * l1) + l2)))), (0, .inr (.inr (some 94))), (1, .inl l1), (2, .inl l2)]) dX12_judge_134 rfl (Nat.le_of_ble_eq_true rfl) rfl ?_
            refine rn_iload_n dX12_judge_135 rfl rfl ?_
            refine rn_iload_n dX12_judge_136 rfl rfl ?_
            refine rn_if_eq (tgt := 144) dX12_judge_137 (by decide) (fun c30 => ?_) (fun c30 => ?_)
            rotate_left
            · exact absurd (by decide) c30
            refine rn_iconst (v := 0) dX12_judge_144 (by decide) ?_
            refine rn_iadd dX12_judge_145 ?_
            refine rn_istore_n (L' := [(2, .inl (l2 + 0)), (3, .inl 0), (4, .inl (h.1 116 (Int32.toNatClampNeg ((40 * l1) + l2)))), (0, .inr (.inr (some 94))), (1, .inl l1)]) dX12_judge_146 rfl (Nat.le_of_ble_eq_true rfl) rfl ?_
            refine rn_goto (tgt := 57) dX12_judge_147 (by decide) ?_
            refine rn_sub [3, 4, 0, 1] (L' := [(0, .inr (.inr (some 94))), (1, .inl l1), (2, .inl (l2 + 0)), (3, .inl 0)]) rfl ?_
            exact V
          · replace V := V.2 c29
            refine rn_iconst (v := 1) dX12_judge_129 (by decide) ?_
            refine rn_goto (tgt := 134) dX12_judge_130 (by decide) ?_
            refine rn_istore_n (L' := [(3, .inl 1), (4, .inl (h.1 116 (Int32.toNatClampNeg ((40 * l1) + l2)))), (0, .inr (.inr (some 94))), (1, .inl l1), (2, .inl l2)]) dX12_judge_134 rfl (Nat.le_of_ble_eq_true rfl) rfl ?_
            refine rn_iload_n dX12_judge_135 rfl rfl ?_
            refine rn_iload_n dX12_judge_136 rfl rfl ?_
            refine rn_if_eq (tgt := 144) dX12_judge_137 (by decide) (fun c31 => ?_) (fun c31 => ?_)
            · exact absurd c31 (by decide)
            refine rn_iconst (v := 1) dX12_judge_140 (by decide) ?_
            refine rn_goto (tgt := 145) dX12_judge_141 (by decide) ?_
            refine rn_iadd dX12_judge_145 ?_
            refine rn_istore_n (L' := [(2, .inl (l2 + 1)), (3, .inl 1), (4, .inl (h.1 116 (Int32.toNatClampNeg ((40 * l1) + l2)))), (0, .inr (.inr (some 94))), (1, .inl l1)]) dX12_judge_146 rfl (Nat.le_of_ble_eq_true rfl) rfl ?_
            refine rn_goto (tgt := 57) dX12_judge_147 (by decide) ?_
            refine rn_sub [3, 4, 0, 1] (L' := [(0, .inr (.inr (some 94))), (1, .inl l1), (2, .inl (l2 + 1)), (3, .inl 1)]) rfl ?_
            exact V
set_option maxRecDepth 100000 in
set_option maxHeartbeats 4000000 in
theorem vc_X12_judge {G : GT} {d : Nat} {a1 : Int32}  {h : Hp} {Q : Int32 → Hp → Prop} (hR : RF h) (V : EvI G d mX12_isSheet [.inl a1] h (fun x2 h1 => ((¬ x2 = 0 → vp_in a1 4 ∧ ((¬ h1.1 114 (Int32.toNatClampNeg a1) = 0 → EvV G d mX12_keepAside [.inr (.inr (some 94))] h1 (fun h5 => ((¬ h5.1 95 6 = 0 → Rg_X12_judge_57 G d a1 0 0 (sI h5 95 5 0) Q) ∧ (h5.1 95 6 = 0 → Rg_X12_judge_57 G d a1 0 1 (sI h5 95 5 0) Q)))) ∧ (h1.1 114 (Int32.toNatClampNeg a1) = 0 → EvI G d mX12_finds [.inr (.inr (some 94)), .inl 2] h1 (fun x8 h7 => Q x8 h7)))) ∧ (x2 = 0 → EvI G d mX12_finds [.inr (.inr (some 94)), .inl 1] h1 (fun x10 h9 => Q x10 h9))))) : EvI G (d + 1) mX12_judge [.inr (.inr (some 94)), .inl a1] h Q := by
  refine Ev.of rfl (fun _ => Nat.le_of_ble_eq_true rfl) ?_
  show Rn G (d + 1) 0 0 mX12_judge 0 [(0, .inr (.inr (some 94))), (1, .inl a1)] [] SH h (QI Q)
  refine rn_iload_n dX12_judge_0 rfl rfl ?_
  refine rn_cS (M' := mX12_isSheet) (n := 1) (av := [.inl a1]) (S := []) (rc := 0) (rs := 0) (mc := 0) (ms := 0) dX12_judge_1 pa_X12_isSheet (Nat.le_refl _) rfl (Nat.le_of_ble_eq_true rfl) ml_X12_319 ss_X12_isSheet rfl (Ev.mono V ?_)
  rintro v sh1 h1 ⟨rfl, Rh1, x2, rfl, V⟩
  show Rn G (d + 1) 0 0 mX12_judge 4 [(0, .inr (.inr (some 94))), (1, .inl a1)] [.inl x2] SH h1 (QI Q)
  refine rn_if_ne (tgt := 13) dX12_judge_4 (by decide) (fun c3 => ?_) (fun c3 => ?_)
  · replace V := V.1 c3
    refine rn_aload_n dX12_judge_13 rfl rfl ?_
    refine rn_get (v := .inr (.inr (some 114))) dX12_judge_14 fl_X12_67 rfl rfl (congrArg (fun z => (Sum.inr (Sum.inr z) : MV)) (rf_94_34 Rh1)) ?_
    refine rn_iload_n dX12_judge_17 rfl rfl ?_
    obtain ⟨g0, V⟩ := V
    refine rn_iald (k := (Int32.toNatClampNeg a1)) dX12_judge_18 rfl rfl g0 ?_
    refine rn_if_ne (tgt := 28) dX12_judge_19 (by decide) (fun c4 => ?_) (fun c4 => ?_)
    · replace V := V.1 c4
      refine rn_aload_n dX12_judge_28 rfl rfl ?_
      refine rn_cV (M' := mX12_keepAside) (n := 0) (av := []) (S := []) (rc := 0) (rs := 0) (mc := 0) (ms := 0) (a := 94) (ci := 11) (r := (RX12, TX12, 38)) dX12_judge_29 pa_X12_keepAside (Nat.le_refl _) rfl (Nat.le_of_ble_eq_true rfl) ml_X12_244 im_X12_keepAside se_X12_keepAside rfl rfl rfl (Ev.mono V ?_)
      rintro v sh1 h5 ⟨rfl, Rh5, rfl, V⟩
      show Rn G (d + 1) 0 0 mX12_judge 32 [(0, .inr (.inr (some 94))), (1, .inl a1)] [] SH h5 (QI Q)
      refine rn_aload_n dX12_judge_32 rfl rfl ?_
      refine rn_get (v := .inr (.inr (some 95))) dX12_judge_33 fl_X12_7 rfl rfl (congrArg (fun z => (Sum.inr (Sum.inr z) : MV)) (rf_94_0 Rh5)) ?_
      refine rn_iconst (v := 5) dX12_judge_36 (by decide) ?_
      refine rn_iconst (v := 0) dX12_judge_37 (by decide) ?_
      refine rn_iast (k := 5) dX12_judge_38 rfl (by decide) (by unfold vp_in; decide) ?_
      refine rn_iconst (v := 0) dX12_judge_39 (by decide) ?_
      refine rn_istore_n (L' := [(2, .inl 0), (0, .inr (.inr (some 94))), (1, .inl a1)]) dX12_judge_40 rfl (Nat.le_of_ble_eq_true rfl) rfl ?_
      refine rn_aload_n dX12_judge_41 rfl rfl ?_
      refine rn_get (v := .inr (.inr (some 95))) dX12_judge_42 fl_X12_7 rfl rfl (congrArg (fun z => (Sum.inr (Sum.inr z) : MV)) (rf_94_0 Rh5)) ?_
      refine rn_bipush (v := 6) dX12_judge_45 (by decide) ?_
      refine rn_iald (k := 6) dX12_judge_47 rfl (by decide) (by unfold vp_in; decide) ?_
      refine rn_if_ne (tgt := 55) dX12_judge_48 (by decide) (fun c6 => ?_) (fun c6 => ?_)
      · replace V := V.1 c6
        refine rn_iconst (v := 0) dX12_judge_55 (by decide) ?_
        refine rn_istore_n (L' := [(3, .inl 0), (2, .inl 0), (0, .inr (.inr (some 94))), (1, .inl a1)]) dX12_judge_56 rfl (Nat.le_of_ble_eq_true rfl) rfl ?_
        refine rn_sub [2, 3, 1, 0] (L' := [(0, .inr (.inr (some 94))), (1, .inl a1), (2, .inl 0), (3, .inl 0)]) rfl ?_
        exact V
      · replace V := V.2 c6
        refine rn_iconst (v := 1) dX12_judge_51 (by decide) ?_
        refine rn_goto (tgt := 56) dX12_judge_52 (by decide) ?_
        refine rn_istore_n (L' := [(3, .inl 1), (2, .inl 0), (0, .inr (.inr (some 94))), (1, .inl a1)]) dX12_judge_56 rfl (Nat.le_of_ble_eq_true rfl) rfl ?_
        refine rn_sub [2, 3, 1, 0] (L' := [(0, .inr (.inr (some 94))), (1, .inl a1), (2, .inl 0), (3, .inl 1)]) rfl ?_
        exact V
    · replace V := V.2 c4
      refine rn_aload_n dX12_judge_22 rfl rfl ?_
      refine rn_iconst (v := 2) dX12_judge_23 (by decide) ?_
      refine rn_cV (M' := mX12_finds) (n := 1) (av := [.inl 2]) (S := []) (rc := 0) (rs := 0) (mc := 0) (ms := 0) (a := 94) (ci := 11) (r := (RX12, TX12, 38)) dX12_judge_24 pa_X12_finds (Nat.le_refl _) rfl (Nat.le_of_ble_eq_true rfl) ml_X12_143 im_X12_finds se_X12_finds rfl rfl rfl (Ev.mono V ?_)
      rintro v sh1 h7 ⟨rfl, Rh7, x8, rfl, V⟩
      show Rn G (d + 1) 0 0 mX12_judge 27 [(0, .inr (.inr (some 94))), (1, .inl a1)] [.inl x8] SH h7 (QI Q)
      exact rn_iret dX12_judge_27 rfl ⟨rfl, Rh7, _, rfl, V⟩
  · replace V := V.2 c3
    refine rn_aload_n dX12_judge_7 rfl rfl ?_
    refine rn_iconst (v := 1) dX12_judge_8 (by decide) ?_
    refine rn_cV (M' := mX12_finds) (n := 1) (av := [.inl 1]) (S := []) (rc := 0) (rs := 0) (mc := 0) (ms := 0) (a := 94) (ci := 11) (r := (RX12, TX12, 38)) dX12_judge_9 pa_X12_finds (Nat.le_refl _) rfl (Nat.le_of_ble_eq_true rfl) ml_X12_143 im_X12_finds se_X12_finds rfl rfl rfl (Ev.mono V ?_)
    rintro v sh1 h9 ⟨rfl, Rh9, x10, rfl, V⟩
    show Rn G (d + 1) 0 0 mX12_judge 12 [(0, .inr (.inr (some 94))), (1, .inl a1)] [.inl x10] SH h9 (QI Q)
    exact rn_iret dX12_judge_12 rfl ⟨rfl, Rh9, _, rfl, V⟩
def Rg_X12_image_2 (G : GT) (d : Nat) (l1 : Int32) (h : Hp) (Q : Int32 → Hp → Prop) : Prop := Rn G (d + 1) 0 0 mX12_image 2 [(0, .inr (.inr (some 94))), (1, .inl l1)] [] SH h (QI Q)
set_option maxRecDepth 100000 in
set_option maxHeartbeats 4000000 in
theorem vc_X12_image_2 {G : GT} {d : Nat} {l1 : Int32}  {h : Hp} {Q : Int32 → Hp → Prop} (hR : RF h) (V : ((264 ≤ l1 → Q (h.1 94 3 + 1) (sI h 94 3 (h.1 94 3 + 1))) ∧ (¬ 264 ≤ l1 → vp_in l1 264 ∧ vp_in l1 264 ∧ Rg_X12_image_2 G d (l1 + 1) (sI h 96 (Int32.toNatClampNeg l1) (h.1 95 (Int32.toNatClampNeg l1))) Q))) : Rg_X12_image_2 G d l1 h Q := by
  show Rn G (d + 1) 0 0 mX12_image 2 [(0, .inr (.inr (some 94))), (1, .inl l1)] [] SH h (QI Q)
  refine rn_iload_n dX12_image_2 rfl rfl ?_
  refine rn_sipush (v := 264) dX12_image_3 (by decide) ?_
  refine rn_icmp_ge (tgt := 27) dX12_image_6 (by decide) (fun c1 => ?_) (fun c1 => ?_)
  · replace V := V.1 c1
    refine rn_aload_n dX12_image_27 rfl rfl ?_
    refine rn_dup dX12_image_28 rfl ?_
    refine rn_get (v := .inl (h.1 94 3)) dX12_image_29 fl_X12_349 rfl rfl rfl ?_
    refine rn_iconst (v := 1) dX12_image_32 (by decide) ?_
    refine rn_iadd dX12_image_33 ?_
    refine rn_putI dX12_image_34 fl_X12_349 rfl rfl (Or.inl rfl) rfl rfl ?_
    refine rn_aload_n dX12_image_37 rfl rfl ?_
    refine rn_get (v := .inl (h.1 94 3 + 1)) dX12_image_38 fl_X12_349 rfl rfl rfl ?_
    exact rn_iret dX12_image_41 rfl ⟨rfl, hR, _, rfl, V⟩
  · replace V := V.2 c1
    refine rn_aload_n dX12_image_9 rfl rfl ?_
    refine rn_get (v := .inr (.inr (some 96))) dX12_image_10 fl_X12_13 rfl rfl (congrArg (fun z => (Sum.inr (Sum.inr z) : MV)) (rf_94_1 hR)) ?_
    refine rn_iload_n dX12_image_13 rfl rfl ?_
    refine rn_aload_n dX12_image_14 rfl rfl ?_
    refine rn_get (v := .inr (.inr (some 95))) dX12_image_15 fl_X12_7 rfl rfl (congrArg (fun z => (Sum.inr (Sum.inr z) : MV)) (rf_94_0 hR)) ?_
    refine rn_iload_n dX12_image_18 rfl rfl ?_
    obtain ⟨g0, V⟩ := V
    refine rn_iald (k := (Int32.toNatClampNeg l1)) dX12_image_19 rfl rfl g0 ?_
    obtain ⟨g0, V⟩ := V
    refine rn_iast (k := (Int32.toNatClampNeg l1)) dX12_image_20 rfl rfl g0 ?_
    refine rn_iinc (L' := [(1, .inl (l1 + 1)), (0, .inr (.inr (some 94)))]) dX12_image_21 rfl (v := (l1 + 1)) rfl (Nat.le_of_ble_eq_true rfl) rfl ?_
    refine rn_goto (tgt := 2) dX12_image_24 (by decide) ?_
    refine rn_sub [1, 0] (L' := [(0, .inr (.inr (some 94))), (1, .inl (l1 + 1))]) rfl ?_
    exact V
set_option maxRecDepth 100000 in
set_option maxHeartbeats 4000000 in
theorem vc_X12_image {G : GT} {d : Nat}   {h : Hp} {Q : Int32 → Hp → Prop} (hR : RF h) (V : Rg_X12_image_2 G d 0 h Q) : EvI G (d + 1) mX12_image [.inr (.inr (some 94))] h Q := by
  refine Ev.of rfl (fun _ => Nat.le_of_ble_eq_true rfl) ?_
  show Rn G (d + 1) 0 0 mX12_image 0 [(0, .inr (.inr (some 94)))] [] SH h (QI Q)
  refine rn_iconst (v := 0) dX12_image_0 (by decide) ?_
  refine rn_istore_n (L' := [(1, .inl 0), (0, .inr (.inr (some 94)))]) dX12_image_1 rfl (Nat.le_of_ble_eq_true rfl) rfl ?_
  refine rn_sub [1, 0] (L' := [(0, .inr (.inr (some 94))), (1, .inl 0)]) rfl ?_
  exact V
def Rg_X12_restore_15 (G : GT) (d : Nat) (l1 : Int32) (h : Hp) (Q : Int32 → Hp → Prop) : Prop := Rn G (d + 1) 0 0 mX12_restore 15 [(0, .inr (.inr (some 94))), (1, .inl l1)] [] SH h (QI Q)
set_option maxRecDepth 100000 in
set_option maxHeartbeats 4000000 in
theorem vc_X12_restore_15 {G : GT} {d : Nat} {l1 : Int32}  {h : Hp} {Q : Int32 → Hp → Prop} (hR : RF h) (V : ((264 ≤ l1 → Q (h.1 95 3) h) ∧ (¬ 264 ≤ l1 → vp_in l1 264 ∧ vp_in l1 264 ∧ Rg_X12_restore_15 G d (l1 + 1) (sI h 95 (Int32.toNatClampNeg l1) (h.1 96 (Int32.toNatClampNeg l1))) Q))) : Rg_X12_restore_15 G d l1 h Q := by
  show Rn G (d + 1) 0 0 mX12_restore 15 [(0, .inr (.inr (some 94))), (1, .inl l1)] [] SH h (QI Q)
  refine rn_iload_n dX12_restore_15 rfl rfl ?_
  refine rn_sipush (v := 264) dX12_restore_16 (by decide) ?_
  refine rn_icmp_ge (tgt := 40) dX12_restore_19 (by decide) (fun c4 => ?_) (fun c4 => ?_)
  · replace V := V.1 c4
    refine rn_aload_n dX12_restore_40 rfl rfl ?_
    refine rn_get (v := .inr (.inr (some 95))) dX12_restore_41 fl_X12_7 rfl rfl (congrArg (fun z => (Sum.inr (Sum.inr z) : MV)) (rf_94_0 hR)) ?_
    refine rn_iconst (v := 3) dX12_restore_44 (by decide) ?_
    refine rn_iald (k := 3) dX12_restore_45 rfl (by decide) (by unfold vp_in; decide) ?_
    exact rn_iret dX12_restore_46 rfl ⟨rfl, hR, _, rfl, V⟩
  · replace V := V.2 c4
    refine rn_aload_n dX12_restore_22 rfl rfl ?_
    refine rn_get (v := .inr (.inr (some 95))) dX12_restore_23 fl_X12_7 rfl rfl (congrArg (fun z => (Sum.inr (Sum.inr z) : MV)) (rf_94_0 hR)) ?_
    refine rn_iload_n dX12_restore_26 rfl rfl ?_
    refine rn_aload_n dX12_restore_27 rfl rfl ?_
    refine rn_get (v := .inr (.inr (some 96))) dX12_restore_28 fl_X12_13 rfl rfl (congrArg (fun z => (Sum.inr (Sum.inr z) : MV)) (rf_94_1 hR)) ?_
    refine rn_iload_n dX12_restore_31 rfl rfl ?_
    obtain ⟨g0, V⟩ := V
    refine rn_iald (k := (Int32.toNatClampNeg l1)) dX12_restore_32 rfl rfl g0 ?_
    obtain ⟨g0, V⟩ := V
    refine rn_iast (k := (Int32.toNatClampNeg l1)) dX12_restore_33 rfl rfl g0 ?_
    refine rn_iinc (L' := [(1, .inl (l1 + 1)), (0, .inr (.inr (some 94)))]) dX12_restore_34 rfl (v := (l1 + 1)) rfl (Nat.le_of_ble_eq_true rfl) rfl ?_
    refine rn_goto (tgt := 15) dX12_restore_37 (by decide) ?_
    refine rn_sub [1, 0] (L' := [(0, .inr (.inr (some 94))), (1, .inl (l1 + 1))]) rfl ?_
    exact V
set_option maxRecDepth 100000 in
set_option maxHeartbeats 4000000 in
theorem vc_X12_restore {G : GT} {d : Nat}   {h : Hp} {Q : Int32 → Hp → Prop} (hR : RF h) (V : ((¬ h.1 94 3 = 0 → Rg_X12_restore_15 G d 0 h Q) ∧ (h.1 94 3 = 0 → EvI G d mX12_finds [.inr (.inr (some 94)), .inl 2] h (fun x3 h2 => Q x3 h2)))) : EvI G (d + 1) mX12_restore [.inr (.inr (some 94))] h Q := by
  refine Ev.of rfl (fun _ => Nat.le_of_ble_eq_true rfl) ?_
  show Rn G (d + 1) 0 0 mX12_restore 0 [(0, .inr (.inr (some 94)))] [] SH h (QI Q)
  refine rn_aload_n dX12_restore_0 rfl rfl ?_
  refine rn_get (v := .inl (h.1 94 3)) dX12_restore_1 fl_X12_349 rfl rfl rfl ?_
  refine rn_if_ne (tgt := 13) dX12_restore_4 (by decide) (fun c1 => ?_) (fun c1 => ?_)
  · replace V := V.1 c1
    refine rn_iconst (v := 0) dX12_restore_13 (by decide) ?_
    refine rn_istore_n (L' := [(1, .inl 0), (0, .inr (.inr (some 94)))]) dX12_restore_14 rfl (Nat.le_of_ble_eq_true rfl) rfl ?_
    refine rn_sub [1, 0] (L' := [(0, .inr (.inr (some 94))), (1, .inl 0)]) rfl ?_
    exact V
  · replace V := V.2 c1
    refine rn_aload_n dX12_restore_7 rfl rfl ?_
    refine rn_iconst (v := 2) dX12_restore_8 (by decide) ?_
    refine rn_cV (M' := mX12_finds) (n := 1) (av := [.inl 2]) (S := []) (rc := 0) (rs := 0) (mc := 0) (ms := 0) (a := 94) (ci := 11) (r := (RX12, TX12, 38)) dX12_restore_9 pa_X12_finds (Nat.le_refl _) rfl (Nat.le_of_ble_eq_true rfl) ml_X12_143 im_X12_finds se_X12_finds rfl rfl rfl (Ev.mono V ?_)
    rintro v sh1 h2 ⟨rfl, Rh2, x3, rfl, V⟩
    show Rn G (d + 1) 0 0 mX12_restore 12 [(0, .inr (.inr (some 94)))] [.inl x3] SH h2 (QI Q)
    exact rn_iret dX12_restore_12 rfl ⟨rfl, Rh2, _, rfl, V⟩
set_option maxRecDepth 100000 in
set_option maxHeartbeats 4000000 in
theorem vc_X12_tell {G : GT} {d : Nat} {a1 : Int32}  {h : Hp} {Q : Int32 → Hp → Prop} (hR : RF h) (V : ((¬ h.1 95 9 = 20 → vp_in (92 + h.1 95 9) 264 ∧ Q ((sI h 95 (Int32.toNatClampNeg (92 + h.1 95 9)) a1).1 95 9 + 1) (sI (sI h 95 (Int32.toNatClampNeg (92 + h.1 95 9)) a1) 95 9 ((sI h 95 (Int32.toNatClampNeg (92 + h.1 95 9)) a1).1 95 9 + 1))) ∧ (h.1 95 9 = 20 → EvI G d mX12_finds [.inr (.inr (some 94)), .inl 4] h (fun x3 h2 => Q x3 h2)))) : EvI G (d + 1) mX12_tell [.inr (.inr (some 94)), .inl a1] h Q := by
  refine Ev.of rfl (fun _ => Nat.le_of_ble_eq_true rfl) ?_
  show Rn G (d + 1) 0 0 mX12_tell 0 [(0, .inr (.inr (some 94))), (1, .inl a1)] [] SH h (QI Q)
  refine rn_aload_n dX12_tell_0 rfl rfl ?_
  refine rn_get (v := .inr (.inr (some 95))) dX12_tell_1 fl_X12_7 rfl rfl (congrArg (fun z => (Sum.inr (Sum.inr z) : MV)) (rf_94_0 hR)) ?_
  refine rn_bipush (v := 9) dX12_tell_4 (by decide) ?_
  refine rn_iald (k := 9) dX12_tell_6 rfl (by decide) (by unfold vp_in; decide) ?_
  refine rn_bipush (v := 20) dX12_tell_7 (by decide) ?_
  refine rn_icmp_ne (tgt := 18) dX12_tell_9 (by decide) (fun c1 => ?_) (fun c1 => ?_)
  · replace V := V.1 c1
    refine rn_aload_n dX12_tell_18 rfl rfl ?_
    refine rn_get (v := .inr (.inr (some 95))) dX12_tell_19 fl_X12_7 rfl rfl (congrArg (fun z => (Sum.inr (Sum.inr z) : MV)) (rf_94_0 hR)) ?_
    refine rn_bipush (v := 92) dX12_tell_22 (by decide) ?_
    refine rn_aload_n dX12_tell_24 rfl rfl ?_
    refine rn_get (v := .inr (.inr (some 95))) dX12_tell_25 fl_X12_7 rfl rfl (congrArg (fun z => (Sum.inr (Sum.inr z) : MV)) (rf_94_0 hR)) ?_
    refine rn_bipush (v := 9) dX12_tell_28 (by decide) ?_
    refine rn_iald (k := 9) dX12_tell_30 rfl (by decide) (by unfold vp_in; decide) ?_
    refine rn_iadd dX12_tell_31 ?_
    refine rn_iload_n dX12_tell_32 rfl rfl ?_
    obtain ⟨g0, V⟩ := V
    refine rn_iast (k := (Int32.toNatClampNeg (92 + h.1 95 9))) dX12_tell_33 rfl rfl g0 ?_
    refine rn_aload_n dX12_tell_34 rfl rfl ?_
    refine rn_get (v := .inr (.inr (some 95))) dX12_tell_35 fl_X12_7 rfl rfl (congrArg (fun z => (Sum.inr (Sum.inr z) : MV)) (rf_94_0 hR)) ?_
    refine rn_bipush (v := 9) dX12_tell_38 (by decide) ?_
    refine rn_dup2 dX12_tell_40 rfl rfl ?_
    refine rn_iald (k := 9) dX12_tell_41 rfl (by decide) (by unfold vp_in; decide) ?_
    refine rn_iconst (v := 1) dX12_tell_42 (by decide) ?_
    refine rn_iadd dX12_tell_43 ?_
    refine rn_iast (k := 9) dX12_tell_44 rfl (by decide) (by unfold vp_in; decide) ?_
    refine rn_aload_n dX12_tell_45 rfl rfl ?_
    refine rn_get (v := .inr (.inr (some 95))) dX12_tell_46 fl_X12_7 rfl rfl (congrArg (fun z => (Sum.inr (Sum.inr z) : MV)) (rf_94_0 hR)) ?_
    refine rn_bipush (v := 9) dX12_tell_49 (by decide) ?_
    refine rn_iald (k := 9) dX12_tell_51 rfl (by decide) (by unfold vp_in; decide) ?_
    exact rn_iret dX12_tell_52 rfl ⟨rfl, hR, _, rfl, V⟩
  · replace V := V.2 c1
    refine rn_aload_n dX12_tell_12 rfl rfl ?_
    refine rn_iconst (v := 4) dX12_tell_13 (by decide) ?_
    refine rn_cV (M' := mX12_finds) (n := 1) (av := [.inl 4]) (S := []) (rc := 0) (rs := 0) (mc := 0) (ms := 0) (a := 94) (ci := 11) (r := (RX12, TX12, 38)) dX12_tell_14 pa_X12_finds (Nat.le_refl _) rfl (Nat.le_of_ble_eq_true rfl) ml_X12_143 im_X12_finds se_X12_finds rfl rfl rfl (Ev.mono V ?_)
    rintro v sh1 h2 ⟨rfl, Rh2, x3, rfl, V⟩
    show Rn G (d + 1) 0 0 mX12_tell 17 [(0, .inr (.inr (some 94))), (1, .inl a1)] [.inl x3] SH h2 (QI Q)
    exact rn_iret dX12_tell_17 rfl ⟨rfl, Rh2, _, rfl, V⟩
def Rg_X12_check_24 (G : GT) (d : Nat) (l1 : Int32) (l2 : Int32) (l3 : Int32) (h : Hp) (Q : Int32 → Hp → Prop) : Prop := Rn G (d + 1) 0 0 mX12_check 24 [(0, .inr (.inr (some 94))), (1, .inl l1), (2, .inl l2), (3, .inl l3)] [] SH h (QI Q)
set_option maxRecDepth 100000 in
set_option maxHeartbeats 4000000 in
theorem vc_X12_check_24 {G : GT} {d : Nat} {l1 : Int32} {l2 : Int32} {l3 : Int32}  {h : Hp} {Q : Int32 → Hp → Prop} (hR : RF h) (V : ((l1 ≤ l2 → EvV G d mX12_putBack [.inr (.inr (some 94))] h (fun h3 => ((¬ l2 = l1 → Q (1 + l2) h3) ∧ (l2 = l1 → Q 0 h3)))) ∧ (¬ l1 ≤ l2 → ((l3 = 0 → EvV G d mX12_putBack [.inr (.inr (some 94))] h (fun h6 => ((¬ l2 = l1 → Q (1 + l2) h6) ∧ (l2 = l1 → Q 0 h6)))) ∧ (¬ l3 = 0 → EvV G d mX12_aSecond [.inr (.inr (some 94))] h (fun h8 => vp_in (92 + l2) 264 ∧ ((¬ h8.1 95 4 = h8.1 95 (Int32.toNatClampNeg (92 + l2)) → Rg_X12_check_24 G d l1 (l2 + 0) 0 h8 Q) ∧ (h8.1 95 4 = h8.1 95 (Int32.toNatClampNeg (92 + l2)) → Rg_X12_check_24 G d l1 (l2 + 1) 1 h8 Q)))))))) : Rg_X12_check_24 G d l1 l2 l3 h Q := by
  show Rn G (d + 1) 0 0 mX12_check 24 [(0, .inr (.inr (some 94))), (1, .inl l1), (2, .inl l2), (3, .inl l3)] [] SH h (QI Q)
  refine rn_iload_n dX12_check_24 rfl rfl ?_
  refine rn_iload_n dX12_check_25 rfl rfl ?_
  refine rn_icmp_ge (tgt := 76) dX12_check_26 (by decide) (fun c2 => ?_) (fun c2 => ?_)
  · replace V := V.1 c2
    refine rn_aload_n dX12_check_76 rfl rfl ?_
    refine rn_cV (M' := mX12_putBack) (n := 0) (av := []) (S := []) (rc := 0) (rs := 0) (mc := 0) (ms := 0) (a := 94) (ci := 11) (r := (RX12, TX12, 38)) dX12_check_77 pa_X12_putBack (Nat.le_refl _) rfl (Nat.le_of_ble_eq_true rfl) ml_X12_247 im_X12_putBack se_X12_putBack rfl rfl rfl (Ev.mono V ?_)
    rintro v sh1 h3 ⟨rfl, Rh3, rfl, V⟩
    show Rn G (d + 1) 0 0 mX12_check 80 [(0, .inr (.inr (some 94))), (1, .inl l1), (2, .inl l2), (3, .inl l3)] [] SH h3 (QI Q)
    refine rn_iload_n dX12_check_80 rfl rfl ?_
    refine rn_iload_n dX12_check_81 rfl rfl ?_
    refine rn_icmp_ne (tgt := 89) dX12_check_82 (by decide) (fun c4 => ?_) (fun c4 => ?_)
    · replace V := V.1 c4
      refine rn_iconst (v := 1) dX12_check_89 (by decide) ?_
      refine rn_iload_n dX12_check_90 rfl rfl ?_
      refine rn_iadd dX12_check_91 ?_
      exact rn_iret dX12_check_92 rfl ⟨rfl, Rh3, _, rfl, V⟩
    · replace V := V.2 c4
      refine rn_iconst (v := 0) dX12_check_85 (by decide) ?_
      refine rn_goto (tgt := 92) dX12_check_86 (by decide) ?_
      exact rn_iret dX12_check_92 rfl ⟨rfl, Rh3, _, rfl, V⟩
  · replace V := V.2 c2
    refine rn_iload_n dX12_check_29 rfl rfl ?_
    refine rn_if_eq (tgt := 76) dX12_check_30 (by decide) (fun c5 => ?_) (fun c5 => ?_)
    · replace V := V.1 c5
      refine rn_aload_n dX12_check_76 rfl rfl ?_
      refine rn_cV (M' := mX12_putBack) (n := 0) (av := []) (S := []) (rc := 0) (rs := 0) (mc := 0) (ms := 0) (a := 94) (ci := 11) (r := (RX12, TX12, 38)) dX12_check_77 pa_X12_putBack (Nat.le_refl _) rfl (Nat.le_of_ble_eq_true rfl) ml_X12_247 im_X12_putBack se_X12_putBack rfl rfl rfl (Ev.mono V ?_)
      rintro v sh1 h6 ⟨rfl, Rh6, rfl, V⟩
      show Rn G (d + 1) 0 0 mX12_check 80 [(0, .inr (.inr (some 94))), (1, .inl l1), (2, .inl l2), (3, .inl l3)] [] SH h6 (QI Q)
      refine rn_iload_n dX12_check_80 rfl rfl ?_
      refine rn_iload_n dX12_check_81 rfl rfl ?_
      refine rn_icmp_ne (tgt := 89) dX12_check_82 (by decide) (fun c7 => ?_) (fun c7 => ?_)
      · replace V := V.1 c7
        refine rn_iconst (v := 1) dX12_check_89 (by decide) ?_
        refine rn_iload_n dX12_check_90 rfl rfl ?_
        refine rn_iadd dX12_check_91 ?_
        exact rn_iret dX12_check_92 rfl ⟨rfl, Rh6, _, rfl, V⟩
      · replace V := V.2 c7
        refine rn_iconst (v := 0) dX12_check_85 (by decide) ?_
        refine rn_goto (tgt := 92) dX12_check_86 (by decide) ?_
        exact rn_iret dX12_check_92 rfl ⟨rfl, Rh6, _, rfl, V⟩
    · replace V := V.2 c5
      refine rn_aload_n dX12_check_33 rfl rfl ?_
      refine rn_cV (M' := mX12_aSecond) (n := 0) (av := []) (S := []) (rc := 0) (rs := 0) (mc := 0) (ms := 0) (a := 94) (ci := 11) (r := (RX12, TX12, 38)) dX12_check_34 pa_X12_aSecond (Nat.le_refl _) rfl (Nat.le_of_ble_eq_true rfl) ml_X12_235 im_X12_aSecond se_X12_aSecond rfl rfl rfl (Ev.mono V ?_)
      rintro v sh1 h8 ⟨rfl, Rh8, rfl, V⟩
      show Rn G (d + 1) 0 0 mX12_check 37 [(0, .inr (.inr (some 94))), (1, .inl l1), (2, .inl l2), (3, .inl l3)] [] SH h8 (QI Q)
      refine rn_aload_n dX12_check_37 rfl rfl ?_
      refine rn_get (v := .inr (.inr (some 95))) dX12_check_38 fl_X12_7 rfl rfl (congrArg (fun z => (Sum.inr (Sum.inr z) : MV)) (rf_94_0 Rh8)) ?_
      refine rn_iconst (v := 4) dX12_check_41 (by decide) ?_
      refine rn_iald (k := 4) dX12_check_42 rfl (by decide) (by unfold vp_in; decide) ?_
      refine rn_aload_n dX12_check_43 rfl rfl ?_
      refine rn_get (v := .inr (.inr (some 95))) dX12_check_44 fl_X12_7 rfl rfl (congrArg (fun z => (Sum.inr (Sum.inr z) : MV)) (rf_94_0 Rh8)) ?_
      refine rn_bipush (v := 92) dX12_check_47 (by decide) ?_
      refine rn_iload_n dX12_check_49 rfl rfl ?_
      refine rn_iadd dX12_check_50 ?_
      obtain ⟨g0, V⟩ := V
      refine rn_iald (k := (Int32.toNatClampNeg (92 + l2))) dX12_check_51 rfl rfl g0 ?_
      refine rn_icmp_ne (tgt := 59) dX12_check_52 (by decide) (fun c9 => ?_) (fun c9 => ?_)
      · replace V := V.1 c9
        refine rn_iconst (v := 0) dX12_check_59 (by decide) ?_
        refine rn_istore_n (L' := [(3, .inl 0), (0, .inr (.inr (some 94))), (1, .inl l1), (2, .inl l2)]) dX12_check_60 rfl (Nat.le_of_ble_eq_true rfl) rfl ?_
        refine rn_iload_n dX12_check_61 rfl rfl ?_
        refine rn_iload_n dX12_check_62 rfl rfl ?_
        refine rn_if_eq (tgt := 70) dX12_check_63 (by decide) (fun c10 => ?_) (fun c10 => ?_)
        rotate_left
        · exact absurd (by decide) c10
        refine rn_iconst (v := 0) dX12_check_70 (by decide) ?_
        refine rn_iadd dX12_check_71 ?_
        refine rn_istore_n (L' := [(2, .inl (l2 + 0)), (3, .inl 0), (0, .inr (.inr (some 94))), (1, .inl l1)]) dX12_check_72 rfl (Nat.le_of_ble_eq_true rfl) rfl ?_
        refine rn_goto (tgt := 24) dX12_check_73 (by decide) ?_
        refine rn_sub [2, 3, 0, 1] (L' := [(0, .inr (.inr (some 94))), (1, .inl l1), (2, .inl (l2 + 0)), (3, .inl 0)]) rfl ?_
        exact V
      · replace V := V.2 c9
        refine rn_iconst (v := 1) dX12_check_55 (by decide) ?_
        refine rn_goto (tgt := 60) dX12_check_56 (by decide) ?_
        refine rn_istore_n (L' := [(3, .inl 1), (0, .inr (.inr (some 94))), (1, .inl l1), (2, .inl l2)]) dX12_check_60 rfl (Nat.le_of_ble_eq_true rfl) rfl ?_
        refine rn_iload_n dX12_check_61 rfl rfl ?_
        refine rn_iload_n dX12_check_62 rfl rfl ?_
        refine rn_if_eq (tgt := 70) dX12_check_63 (by decide) (fun c11 => ?_) (fun c11 => ?_)
        · exact absurd c11 (by decide)
        refine rn_iconst (v := 1) dX12_check_66 (by decide) ?_
        refine rn_goto (tgt := 71) dX12_check_67 (by decide) ?_
        refine rn_iadd dX12_check_71 ?_
        refine rn_istore_n (L' := [(2, .inl (l2 + 1)), (3, .inl 1), (0, .inr (.inr (some 94))), (1, .inl l1)]) dX12_check_72 rfl (Nat.le_of_ble_eq_true rfl) rfl ?_
        refine rn_goto (tgt := 24) dX12_check_73 (by decide) ?_
        refine rn_sub [2, 3, 0, 1] (L' := [(0, .inr (.inr (some 94))), (1, .inl l1), (2, .inl (l2 + 1)), (3, .inl 1)]) rfl ?_
        exact V
set_option maxRecDepth 100000 in
set_option maxHeartbeats 4000000 in
theorem vc_X12_check {G : GT} {d : Nat}   {h : Hp} {Q : Int32 → Hp → Prop} (hR : RF h) (V : EvV G d mX12_keepAside [.inr (.inr (some 94))] (sI h 95 9 0) (fun h1 => Rg_X12_check_24 G d (h.1 95 9) 0 1 h1 Q)) : EvI G (d + 1) mX12_check [.inr (.inr (some 94))] h Q := by
  refine Ev.of rfl (fun _ => Nat.le_of_ble_eq_true rfl) ?_
  show Rn G (d + 1) 0 0 mX12_check 0 [(0, .inr (.inr (some 94)))] [] SH h (QI Q)
  refine rn_aload_n dX12_check_0 rfl rfl ?_
  refine rn_get (v := .inr (.inr (some 95))) dX12_check_1 fl_X12_7 rfl rfl (congrArg (fun z => (Sum.inr (Sum.inr z) : MV)) (rf_94_0 hR)) ?_
  refine rn_bipush (v := 9) dX12_check_4 (by decide) ?_
  refine rn_iald (k := 9) dX12_check_6 rfl (by decide) (by unfold vp_in; decide) ?_
  refine rn_istore_n (L' := [(1, .inl (h.1 95 9)), (0, .inr (.inr (some 94)))]) dX12_check_7 rfl (Nat.le_of_ble_eq_true rfl) rfl ?_
  refine rn_aload_n dX12_check_8 rfl rfl ?_
  refine rn_get (v := .inr (.inr (some 95))) dX12_check_9 fl_X12_7 rfl rfl (congrArg (fun z => (Sum.inr (Sum.inr z) : MV)) (rf_94_0 hR)) ?_
  refine rn_bipush (v := 9) dX12_check_12 (by decide) ?_
  refine rn_iconst (v := 0) dX12_check_14 (by decide) ?_
  refine rn_iast (k := 9) dX12_check_15 rfl (by decide) (by unfold vp_in; decide) ?_
  refine rn_aload_n dX12_check_16 rfl rfl ?_
  refine rn_cV (M' := mX12_keepAside) (n := 0) (av := []) (S := []) (rc := 0) (rs := 0) (mc := 0) (ms := 0) (a := 94) (ci := 11) (r := (RX12, TX12, 38)) dX12_check_17 pa_X12_keepAside (Nat.le_refl _) rfl (Nat.le_of_ble_eq_true rfl) ml_X12_244 im_X12_keepAside se_X12_keepAside rfl rfl rfl (Ev.mono V ?_)
  rintro v sh1 h1 ⟨rfl, Rh1, rfl, V⟩
  show Rn G (d + 1) 0 0 mX12_check 20 [(1, .inl (h.1 95 9)), (0, .inr (.inr (some 94)))] [] SH h1 (QI Q)
  refine rn_iconst (v := 0) dX12_check_20 (by decide) ?_
  refine rn_istore_n (L' := [(2, .inl 0), (1, .inl (h.1 95 9)), (0, .inr (.inr (some 94)))]) dX12_check_21 rfl (Nat.le_of_ble_eq_true rfl) rfl ?_
  refine rn_iconst (v := 1) dX12_check_22 (by decide) ?_
  refine rn_istore_n (L' := [(3, .inl 1), (2, .inl 0), (1, .inl (h.1 95 9)), (0, .inr (.inr (some 94)))]) dX12_check_23 rfl (Nat.le_of_ble_eq_true rfl) rfl ?_
  refine rn_sub [3, 2, 1, 0] (L' := [(0, .inr (.inr (some 94))), (1, .inl (h.1 95 9)), (2, .inl 0), (3, .inl 1)]) rfl ?_
  exact V
def Rg_X12_waterOfAll_4 (G : GT) (d : Nat) (l1 : Int32) (l2 : Int32) (h : Hp) (Q : Int32 → Hp → Prop) : Prop := Rn G (d + 1) 0 0 mX12_waterOfAll 4 [(0, .inr (.inr (some 94))), (1, .inl l1), (2, .inl l2)] [] SH h (QI Q)
set_option maxRecDepth 100000 in
set_option maxHeartbeats 4000000 in
theorem vc_X12_waterOfAll_4 {G : GT} {d : Nat} {l1 : Int32} {l2 : Int32}  {h : Hp} {Q : Int32 → Hp → Prop} (hR : RF h) (V : ((h.1 95 0 ≤ l2 → Q l1 h) ∧ (¬ h.1 95 0 ≤ l2 → EvI G d mX12_of [.inr (.inr (some 94)), .inl l2, .inl 3] h (fun x3 h2 => Rg_X12_waterOfAll_4 G d (l1 + x3) (l2 + 1) h2 Q)))) : Rg_X12_waterOfAll_4 G d l1 l2 h Q := by
  show Rn G (d + 1) 0 0 mX12_waterOfAll 4 [(0, .inr (.inr (some 94))), (1, .inl l1), (2, .inl l2)] [] SH h (QI Q)
  refine rn_iload_n dX12_waterOfAll_4 rfl rfl ?_
  refine rn_aload_n dX12_waterOfAll_5 rfl rfl ?_
  refine rn_get (v := .inr (.inr (some 95))) dX12_waterOfAll_6 fl_X12_7 rfl rfl (congrArg (fun z => (Sum.inr (Sum.inr z) : MV)) (rf_94_0 hR)) ?_
  refine rn_iconst (v := 0) dX12_waterOfAll_9 (by decide) ?_
  refine rn_iald (k := 0) dX12_waterOfAll_10 rfl (by decide) (by unfold vp_in; decide) ?_
  refine rn_icmp_ge (tgt := 29) dX12_waterOfAll_11 (by decide) (fun c1 => ?_) (fun c1 => ?_)
  · replace V := V.1 c1
    refine rn_iload_n dX12_waterOfAll_29 rfl rfl ?_
    exact rn_iret dX12_waterOfAll_30 rfl ⟨rfl, hR, _, rfl, V⟩
  · replace V := V.2 c1
    refine rn_iload_n dX12_waterOfAll_14 rfl rfl ?_
    refine rn_aload_n dX12_waterOfAll_15 rfl rfl ?_
    refine rn_iload_n dX12_waterOfAll_16 rfl rfl ?_
    refine rn_iconst (v := 3) dX12_waterOfAll_17 (by decide) ?_
    refine rn_cV (M' := mX12_of) (n := 2) (av := [.inl l2, .inl 3]) (S := [.inl l1]) (rc := 0) (rs := 0) (mc := 0) (ms := 0) (a := 94) (ci := 11) (r := (RX12, TX12, 38)) dX12_waterOfAll_18 pa_X12_of (Nat.le_refl _) rfl (Nat.le_of_ble_eq_true rfl) ml_X12_161 im_X12_of se_X12_of rfl rfl rfl (Ev.mono V ?_)
    rintro v sh1 h2 ⟨rfl, Rh2, x3, rfl, V⟩
    show Rn G (d + 1) 0 0 mX12_waterOfAll 21 [(0, .inr (.inr (some 94))), (1, .inl l1), (2, .inl l2)] [.inl x3, .inl l1] SH h2 (QI Q)
    refine rn_iadd dX12_waterOfAll_21 ?_
    refine rn_istore_n (L' := [(1, .inl (l1 + x3)), (0, .inr (.inr (some 94))), (2, .inl l2)]) dX12_waterOfAll_22 rfl (Nat.le_of_ble_eq_true rfl) rfl ?_
    refine rn_iinc (L' := [(2, .inl (l2 + 1)), (1, .inl (l1 + x3)), (0, .inr (.inr (some 94)))]) dX12_waterOfAll_23 rfl (v := (l2 + 1)) rfl (Nat.le_of_ble_eq_true rfl) rfl ?_
    refine rn_goto (tgt := 4) dX12_waterOfAll_26 (by decide) ?_
    refine rn_sub [2, 1, 0] (L' := [(0, .inr (.inr (some 94))), (1, .inl (l1 + x3)), (2, .inl (l2 + 1))]) rfl ?_
    exact V
set_option maxRecDepth 100000 in
set_option maxHeartbeats 4000000 in
theorem vc_X12_waterOfAll {G : GT} {d : Nat}   {h : Hp} {Q : Int32 → Hp → Prop} (hR : RF h) (V : Rg_X12_waterOfAll_4 G d 0 0 h Q) : EvI G (d + 1) mX12_waterOfAll [.inr (.inr (some 94))] h Q := by
  refine Ev.of rfl (fun _ => Nat.le_of_ble_eq_true rfl) ?_
  show Rn G (d + 1) 0 0 mX12_waterOfAll 0 [(0, .inr (.inr (some 94)))] [] SH h (QI Q)
  refine rn_iconst (v := 0) dX12_waterOfAll_0 (by decide) ?_
  refine rn_istore_n (L' := [(1, .inl 0), (0, .inr (.inr (some 94)))]) dX12_waterOfAll_1 rfl (Nat.le_of_ble_eq_true rfl) rfl ?_
  refine rn_iconst (v := 0) dX12_waterOfAll_2 (by decide) ?_
  refine rn_istore_n (L' := [(2, .inl 0), (1, .inl 0), (0, .inr (.inr (some 94)))]) dX12_waterOfAll_3 rfl (Nat.le_of_ble_eq_true rfl) rfl ?_
  refine rn_sub [2, 1, 0] (L' := [(0, .inr (.inr (some 94))), (1, .inl 0), (2, .inl 0)]) rfl ?_
  exact V
set_option maxRecDepth 100000 in
set_option maxHeartbeats 4000000 in
theorem vc_X12_count {G : GT} {d : Nat} {a1 : Int32}  {h : Hp} {Q : Int32 → Hp → Prop} (hR : RF h) (V : ((((a1).toInt = 0 + (0 : Nat) → Q (h.1 95 0) h) ∧ ((a1).toInt = 0 + (1 : Nat) → Q (h.1 95 1) h) ∧ ((a1).toInt = 0 + (2 : Nat) → Q (h.1 95 3) h) ∧ ((a1).toInt = 0 + (3 : Nat) → Q (h.1 95 4) h) ∧ ((a1).toInt = 0 + (4 : Nat) → Q (h.1 95 5) h) ∧ ((a1).toInt = 0 + (5 : Nat) → Q (h.1 95 6 - 1) h) ∧ ((a1).toInt = 0 + (6 : Nat) → Q (h.1 95 7) h) ∧ ((a1).toInt = 0 + (7 : Nat) → EvI G d mX12_waterOfAll [.inr (.inr (some 94))] h (fun x4 h3 => Q x4 h3)) ∧ ((a1).toInt = 0 + (8 : Nat) → Q (h.1 95 8) h) ∧ ((a1).toInt = 0 + (9 : Nat) → Q (h.1 95 9) h) ∧ ((a1).toInt = 0 + (10 : Nat) → Q (h.1 94 32) h) ∧ ((a1).toInt = 0 + (11 : Nat) → Q (h.1 95 2) h)) ∧ ((a1).toInt < 0 ∨ 11 < (a1).toInt → EvI G d mX12_finds [.inr (.inr (some 94)), .inl 1] h (fun x6 h5 => Q x6 h5)))) : EvI G (d + 1) mX12_count [.inr (.inr (some 94)), .inl a1] h Q := by
  refine Ev.of rfl (fun _ => Nat.le_of_ble_eq_true rfl) ?_
  show Rn G (d + 1) 0 0 mX12_count 0 [(0, .inr (.inr (some 94))), (1, .inl a1)] [] SH h (QI Q)
  refine rn_iload_n dX12_count_0 rfl rfl ?_
  refine rn_tsw (td := 150) [64, 71, 78, 85, 92, 99, 109, 117, 122, 130, 138, 143] dX12_count_1 (by decide) (by decide +kernel) (by decide) (fun i2 hi c1 => ?_) (fun c1 => ?_)
  · replace V := V.1
    match i2, hi, c1 with
    | 0, _, c1 =>
      replace V := V.1 c1
      show Rn G (d + 1) 0 0 mX12_count 64 [(0, .inr (.inr (some 94))), (1, .inl a1)] [] SH h (QI Q)
      refine rn_aload_n dX12_count_64 rfl rfl ?_
      refine rn_get (v := .inr (.inr (some 95))) dX12_count_65 fl_X12_7 rfl rfl (congrArg (fun z => (Sum.inr (Sum.inr z) : MV)) (rf_94_0 hR)) ?_
      refine rn_iconst (v := 0) dX12_count_68 (by decide) ?_
      refine rn_iald (k := 0) dX12_count_69 rfl (by decide) (by unfold vp_in; decide) ?_
      exact rn_iret dX12_count_70 rfl ⟨rfl, hR, _, rfl, V⟩
    | 1, _, c1 =>
      replace V := V.2.1 c1
      show Rn G (d + 1) 0 0 mX12_count 71 [(0, .inr (.inr (some 94))), (1, .inl a1)] [] SH h (QI Q)
      refine rn_aload_n dX12_count_71 rfl rfl ?_
      refine rn_get (v := .inr (.inr (some 95))) dX12_count_72 fl_X12_7 rfl rfl (congrArg (fun z => (Sum.inr (Sum.inr z) : MV)) (rf_94_0 hR)) ?_
      refine rn_iconst (v := 1) dX12_count_75 (by decide) ?_
      refine rn_iald (k := 1) dX12_count_76 rfl (by decide) (by unfold vp_in; decide) ?_
      exact rn_iret dX12_count_77 rfl ⟨rfl, hR, _, rfl, V⟩
    | 2, _, c1 =>
      replace V := V.2.2.1 c1
      show Rn G (d + 1) 0 0 mX12_count 78 [(0, .inr (.inr (some 94))), (1, .inl a1)] [] SH h (QI Q)
      refine rn_aload_n dX12_count_78 rfl rfl ?_
      refine rn_get (v := .inr (.inr (some 95))) dX12_count_79 fl_X12_7 rfl rfl (congrArg (fun z => (Sum.inr (Sum.inr z) : MV)) (rf_94_0 hR)) ?_
      refine rn_iconst (v := 3) dX12_count_82 (by decide) ?_
      refine rn_iald (k := 3) dX12_count_83 rfl (by decide) (by unfold vp_in; decide) ?_
      exact rn_iret dX12_count_84 rfl ⟨rfl, hR, _, rfl, V⟩
    | 3, _, c1 =>
      replace V := V.2.2.2.1 c1
      show Rn G (d + 1) 0 0 mX12_count 85 [(0, .inr (.inr (some 94))), (1, .inl a1)] [] SH h (QI Q)
      refine rn_aload_n dX12_count_85 rfl rfl ?_
      refine rn_get (v := .inr (.inr (some 95))) dX12_count_86 fl_X12_7 rfl rfl (congrArg (fun z => (Sum.inr (Sum.inr z) : MV)) (rf_94_0 hR)) ?_
      refine rn_iconst (v := 4) dX12_count_89 (by decide) ?_
      refine rn_iald (k := 4) dX12_count_90 rfl (by decide) (by unfold vp_in; decide) ?_
      exact rn_iret dX12_count_91 rfl ⟨rfl, hR, _, rfl, V⟩
    | 4, _, c1 =>
      replace V := V.2.2.2.2.1 c1
      show Rn G (d + 1) 0 0 mX12_count 92 [(0, .inr (.inr (some 94))), (1, .inl a1)] [] SH h (QI Q)
      refine rn_aload_n dX12_count_92 rfl rfl ?_
      refine rn_get (v := .inr (.inr (some 95))) dX12_count_93 fl_X12_7 rfl rfl (congrArg (fun z => (Sum.inr (Sum.inr z) : MV)) (rf_94_0 hR)) ?_
      refine rn_iconst (v := 5) dX12_count_96 (by decide) ?_
      refine rn_iald (k := 5) dX12_count_97 rfl (by decide) (by unfold vp_in; decide) ?_
      exact rn_iret dX12_count_98 rfl ⟨rfl, hR, _, rfl, V⟩
    | 5, _, c1 =>
      replace V := V.2.2.2.2.2.1 c1
      show Rn G (d + 1) 0 0 mX12_count 99 [(0, .inr (.inr (some 94))), (1, .inl a1)] [] SH h (QI Q)
      refine rn_aload_n dX12_count_99 rfl rfl ?_
      refine rn_get (v := .inr (.inr (some 95))) dX12_count_100 fl_X12_7 rfl rfl (congrArg (fun z => (Sum.inr (Sum.inr z) : MV)) (rf_94_0 hR)) ?_
      refine rn_bipush (v := 6) dX12_count_103 (by decide) ?_
      refine rn_iald (k := 6) dX12_count_105 rfl (by decide) (by unfold vp_in; decide) ?_
      refine rn_iconst (v := 1) dX12_count_106 (by decide) ?_
      refine rn_isub dX12_count_107 ?_
      exact rn_iret dX12_count_108 rfl ⟨rfl, hR, _, rfl, V⟩
    | 6, _, c1 =>
      replace V := V.2.2.2.2.2.2.1 c1
      show Rn G (d + 1) 0 0 mX12_count 109 [(0, .inr (.inr (some 94))), (1, .inl a1)] [] SH h (QI Q)
      refine rn_aload_n dX12_count_109 rfl rfl ?_
      refine rn_get (v := .inr (.inr (some 95))) dX12_count_110 fl_X12_7 rfl rfl (congrArg (fun z => (Sum.inr (Sum.inr z) : MV)) (rf_94_0 hR)) ?_
      refine rn_bipush (v := 7) dX12_count_113 (by decide) ?_
      refine rn_iald (k := 7) dX12_count_115 rfl (by decide) (by unfold vp_in; decide) ?_
      exact rn_iret dX12_count_116 rfl ⟨rfl, hR, _, rfl, V⟩
    | 7, _, c1 =>
      replace V := V.2.2.2.2.2.2.2.1 c1
      show Rn G (d + 1) 0 0 mX12_count 117 [(0, .inr (.inr (some 94))), (1, .inl a1)] [] SH h (QI Q)
      refine rn_aload_n dX12_count_117 rfl rfl ?_
      refine rn_cV (M' := mX12_waterOfAll) (n := 0) (av := []) (S := []) (rc := 0) (rs := 0) (mc := 0) (ms := 0) (a := 94) (ci := 11) (r := (RX12, TX12, 38)) dX12_count_118 pa_X12_waterOfAll (Nat.le_refl _) rfl (Nat.le_of_ble_eq_true rfl) ml_X12_352 im_X12_waterOfAll se_X12_waterOfAll rfl rfl rfl (Ev.mono V ?_)
      rintro v sh1 h3 ⟨rfl, Rh3, x4, rfl, V⟩
      show Rn G (d + 1) 0 0 mX12_count 121 [(0, .inr (.inr (some 94))), (1, .inl a1)] [.inl x4] SH h3 (QI Q)
      exact rn_iret dX12_count_121 rfl ⟨rfl, Rh3, _, rfl, V⟩
    | 8, _, c1 =>
      replace V := V.2.2.2.2.2.2.2.2.1 c1
      show Rn G (d + 1) 0 0 mX12_count 122 [(0, .inr (.inr (some 94))), (1, .inl a1)] [] SH h (QI Q)
      refine rn_aload_n dX12_count_122 rfl rfl ?_
      refine rn_get (v := .inr (.inr (some 95))) dX12_count_123 fl_X12_7 rfl rfl (congrArg (fun z => (Sum.inr (Sum.inr z) : MV)) (rf_94_0 hR)) ?_
      refine rn_bipush (v := 8) dX12_count_126 (by decide) ?_
      refine rn_iald (k := 8) dX12_count_128 rfl (by decide) (by unfold vp_in; decide) ?_
      exact rn_iret dX12_count_129 rfl ⟨rfl, hR, _, rfl, V⟩
    | 9, _, c1 =>
      replace V := V.2.2.2.2.2.2.2.2.2.1 c1
      show Rn G (d + 1) 0 0 mX12_count 130 [(0, .inr (.inr (some 94))), (1, .inl a1)] [] SH h (QI Q)
      refine rn_aload_n dX12_count_130 rfl rfl ?_
      refine rn_get (v := .inr (.inr (some 95))) dX12_count_131 fl_X12_7 rfl rfl (congrArg (fun z => (Sum.inr (Sum.inr z) : MV)) (rf_94_0 hR)) ?_
      refine rn_bipush (v := 9) dX12_count_134 (by decide) ?_
      refine rn_iald (k := 9) dX12_count_136 rfl (by decide) (by unfold vp_in; decide) ?_
      exact rn_iret dX12_count_137 rfl ⟨rfl, hR, _, rfl, V⟩
    | 10, _, c1 =>
      replace V := V.2.2.2.2.2.2.2.2.2.2.1 c1
      show Rn G (d + 1) 0 0 mX12_count 138 [(0, .inr (.inr (some 94))), (1, .inl a1)] [] SH h (QI Q)
      refine rn_aload_n dX12_count_138 rfl rfl ?_
      refine rn_get (v := .inl (h.1 94 32)) dX12_count_139 fl_X12_325 rfl rfl rfl ?_
      exact rn_iret dX12_count_142 rfl ⟨rfl, hR, _, rfl, V⟩
    | 11, _, c1 =>
      replace V := V.2.2.2.2.2.2.2.2.2.2.2 c1
      show Rn G (d + 1) 0 0 mX12_count 143 [(0, .inr (.inr (some 94))), (1, .inl a1)] [] SH h (QI Q)
      refine rn_aload_n dX12_count_143 rfl rfl ?_
      refine rn_get (v := .inr (.inr (some 95))) dX12_count_144 fl_X12_7 rfl rfl (congrArg (fun z => (Sum.inr (Sum.inr z) : MV)) (rf_94_0 hR)) ?_
      refine rn_iconst (v := 2) dX12_count_147 (by decide) ?_
      refine rn_iald (k := 2) dX12_count_148 rfl (by decide) (by unfold vp_in; decide) ?_
      exact rn_iret dX12_count_149 rfl ⟨rfl, hR, _, rfl, V⟩
    | n + 12, hi, _ => exact absurd hi (by simp)
  · replace V := V.2 c1
    refine rn_aload_n dX12_count_150 rfl rfl ?_
    refine rn_iconst (v := 1) dX12_count_151 (by decide) ?_
    refine rn_cV (M' := mX12_finds) (n := 1) (av := [.inl 1]) (S := []) (rc := 0) (rs := 0) (mc := 0) (ms := 0) (a := 94) (ci := 11) (r := (RX12, TX12, 38)) dX12_count_152 pa_X12_finds (Nat.le_refl _) rfl (Nat.le_of_ble_eq_true rfl) ml_X12_143 im_X12_finds se_X12_finds rfl rfl rfl (Ev.mono V ?_)
    rintro v sh1 h5 ⟨rfl, Rh5, x6, rfl, V⟩
    show Rn G (d + 1) 0 0 mX12_count 155 [(0, .inr (.inr (some 94))), (1, .inl a1)] [.inl x6] SH h5 (QI Q)
    exact rn_iret dX12_count_155 rfl ⟨rfl, Rh5, _, rfl, V⟩
set_option maxRecDepth 100000 in
set_option maxHeartbeats 4000000 in
theorem vc_X12_told {G : GT} {d : Nat} {a1 : Int32}  {h : Hp} {Q : Int32 → Hp → Prop} (hR : RF h) (V : EvI G d mX12_in [.inr (.inl (Int32.toInt64 a1)), .inr (.inl 1), .inr (.inl 5)] h (fun x2 h1 => ((x2 = 0 → EvI G d mX12_finds [.inr (.inr (some 94)), .inl 1] h1 (fun x5 h4 => Q x5 h4)) ∧ (¬ x2 = 0 → vp_in a1 6 ∧ Q (h1.1 98 (Int32.toNatClampNeg a1)) h1)))) : EvI G (d + 1) mX12_told [.inr (.inr (some 94)), .inl a1] h Q := by
  refine Ev.of rfl (fun _ => Nat.le_of_ble_eq_true rfl) ?_
  show Rn G (d + 1) 0 0 mX12_told 0 [(0, .inr (.inr (some 94))), (1, .inl a1)] [] SH h (QI Q)
  refine rn_iload_n dX12_told_0 rfl rfl ?_
  refine rn_i2l dX12_told_1 ?_
  refine rn_lconst (v := 1) dX12_told_2 rfl ?_
  refine rn_ldc2 (v := 5) dX12_told_3 cw_X12_355 ?_
  refine rn_cS (M' := mX12_in) (n := 3) (av := [.inr (.inl (Int32.toInt64 a1)), .inr (.inl 1), .inr (.inl 5)]) (S := []) (rc := 0) (rs := 0) (mc := 0) (ms := 0) dX12_told_6 pa_X12_in (Nat.le_refl _) rfl (Nat.le_of_ble_eq_true rfl) ml_X12_80 ss_X12_in rfl (Ev.mono V ?_)
  rintro v sh1 h1 ⟨rfl, Rh1, x2, rfl, V⟩
  show Rn G (d + 1) 0 0 mX12_told 9 [(0, .inr (.inr (some 94))), (1, .inl a1)] [.inl x2] SH h1 (QI Q)
  refine rn_if_eq (tgt := 21) dX12_told_9 (by decide) (fun c3 => ?_) (fun c3 => ?_)
  · replace V := V.1 c3
    refine rn_aload_n dX12_told_21 rfl rfl ?_
    refine rn_iconst (v := 1) dX12_told_22 (by decide) ?_
    refine rn_cV (M' := mX12_finds) (n := 1) (av := [.inl 1]) (S := []) (rc := 0) (rs := 0) (mc := 0) (ms := 0) (a := 94) (ci := 11) (r := (RX12, TX12, 38)) dX12_told_23 pa_X12_finds (Nat.le_refl _) rfl (Nat.le_of_ble_eq_true rfl) ml_X12_143 im_X12_finds se_X12_finds rfl rfl rfl (Ev.mono V ?_)
    rintro v sh1 h4 ⟨rfl, Rh4, x5, rfl, V⟩
    show Rn G (d + 1) 0 0 mX12_told 26 [(0, .inr (.inr (some 94))), (1, .inl a1)] [.inl x5] SH h4 (QI Q)
    exact rn_iret dX12_told_26 rfl ⟨rfl, Rh4, _, rfl, V⟩
  · replace V := V.2 c3
    refine rn_aload_n dX12_told_12 rfl rfl ?_
    refine rn_get (v := .inr (.inr (some 98))) dX12_told_13 fl_X12_19 rfl rfl (congrArg (fun z => (Sum.inr (Sum.inr z) : MV)) (rf_94_4 Rh1)) ?_
    refine rn_iload_n dX12_told_16 rfl rfl ?_
    obtain ⟨g0, V⟩ := V
    refine rn_iald (k := (Int32.toNatClampNeg a1)) dX12_told_17 rfl rfl g0 ?_
    refine rn_goto (tgt := 26) dX12_told_18 (by decide) ?_
    exact rn_iret dX12_told_26 rfl ⟨rfl, Rh1, _, rfl, V⟩
