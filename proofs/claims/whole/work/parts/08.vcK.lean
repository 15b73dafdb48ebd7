set_option maxRecDepth 100000 in
set_option maxHeartbeats 4000000 in
theorem vc_X4_above {G : GT} {d : Nat} {a0 : Int32}  {h : Hp} {Q : Int32 → Hp → Prop} (hR : RF h) (V : ((((a0).toInt = 1 + (0 : Nat) → Q 0 h) ∧ ((a0).toInt = 1 + (1 : Nat) → Q 0 h) ∧ ((a0).toInt = 1 + (2 : Nat) → Q 0 h) ∧ ((a0).toInt = 1 + (3 : Nat) → Q 1 h) ∧ ((a0).toInt = 1 + (4 : Nat) → Q 2 h) ∧ ((a0).toInt = 1 + (5 : Nat) → Q 3 h)) ∧ ((a0).toInt < 1 ∨ 6 < (a0).toInt → Q (-1) h))) : EvI G (d + 1) mX4_above [.inl a0] h Q := by
  refine Ev.of rfl (fun _ => Nat.le_of_ble_eq_true rfl) ?_
  show Rn G (d + 1) 0 0 mX4_above 0 [(0, .inl a0)] [] SH h (QI Q)
  refine rn_iload_n dX4_above_0 rfl rfl ?_
  refine rn_tsw (td := 48) [40, 40, 40, 42, 44, 46] dX4_above_1 (by decide) (by decide +kernel) (by decide) (fun i2 hi c1 => ?_) (fun c1 => ?_)
  · replace V := V.1
    match i2, hi, c1 with
    | 0, _, c1 =>
      replace V := V.1 c1
      show Rn G (d + 1) 0 0 mX4_above 40 [(0, .inl a0)] [] SH h (QI Q)
      refine rn_iconst (v := 0) dX4_above_40 (by decide) ?_
      exact rn_iret dX4_above_41 rfl ⟨rfl, hR, _, rfl, V⟩
    | 1, _, c1 =>
      replace V := V.2.1 c1
      show Rn G (d + 1) 0 0 mX4_above 40 [(0, .inl a0)] [] SH h (QI Q)
      refine rn_iconst (v := 0) dX4_above_40 (by decide) ?_
      exact rn_iret dX4_above_41 rfl ⟨rfl, hR, _, rfl, V⟩
    | 2, _, c1 =>
      replace V := V.2.2.1 c1
      show Rn G (d + 1) 0 0 mX4_above 40 [(0, .inl a0)] [] SH h (QI Q)
      refine rn_iconst (v := 0) dX4_above_40 (by decide) ?_
      exact rn_iret dX4_above_41 rfl ⟨rfl, hR, _, rfl, V⟩
    | 3, _, c1 =>
      replace V := V.2.2.2.1 c1
      show Rn G (d + 1) 0 0 mX4_above 42 [(0, .inl a0)] [] SH h (QI Q)
      refine rn_iconst (v := 1) dX4_above_42 (by decide) ?_
      exact rn_iret dX4_above_43 rfl ⟨rfl, hR, _, rfl, V⟩
    | 4, _, c1 =>
      replace V := V.2.2.2.2.1 c1
      show Rn G (d + 1) 0 0 mX4_above 44 [(0, .inl a0)] [] SH h (QI Q)
      refine rn_iconst (v := 2) dX4_above_44 (by decide) ?_
      exact rn_iret dX4_above_45 rfl ⟨rfl, hR, _, rfl, V⟩
    | 5, _, c1 =>
      replace V := V.2.2.2.2.2 c1
      show Rn G (d + 1) 0 0 mX4_above 46 [(0, .inl a0)] [] SH h (QI Q)
      refine rn_iconst (v := 3) dX4_above_46 (by decide) ?_
      exact rn_iret dX4_above_47 rfl ⟨rfl, hR, _, rfl, V⟩
    | n + 6, hi, _ => exact absurd hi (by simp)
  · replace V := V.2 c1
    refine rn_iconst (v := (-1)) dX4_above_48 (by decide) ?_
    exact rn_iret dX4_above_49 rfl ⟨rfl, hR, _, rfl, V⟩
def Rg_X4_isUnder_4 (G : GT) (d : Nat) (l1 : Int32) (l2 : Int32) (l3 : Int32) (h : Hp) (Q : Int32 → Hp → Prop) : Prop := Rn G (d + 1) 0 0 mX4_isUnder 4 [(1, .inl l1), (2, .inl l2), (3, .inl l3)] [] SH h (QI Q)
set_option maxRecDepth 100000 in
set_option maxHeartbeats 4000000 in
theorem vc_X4_isUnder_4 {G : GT} {d : Nat} {l1 : Int32} {l2 : Int32} {l3 : Int32}  {h : Hp} {Q : Int32 → Hp → Prop} (hR : RF h) (V : ((6 < l3 → Q 0 h) ∧ (¬ 6 < l3 → ((l2 = (-1) → Q 0 h) ∧ (¬ l2 = (-1) → ((¬ l2 = l1 → EvI G d mX4_above [.inl l2] h (fun x5 h4 => Rg_X4_isUnder_4 G d l1 x5 (l3 + 1) h4 Q)) ∧ (l2 = l1 → Q 1 h))))))) : Rg_X4_isUnder_4 G d l1 l2 l3 h Q := by
  show Rn G (d + 1) 0 0 mX4_isUnder 4 [(1, .inl l1), (2, .inl l2), (3, .inl l3)] [] SH h (QI Q)
  refine rn_iload_n dX4_isUnder_4 rfl rfl ?_
  refine rn_bipush (v := 6) dX4_isUnder_5 (by decide) ?_
  refine rn_icmp_gt (tgt := 33) dX4_isUnder_7 (by decide) (fun c1 => ?_) (fun c1 => ?_)
  · replace V := V.1 c1
    refine rn_iconst (v := 0) dX4_isUnder_33 (by decide) ?_
    exact rn_zret dX4_isUnder_34 rfl (by decide) ⟨rfl, hR, _, rfl, V⟩
  · replace V := V.2 c1
    refine rn_iload_n dX4_isUnder_10 rfl rfl ?_
    refine rn_iconst (v := (-1)) dX4_isUnder_11 (by decide) ?_
    refine rn_icmp_eq (tgt := 33) dX4_isUnder_12 (by decide) (fun c2 => ?_) (fun c2 => ?_)
    · replace V := V.1 c2
      refine rn_iconst (v := 0) dX4_isUnder_33 (by decide) ?_
      exact rn_zret dX4_isUnder_34 rfl (by decide) ⟨rfl, hR, _, rfl, V⟩
    · replace V := V.2 c2
      refine rn_iload_n dX4_isUnder_15 rfl rfl ?_
      refine rn_iload_n dX4_isUnder_16 rfl rfl ?_
      refine rn_icmp_ne (tgt := 22) dX4_isUnder_17 (by decide) (fun c3 => ?_) (fun c3 => ?_)
      · replace V := V.1 c3
        refine rn_iload_n dX4_isUnder_22 rfl rfl ?_
        refine rn_cS (M' := mX4_above) (n := 1) (av := [.inl l2]) (S := []) (rc := 0) (rs := 0) (mc := 0) (ms := 0) dX4_isUnder_23 pa_X4_above (Nat.le_refl _) rfl (Nat.le_of_ble_eq_true rfl) ml_X4_11 ss_X4_above rfl (Ev.mono V ?_)
        rintro v sh1 h4 ⟨rfl, Rh4, x5, rfl, V⟩
        show Rn G (d + 1) 0 0 mX4_isUnder 26 [(1, .inl l1), (2, .inl l2), (3, .inl l3)] [.inl x5] SH h4 (QI Q)
        refine rn_istore_n (L' := [(2, .inl x5), (1, .inl l1), (3, .inl l3)]) dX4_isUnder_26 rfl (Nat.le_of_ble_eq_true rfl) rfl ?_
        refine rn_iinc (L' := [(3, .inl (l3 + 1)), (2, .inl x5), (1, .inl l1)]) dX4_isUnder_27 rfl (v := (l3 + 1)) rfl (Nat.le_of_ble_eq_true rfl) rfl ?_
        refine rn_goto (tgt := 4) dX4_isUnder_30 (by decide) ?_
        refine rn_sub [2, 1, 0] (L' := [(1, .inl l1), (2, .inl x5), (3, .inl (l3 + 1))]) rfl ?_
        exact V
      · replace V := V.2 c3
        refine rn_iconst (v := 1) dX4_isUnder_20 (by decide) ?_
        exact rn_zret dX4_isUnder_21 rfl (by decide) ⟨rfl, hR, _, rfl, V⟩
set_option maxRecDepth 100000 in
set_option maxHeartbeats 4000000 in
theorem vc_X4_isUnder {G : GT} {d : Nat} {a0 : Int32} {a1 : Int32}  {h : Hp} {Q : Int32 → Hp → Prop} (hR : RF h) (V : Rg_X4_isUnder_4 G d a1 a0 0 h Q) : EvI G (d + 1) mX4_isUnder [.inl a0, .inl a1] h Q := by
  refine Ev.of rfl (fun _ => Nat.le_of_ble_eq_true rfl) ?_
  show Rn G (d + 1) 0 0 mX4_isUnder 0 [(0, .inl a0), (1, .inl a1)] [] SH h (QI Q)
  refine rn_iload_n dX4_isUnder_0 rfl rfl ?_
  refine rn_istore_n (L' := [(2, .inl a0), (0, .inl a0), (1, .inl a1)]) dX4_isUnder_1 rfl (Nat.le_of_ble_eq_true rfl) rfl ?_
  refine rn_iconst (v := 0) dX4_isUnder_2 (by decide) ?_
  refine rn_istore_n (L' := [(3, .inl 0), (2, .inl a0), (0, .inl a0), (1, .inl a1)]) dX4_isUnder_3 rfl (Nat.le_of_ble_eq_true rfl) rfl ?_
  refine rn_sub [3, 1, 0] (L' := [(1, .inl a1), (2, .inl a0), (3, .inl 0)]) rfl ?_
  exact V
set_option maxRecDepth 100000 in
set_option maxHeartbeats 4000000 in
theorem vc_X4_runs {G : GT} {d : Nat} {a0 : Int32} {a1 : Int32}  {h : Hp} {Q : Int32 → Hp → Prop} (hR : RF h) (V : EvI G d mX4_atLeastOne [.inl (5 - (a1 / 2))] h (fun x2 h1 => ((((a0).toInt = 1 + (0 : Nat) → Q (5 + a1) h1) ∧ ((a0).toInt = 1 + (1 : Nat) → Q x2 h1) ∧ ((a0).toInt = 1 + (2 : Nat) → Q 1 h1) ∧ ((a0).toInt = 1 + (3 : Nat) → Q (2 * (5 + a1)) h1) ∧ ((a0).toInt = 1 + (4 : Nat) → EvI G d mX4_atLeastOne [.inl (x2 / 2)] h1 (fun x6 h5 => Q x6 h5)) ∧ ((a0).toInt = 1 + (5 : Nat) → Q (1 + a1) h1)) ∧ ((a0).toInt < 1 ∨ 6 < (a0).toInt → Q 5 h1)))) : EvI G (d + 1) mX4_runs [.inl a0, .inl a1] h Q := by
  refine Ev.of rfl (fun _ => Nat.le_of_ble_eq_true rfl) ?_
  show Rn G (d + 1) 0 0 mX4_runs 0 [(0, .inl a0), (1, .inl a1)] [] SH h (QI Q)
  refine rn_iconst (v := 5) dX4_runs_0 (by decide) ?_
  refine rn_iload_n dX4_runs_1 rfl rfl ?_
  refine rn_iconst (v := 2) dX4_runs_2 (by decide) ?_
  refine rn_idiv dX4_runs_3 (by decide) ?_
  refine rn_isub dX4_runs_4 ?_
  refine rn_cS (M' := mX4_atLeastOne) (n := 1) (av := [.inl (5 - (a1 / 2))]) (S := []) (rc := 0) (rs := 0) (mc := 0) (ms := 0) dX4_runs_5 pa_X4_atLeastOne (Nat.le_refl _) rfl (Nat.le_of_ble_eq_true rfl) ml_X4_15 ss_X4_atLeastOne rfl (Ev.mono V ?_)
  rintro v sh1 h1 ⟨rfl, Rh1, x2, rfl, V⟩
  show Rn G (d + 1) 0 0 mX4_runs 8 [(0, .inl a0), (1, .inl a1)] [.inl x2] SH h1 (QI Q)
  refine rn_istore_n (L' := [(2, .inl x2), (0, .inl a0), (1, .inl a1)]) dX4_runs_8 rfl (Nat.le_of_ble_eq_true rfl) rfl ?_
  refine rn_iload_n dX4_runs_9 rfl rfl ?_
  refine rn_tsw (td := 73) [48, 52, 54, 56, 62, 69] dX4_runs_10 (by decide) (by decide +kernel) (by decide) (fun i4 hi c3 => ?_) (fun c3 => ?_)
  · replace V := V.1
    match i4, hi, c3 with
    | 0, _, c3 =>
      replace V := V.1 c3
      show Rn G (d + 1) 0 0 mX4_runs 48 [(2, .inl x2), (0, .inl a0), (1, .inl a1)] [] SH h1 (QI Q)
      refine rn_iconst (v := 5) dX4_runs_48 (by decide) ?_
      refine rn_iload_n dX4_runs_49 rfl rfl ?_
      refine rn_iadd dX4_runs_50 ?_
      exact rn_iret dX4_runs_51 rfl ⟨rfl, Rh1, _, rfl, V⟩
    | 1, _, c3 =>
      replace V := V.2.1 c3
      show Rn G (d + 1) 0 0 mX4_runs 52 [(2, .inl x2), (0, .inl a0), (1, .inl a1)] [] SH h1 (QI Q)
      refine rn_iload_n dX4_runs_52 rfl rfl ?_
      exact rn_iret dX4_runs_53 rfl ⟨rfl, Rh1, _, rfl, V⟩
    | 2, _, c3 =>
      replace V := V.2.2.1 c3
      show Rn G (d + 1) 0 0 mX4_runs 54 [(2, .inl x2), (0, .inl a0), (1, .inl a1)] [] SH h1 (QI Q)
      refine rn_iconst (v := 1) dX4_runs_54 (by decide) ?_
      exact rn_iret dX4_runs_55 rfl ⟨rfl, Rh1, _, rfl, V⟩
    | 3, _, c3 =>
      replace V := V.2.2.2.1 c3
      show Rn G (d + 1) 0 0 mX4_runs 56 [(2, .inl x2), (0, .inl a0), (1, .inl a1)] [] SH h1 (QI Q)
      refine rn_iconst (v := 2) dX4_runs_56 (by decide) ?_
      refine rn_iconst (v := 5) dX4_runs_57 (by decide) ?_
      refine rn_iload_n dX4_runs_58 rfl rfl ?_
      refine rn_iadd dX4_runs_59 ?_
      refine rn_imul dX4_runs_60 ?_
      exact rn_iret dX4_runs_61 rfl ⟨rfl, Rh1, _, rfl, V⟩
    | 4, _, c3 =>
      replace V := V.2.2.2.2.1 c3
      show Rn G (d + 1) 0 0 mX4_runs 62 [(2, .inl x2), (0, .inl a0), (1, .inl a1)] [] SH h1 (QI Q)
      refine rn_iload_n dX4_runs_62 rfl rfl ?_
      refine rn_iconst (v := 2) dX4_runs_63 (by decide) ?_
      refine rn_idiv dX4_runs_64 (by decide) ?_
      refine rn_cS (M' := mX4_atLeastOne) (n := 1) (av := [.inl (x2 / 2)]) (S := []) (rc := 0) (rs := 0) (mc := 0) (ms := 0) dX4_runs_65 pa_X4_atLeastOne (Nat.le_refl _) rfl (Nat.le_of_ble_eq_true rfl) ml_X4_15 ss_X4_atLeastOne rfl (Ev.mono V ?_)
      rintro v sh1 h5 ⟨rfl, Rh5, x6, rfl, V⟩
      show Rn G (d + 1) 0 0 mX4_runs 68 [(2, .inl x2), (0, .inl a0), (1, .inl a1)] [.inl x6] SH h5 (QI Q)
      exact rn_iret dX4_runs_68 rfl ⟨rfl, Rh5, _, rfl, V⟩
    | 5, _, c3 =>
      replace V := V.2.2.2.2.2 c3
      show Rn G (d + 1) 0 0 mX4_runs 69 [(2, .inl x2), (0, .inl a0), (1, .inl a1)] [] SH h1 (QI Q)
      refine rn_iconst (v := 1) dX4_runs_69 (by decide) ?_
      refine rn_iload_n dX4_runs_70 rfl rfl ?_
      refine rn_iadd dX4_runs_71 ?_
      exact rn_iret dX4_runs_72 rfl ⟨rfl, Rh1, _, rfl, V⟩
    | n + 6, hi, _ => exact absurd hi (by simp)
  · replace V := V.2 c3
    refine rn_iconst (v := 5) dX4_runs_73 (by decide) ?_
    exact rn_iret dX4_runs_74 rfl ⟨rfl, Rh1, _, rfl, V⟩
set_option maxRecDepth 100000 in
set_option maxHeartbeats 4000000 in
theorem vc_X4_atLeastOne {G : GT} {d : Nat} {a0 : Int32}  {h : Hp} {Q : Int32 → Hp → Prop} (hR : RF h) (V : ((1 ≤ a0 → Q a0 h) ∧ (¬ 1 ≤ a0 → Q 1 h))) : EvI G (d + 1) mX4_atLeastOne [.inl a0] h Q := by
  refine Ev.of rfl (fun _ => Nat.le_of_ble_eq_true rfl) ?_
  show Rn G (d + 1) 0 0 mX4_atLeastOne 0 [(0, .inl a0)] [] SH h (QI Q)
  refine rn_iload_n dX4_atLeastOne_0 rfl rfl ?_
  refine rn_iconst (v := 1) dX4_atLeastOne_1 (by decide) ?_
  refine rn_icmp_ge (tgt := 9) dX4_atLeastOne_2 (by decide) (fun c1 => ?_) (fun c1 => ?_)
  · replace V := V.1 c1
    refine rn_iload_n dX4_atLeastOne_9 rfl rfl ?_
    exact rn_iret dX4_atLeastOne_10 rfl ⟨rfl, hR, _, rfl, V⟩
  · replace V := V.2 c1
    refine rn_iconst (v := 1) dX4_atLeastOne_5 (by decide) ?_
    refine rn_goto (tgt := 10) dX4_atLeastOne_6 (by decide) ?_
    exact rn_iret dX4_atLeastOne_10 rfl ⟨rfl, hR, _, rfl, V⟩
set_option maxRecDepth 100000 in
set_option maxHeartbeats 4000000 in
theorem vc_X4_drips {G : GT} {d : Nat} {a0 : Int32} {a1 : Int32}  {h : Hp} {Q : Int32 → Hp → Prop} (hR : RF h) (V : ((((a0).toInt = 1 + (0 : Nat) → Q (a1 / 2) h) ∧ ((a0).toInt = 1 + (1 : Nat) → Q 0 h) ∧ ((a0).toInt = 1 + (2 : Nat) → Q 1 h) ∧ ((a0).toInt = 1 + (3 : Nat) → Q ((a1 / 2) + 1) h) ∧ ((a0).toInt = 1 + (4 : Nat) → Q 0 h) ∧ ((a0).toInt = 1 + (5 : Nat) → Q 1 h)) ∧ ((a0).toInt < 1 ∨ 6 < (a0).toInt → Q 0 h))) : EvI G (d + 1) mX4_drips [.inl a0, .inl a1] h Q := by
  refine Ev.of rfl (fun _ => Nat.le_of_ble_eq_true rfl) ?_
  show Rn G (d + 1) 0 0 mX4_drips 0 [(0, .inl a0), (1, .inl a1)] [] SH h (QI Q)
  refine rn_iload_n dX4_drips_0 rfl rfl ?_
  refine rn_tsw (td := 52) [40, 52, 50, 44, 52, 50] dX4_drips_1 (by decide) (by decide +kernel) (by decide) (fun i2 hi c1 => ?_) (fun c1 => ?_)
  · replace V := V.1
    match i2, hi, c1 with
    | 0, _, c1 =>
      replace V := V.1 c1
      show Rn G (d + 1) 0 0 mX4_drips 40 [(0, .inl a0), (1, .inl a1)] [] SH h (QI Q)
      refine rn_iload_n dX4_drips_40 rfl rfl ?_
      refine rn_iconst (v := 2) dX4_drips_41 (by decide) ?_
      refine rn_idiv dX4_drips_42 (by decide) ?_
      exact rn_iret dX4_drips_43 rfl ⟨rfl, hR, _, rfl, V⟩
    | 1, _, c1 =>
      replace V := V.2.1 c1
      show Rn G (d + 1) 0 0 mX4_drips 52 [(0, .inl a0), (1, .inl a1)] [] SH h (QI Q)
      refine rn_iconst (v := 0) dX4_drips_52 (by decide) ?_
      exact rn_iret dX4_drips_53 rfl ⟨rfl, hR, _, rfl, V⟩
    | 2, _, c1 =>
      replace V := V.2.2.1 c1
      show Rn G (d + 1) 0 0 mX4_drips 50 [(0, .inl a0), (1, .inl a1)] [] SH h (QI Q)
      refine rn_iconst (v := 1) dX4_drips_50 (by decide) ?_
      exact rn_iret dX4_drips_51 rfl ⟨rfl, hR, _, rfl, V⟩
    | 3, _, c1 =>
      replace V := V.2.2.2.1 c1
      show Rn G (d + 1) 0 0 mX4_drips 44 [(0, .inl a0), (1, .inl a1)] [] SH h (QI Q)
      refine rn_iload_n dX4_drips_44 rfl rfl ?_
      refine rn_iconst (v := 2) dX4_drips_45 (by decide) ?_
      refine rn_idiv dX4_drips_46 (by decide) ?_
      refine rn_iconst (v := 1) dX4_drips_47 (by decide) ?_
      refine rn_iadd dX4_drips_48 ?_
      exact rn_iret dX4_drips_49 rfl ⟨rfl, hR, _, rfl, V⟩
    | 4, _, c1 =>
      replace V := V.2.2.2.2.1 c1
      show Rn G (d + 1) 0 0 mX4_drips 52 [(0, .inl a0), (1, .inl a1)] [] SH h (QI Q)
      refine rn_iconst (v := 0) dX4_drips_52 (by decide) ?_
      exact rn_iret dX4_drips_53 rfl ⟨rfl, hR, _, rfl, V⟩
    | 5, _, c1 =>
      replace V := V.2.2.2.2.2 c1
      show Rn G (d + 1) 0 0 mX4_drips 50 [(0, .inl a0), (1, .inl a1)] [] SH h (QI Q)
      refine rn_iconst (v := 1) dX4_drips_50 (by decide) ?_
      exact rn_iret dX4_drips_51 rfl ⟨rfl, hR, _, rfl, V⟩
    | n + 6, hi, _ => exact absurd hi (by simp)
  · replace V := V.2 c1
    refine rn_iconst (v := 0) dX4_drips_52 (by decide) ?_
    exact rn_iret dX4_drips_53 rfl ⟨rfl, hR, _, rfl, V⟩
set_option maxRecDepth 100000 in
set_option maxHeartbeats 4000000 in
theorem vc_J6_bitCount_0f7a4 {G : GT} {d : Nat} {a0 : Int32}  {h : Hp} {Q : Int32 → Hp → Prop} (hR : RF h) (V : Q ((((((((a0 - ((Int32.toUInt32 a0 >>> (Int32.toUInt32 1 &&& Int32.toUInt32 31)).toInt32 &&& 1431655765)) &&& 858993459) + ((Int32.toUInt32 (a0 - ((Int32.toUInt32 a0 >>> (Int32.toUInt32 1 &&& Int32.toUInt32 31)).toInt32 &&& 1431655765)) >>> (Int32.toUInt32 2 &&& Int32.toUInt32 31)).toInt32 &&& 858993459)) + (Int32.toUInt32 (((a0 - ((Int32.toUInt32 a0 >>> (Int32.toUInt32 1 &&& Int32.toUInt32 31)).toInt32 &&& 1431655765)) &&& 858993459) + ((Int32.toUInt32 (a0 - ((Int32.toUInt32 a0 >>> (Int32.toUInt32 1 &&& Int32.toUInt32 31)).toInt32 &&& 1431655765)) >>> (Int32.toUInt32 2 &&& Int32.toUInt32 31)).toInt32 &&& 858993459)) >>> (Int32.toUInt32 4 &&& Int32.toUInt32 31)).toInt32) &&& 252645135) + (Int32.toUInt32 (((((a0 - ((Int32.toUInt32 a0 >>> (Int32.toUInt32 1 &&& Int32.toUInt32 31)).toInt32 &&& 1431655765)) &&& 858993459) + ((Int32.toUInt32 (a0 - ((Int32.toUInt32 a0 >>> (Int32.toUInt32 1 &&& Int32.toUInt32 31)).toInt32 &&& 1431655765)) >>> (Int32.toUInt32 2 &&& Int32.toUInt32 31)).toInt32 &&& 858993459)) + (Int32.toUInt32 (((a0 - ((Int32.toUInt32 a0 >>> (Int32.toUInt32 1 &&& Int32.toUInt32 31)).toInt32 &&& 1431655765)) &&& 858993459) + ((Int32.toUInt32 (a0 - ((Int32.toUInt32 a0 >>> (Int32.toUInt32 1 &&& Int32.toUInt32 31)).toInt32 &&& 1431655765)) >>> (Int32.toUInt32 2 &&& Int32.toUInt32 31)).toInt32 &&& 858993459)) >>> (Int32.toUInt32 4 &&& Int32.toUInt32 31)).toInt32) &&& 252645135) >>> (Int32.toUInt32 8 &&& Int32.toUInt32 31)).toInt32) + (Int32.toUInt32 ((((((a0 - ((Int32.toUInt32 a0 >>> (Int32.toUInt32 1 &&& Int32.toUInt32 31)).toInt32 &&& 1431655765)) &&& 858993459) + ((Int32.toUInt32 (a0 - ((Int32.toUInt32 a0 >>> (Int32.toUInt32 1 &&& Int32.toUInt32 31)).toInt32 &&& 1431655765)) >>> (Int32.toUInt32 2 &&& Int32.toUInt32 31)).toInt32 &&& 858993459)) + (Int32.toUInt32 (((a0 - ((Int32.toUInt32 a0 >>> (Int32.toUInt32 1 &&& Int32.toUInt32 31)).toInt32 &&& 1431655765)) &&& 858993459) + ((Int32.toUInt32 (a0 - ((Int32.toUInt32 a0 >>> (Int32.toUInt32 1 &&& Int32.toUInt32 31)).toInt32 &&& 1431655765)) >>> (Int32.toUInt32 2 &&& Int32.toUInt32 31)).toInt32 &&& 858993459)) >>> (Int32.toUInt32 4 &&& Int32.toUInt32 31)).toInt32) &&& 252645135) + (Int32.toUInt32 (((((a0 - ((Int32.toUInt32 a0 >>> (Int32.toUInt32 1 &&& Int32.toUInt32 31)).toInt32 &&& 1431655765)) &&& 858993459) + ((Int32.toUInt32 (a0 - ((Int32.toUInt32 a0 >>> (Int32.toUInt32 1 &&& Int32.toUInt32 31)).toInt32 &&& 1431655765)) >>> (Int32.toUInt32 2 &&& Int32.toUInt32 31)).toInt32 &&& 858993459)) + (Int32.toUInt32 (((a0 - ((Int32.toUInt32 a0 >>> (Int32.toUInt32 1 &&& Int32.toUInt32 31)).toInt32 &&& 1431655765)) &&& 858993459) + ((Int32.toUInt32 (a0 - ((Int32.toUInt32 a0 >>> (Int32.toUInt32 1 &&& Int32.toUInt32 31)).toInt32 &&& 1431655765)) >>> (Int32.toUInt32 2 &&& Int32.toUInt32 31)).toInt32 &&& 858993459)) >>> (Int32.toUInt32 4 &&& Int32.toUInt32 31)).toInt32) &&& 252645135) >>> (Int32.toUInt32 8 &&& Int32.toUInt32 31)).toInt32) >>> (Int32.toUInt32 16 &&& Int32.toUInt32 31)).toInt32) &&& 63) h) : EvI G (d + 1) mJ6_bitCount_0f7a4 [.inl a0] h Q := by
  refine Ev.of rfl (fun _ => Nat.le_of_ble_eq_true rfl) ?_
  show Rn G (d + 1) 0 0 mJ6_bitCount_0f7a4 0 [(0, .inl a0)] [] SH h (QI Q)
  refine rn_iload_n dJ6_bitCount_0f7a4_0 rfl rfl ?_
  refine rn_iload_n dJ6_bitCount_0f7a4_1 rfl rfl ?_
  refine rn_iconst (v := 1) dJ6_bitCount_0f7a4_2 (by decide) ?_
  refine rn_iushr dJ6_bitCount_0f7a4_3 ?_
  refine rn_ldcw (v := 1431655765) dJ6_bitCount_0f7a4_4 cw_J6_265 ?_
  refine rn_iand dJ6_bitCount_0f7a4_7 ?_
  refine rn_isub dJ6_bitCount_0f7a4_8 ?_
  refine rn_istore_n (L' := [(0, .inl (a0 - ((Int32.toUInt32 a0 >>> (Int32.toUInt32 1 &&& Int32.toUInt32 31)).toInt32 &&& 1431655765)))]) dJ6_bitCount_0f7a4_9 rfl (Nat.le_of_ble_eq_true rfl) rfl ?_
  refine rn_iload_n dJ6_bitCount_0f7a4_10 rfl rfl ?_
  refine rn_ldcw (v := 858993459) dJ6_bitCount_0f7a4_11 cw_J6_266 ?_
  refine rn_iand dJ6_bitCount_0f7a4_14 ?_
  refine rn_iload_n dJ6_bitCount_0f7a4_15 rfl rfl ?_
  refine rn_iconst (v := 2) dJ6_bitCount_0f7a4_16 (by decide) ?_
  refine rn_iushr dJ6_bitCount_0f7a4_17 ?_
  refine rn_ldcw (v := 858993459) dJ6_bitCount_0f7a4_18 cw_J6_266 ?_
  refine rn_iand dJ6_bitCount_0f7a4_21 ?_
  refine rn_iadd dJ6_bitCount_0f7a4_22 ?_
  refine rn_istore_n (L' := [(0, .inl (((a0 - ((Int32.toUInt32 a0 >>> (Int32.toUInt32 1 &&& Int32.toUInt32 31)).toInt32 &&& 1431655765)) &&& 858993459) + ((Int32.toUInt32 (a0 - ((Int32.toUInt32 a0 >>> (Int32.toUInt32 1 &&& Int32.toUInt32 31)).toInt32 &&& 1431655765)) >>> (Int32.toUInt32 2 &&& Int32.toUInt32 31)).toInt32 &&& 858993459)))]) dJ6_bitCount_0f7a4_23 rfl (Nat.le_of_ble_eq_true rfl) rfl ?_
  refine rn_iload_n dJ6_bitCount_0f7a4_24 rfl rfl ?_
  refine rn_iload_n dJ6_bitCount_0f7a4_25 rfl rfl ?_
  refine rn_iconst (v := 4) dJ6_bitCount_0f7a4_26 (by decide) ?_
  refine rn_iushr dJ6_bitCount_0f7a4_27 ?_
  refine rn_iadd dJ6_bitCount_0f7a4_28 ?_
  refine rn_ldcw (v := 252645135) dJ6_bitCount_0f7a4_29 cw_J6_267 ?_
  refine rn_iand dJ6_bitCount_0f7a4_32 ?_
  refine rn_istore_n (L' := [(0, .inl (((((a0 - ((Int32.toUInt32 a0 >>> (Int32.toUInt32 1 &&& Int32.toUInt32 31)).toInt32 &&& 1431655765)) &&& 858993459) + ((Int32.toUInt32 (a0 - ((Int32.toUInt32 a0 >>> (Int32.toUInt32 1 &&& Int32.toUInt32 31)).toInt32 &&& 1431655765)) >>> (Int32.toUInt32 2 &&& Int32.toUInt32 31)).toInt32 &&& 858993459)) + (Int32.toUInt32 (((a0 - ((Int32.toUInt32 a0 >>> (Int32.toUInt32 1 &&& Int32.toUInt32 31)).toInt32 &&& 1431655765)) &&& 858993459) + ((Int32.toUInt32 (a0 - ((Int32.toUInt32 a0 >>> (Int32.toUInt32 1 &&& Int32.toUInt32 31)).toInt32 &&& 1431655765)) >>> (Int32.toUInt32 2 &&& Int32.toUInt32 31)).toInt32 &&& 858993459)) >>> (Int32.toUInt32 4 &&& Int32.toUInt32 31)).toInt32) &&& 252645135))]) dJ6_bitCount_0f7a4_33 rfl (Nat.le_of_ble_eq_true rfl) rfl ?_
  refine rn_iload_n dJ6_bitCount_0f7a4_34 rfl rfl ?_
  refine rn_iload_n dJ6_bitCount_0f7a4_35 rfl rfl ?_
  refine rn_bipush (v := 8) dJ6_bitCount_0f7a4_36 (by decide) ?_
  refine rn_iushr dJ6_bitCount_0f7a4_38 ?_
  refine rn_iadd dJ6_bitCount_0f7a4_39 ?_
  refine rn_istore_n (L' := [(0, .inl ((((((a0 - ((Int32.toUInt32 a0 >>> (Int32.toUInt32 1 &&& Int32.toUInt32 31)).toInt32 &&& 1431655765)) &&& 858993459) + ((Int32.toUInt32 (a0 - ((Int32.toUInt32 a0 >>> (Int32.toUInt32 1 &&& Int32.toUInt32 31)).toInt32 &&& 1431655765)) >>> (Int32.toUInt32 2 &&& Int32.toUInt32 31)).toInt32 &&& 858993459)) + (Int32.toUInt32 (((a0 - ((Int32.toUInt32 a0 >>> (Int32.toUInt32 1 &&& Int32.toUInt32 31)).toInt32 &&& 1431655765)) &&& 858993459) + ((Int32.toUInt32 (a0 - ((Int32.toUInt32 a0 >>> (Int32.toUInt32 1 &&& Int32.toUInt32 31)).toInt32 &&& 1431655765)) >>> (Int32.toUInt32 2 &&& Int32.toUInt32 31)).toInt32 &&& 858993459)) >>> (Int32.toUInt32 4 &&& Int32.toUInt32 31)).toInt32) &&& 252645135) + (Int32.toUInt32 (((((a0 - ((Int32.toUInt32 a0 >>> (Int32.toUInt32 1 &&& Int32.toUInt32 31)).toInt32 &&& 1431655765)) &&& 858993459) + ((Int32.toUInt32 (a0 - ((Int32.toUInt32 a0 >>> (Int32.toUInt32 1 &&& Int32.toUInt32 31)).toInt32 &&& 1431655765)) >>> (Int32.toUInt32 2 &&& Int32.toUInt32 31)).toInt32 &&& 858993459)) + (Int32.toUInt32 (((a0 - ((Int32.toUInt32 a0 >>> (Int32.toUInt32 1 &&& Int32.toUInt32 31)).toInt32 &&& 1431655765)) &&& 858993459) + ((Int32.toUInt32 (a0 - ((Int32.toUInt32 a0 >>> (Int32.toUInt32 1 &&& Int32.toUInt32 31)).toInt32 &&& 1431655765)) >>> (Int32.toUInt32 2 &&& Int32.toUInt32 31)).toInt32 &&& 858993459)) >>> (Int32.toUInt32 4 &&& Int32.toUInt32 31)).toInt32) &&& 252645135) >>> (Int32.toUInt32 8 &&& Int32.toUInt32 31)).toInt32))]) dJ6_bitCount_0f7a4_40 rfl (Nat.le_of_ble_eq_true rfl) rfl ?_
  refine rn_iload_n dJ6_bitCount_0f7a4_41 rfl rfl ?_
  refine rn_iload_n dJ6_bitCount_0f7a4_42 rfl rfl ?_
  refine rn_bipush (v := 16) dJ6_bitCount_0f7a4_43 (by decide) ?_
  refine rn_iushr dJ6_bitCount_0f7a4_45 ?_
  refine rn_iadd dJ6_bitCount_0f7a4_46 ?_
  refine rn_istore_n (L' := [(0, .inl (((((((a0 - ((Int32.toUInt32 a0 >>> (Int32.toUInt32 1 &&& Int32.toUInt32 31)).toInt32 &&& 1431655765)) &&& 858993459) + ((Int32.toUInt32 (a0 - ((Int32.toUInt32 a0 >>> (Int32.toUInt32 1 &&& Int32.toUInt32 31)).toInt32 &&& 1431655765)) >>> (Int32.toUInt32 2 &&& Int32.toUInt32 31)).toInt32 &&& 858993459)) + (Int32.toUInt32 (((a0 - ((Int32.toUInt32 a0 >>> (Int32.toUInt32 1 &&& Int32.toUInt32 31)).toInt32 &&& 1431655765)) &&& 858993459) + ((Int32.toUInt32 (a0 - ((Int32.toUInt32 a0 >>> (Int32.toUInt32 1 &&& Int32.toUInt32 31)).toInt32 &&& 1431655765)) >>> (Int32.toUInt32 2 &&& Int32.toUInt32 31)).toInt32 &&& 858993459)) >>> (Int32.toUInt32 4 &&& Int32.toUInt32 31)).toInt32) &&& 252645135) + (Int32.toUInt32 (((((a0 - ((Int32.toUInt32 a0 >>> (Int32.toUInt32 1 &&& Int32.toUInt32 31)).toInt32 &&& 1431655765)) &&& 858993459) + ((Int32.toUInt32 (a0 - ((Int32.toUInt32 a0 >>> (Int32.toUInt32 1 &&& Int32.toUInt32 31)).toInt32 &&& 1431655765)) >>> (Int32.toUInt32 2 &&& Int32.toUInt32 31)).toInt32 &&& 858993459)) + (Int32.toUInt32 (((a0 - ((Int32.toUInt32 a0 >>> (Int32.toUInt32 1 &&& Int32.toUInt32 31)).toInt32 &&& 1431655765)) &&& 858993459) + ((Int32.toUInt32 (a0 - ((Int32.toUInt32 a0 >>> (Int32.toUInt32 1 &&& Int32.toUInt32 31)).toInt32 &&& 1431655765)) >>> (Int32.toUInt32 2 &&& Int32.toUInt32 31)).toInt32 &&& 858993459)) >>> (Int32.toUInt32 4 &&& Int32.toUInt32 31)).toInt32) &&& 252645135) >>> (Int32.toUInt32 8 &&& Int32.toUInt32 31)).toInt32) + (Int32.toUInt32 ((((((a0 - ((Int32.toUInt32 a0 >>> (Int32.toUInt32 1 &&& Int32.toUInt32 31)).toInt32 &&& 1431655765)) &&& 858993459) + ((Int32.toUInt32 (a0 - ((Int32.toUInt32 a0 >>> (Int32.toUInt32 1 &&& Int32.toUInt32 31)).toInt32 &&& 1431655765)) >>> (Int32.toUInt32 2 &&& Int32.toUInt32 31)).toInt32 &&& 858993459)) + (Int32.toUInt32 (((a0 - ((Int32.toUInt32 a0 >>> (Int32.toUInt32 1 &&& Int32.toUInt32 31)).toInt32 &&& 1431655765)) &&& 858993459) + ((Int32.toUInt32 (a0 - ((Int32.toUInt32 a0 >>> (Int32.toUInt32 1 &&& Int32.toUInt32 31)).toInt32 &&& 1431655765)) >>> (Int32.toUInt32 2 &&& Int32.toUInt32 31)).toInt32 &&& 858993459)) >>> (Int32.toUInt32 4 &&& Int32.toUInt32 31)).toInt32) &&& 252645135) + (Int32.toUInt32 (((((a0 - ((Int32.toUInt32 a0 >>> (Int32.toUInt32 1 &&& Int32.toUInt32 31)).toInt32 &&& 1431655765)) &&& 858993459) + ((Int32.toUInt32 (a0 - ((Int32.toUInt32 a0 >>> (Int32.toUInt32 1 &&& Int32.toUInt32 31)).toInt32 &&& 1431655765)) >>> (Int32.toUInt32 2 &&& Int32.toUInt32 31)).toInt32 &&& 858993459)) + (Int32.toUInt32 (((a0 - ((Int32.toUInt32 a0 >>> (Int32.toUInt32 1 &&& Int32.toUInt32 31)).toInt32 &&& 1431655765)) &&& 858993459) + ((Int32.toUInt32 (a0 - ((Int32.toUInt32 a0 >>> (Int32.toUInt32 1 &&& Int32.toUInt32 31)).toInt32 &&& 1431655765)) >>> (Int32.toUInt32 2 &&& Int32.toUInt32 31)).toInt32 &&& 858993459)) >>> (Int32.toUInt32 4 &&& Int32.toUInt32 31)).toInt32) &&& 252645135) >>> (Int32.toUInt32 8 &&& Int32.toUInt32 31)).toInt32) >>> (Int32.toUInt32 16 &&& Int32.toUInt32 31)).toInt32))]) dJ6_bitCount_0f7a4_47 rfl (Nat.le_of_ble_eq_true rfl) rfl ?_
  refine rn_iload_n dJ6_bitCount_0f7a4_48 rfl rfl ?_
  refine rn_bipush (v := 63) dJ6_bitCount_0f7a4_49 (by decide) ?_
  refine rn_iand dJ6_bitCount_0f7a4_51 ?_
  exact rn_iret dJ6_bitCount_0f7a4_52 rfl ⟨rfl, hR, _, rfl, V⟩
set_option maxRecDepth 100000 in
set_option maxHeartbeats 4000000 in
theorem vc_X2_copy {G : GT} {d : Nat} {a0 : Nat} {a1 : Nat} (ha0 : SH[a0]? = some (.inl 2)) (ha1 : SH[a1]? = some (.inl 2)) {h : Hp} {Q : Hp → Prop} (hR : RF h) (V : ∀ h1 : Hp, h1 = (sI (cpI (cpI (cpI h (a1 + 1) 0 (a0 + 1) 0 4) (a1 + 2) 0 (a0 + 2) 0 4) (a1 + 3) 0 (a0 + 3) 0 12) a0 3 ((cpI (cpI (cpI h (a1 + 1) 0 (a0 + 1) 0 4) (a1 + 2) 0 (a0 + 2) 0 4) (a1 + 3) 0 (a0 + 3) 0 12).1 a1 3)) → ∀ h2 : Hp, h2 = (sI (sI (sI h1 a0 4 (h1.1 a1 4)) a0 5 ((sI h1 a0 4 (h1.1 a1 4)).1 a1 5)) a0 6 ((sI (sI h1 a0 4 (h1.1 a1 4)) a0 5 ((sI h1 a0 4 (h1.1 a1 4)).1 a1 5)).1 a1 6)) → Q (sI h2 a0 7 (h2.1 a1 7))) : EvV G (d + 1) mX2_copy [.inr (.inr (some a0)), .inr (.inr (some a1))] h Q := by
  refine Ev.of rfl (fun _ => Nat.le_of_ble_eq_true rfl) ?_
  show Rn G (d + 1) 0 0 mX2_copy 0 [(0, .inr (.inr (some a0))), (1, .inr (.inr (some a1)))] [] SH h (QV Q)
  refine rn_aload_n dX2_copy_0 rfl rfl ?_
  refine rn_get (v := .inr (.inr (some (a1 + 1)))) dX2_copy_1 fl_X2_9 ha1 rfl (congrArg (fun z => (Sum.inr (Sum.inr z) : MV)) (fl_water hR ha1)) ?_
  refine rn_iconst (v := 0) dX2_copy_4 (by decide) ?_
  refine rn_aload_n dX2_copy_5 rfl rfl ?_
  refine rn_get (v := .inr (.inr (some (a0 + 1)))) dX2_copy_6 fl_X2_9 ha0 rfl (congrArg (fun z => (Sum.inr (Sum.inr z) : MV)) (fl_water hR ha0)) ?_
  refine rn_iconst (v := 0) dX2_copy_9 (by decide) ?_
  refine rn_iconst (v := 4) dX2_copy_10 (by decide) ?_
  refine rn_copy (sp' := 0) (dp' := 0) (n' := 4) dX2_copy_11 cp_X2_25 (fl_sh1 ha1) (fl_sh1 ha0) (by decide) (by decide) (by decide) (by decide) (by decide) (by decide) (by decide) (by decide) (Nat.le_of_ble_eq_true rfl) ?_
  refine rn_aload_n dX2_copy_14 rfl rfl ?_
  refine rn_get (v := .inr (.inr (some (a1 + 2)))) dX2_copy_15 fl_X2_15 ha1 rfl (congrArg (fun z => (Sum.inr (Sum.inr z) : MV)) (fl_heard hR ha1)) ?_
  refine rn_iconst (v := 0) dX2_copy_18 (by decide) ?_
  refine rn_aload_n dX2_copy_19 rfl rfl ?_
  refine rn_get (v := .inr (.inr (some (a0 + 2)))) dX2_copy_20 fl_X2_15 ha0 rfl (congrArg (fun z => (Sum.inr (Sum.inr z) : MV)) (fl_heard hR ha0)) ?_
  refine rn_iconst (v := 0) dX2_copy_23 (by decide) ?_
  refine rn_iconst (v := 4) dX2_copy_24 (by decide) ?_
  refine rn_copy (sp' := 0) (dp' := 0) (n' := 4) dX2_copy_25 cp_X2_25 (fl_sh2 ha1) (fl_sh2 ha0) (by decide) (by decide) (by decide) (by decide) (by decide) (by decide) (by decide) (by decide) (Nat.le_of_ble_eq_true rfl) ?_
  refine rn_aload_n dX2_copy_28 rfl rfl ?_
  refine rn_get (v := .inr (.inr (some (a1 + 3)))) dX2_copy_29 fl_X2_18 ha1 rfl (congrArg (fun z => (Sum.inr (Sum.inr z) : MV)) (fl_how hR ha1)) ?_
  refine rn_iconst (v := 0) dX2_copy_32 (by decide) ?_
  refine rn_aload_n dX2_copy_33 rfl rfl ?_
  refine rn_get (v := .inr (.inr (some (a0 + 3)))) dX2_copy_34 fl_X2_18 ha0 rfl (congrArg (fun z => (Sum.inr (Sum.inr z) : MV)) (fl_how hR ha0)) ?_
  refine rn_iconst (v := 0) dX2_copy_37 (by decide) ?_
  refine rn_bipush (v := 12) dX2_copy_38 (by decide) ?_
  refine rn_copy (sp' := 0) (dp' := 0) (n' := 12) dX2_copy_40 cp_X2_25 (fl_sh3 ha1) (fl_sh3 ha0) (by decide) (by decide) (by decide) (by decide) (by decide) (by decide) (by decide) (by decide) (Nat.le_of_ble_eq_true rfl) ?_
  refine rn_aload_n dX2_copy_43 rfl rfl ?_
  refine rn_aload_n dX2_copy_44 rfl rfl ?_
  refine rn_get (v := .inl ((cpI (cpI (cpI h (a1 + 1) 0 (a0 + 1) 0 4) (a1 + 2) 0 (a0 + 2) 0 4) (a1 + 3) 0 (a0 + 3) 0 12).1 a1 3)) dX2_copy_45 fl_X2_31 ha1 rfl (by simp [fvM, sI, sL, sR, cpI]) ?_
  refine rn_putI dX2_copy_48 fl_X2_31 ha0 rfl (Or.inl rfl) rfl rfl ?_
  obtain ⟨h1, eh1⟩ : ∃ z, z = (sI (cpI (cpI (cpI h (a1 + 1) 0 (a0 + 1) 0 4) (a1 + 2) 0 (a0 + 2) 0 4) (a1 + 3) 0 (a0 + 3) 0 12) a0 3 ((cpI (cpI (cpI h (a1 + 1) 0 (a0 + 1) 0 4) (a1 + 2) 0 (a0 + 2) 0 4) (a1 + 3) 0 (a0 + 3) 0 12).1 a1 3)) := ⟨_, rfl⟩
  show Rn G (d + 1) 0 0 mX2_copy 51 [(0, .inr (.inr (some a0))), (1, .inr (.inr (some a1)))] [] SH (sI (cpI (cpI (cpI h (a1 + 1) 0 (a0 + 1) 0 4) (a1 + 2) 0 (a0 + 2) 0 4) (a1 + 3) 0 (a0 + 3) 0 12) a0 3 ((cpI (cpI (cpI h (a1 + 1) 0 (a0 + 1) 0 4) (a1 + 2) 0 (a0 + 2) 0 4) (a1 + 3) 0 (a0 + 3) 0 12).1 a1 3)) (QV Q)
  rw [← eh1]
  replace V := V h1 eh1
  have Rh1 : RF h1 := by rw [eh1]; exact hR
  refine rn_aload_n dX2_copy_51 rfl rfl ?_
  refine rn_aload_n dX2_copy_52 rfl rfl ?_
  refine rn_get (v := .inl (h1.1 a1 4)) dX2_copy_53 fl_X2_34 ha1 rfl rfl ?_
  refine rn_putI dX2_copy_56 fl_X2_34 ha0 rfl (Or.inl rfl) rfl rfl ?_
  refine rn_aload_n dX2_copy_59 rfl rfl ?_
  refine rn_aload_n dX2_copy_60 rfl rfl ?_
  refine rn_get (v := .inl ((sI h1 a0 4 (h1.1 a1 4)).1 a1 5)) dX2_copy_61 fl_X2_37 ha1 rfl (by simp [fvM, sI, sL, sR, cpI]) ?_
  refine rn_putI dX2_copy_64 fl_X2_37 ha0 rfl (Or.inl rfl) rfl rfl ?_
  refine rn_aload_n dX2_copy_67 rfl rfl ?_
  refine rn_aload_n dX2_copy_68 rfl rfl ?_
  refine rn_get (v := .inl ((sI (sI h1 a0 4 (h1.1 a1 4)) a0 5 ((sI h1 a0 4 (h1.1 a1 4)).1 a1 5)).1 a1 6)) dX2_copy_69 fl_X2_21 ha1 rfl (by simp [fvM, sI, sL, sR, cpI]) ?_
  refine rn_putI dX2_copy_72 fl_X2_21 ha0 rfl (Or.inl rfl) rfl rfl ?_
  obtain ⟨h2, eh2⟩ : ∃ z, z = (sI (sI (sI h1 a0 4 (h1.1 a1 4)) a0 5 ((sI h1 a0 4 (h1.1 a1 4)).1 a1 5)) a0 6 ((sI (sI h1 a0 4 (h1.1 a1 4)) a0 5 ((sI h1 a0 4 (h1.1 a1 4)).1 a1 5)).1 a1 6)) := ⟨_, rfl⟩
  show Rn G (d + 1) 0 0 mX2_copy 75 [(0, .inr (.inr (some a0))), (1, .inr (.inr (some a1)))] [] SH (sI (sI (sI h1 a0 4 (h1.1 a1 4)) a0 5 ((sI h1 a0 4 (h1.1 a1 4)).1 a1 5)) a0 6 ((sI (sI h1 a0 4 (h1.1 a1 4)) a0 5 ((sI h1 a0 4 (h1.1 a1 4)).1 a1 5)).1 a1 6)) (QV Q)
  rw [← eh2]
  replace V := V h2 eh2
  have Rh2 : RF h2 := by rw [eh2]; exact Rh1
  refine rn_aload_n dX2_copy_75 rfl rfl ?_
  refine rn_aload_n dX2_copy_76 rfl rfl ?_
  refine rn_get (v := .inl (h2.1 a1 7)) dX2_copy_77 fl_X2_40 ha1 rfl rfl ?_
  refine rn_putI dX2_copy_80 fl_X2_40 ha0 rfl (Or.inl rfl) rfl rfl ?_
  exact rn_vret dX2_copy_83 rfl ⟨rfl, Rh2, rfl, V⟩
set_option maxRecDepth 100000 in
set_option maxHeartbeats 4000000 in
theorem vc_X2_lose {G : GT} {d : Nat} {a0 : Nat} {a1 : Int32} {a2 : Int32} (ha0 : SH[a0]? = some (.inl 2)) {h : Hp} {Q : Int32 → Hp → Prop} (hR : RF h) (V : EvI G d mX11_within [.inl a1, .inl 0, .inl (4 - 1)] h (fun x2 h1 => ((¬ x2 = 0 → vp_in a1 4 ∧ vp_in a1 4 ∧ vp_in a1 4 ∧ ∀ h4 : Hp, h4 = (sI h1 (a0 + 1) (Int32.toNatClampNeg a1) (h1.1 (a0 + 1) (Int32.toNatClampNeg a1) - (if a2 < h1.1 (a0 + 1) (Int32.toNatClampNeg a1) then a2 else h1.1 (a0 + 1) (Int32.toNatClampNeg a1)))) → Q (if a2 < h1.1 (a0 + 1) (Int32.toNatClampNeg a1) then a2 else h1.1 (a0 + 1) (Int32.toNatClampNeg a1)) h4) ∧ (x2 = 0 → Q 0 h1)))) : EvI G (d + 1) mX2_lose [.inr (.inr (some a0)), .inl a1, .inl a2] h Q := by
  refine Ev.of rfl (fun _ => Nat.le_of_ble_eq_true rfl) ?_
  show Rn G (d + 1) 0 0 mX2_lose 0 [(0, .inr (.inr (some a0))), (1, .inl a1), (2, .inl a2)] [] SH h (QI Q)
  refine rn_iload_n dX2_lose_0 rfl rfl ?_
  refine rn_iconst (v := 0) dX2_lose_1 (by decide) ?_
  refine rn_aload_n dX2_lose_2 rfl rfl ?_
  refine rn_get (v := .inr (.inr (some (a0 + 1)))) dX2_lose_3 fl_X2_9 ha0 rfl (congrArg (fun z => (Sum.inr (Sum.inr z) : MV)) (fl_water hR ha0)) ?_
  refine rn_alen (v := 4) dX2_lose_6 (fl_sh1 ha0) (by decide) (by decide) ?_
  refine rn_iconst (v := 1) dX2_lose_7 (by decide) ?_
  refine rn_isub dX2_lose_8 ?_
  refine rn_cSN (M' := mX11_within) (n := 3) (av := [.inl a1, .inl 0, .inl (4 - 1)]) (S := []) (rc := 0) (rs := 0) (mc := 0) (ms := 0) dX2_lose_9 pa_X11_within (Nat.le_refl _) rfl (Nat.le_of_ble_eq_true rfl) ml_X2_43 ss_X11_within rfl (Ev.mono V ?_)
  rintro v sh1 h1 ⟨rfl, Rh1, x2, rfl, V⟩
  show Rn G (d + 1) 0 0 mX2_lose 12 [(0, .inr (.inr (some a0))), (1, .inl a1), (2, .inl a2)] [.inl x2] SH h1 (QI Q)
  refine rn_if_ne (tgt := 17) dX2_lose_12 (by decide) (fun c3 => ?_) (fun c3 => ?_)
  · replace V := V.1 c3
    refine rn_aload_n dX2_lose_17 rfl rfl ?_
    refine rn_get (v := .inr (.inr (some (a0 + 1)))) dX2_lose_18 fl_X2_9 ha0 rfl (congrArg (fun z => (Sum.inr (Sum.inr z) : MV)) (fl_water Rh1 ha0)) ?_
    refine rn_iload_n dX2_lose_21 rfl rfl ?_
    obtain ⟨g0, V⟩ := V
    refine rn_iald (k := (Int32.toNatClampNeg a1)) dX2_lose_22 (fl_sh1 ha0) rfl g0 ?_
    refine rn_iload_n dX2_lose_23 rfl rfl ?_
    refine rn_mmin dX2_lose_24 ml_X2_47 (Nat.le_of_ble_eq_true rfl) ?_
    refine rn_istore_n (L' := [(3, .inl (if a2 < h1.1 (a0 + 1) (Int32.toNatClampNeg a1) then a2 else h1.1 (a0 + 1) (Int32.toNatClampNeg a1))), (0, .inr (.inr (some a0))), (1, .inl a1), (2, .inl a2)]) dX2_lose_27 rfl (Nat.le_of_ble_eq_true rfl) rfl ?_
    refine rn_aload_n dX2_lose_28 rfl rfl ?_
    refine rn_get (v := .inr (.inr (some (a0 + 1)))) dX2_lose_29 fl_X2_9 ha0 rfl (congrArg (fun z => (Sum.inr (Sum.inr z) : MV)) (fl_water Rh1 ha0)) ?_
    refine rn_iload_n dX2_lose_32 rfl rfl ?_
    refine rn_dup2 dX2_lose_33 rfl rfl ?_
    obtain ⟨g0, V⟩ := V
    refine rn_iald (k := (Int32.toNatClampNeg a1)) dX2_lose_34 (fl_sh1 ha0) rfl g0 ?_
    refine rn_iload_n dX2_lose_35 rfl rfl ?_
    refine rn_isub dX2_lose_36 ?_
    obtain ⟨g0, V⟩ := V
    refine rn_iast (k := (Int32.toNatClampNeg a1)) dX2_lose_37 (fl_sh1 ha0) rfl g0 ?_
    obtain ⟨h4, eh4⟩ : ∃ z, z = (sI h1 (a0 + 1) (Int32.toNatClampNeg a1) (h1.1 (a0 + 1) (Int32.toNatClampNeg a1) - (if a2 < h1.1 (a0 + 1) (Int32.toNatClampNeg a1) then a2 else h1.1 (a0 + 1) (Int32.toNatClampNeg a1)))) := ⟨_, rfl⟩
    show Rn G (d + 1) 0 0 mX2_lose 38 [(3, .inl (if a2 < h1.1 (a0 + 1) (Int32.toNatClampNeg a1) then a2 else h1.1 (a0 + 1) (Int32.toNatClampNeg a1))), (0, .inr (.inr (some a0))), (1, .inl a1), (2, .inl a2)] [] SH (sI h1 (a0 + 1) (Int32.toNatClampNeg a1) (h1.1 (a0 + 1) (Int32.toNatClampNeg a1) - (if a2 < h1.1 (a0 + 1) (Int32.toNatClampNeg a1) then a2 else h1.1 (a0 + 1) (Int32.toNatClampNeg a1)))) (QI Q)
    rw [← eh4]
    replace V := V h4 eh4
    have Rh4 : RF h4 := by rw [eh4]; exact Rh1
    refine rn_iload_n dX2_lose_38 rfl rfl ?_
    exact rn_iret dX2_lose_39 rfl ⟨rfl, Rh4, _, rfl, V⟩
  · replace V := V.2 c3
    refine rn_iconst (v := 0) dX2_lose_15 (by decide) ?_
    exact rn_iret dX2_lose_16 rfl ⟨rfl, Rh1, _, rfl, V⟩
set_option maxRecDepth 100000 in
set_option maxHeartbeats 4000000 in
theorem vc_X2_floorGets {G : GT} {d : Nat} {a0 : Nat} {a1 : Int32} (ha0 : SH[a0]? = some (.inl 2)) {h : Hp} {Q : Hp → Prop} (hR : RF h) (V : Q (sI h a0 4 (if (h.1 a0 4 + a1) < 999999 then (h.1 a0 4 + a1) else 999999))) : EvV G (d + 1) mX2_floorGets [.inr (.inr (some a0)), .inl a1] h Q := by
  refine Ev.of rfl (fun _ => Nat.le_of_ble_eq_true rfl) ?_
  show Rn G (d + 1) 0 0 mX2_floorGets 0 [(0, .inr (.inr (some a0))), (1, .inl a1)] [] SH h (QV Q)
  refine rn_aload_n dX2_floorGets_0 rfl rfl ?_
  refine rn_ldc (v := 999999) dX2_floorGets_1 cw_X2_53 ?_
  refine rn_aload_n dX2_floorGets_3 rfl rfl ?_
  refine rn_get (v := .inl (h.1 a0 4)) dX2_floorGets_4 fl_X2_34 ha0 rfl rfl ?_
  refine rn_iload_n dX2_floorGets_7 rfl rfl ?_
  refine rn_iadd dX2_floorGets_8 ?_
  refine rn_mmin dX2_floorGets_9 ml_X2_47 (Nat.le_of_ble_eq_true rfl) ?_
  refine rn_putI dX2_floorGets_12 fl_X2_34 ha0 rfl (Or.inl rfl) rfl rfl ?_
  exact rn_vret dX2_floorGets_15 rfl ⟨rfl, hR, rfl, V⟩
set_option maxRecDepth 100000 in
set_option maxHeartbeats 4000000 in
theorem vc_X2_end {G : GT} {d : Nat} {a0 : Nat} {a1 : Int32} {a2 : Int32} (ha0 : SH[a0]? = some (.inl 2)) {h : Hp} {Q : Hp → Prop} (hR : RF h) (V : EvI G d mX11_within [.inl a1, .inl 0, .inl (12 - 1)] h (fun x2 h1 => ((x2 = 0 → Q (sI (sI h1 a0 6 (-1)) a0 7 0)) ∧ (¬ x2 = 0 → vp_in a1 12 ∧ Q (sI (sI (sI h1 (a0 + 3) (Int32.toNatClampNeg a1) a2) a0 6 (-1)) a0 7 0))))) : EvV G (d + 1) mX2_end [.inr (.inr (some a0)), .inl a1, .inl a2] h Q := by
  refine Ev.of rfl (fun _ => Nat.le_of_ble_eq_true rfl) ?_
  show Rn G (d + 1) 0 0 mX2_end 0 [(0, .inr (.inr (some a0))), (1, .inl a1), (2, .inl a2)] [] SH h (QV Q)
  refine rn_iload_n dX2_end_0 rfl rfl ?_
  refine rn_iconst (v := 0) dX2_end_1 (by decide) ?_
  refine rn_aload_n dX2_end_2 rfl rfl ?_
  refine rn_get (v := .inr (.inr (some (a0 + 3)))) dX2_end_3 fl_X2_18 ha0 rfl (congrArg (fun z => (Sum.inr (Sum.inr z) : MV)) (fl_how hR ha0)) ?_
  refine rn_alen (v := 12) dX2_end_6 (fl_sh3 ha0) (by decide) (by decide) ?_
  refine rn_iconst (v := 1) dX2_end_7 (by decide) ?_
  refine rn_isub dX2_end_8 ?_
  refine rn_cSN (M' := mX11_within) (n := 3) (av := [.inl a1, .inl 0, .inl (12 - 1)]) (S := []) (rc := 0) (rs := 0) (mc := 0) (ms := 0) dX2_end_9 pa_X11_within (Nat.le_refl _) rfl (Nat.le_of_ble_eq_true rfl) ml_X2_43 ss_X11_within rfl (Ev.mono V ?_)
  rintro v sh1 h1 ⟨rfl, Rh1, x2, rfl, V⟩
  show Rn G (d + 1) 0 0 mX2_end 12 [(0, .inr (.inr (some a0))), (1, .inl a1), (2, .inl a2)] [.inl x2] SH h1 (QV Q)
  refine rn_if_eq (tgt := 22) dX2_end_12 (by decide) (fun c3 => ?_) (fun c3 => ?_)
  · replace V := V.1 c3
    refine rn_aload_n dX2_end_22 rfl rfl ?_
    refine rn_iconst (v := (-1)) dX2_end_23 (by decide) ?_
    refine rn_putI dX2_end_24 fl_X2_21 ha0 rfl (Or.inl rfl) rfl rfl ?_
    refine rn_aload_n dX2_end_27 rfl rfl ?_
    refine rn_iconst (v := 0) dX2_end_28 (by decide) ?_
    refine rn_putI dX2_end_29 fl_X2_40 ha0 rfl (Or.inl rfl) rfl rfl ?_
    exact rn_vret dX2_end_32 rfl ⟨rfl, Rh1, rfl, V⟩
  · replace V := V.2 c3
    refine rn_aload_n dX2_end_15 rfl rfl ?_
    refine rn_get (v := .inr (.inr (some (a0 + 3)))) dX2_end_16 fl_X2_18 ha0 rfl (congrArg (fun z => (Sum.inr (Sum.inr z) : MV)) (fl_how Rh1 ha0)) ?_
    refine rn_iload_n dX2_end_19 rfl rfl ?_
    refine rn_iload_n dX2_end_20 rfl rfl ?_
    obtain ⟨g0, V⟩ := V
    refine rn_iast (k := (Int32.toNatClampNeg a1)) dX2_end_21 (fl_sh3 ha0) rfl g0 ?_
    refine rn_aload_n dX2_end_22 rfl rfl ?_
    refine rn_iconst (v := (-1)) dX2_end_23 (by decide) ?_
    refine rn_putI dX2_end_24 fl_X2_21 ha0 rfl (Or.inl rfl) rfl rfl ?_
    refine rn_aload_n dX2_end_27 rfl rfl ?_
    refine rn_iconst (v := 0) dX2_end_28 (by decide) ?_
    refine rn_putI dX2_end_29 fl_X2_40 ha0 rfl (Or.inl rfl) rfl rfl ?_
    exact rn_vret dX2_end_32 rfl ⟨rfl, Rh1, rfl, V⟩
