set_option maxRecDepth 100000 in
set_option maxHeartbeats 4000000 in
theorem vc_X11_party {G : GT} {d : Nat} {a1 : Int32} {a2 : Int32}  {h : Hp} {Q : Int32 → Hp → Prop} (hR : RF h) (V : EvI G d mX11_isKm [.inl a1] h (fun x2 h1 => ((x2 = 0 → EvI G d mX11_refuse [.inr (.inr (some 0)), .inl 1] h1 (fun x5 h4 => Q x5 h4)) ∧ (¬ x2 = 0 → EvI G d mX11_within [.inl a2, .inl 1, .inl 999] h1 (fun x7 h6 => ((¬ x7 = 0 → ((h6.1 1 0 < 4 → EvI G d mX9_addParty [.inr (.inr (some 1)), .inl a1, .inl a2] h6 (fun x11 h10 => Q x11 h10)) ∧ (¬ h6.1 1 0 < 4 → EvI G d mX11_refuse [.inr (.inr (some 0)), .inl 4] h6 (fun x13 h12 => Q x13 h12)))) ∧ (x7 = 0 → EvI G d mX11_refuse [.inr (.inr (some 0)), .inl 1] h6 (fun x15 h14 => Q x15 h14)))))))) : EvI G (d + 1) mX11_party [.inr (.inr (some 0)), .inl a1, .inl a2] h Q := by
  refine Ev.of rfl (fun _ => Nat.le_of_ble_eq_true rfl) ?_
  show Rn G (d + 1) 0 0 mX11_party 0 [(0, .inr (.inr (some 0))), (1, .inl a1), (2, .inl a2)] [] SH h (QI Q)
  refine rn_iload_n dX11_party_0 rfl rfl ?_
  refine rn_cS (M' := mX11_isKm) (n := 1) (av := [.inl a1]) (S := []) (rc := 0) (rs := 0) (mc := 0) (ms := 0) dX11_party_1 pa_X11_isKm (Nat.le_refl _) rfl (Nat.le_of_ble_eq_true rfl) ml_X11_79 ss_X11_isKm rfl (Ev.mono V ?_)
  rintro v sh1 h1 ⟨rfl, Rh1, x2, rfl, V⟩
  show Rn G (d + 1) 0 0 mX11_party 4 [(0, .inr (.inr (some 0))), (1, .inl a1), (2, .inl a2)] [.inl x2] SH h1 (QI Q)
  refine rn_if_eq (tgt := 18) dX11_party_4 (by decide) (fun c3 => ?_) (fun c3 => ?_)
  · replace V := V.1 c3
    refine rn_aload_n dX11_party_18 rfl rfl ?_
    refine rn_iconst (v := 1) dX11_party_19 (by decide) ?_
    refine rn_cV (M' := mX11_refuse) (n := 1) (av := [.inl 1]) (S := []) (rc := 0) (rs := 0) (mc := 0) (ms := 0) (a := 0) (ci := 10) (r := (RX11, TX11, 12)) dX11_party_20 pa_X11_refuse (Nat.le_refl _) rfl (Nat.le_of_ble_eq_true rfl) ml_X11_87 im_X11_refuse se_X11_refuse rfl rfl rfl (Ev.mono V ?_)
    rintro v sh1 h4 ⟨rfl, Rh4, x5, rfl, V⟩
    show Rn G (d + 1) 0 0 mX11_party 23 [(0, .inr (.inr (some 0))), (1, .inl a1), (2, .inl a2)] [.inl x5] SH h4 (QI Q)
    exact rn_iret dX11_party_23 rfl ⟨rfl, Rh4, _, rfl, V⟩
  · replace V := V.2 c3
    refine rn_iload_n dX11_party_7 rfl rfl ?_
    refine rn_iconst (v := 1) dX11_party_8 (by decide) ?_
    refine rn_sipush (v := 999) dX11_party_9 (by decide) ?_
    refine rn_cS (M' := mX11_within) (n := 3) (av := [.inl a2, .inl 1, .inl 999]) (S := []) (rc := 0) (rs := 0) (mc := 0) (ms := 0) dX11_party_12 pa_X11_within (Nat.le_refl _) rfl (Nat.le_of_ble_eq_true rfl) ml_X11_83 ss_X11_within rfl (Ev.mono V ?_)
    rintro v sh1 h6 ⟨rfl, Rh6, x7, rfl, V⟩
    show Rn G (d + 1) 0 0 mX11_party 15 [(0, .inr (.inr (some 0))), (1, .inl a1), (2, .inl a2)] [.inl x7] SH h6 (QI Q)
    refine rn_if_ne (tgt := 24) dX11_party_15 (by decide) (fun c8 => ?_) (fun c8 => ?_)
    · replace V := V.1 c8
      refine rn_aload_n dX11_party_24 rfl rfl ?_
      refine rn_get (v := .inr (.inr (some 1))) dX11_party_25 fl_X11_10 rfl rfl (congrArg (fun z => (Sum.inr (Sum.inr z) : MV)) (rf_0_0 Rh6)) ?_
      refine rn_get (v := .inl (h6.1 1 0)) dX11_party_28 fl_X11_91 rfl rfl rfl ?_
      refine rn_iconst (v := 4) dX11_party_31 (by decide) ?_
      refine rn_icmp_lt (tgt := 41) dX11_party_32 (by decide) (fun c9 => ?_) (fun c9 => ?_)
      · replace V := V.1 c9
        refine rn_aload_n dX11_party_41 rfl rfl ?_
        refine rn_get (v := .inr (.inr (some 1))) dX11_party_42 fl_X11_10 rfl rfl (congrArg (fun z => (Sum.inr (Sum.inr z) : MV)) (rf_0_0 Rh6)) ?_
        refine rn_iload_n dX11_party_45 rfl rfl ?_
        refine rn_iload_n dX11_party_46 rfl rfl ?_
        refine rn_cV (M' := mX9_addParty) (n := 2) (av := [.inl a1, .inl a2]) (S := []) (rc := 0) (rs := 0) (mc := 0) (ms := 0) (a := 1) (ci := 8) (r := (RX9, TX9, 17)) dX11_party_47 pa_X9_addParty (Nat.le_refl _) rfl (Nat.le_of_ble_eq_true rfl) ml_X11_95 im_X9_addParty se_X9_addParty rfl rfl rfl (Ev.mono V ?_)
        rintro v sh1 h10 ⟨rfl, Rh10, x11, rfl, V⟩
        show Rn G (d + 1) 0 0 mX11_party 50 [(0, .inr (.inr (some 0))), (1, .inl a1), (2, .inl a2)] [.inl x11] SH h10 (QI Q)
        exact rn_iret dX11_party_50 rfl ⟨rfl, Rh10, _, rfl, V⟩
      · replace V := V.2 c9
        refine rn_aload_n dX11_party_35 rfl rfl ?_
        refine rn_iconst (v := 4) dX11_party_36 (by decide) ?_
        refine rn_cV (M' := mX11_refuse) (n := 1) (av := [.inl 4]) (S := []) (rc := 0) (rs := 0) (mc := 0) (ms := 0) (a := 0) (ci := 10) (r := (RX11, TX11, 12)) dX11_party_37 pa_X11_refuse (Nat.le_refl _) rfl (Nat.le_of_ble_eq_true rfl) ml_X11_87 im_X11_refuse se_X11_refuse rfl rfl rfl (Ev.mono V ?_)
        rintro v sh1 h12 ⟨rfl, Rh12, x13, rfl, V⟩
        show Rn G (d + 1) 0 0 mX11_party 40 [(0, .inr (.inr (some 0))), (1, .inl a1), (2, .inl a2)] [.inl x13] SH h12 (QI Q)
        exact rn_iret dX11_party_40 rfl ⟨rfl, Rh12, _, rfl, V⟩
    · replace V := V.2 c8
      refine rn_aload_n dX11_party_18 rfl rfl ?_
      refine rn_iconst (v := 1) dX11_party_19 (by decide) ?_
      refine rn_cV (M' := mX11_refuse) (n := 1) (av := [.inl 1]) (S := []) (rc := 0) (rs := 0) (mc := 0) (ms := 0) (a := 0) (ci := 10) (r := (RX11, TX11, 12)) dX11_party_20 pa_X11_refuse (Nat.le_refl _) rfl (Nat.le_of_ble_eq_true rfl) ml_X11_87 im_X11_refuse se_X11_refuse rfl rfl rfl (Ev.mono V ?_)
      rintro v sh1 h14 ⟨rfl, Rh14, x15, rfl, V⟩
      show Rn G (d + 1) 0 0 mX11_party 23 [(0, .inr (.inr (some 0))), (1, .inl a1), (2, .inl a2)] [.inl x15] SH h14 (QI Q)
      exact rn_iret dX11_party_23 rfl ⟨rfl, Rh14, _, rfl, V⟩
set_option maxRecDepth 100000 in
set_option maxHeartbeats 4000000 in
theorem vc_X11_ofParty {G : GT} {d : Nat} {a1 : Int32} {a2 : Int32}  {h : Hp} {Q : Int32 → Hp → Prop} (hR : RF h) (V : EvI G d mX9_hasParty [.inr (.inr (some 1)), .inl a1] h (fun x2 h1 => ((x2 = 0 → EvI G d mX11_refuse [.inr (.inr (some 0)), .inl 1] h1 (fun x5 h4 => Q x5 h4)) ∧ (¬ x2 = 0 → EvI G d mX11_within [.inl a2, .inl 0, .inl 7] h1 (fun x7 h6 => ((¬ x7 = 0 → ((((a2).toInt = 0 + (0 : Nat) → vp_in a1 4 ∧ Q (h6.1 2 (Int32.toNatClampNeg a1)) h6) ∧ ((a2).toInt = 0 + (1 : Nat) → vp_in a1 4 ∧ Q (h6.1 3 (Int32.toNatClampNeg a1)) h6) ∧ ((a2).toInt = 0 + (2 : Nat) → vp_in a1 4 ∧ Q (h6.1 4 (Int32.toNatClampNeg a1)) h6) ∧ ((a2).toInt = 0 + (3 : Nat) → vp_in a1 4 ∧ Q (h6.1 10 (Int32.toNatClampNeg a1)) h6) ∧ ((a2).toInt = 0 + (4 : Nat) → vp_in a1 4 ∧ Q (h6.1 11 (Int32.toNatClampNeg a1)) h6) ∧ ((a2).toInt = 0 + (5 : Nat) → EvI G d mX9_runs [.inr (.inr (some 1)), .inl a1] h6 (fun x12 h11 => Q x12 h11)) ∧ ((a2).toInt = 0 + (6 : Nat) → EvI G d mX9_drips [.inr (.inr (some 1)), .inl a1] h6 (fun x14 h13 => Q x14 h13))) ∧ ((a2).toInt < 0 ∨ 6 < (a2).toInt → EvI G d mX9_saidOf [.inr (.inr (some 1)), .inl a1] h6 (fun x16 h15 => Q x16 h15)))) ∧ (x7 = 0 → EvI G d mX11_refuse [.inr (.inr (some 0)), .inl 1] h6 (fun x18 h17 => Q x18 h17)))))))) : EvI G (d + 1) mX11_ofParty [.inr (.inr (some 0)), .inl a1, .inl a2] h Q := by
  refine Ev.of rfl (fun _ => Nat.le_of_ble_eq_true rfl) ?_
  show Rn G (d + 1) 0 0 mX11_ofParty 0 [(0, .inr (.inr (some 0))), (1, .inl a1), (2, .inl a2)] [] SH h (QI Q)
  refine rn_aload_n dX11_ofParty_0 rfl rfl ?_
  refine rn_get (v := .inr (.inr (some 1))) dX11_ofParty_1 fl_X11_10 rfl rfl (congrArg (fun z => (Sum.inr (Sum.inr z) : MV)) (rf_0_0 hR)) ?_
  refine rn_iload_n dX11_ofParty_4 rfl rfl ?_
  refine rn_cV (M' := mX9_hasParty) (n := 1) (av := [.inl a1]) (S := []) (rc := 0) (rs := 0) (mc := 0) (ms := 0) (a := 1) (ci := 8) (r := (RX9, TX9, 17)) dX11_ofParty_5 pa_X9_hasParty (Nat.le_refl _) rfl (Nat.le_of_ble_eq_true rfl) ml_X11_99 im_X9_hasParty se_X9_hasParty rfl rfl rfl (Ev.mono V ?_)
  rintro v sh1 h1 ⟨rfl, Rh1, x2, rfl, V⟩
  show Rn G (d + 1) 0 0 mX11_ofParty 8 [(0, .inr (.inr (some 0))), (1, .inl a1), (2, .inl a2)] [.inl x2] SH h1 (QI Q)
  refine rn_if_eq (tgt := 21) dX11_ofParty_8 (by decide) (fun c3 => ?_) (fun c3 => ?_)
  · replace V := V.1 c3
    refine rn_aload_n dX11_ofParty_21 rfl rfl ?_
    refine rn_iconst (v := 1) dX11_ofParty_22 (by decide) ?_
    refine rn_cV (M' := mX11_refuse) (n := 1) (av := [.inl 1]) (S := []) (rc := 0) (rs := 0) (mc := 0) (ms := 0) (a := 0) (ci := 10) (r := (RX11, TX11, 12)) dX11_ofParty_23 pa_X11_refuse (Nat.le_refl _) rfl (Nat.le_of_ble_eq_true rfl) ml_X11_87 im_X11_refuse se_X11_refuse rfl rfl rfl (Ev.mono V ?_)
    rintro v sh1 h4 ⟨rfl, Rh4, x5, rfl, V⟩
    show Rn G (d + 1) 0 0 mX11_ofParty 26 [(0, .inr (.inr (some 0))), (1, .inl a1), (2, .inl a2)] [.inl x5] SH h4 (QI Q)
    exact rn_iret dX11_ofParty_26 rfl ⟨rfl, Rh4, _, rfl, V⟩
  · replace V := V.2 c3
    refine rn_iload_n dX11_ofParty_11 rfl rfl ?_
    refine rn_iconst (v := 0) dX11_ofParty_12 (by decide) ?_
    refine rn_bipush (v := 7) dX11_ofParty_13 (by decide) ?_
    refine rn_cS (M' := mX11_within) (n := 3) (av := [.inl a2, .inl 0, .inl 7]) (S := []) (rc := 0) (rs := 0) (mc := 0) (ms := 0) dX11_ofParty_15 pa_X11_within (Nat.le_refl _) rfl (Nat.le_of_ble_eq_true rfl) ml_X11_83 ss_X11_within rfl (Ev.mono V ?_)
    rintro v sh1 h6 ⟨rfl, Rh6, x7, rfl, V⟩
    show Rn G (d + 1) 0 0 mX11_ofParty 18 [(0, .inr (.inr (some 0))), (1, .inl a1), (2, .inl a2)] [.inl x7] SH h6 (QI Q)
    refine rn_if_ne (tgt := 27) dX11_ofParty_18 (by decide) (fun c8 => ?_) (fun c8 => ?_)
    · replace V := V.1 c8
      refine rn_iload_n dX11_ofParty_27 rfl rfl ?_
      refine rn_tsw (td := 146) [72, 82, 92, 102, 115, 128, 137] dX11_ofParty_28 (by decide) (by decide +kernel) (by decide) (fun i10 hi c9 => ?_) (fun c9 => ?_)
      · replace V := V.1
        match i10, hi, c9 with
        | 0, _, c9 =>
          replace V := V.1 c9
          show Rn G (d + 1) 0 0 mX11_ofParty 72 [(0, .inr (.inr (some 0))), (1, .inl a1), (2, .inl a2)] [] SH h6 (QI Q)
          refine rn_aload_n dX11_ofParty_72 rfl rfl ?_
          refine rn_get (v := .inr (.inr (some 1))) dX11_ofParty_73 fl_X11_10 rfl rfl (congrArg (fun z => (Sum.inr (Sum.inr z) : MV)) (rf_0_0 Rh6)) ?_
          refine rn_get (v := .inr (.inr (some 2))) dX11_ofParty_76 fl_X11_102 rfl rfl (congrArg (fun z => (Sum.inr (Sum.inr z) : MV)) (rf_1_1 Rh6)) ?_
          refine rn_iload_n dX11_ofParty_79 rfl rfl ?_
          obtain ⟨g0, V⟩ := V
          refine rn_iald (k := (Int32.toNatClampNeg a1)) dX11_ofParty_80 rfl rfl g0 ?_
          exact rn_iret dX11_ofParty_81 rfl ⟨rfl, Rh6, _, rfl, V⟩
        | 1, _, c9 =>
          replace V := V.2.1 c9
          show Rn G (d + 1) 0 0 mX11_ofParty 82 [(0, .inr (.inr (some 0))), (1, .inl a1), (2, .inl a2)] [] SH h6 (QI Q)
          refine rn_aload_n dX11_ofParty_82 rfl rfl ?_
          refine rn_get (v := .inr (.inr (some 1))) dX11_ofParty_83 fl_X11_10 rfl rfl (congrArg (fun z => (Sum.inr (Sum.inr z) : MV)) (rf_0_0 Rh6)) ?_
          refine rn_get (v := .inr (.inr (some 3))) dX11_ofParty_86 fl_X11_105 rfl rfl (congrArg (fun z => (Sum.inr (Sum.inr z) : MV)) (rf_1_2 Rh6)) ?_
          refine rn_iload_n dX11_ofParty_89 rfl rfl ?_
          obtain ⟨g0, V⟩ := V
          refine rn_iald (k := (Int32.toNatClampNeg a1)) dX11_ofParty_90 rfl rfl g0 ?_
          exact rn_iret dX11_ofParty_91 rfl ⟨rfl, Rh6, _, rfl, V⟩
        | 2, _, c9 =>
          replace V := V.2.2.1 c9
          show Rn G (d + 1) 0 0 mX11_ofParty 92 [(0, .inr (.inr (some 0))), (1, .inl a1), (2, .inl a2)] [] SH h6 (QI Q)
          refine rn_aload_n dX11_ofParty_92 rfl rfl ?_
          refine rn_get (v := .inr (.inr (some 1))) dX11_ofParty_93 fl_X11_10 rfl rfl (congrArg (fun z => (Sum.inr (Sum.inr z) : MV)) (rf_0_0 Rh6)) ?_
          refine rn_get (v := .inr (.inr (some 4))) dX11_ofParty_96 fl_X11_108 rfl rfl (congrArg (fun z => (Sum.inr (Sum.inr z) : MV)) (rf_1_3 Rh6)) ?_
          refine rn_iload_n dX11_ofParty_99 rfl rfl ?_
          obtain ⟨g0, V⟩ := V
          refine rn_iald (k := (Int32.toNatClampNeg a1)) dX11_ofParty_100 rfl rfl g0 ?_
          exact rn_iret dX11_ofParty_101 rfl ⟨rfl, Rh6, _, rfl, V⟩
        | 3, _, c9 =>
          replace V := V.2.2.2.1 c9
          show Rn G (d + 1) 0 0 mX11_ofParty 102 [(0, .inr (.inr (some 0))), (1, .inl a1), (2, .inl a2)] [] SH h6 (QI Q)
          refine rn_aload_n dX11_ofParty_102 rfl rfl ?_
          refine rn_get (v := .inr (.inr (some 1))) dX11_ofParty_103 fl_X11_10 rfl rfl (congrArg (fun z => (Sum.inr (Sum.inr z) : MV)) (rf_0_0 Rh6)) ?_
          refine rn_get (v := .inr (.inr (some 9))) dX11_ofParty_106 fl_X11_111 rfl rfl (congrArg (fun z => (Sum.inr (Sum.inr z) : MV)) (rf_1_9 Rh6)) ?_
          refine rn_get (v := .inr (.inr (some 10))) dX11_ofParty_109 fl_X11_114 rfl rfl (congrArg (fun z => (Sum.inr (Sum.inr z) : MV)) (rf_9_0 Rh6)) ?_
          refine rn_iload_n dX11_ofParty_112 rfl rfl ?_
          obtain ⟨g0, V⟩ := V
          refine rn_iald (k := (Int32.toNatClampNeg a1)) dX11_ofParty_113 rfl rfl g0 ?_
          exact rn_iret dX11_ofParty_114 rfl ⟨rfl, Rh6, _, rfl, V⟩
        | 4, _, c9 =>
          replace V := V.2.2.2.2.1 c9
          show Rn G (d + 1) 0 0 mX11_ofParty 115 [(0, .inr (.inr (some 0))), (1, .inl a1), (2, .inl a2)] [] SH h6 (QI Q)
          refine rn_aload_n dX11_ofParty_115 rfl rfl ?_
          refine rn_get (v := .inr (.inr (some 1))) dX11_ofParty_116 fl_X11_10 rfl rfl (congrArg (fun z => (Sum.inr (Sum.inr z) : MV)) (rf_0_0 Rh6)) ?_
          refine rn_get (v := .inr (.inr (some 9))) dX11_ofParty_119 fl_X11_111 rfl rfl (congrArg (fun z => (Sum.inr (Sum.inr z) : MV)) (rf_1_9 Rh6)) ?_
          refine rn_get (v := .inr (.inr (some 11))) dX11_ofParty_122 fl_X11_117 rfl rfl (congrArg (fun z => (Sum.inr (Sum.inr z) : MV)) (rf_9_1 Rh6)) ?_
          refine rn_iload_n dX11_ofParty_125 rfl rfl ?_
          obtain ⟨g0, V⟩ := V
          refine rn_iald (k := (Int32.toNatClampNeg a1)) dX11_ofParty_126 rfl rfl g0 ?_
          exact rn_iret dX11_ofParty_127 rfl ⟨rfl, Rh6, _, rfl, V⟩
        | 5, _, c9 =>
          replace V := V.2.2.2.2.2.1 c9
          show Rn G (d + 1) 0 0 mX11_ofParty 128 [(0, .inr (.inr (some 0))), (1, .inl a1), (2, .inl a2)] [] SH h6 (QI Q)
          refine rn_aload_n dX11_ofParty_128 rfl rfl ?_
          refine rn_get (v := .inr (.inr (some 1))) dX11_ofParty_129 fl_X11_10 rfl rfl (congrArg (fun z => (Sum.inr (Sum.inr z) : MV)) (rf_0_0 Rh6)) ?_
          refine rn_iload_n dX11_ofParty_132 rfl rfl ?_
          refine rn_cV (M' := mX9_runs) (n := 1) (av := [.inl a1]) (S := []) (rc := 0) (rs := 0) (mc := 0) (ms := 0) (a := 1) (ci := 8) (r := (RX9, TX9, 17)) dX11_ofParty_133 pa_X9_runs (Nat.le_refl _) rfl (Nat.le_of_ble_eq_true rfl) ml_X11_120 im_X9_runs se_X9_runs rfl rfl rfl (Ev.mono V ?_)
          rintro v sh1 h11 ⟨rfl, Rh11, x12, rfl, V⟩
          show Rn G (d + 1) 0 0 mX11_ofParty 136 [(0, .inr (.inr (some 0))), (1, .inl a1), (2, .inl a2)] [.inl x12] SH h11 (QI Q)
          exact rn_iret dX11_ofParty_136 rfl ⟨rfl, Rh11, _, rfl, V⟩
        | 6, _, c9 =>
          replace V := V.2.2.2.2.2.2 c9
          show Rn G (d + 1) 0 0 mX11_ofParty 137 [(0, .inr (.inr (some 0))), (1, .inl a1), (2, .inl a2)] [] SH h6 (QI Q)
          refine rn_aload_n dX11_ofParty_137 rfl rfl ?_
          refine rn_get (v := .inr (.inr (some 1))) dX11_ofParty_138 fl_X11_10 rfl rfl (congrArg (fun z => (Sum.inr (Sum.inr z) : MV)) (rf_0_0 Rh6)) ?_
          refine rn_iload_n dX11_ofParty_141 rfl rfl ?_
          refine rn_cV (M' := mX9_drips) (n := 1) (av := [.inl a1]) (S := []) (rc := 0) (rs := 0) (mc := 0) (ms := 0) (a := 1) (ci := 8) (r := (RX9, TX9, 17)) dX11_ofParty_142 pa_X9_drips (Nat.le_refl _) rfl (Nat.le_of_ble_eq_true rfl) ml_X11_123 im_X9_drips se_X9_drips rfl rfl rfl (Ev.mono V ?_)
          rintro v sh1 h13 ⟨rfl, Rh13, x14, rfl, V⟩
          show Rn G (d + 1) 0 0 mX11_ofParty 145 [(0, .inr (.inr (some 0))), (1, .inl a1), (2, .inl a2)] [.inl x14] SH h13 (QI Q)
          exact rn_iret dX11_ofParty_145 rfl ⟨rfl, Rh13, _, rfl, V⟩
        | n + 7, hi, _ => exact absurd hi (by simp)
      · replace V := V.2 c9
        refine rn_aload_n dX11_ofParty_146 rfl rfl ?_
        refine rn_get (v := .inr (.inr (some 1))) dX11_ofParty_147 fl_X11_10 rfl rfl (congrArg (fun z => (Sum.inr (Sum.inr z) : MV)) (rf_0_0 Rh6)) ?_
        refine rn_iload_n dX11_ofParty_150 rfl rfl ?_
        refine rn_cV (M' := mX9_saidOf) (n := 1) (av := [.inl a1]) (S := []) (rc := 0) (rs := 0) (mc := 0) (ms := 0) (a := 1) (ci := 8) (r := (RX9, TX9, 17)) dX11_ofParty_151 pa_X9_saidOf (Nat.le_refl _) rfl (Nat.le_of_ble_eq_true rfl) ml_X11_126 im_X9_saidOf se_X9_saidOf rfl rfl rfl (Ev.mono V ?_)
        rintro v sh1 h15 ⟨rfl, Rh15, x16, rfl, V⟩
        show Rn G (d + 1) 0 0 mX11_ofParty 154 [(0, .inr (.inr (some 0))), (1, .inl a1), (2, .inl a2)] [.inl x16] SH h15 (QI Q)
        exact rn_iret dX11_ofParty_154 rfl ⟨rfl, Rh15, _, rfl, V⟩
    · replace V := V.2 c8
      refine rn_aload_n dX11_ofParty_21 rfl rfl ?_
      refine rn_iconst (v := 1) dX11_ofParty_22 (by decide) ?_
      refine rn_cV (M' := mX11_refuse) (n := 1) (av := [.inl 1]) (S := []) (rc := 0) (rs := 0) (mc := 0) (ms := 0) (a := 0) (ci := 10) (r := (RX11, TX11, 12)) dX11_ofParty_23 pa_X11_refuse (Nat.le_refl _) rfl (Nat.le_of_ble_eq_true rfl) ml_X11_87 im_X11_refuse se_X11_refuse rfl rfl rfl (Ev.mono V ?_)
      rintro v sh1 h17 ⟨rfl, Rh17, x18, rfl, V⟩
      show Rn G (d + 1) 0 0 mX11_ofParty 26 [(0, .inr (.inr (some 0))), (1, .inl a1), (2, .inl a2)] [.inl x18] SH h17 (QI Q)
      exact rn_iret dX11_ofParty_26 rfl ⟨rfl, Rh17, _, rfl, V⟩
set_option maxRecDepth 100000 in
set_option maxHeartbeats 4000000 in
theorem vc_X11_become {G : GT} {d : Nat} {a1 : Int32} {a2 : Int32}  {h : Hp} {Q : Int32 → Hp → Prop} (hR : RF h) (V : EvI G d mX9_hasParty [.inr (.inr (some 1)), .inl a1] h (fun x2 h1 => ((x2 = 0 → EvI G d mX11_refuse [.inr (.inr (some 0)), .inl 1] h1 (fun x5 h4 => Q x5 h4)) ∧ (¬ x2 = 0 → EvI G d mX11_isKm [.inl a2] h1 (fun x7 h6 => ((¬ x7 = 0 → vp_in a1 4 ∧ vp_in a1 4 ∧ vp_in a1 4 ∧ Q (h6.1 2 (Int32.toNatClampNeg a1)) (sI (sI h6 2 (Int32.toNatClampNeg a1) (a2 / 10)) 3 (Int32.toNatClampNeg a1) (a2 - a2 / 10 * 10))) ∧ (x7 = 0 → EvI G d mX11_refuse [.inr (.inr (some 0)), .inl 1] h6 (fun x10 h9 => Q x10 h9)))))))) : EvI G (d + 1) mX11_become [.inr (.inr (some 0)), .inl a1, .inl a2] h Q := by
  refine Ev.of rfl (fun _ => Nat.le_of_ble_eq_true rfl) ?_
  show Rn G (d + 1) 0 0 mX11_become 0 [(0, .inr (.inr (some 0))), (1, .inl a1), (2, .inl a2)] [] SH h (QI Q)
  refine rn_aload_n dX11_become_0 rfl rfl ?_
  refine rn_get (v := .inr (.inr (some 1))) dX11_become_1 fl_X11_10 rfl rfl (congrArg (fun z => (Sum.inr (Sum.inr z) : MV)) (rf_0_0 hR)) ?_
  refine rn_iload_n dX11_become_4 rfl rfl ?_
  refine rn_cV (M' := mX9_hasParty) (n := 1) (av := [.inl a1]) (S := []) (rc := 0) (rs := 0) (mc := 0) (ms := 0) (a := 1) (ci := 8) (r := (RX9, TX9, 17)) dX11_become_5 pa_X9_hasParty (Nat.le_refl _) rfl (Nat.le_of_ble_eq_true rfl) ml_X11_99 im_X9_hasParty se_X9_hasParty rfl rfl rfl (Ev.mono V ?_)
  rintro v sh1 h1 ⟨rfl, Rh1, x2, rfl, V⟩
  show Rn G (d + 1) 0 0 mX11_become 8 [(0, .inr (.inr (some 0))), (1, .inl a1), (2, .inl a2)] [.inl x2] SH h1 (QI Q)
  refine rn_if_eq (tgt := 18) dX11_become_8 (by decide) (fun c3 => ?_) (fun c3 => ?_)
  · replace V := V.1 c3
    refine rn_aload_n dX11_become_18 rfl rfl ?_
    refine rn_iconst (v := 1) dX11_become_19 (by decide) ?_
    refine rn_cV (M' := mX11_refuse) (n := 1) (av := [.inl 1]) (S := []) (rc := 0) (rs := 0) (mc := 0) (ms := 0) (a := 0) (ci := 10) (r := (RX11, TX11, 12)) dX11_become_20 pa_X11_refuse (Nat.le_refl _) rfl (Nat.le_of_ble_eq_true rfl) ml_X11_87 im_X11_refuse se_X11_refuse rfl rfl rfl (Ev.mono V ?_)
    rintro v sh1 h4 ⟨rfl, Rh4, x5, rfl, V⟩
    show Rn G (d + 1) 0 0 mX11_become 23 [(0, .inr (.inr (some 0))), (1, .inl a1), (2, .inl a2)] [.inl x5] SH h4 (QI Q)
    exact rn_iret dX11_become_23 rfl ⟨rfl, Rh4, _, rfl, V⟩
  · replace V := V.2 c3
    refine rn_iload_n dX11_become_11 rfl rfl ?_
    refine rn_cS (M' := mX11_isKm) (n := 1) (av := [.inl a2]) (S := []) (rc := 0) (rs := 0) (mc := 0) (ms := 0) dX11_become_12 pa_X11_isKm (Nat.le_refl _) rfl (Nat.le_of_ble_eq_true rfl) ml_X11_79 ss_X11_isKm rfl (Ev.mono V ?_)
    rintro v sh1 h6 ⟨rfl, Rh6, x7, rfl, V⟩
    show Rn G (d + 1) 0 0 mX11_become 15 [(0, .inr (.inr (some 0))), (1, .inl a1), (2, .inl a2)] [.inl x7] SH h6 (QI Q)
    refine rn_if_ne (tgt := 24) dX11_become_15 (by decide) (fun c8 => ?_) (fun c8 => ?_)
    · replace V := V.1 c8
      refine rn_aload_n dX11_become_24 rfl rfl ?_
      refine rn_get (v := .inr (.inr (some 1))) dX11_become_25 fl_X11_10 rfl rfl (congrArg (fun z => (Sum.inr (Sum.inr z) : MV)) (rf_0_0 Rh6)) ?_
      refine rn_get (v := .inr (.inr (some 2))) dX11_become_28 fl_X11_102 rfl rfl (congrArg (fun z => (Sum.inr (Sum.inr z) : MV)) (rf_1_1 Rh6)) ?_
      refine rn_iload_n dX11_become_31 rfl rfl ?_
      obtain ⟨g0, V⟩ := V
      refine rn_iald (k := (Int32.toNatClampNeg a1)) dX11_become_32 rfl rfl g0 ?_
      refine rn_istore_n (L' := [(3, .inl (h6.1 2 (Int32.toNatClampNeg a1))), (0, .inr (.inr (some 0))), (1, .inl a1), (2, .inl a2)]) dX11_become_33 rfl (Nat.le_of_ble_eq_true rfl) rfl ?_
      refine rn_aload_n dX11_become_34 rfl rfl ?_
      refine rn_get (v := .inr (.inr (some 1))) dX11_become_35 fl_X11_10 rfl rfl (congrArg (fun z => (Sum.inr (Sum.inr z) : MV)) (rf_0_0 Rh6)) ?_
      refine rn_get (v := .inr (.inr (some 2))) dX11_become_38 fl_X11_102 rfl rfl (congrArg (fun z => (Sum.inr (Sum.inr z) : MV)) (rf_1_1 Rh6)) ?_
      refine rn_iload_n dX11_become_41 rfl rfl ?_
      refine rn_iload_n dX11_become_42 rfl rfl ?_
      refine rn_bipush (v := 10) dX11_become_43 (by decide) ?_
      refine rn_idiv dX11_become_45 (by decide) ?_
      obtain ⟨g0, V⟩ := V
      refine rn_iast (k := (Int32.toNatClampNeg a1)) dX11_become_46 rfl rfl g0 ?_
      refine rn_aload_n dX11_become_47 rfl rfl ?_
      refine rn_get (v := .inr (.inr (some 1))) dX11_become_48 fl_X11_10 rfl rfl (congrArg (fun z => (Sum.inr (Sum.inr z) : MV)) (rf_0_0 Rh6)) ?_
      refine rn_get (v := .inr (.inr (some 3))) dX11_become_51 fl_X11_105 rfl rfl (congrArg (fun z => (Sum.inr (Sum.inr z) : MV)) (rf_1_2 Rh6)) ?_
      refine rn_iload_n dX11_become_54 rfl rfl ?_
      refine rn_iload_n dX11_become_55 rfl rfl ?_
      refine rn_bipush (v := 10) dX11_become_56 (by decide) ?_
      refine rn_irem dX11_become_58 (by decide) ?_
      obtain ⟨g0, V⟩ := V
      refine rn_iast (k := (Int32.toNatClampNeg a1)) dX11_become_59 rfl rfl g0 ?_
      refine rn_iload_n dX11_become_60 rfl rfl ?_
      exact rn_iret dX11_become_61 rfl ⟨rfl, Rh6, _, rfl, V⟩
    · replace V := V.2 c8
      refine rn_aload_n dX11_become_18 rfl rfl ?_
      refine rn_iconst (v := 1) dX11_become_19 (by decide) ?_
      refine rn_cV (M' := mX11_refuse) (n := 1) (av := [.inl 1]) (S := []) (rc := 0) (rs := 0) (mc := 0) (ms := 0) (a := 0) (ci := 10) (r := (RX11, TX11, 12)) dX11_become_20 pa_X11_refuse (Nat.le_refl _) rfl (Nat.le_of_ble_eq_true rfl) ml_X11_87 im_X11_refuse se_X11_refuse rfl rfl rfl (Ev.mono V ?_)
      rintro v sh1 h9 ⟨rfl, Rh9, x10, rfl, V⟩
      show Rn G (d + 1) 0 0 mX11_become 23 [(0, .inr (.inr (some 0))), (1, .inl a1), (2, .inl a2)] [.inl x10] SH h9 (QI Q)
      exact rn_iret dX11_become_23 rfl ⟨rfl, Rh9, _, rfl, V⟩
set_option maxRecDepth 100000 in
set_option maxHeartbeats 4000000 in
theorem vc_X11_as {G : GT} {d : Nat} {a1 : Int32} {a2 : Int32}  {h : Hp} {Q : Int32 → Hp → Prop} (hR : RF h) (V : EvI G d mX9_hasParty [.inr (.inr (some 1)), .inl a1] h (fun x2 h1 => ((x2 = 0 → EvI G d mX11_refuse [.inr (.inr (some 0)), .inl 1] h1 (fun x5 h4 => Q x5 h4)) ∧ (¬ x2 = 0 → EvI G d mX11_within [.inl a2, .inl 0, .inl 6] h1 (fun x7 h6 => ((¬ x7 = 0 → vp_in a1 4 ∧ EvI G d mX4_isUnder [.inl (h6.1 2 (Int32.toNatClampNeg a1)), .inl a2] h6 (fun x10 h9 => ((¬ x10 = 0 → vp_in a1 4 ∧ Q (h9.1 3 (Int32.toNatClampNeg a1)) h9) ∧ (x10 = 0 → EvI G d mX11_refuse [.inr (.inr (some 0)), .inl 5] h9 (fun x13 h12 => Q x13 h12))))) ∧ (x7 = 0 → EvI G d mX11_refuse [.inr (.inr (some 0)), .inl 1] h6 (fun x15 h14 => Q x15 h14)))))))) : EvI G (d + 1) mX11_as [.inr (.inr (some 0)), .inl a1, .inl a2] h Q := by
  refine Ev.of rfl (fun _ => Nat.le_of_ble_eq_true rfl) ?_
  show Rn G (d + 1) 0 0 mX11_as 0 [(0, .inr (.inr (some 0))), (1, .inl a1), (2, .inl a2)] [] SH h (QI Q)
  refine rn_aload_n dX11_as_0 rfl rfl ?_
  refine rn_get (v := .inr (.inr (some 1))) dX11_as_1 fl_X11_10 rfl rfl (congrArg (fun z => (Sum.inr (Sum.inr z) : MV)) (rf_0_0 hR)) ?_
  refine rn_iload_n dX11_as_4 rfl rfl ?_
  refine rn_cV (M' := mX9_hasParty) (n := 1) (av := [.inl a1]) (S := []) (rc := 0) (rs := 0) (mc := 0) (ms := 0) (a := 1) (ci := 8) (r := (RX9, TX9, 17)) dX11_as_5 pa_X9_hasParty (Nat.le_refl _) rfl (Nat.le_of_ble_eq_true rfl) ml_X11_99 im_X9_hasParty se_X9_hasParty rfl rfl rfl (Ev.mono V ?_)
  rintro v sh1 h1 ⟨rfl, Rh1, x2, rfl, V⟩
  show Rn G (d + 1) 0 0 mX11_as 8 [(0, .inr (.inr (some 0))), (1, .inl a1), (2, .inl a2)] [.inl x2] SH h1 (QI Q)
  refine rn_if_eq (tgt := 21) dX11_as_8 (by decide) (fun c3 => ?_) (fun c3 => ?_)
  · replace V := V.1 c3
    refine rn_aload_n dX11_as_21 rfl rfl ?_
    refine rn_iconst (v := 1) dX11_as_22 (by decide) ?_
    refine rn_cV (M' := mX11_refuse) (n := 1) (av := [.inl 1]) (S := []) (rc := 0) (rs := 0) (mc := 0) (ms := 0) (a := 0) (ci := 10) (r := (RX11, TX11, 12)) dX11_as_23 pa_X11_refuse (Nat.le_refl _) rfl (Nat.le_of_ble_eq_true rfl) ml_X11_87 im_X11_refuse se_X11_refuse rfl rfl rfl (Ev.mono V ?_)
    rintro v sh1 h4 ⟨rfl, Rh4, x5, rfl, V⟩
    show Rn G (d + 1) 0 0 mX11_as 26 [(0, .inr (.inr (some 0))), (1, .inl a1), (2, .inl a2)] [.inl x5] SH h4 (QI Q)
    exact rn_iret dX11_as_26 rfl ⟨rfl, Rh4, _, rfl, V⟩
  · replace V := V.2 c3
    refine rn_iload_n dX11_as_11 rfl rfl ?_
    refine rn_iconst (v := 0) dX11_as_12 (by decide) ?_
    refine rn_bipush (v := 6) dX11_as_13 (by decide) ?_
    refine rn_cS (M' := mX11_within) (n := 3) (av := [.inl a2, .inl 0, .inl 6]) (S := []) (rc := 0) (rs := 0) (mc := 0) (ms := 0) dX11_as_15 pa_X11_within (Nat.le_refl _) rfl (Nat.le_of_ble_eq_true rfl) ml_X11_83 ss_X11_within rfl (Ev.mono V ?_)
    rintro v sh1 h6 ⟨rfl, Rh6, x7, rfl, V⟩
    show Rn G (d + 1) 0 0 mX11_as 18 [(0, .inr (.inr (some 0))), (1, .inl a1), (2, .inl a2)] [.inl x7] SH h6 (QI Q)
    refine rn_if_ne (tgt := 27) dX11_as_18 (by decide) (fun c8 => ?_) (fun c8 => ?_)
    · replace V := V.1 c8
      refine rn_aload_n dX11_as_27 rfl rfl ?_
      refine rn_get (v := .inr (.inr (some 1))) dX11_as_28 fl_X11_10 rfl rfl (congrArg (fun z => (Sum.inr (Sum.inr z) : MV)) (rf_0_0 Rh6)) ?_
      refine rn_get (v := .inr (.inr (some 2))) dX11_as_31 fl_X11_102 rfl rfl (congrArg (fun z => (Sum.inr (Sum.inr z) : MV)) (rf_1_1 Rh6)) ?_
      refine rn_iload_n dX11_as_34 rfl rfl ?_
      obtain ⟨g0, V⟩ := V
      refine rn_iald (k := (Int32.toNatClampNeg a1)) dX11_as_35 rfl rfl g0 ?_
      refine rn_iload_n dX11_as_36 rfl rfl ?_
      refine rn_cS (M' := mX4_isUnder) (n := 2) (av := [.inl (h6.1 2 (Int32.toNatClampNeg a1)), .inl a2]) (S := []) (rc := 0) (rs := 0) (mc := 0) (ms := 0) dX11_as_37 pa_X4_isUnder (Nat.le_refl _) rfl (Nat.le_of_ble_eq_true rfl) ml_X11_131 ss_X4_isUnder rfl (Ev.mono V ?_)
      rintro v sh1 h9 ⟨rfl, Rh9, x10, rfl, V⟩
      show Rn G (d + 1) 0 0 mX11_as 40 [(0, .inr (.inr (some 0))), (1, .inl a1), (2, .inl a2)] [.inl x10] SH h9 (QI Q)
      refine rn_if_ne (tgt := 49) dX11_as_40 (by decide) (fun c11 => ?_) (fun c11 => ?_)
      · replace V := V.1 c11
        refine rn_aload_n dX11_as_49 rfl rfl ?_
        refine rn_get (v := .inr (.inr (some 1))) dX11_as_50 fl_X11_10 rfl rfl (congrArg (fun z => (Sum.inr (Sum.inr z) : MV)) (rf_0_0 Rh9)) ?_
        refine rn_get (v := .inr (.inr (some 3))) dX11_as_53 fl_X11_105 rfl rfl (congrArg (fun z => (Sum.inr (Sum.inr z) : MV)) (rf_1_2 Rh9)) ?_
        refine rn_iload_n dX11_as_56 rfl rfl ?_
        obtain ⟨g0, V⟩ := V
        refine rn_iald (k := (Int32.toNatClampNeg a1)) dX11_as_57 rfl rfl g0 ?_
        exact rn_iret dX11_as_58 rfl ⟨rfl, Rh9, _, rfl, V⟩
      · replace V := V.2 c11
        refine rn_aload_n dX11_as_43 rfl rfl ?_
        refine rn_iconst (v := 5) dX11_as_44 (by decide) ?_
        refine rn_cV (M' := mX11_refuse) (n := 1) (av := [.inl 5]) (S := []) (rc := 0) (rs := 0) (mc := 0) (ms := 0) (a := 0) (ci := 10) (r := (RX11, TX11, 12)) dX11_as_45 pa_X11_refuse (Nat.le_refl _) rfl (Nat.le_of_ble_eq_true rfl) ml_X11_87 im_X11_refuse se_X11_refuse rfl rfl rfl (Ev.mono V ?_)
        rintro v sh1 h12 ⟨rfl, Rh12, x13, rfl, V⟩
        show Rn G (d + 1) 0 0 mX11_as 48 [(0, .inr (.inr (some 0))), (1, .inl a1), (2, .inl a2)] [.inl x13] SH h12 (QI Q)
        exact rn_iret dX11_as_48 rfl ⟨rfl, Rh12, _, rfl, V⟩
    · replace V := V.2 c8
      refine rn_aload_n dX11_as_21 rfl rfl ?_
      refine rn_iconst (v := 1) dX11_as_22 (by decide) ?_
      refine rn_cV (M' := mX11_refuse) (n := 1) (av := [.inl 1]) (S := []) (rc := 0) (rs := 0) (mc := 0) (ms := 0) (a := 0) (ci := 10) (r := (RX11, TX11, 12)) dX11_as_23 pa_X11_refuse (Nat.le_refl _) rfl (Nat.le_of_ble_eq_true rfl) ml_X11_87 im_X11_refuse se_X11_refuse rfl rfl rfl (Ev.mono V ?_)
      rintro v sh1 h14 ⟨rfl, Rh14, x15, rfl, V⟩
      show Rn G (d + 1) 0 0 mX11_as 26 [(0, .inr (.inr (some 0))), (1, .inl a1), (2, .inl a2)] [.inl x15] SH h14 (QI Q)
      exact rn_iret dX11_as_26 rfl ⟨rfl, Rh14, _, rfl, V⟩
set_option maxRecDepth 100000 in
set_option maxHeartbeats 4000000 in
theorem vc_X11_word {G : GT} {d : Nat} {a1 : Int32} {a2 : Int32} {a3 : Int32} {a4 : Int32}  {h : Hp} {Q : Int32 → Hp → Prop} (hR : RF h) (V : EvI G d mX9_hasParty [.inr (.inr (some 1)), .inl a1] h (fun x2 h1 => ((x2 = 0 → EvI G d mX11_refuse [.inr (.inr (some 0)), .inl 1] h1 (fun x5 h4 => Q x5 h4)) ∧ (¬ x2 = 0 → EvI G d mX11_within [.inl a2, .inl 1, .inl 30] h1 (fun x7 h6 => ((x7 = 0 → EvI G d mX11_refuse [.inr (.inr (some 0)), .inl 1] h6 (fun x10 h9 => Q x10 h9)) ∧ (¬ x7 = 0 → EvI G d mX11_within [.inl a3, .inl 0, .inl 99] h6 (fun x12 h11 => ((x12 = 0 → EvI G d mX11_refuse [.inr (.inr (some 0)), .inl 1] h11 (fun x15 h14 => Q x15 h14)) ∧ (¬ x12 = 0 → EvI G d mX11_within [.inl a4, .inl (-1), .inl (h11.1 1 4 - 1)] h11 (fun x17 h16 => ((¬ x17 = 0 → ((h16.1 1 4 < 12 → EvI G d mX9_addWord [.inr (.inr (some 1)), .inl a1, .inl a2, .inl a3, .inl a4] h16 (fun x21 h20 => Q x21 h20)) ∧ (¬ h16.1 1 4 < 12 → EvI G d mX11_refuse [.inr (.inr (some 0)), .inl 4] h16 (fun x23 h22 => Q x23 h22)))) ∧ (x17 = 0 → EvI G d mX11_refuse [.inr (.inr (some 0)), .inl 1] h16 (fun x25 h24 => Q x25 h24)))))))))))))) : EvI G (d + 1) mX11_word [.inr (.inr (some 0)), .inl a1, .inl a2, .inl a3, .inl a4] h Q := by
  refine Ev.of rfl (fun _ => Nat.le_of_ble_eq_true rfl) ?_
  show Rn G (d + 1) 0 0 mX11_word 0 [(0, .inr (.inr (some 0))), (1, .inl a1), (2, .inl a2), (3, .inl a3), (4, .inl a4)] [] SH h (QI Q)
  refine rn_aload_n dX11_word_0 rfl rfl ?_
  refine rn_get (v := .inr (.inr (some 1))) dX11_word_1 fl_X11_10 rfl rfl (congrArg (fun z => (Sum.inr (Sum.inr z) : MV)) (rf_0_0 hR)) ?_
  refine rn_iload_n dX11_word_4 rfl rfl ?_
  refine rn_cV (M' := mX9_hasParty) (n := 1) (av := [.inl a1]) (S := []) (rc := 0) (rs := 0) (mc := 0) (ms := 0) (a := 1) (ci := 8) (r := (RX9, TX9, 17)) dX11_word_5 pa_X9_hasParty (Nat.le_refl _) rfl (Nat.le_of_ble_eq_true rfl) ml_X11_99 im_X9_hasParty se_X9_hasParty rfl rfl rfl (Ev.mono V ?_)
  rintro v sh1 h1 ⟨rfl, Rh1, x2, rfl, V⟩
  show Rn G (d + 1) 0 0 mX11_word 8 [(0, .inr (.inr (some 0))), (1, .inl a1), (2, .inl a2), (3, .inl a3), (4, .inl a4)] [.inl x2] SH h1 (QI Q)
  refine rn_if_eq (tgt := 49) dX11_word_8 (by decide) (fun c3 => ?_) (fun c3 => ?_)
  · replace V := V.1 c3
    refine rn_aload_n dX11_word_49 rfl rfl ?_
    refine rn_iconst (v := 1) dX11_word_50 (by decide) ?_
    refine rn_cV (M' := mX11_refuse) (n := 1) (av := [.inl 1]) (S := []) (rc := 0) (rs := 0) (mc := 0) (ms := 0) (a := 0) (ci := 10) (r := (RX11, TX11, 12)) dX11_word_51 pa_X11_refuse (Nat.le_refl _) rfl (Nat.le_of_ble_eq_true rfl) ml_X11_87 im_X11_refuse se_X11_refuse rfl rfl rfl (Ev.mono V ?_)
    rintro v sh1 h4 ⟨rfl, Rh4, x5, rfl, V⟩
    show Rn G (d + 1) 0 0 mX11_word 54 [(0, .inr (.inr (some 0))), (1, .inl a1), (2, .inl a2), (3, .inl a3), (4, .inl a4)] [.inl x5] SH h4 (QI Q)
    exact rn_iret dX11_word_54 rfl ⟨rfl, Rh4, _, rfl, V⟩
  · replace V := V.2 c3
    refine rn_iload_n dX11_word_11 rfl rfl ?_
    refine rn_iconst (v := 1) dX11_word_12 (by decide) ?_
    refine rn_bipush (v := 30) dX11_word_13 (by decide) ?_
    refine rn_cS (M' := mX11_within) (n := 3) (av := [.inl a2, .inl 1, .inl 30]) (S := []) (rc := 0) (rs := 0) (mc := 0) (ms := 0) dX11_word_15 pa_X11_within (Nat.le_refl _) rfl (Nat.le_of_ble_eq_true rfl) ml_X11_83 ss_X11_within rfl (Ev.mono V ?_)
    rintro v sh1 h6 ⟨rfl, Rh6, x7, rfl, V⟩
    show Rn G (d + 1) 0 0 mX11_word 18 [(0, .inr (.inr (some 0))), (1, .inl a1), (2, .inl a2), (3, .inl a3), (4, .inl a4)] [.inl x7] SH h6 (QI Q)
    refine rn_if_eq (tgt := 49) dX11_word_18 (by decide) (fun c8 => ?_) (fun c8 => ?_)
    · replace V := V.1 c8
      refine rn_aload_n dX11_word_49 rfl rfl ?_
      refine rn_iconst (v := 1) dX11_word_50 (by decide) ?_
      refine rn_cV (M' := mX11_refuse) (n := 1) (av := [.inl 1]) (S := []) (rc := 0) (rs := 0) (mc := 0) (ms := 0) (a := 0) (ci := 10) (r := (RX11, TX11, 12)) dX11_word_51 pa_X11_refuse (Nat.le_refl _) rfl (Nat.le_of_ble_eq_true rfl) ml_X11_87 im_X11_refuse se_X11_refuse rfl rfl rfl (Ev.mono V ?_)
      rintro v sh1 h9 ⟨rfl, Rh9, x10, rfl, V⟩
      show Rn G (d + 1) 0 0 mX11_word 54 [(0, .inr (.inr (some 0))), (1, .inl a1), (2, .inl a2), (3, .inl a3), (4, .inl a4)] [.inl x10] SH h9 (QI Q)
      exact rn_iret dX11_word_54 rfl ⟨rfl, Rh9, _, rfl, V⟩
    · replace V := V.2 c8
      refine rn_iload_n dX11_word_21 rfl rfl ?_
      refine rn_iconst (v := 0) dX11_word_22 (by decide) ?_
      refine rn_bipush (v := 99) dX11_word_23 (by decide) ?_
      refine rn_cS (M' := mX11_within) (n := 3) (av := [.inl a3, .inl 0, .inl 99]) (S := []) (rc := 0) (rs := 0) (mc := 0) (ms := 0) dX11_word_25 pa_X11_within (Nat.le_refl _) rfl (Nat.le_of_ble_eq_true rfl) ml_X11_83 ss_X11_within rfl (Ev.mono V ?_)
      rintro v sh1 h11 ⟨rfl, Rh11, x12, rfl, V⟩
      show Rn G (d + 1) 0 0 mX11_word 28 [(0, .inr (.inr (some 0))), (1, .inl a1), (2, .inl a2), (3, .inl a3), (4, .inl a4)] [.inl x12] SH h11 (QI Q)
      refine rn_if_eq (tgt := 49) dX11_word_28 (by decide) (fun c13 => ?_) (fun c13 => ?_)
      · replace V := V.1 c13
        refine rn_aload_n dX11_word_49 rfl rfl ?_
        refine rn_iconst (v := 1) dX11_word_50 (by decide) ?_
        refine rn_cV (M' := mX11_refuse) (n := 1) (av := [.inl 1]) (S := []) (rc := 0) (rs := 0) (mc := 0) (ms := 0) (a := 0) (ci := 10) (r := (RX11, TX11, 12)) dX11_word_51 pa_X11_refuse (Nat.le_refl _) rfl (Nat.le_of_ble_eq_true rfl) ml_X11_87 im_X11_refuse se_X11_refuse rfl rfl rfl (Ev.mono V ?_)
        rintro v sh1 h14 ⟨rfl, Rh14, x15, rfl, V⟩
        show Rn G (d + 1) 0 0 mX11_word 54 [(0, .inr (.inr (some 0))), (1, .inl a1), (2, .inl a2), (3, .inl a3), (4, .inl a4)] [.inl x15] SH h14 (QI Q)
        exact rn_iret dX11_word_54 rfl ⟨rfl, Rh14, _, rfl, V⟩
      · replace V := V.2 c13
        refine rn_iload dX11_word_31 rfl ?_
        refine rn_iconst (v := (-1)) dX11_word_33 (by decide) ?_
        refine rn_aload_n dX11_word_34 rfl rfl ?_
        refine rn_get (v := .inr (.inr (some 1))) dX11_word_35 fl_X11_10 rfl rfl (congrArg (fun z => (Sum.inr (Sum.inr z) : MV)) (rf_0_0 Rh11)) ?_
        refine rn_get (v := .inl (h11.1 1 4)) dX11_word_38 fl_X11_135 rfl rfl rfl ?_
        refine rn_iconst (v := 1) dX11_word_41 (by decide) ?_
        refine rn_isub dX11_word_42 ?_
        refine rn_cS (M' := mX11_within) (n := 3) (av := [.inl a4, .inl (-1), .inl (h11.1 1 4 - 1)]) (S := []) (rc := 0) (rs := 0) (mc := 0) (ms := 0) dX11_word_43 pa_X11_within (Nat.le_refl _) rfl (Nat.le_of_ble_eq_true rfl) ml_X11_83 ss_X11_within rfl (Ev.mono V ?_)
        rintro v sh1 h16 ⟨rfl, Rh16, x17, rfl, V⟩
        show Rn G (d + 1) 0 0 mX11_word 46 [(0, .inr (.inr (some 0))), (1, .inl a1), (2, .inl a2), (3, .inl a3), (4, .inl a4)] [.inl x17] SH h16 (QI Q)
        refine rn_if_ne (tgt := 55) dX11_word_46 (by decide) (fun c18 => ?_) (fun c18 => ?_)
        · replace V := V.1 c18
          refine rn_aload_n dX11_word_55 rfl rfl ?_
          refine rn_get (v := .inr (.inr (some 1))) dX11_word_56 fl_X11_10 rfl rfl (congrArg (fun z => (Sum.inr (Sum.inr z) : MV)) (rf_0_0 Rh16)) ?_
          refine rn_get (v := .inl (h16.1 1 4)) dX11_word_59 fl_X11_135 rfl rfl rfl ?_
          refine rn_bipush (v := 12) dX11_word_62 (by decide) ?_
          refine rn_icmp_lt (tgt := 73) dX11_word_64 (by decide) (fun c19 => ?_) (fun c19 => ?_)
          · replace V := V.1 c19
            refine rn_aload_n dX11_word_73 rfl rfl ?_
            refine rn_get (v := .inr (.inr (some 1))) dX11_word_74 fl_X11_10 rfl rfl (congrArg (fun z => (Sum.inr (Sum.inr z) : MV)) (rf_0_0 Rh16)) ?_
            refine rn_iload_n dX11_word_77 rfl rfl ?_
            refine rn_iload_n dX11_word_78 rfl rfl ?_
            refine rn_iload_n dX11_word_79 rfl rfl ?_
            refine rn_iload dX11_word_80 rfl ?_
            refine rn_cV (M' := mX9_addWord) (n := 4) (av := [.inl a1, .inl a2, .inl a3, .inl a4]) (S := []) (rc := 0) (rs := 0) (mc := 0) (ms := 0) (a := 1) (ci := 8) (r := (RX9, TX9, 17)) dX11_word_82 pa_X9_addWord (Nat.le_refl _) rfl (Nat.le_of_ble_eq_true rfl) ml_X11_138 im_X9_addWord se_X9_addWord rfl rfl rfl (Ev.mono V ?_)
            rintro v sh1 h20 ⟨rfl, Rh20, x21, rfl, V⟩
            show Rn G (d + 1) 0 0 mX11_word 85 [(0, .inr (.inr (some 0))), (1, .inl a1), (2, .inl a2), (3, .inl a3), (4, .inl a4)] [.inl x21] SH h20 (QI Q)
            exact rn_iret dX11_word_85 rfl ⟨rfl, Rh20, _, rfl, V⟩
          · replace V := V.2 c19
            refine rn_aload_n dX11_word_67 rfl rfl ?_
            refine rn_iconst (v := 4) dX11_word_68 (by decide) ?_
            refine rn_cV (M' := mX11_refuse) (n := 1) (av := [.inl 4]) (S := []) (rc := 0) (rs := 0) (mc := 0) (ms := 0) (a := 0) (ci := 10) (r := (RX11, TX11, 12)) dX11_word_69 pa_X11_refuse (Nat.le_refl _) rfl (Nat.le_of_ble_eq_true rfl) ml_X11_87 im_X11_refuse se_X11_refuse rfl rfl rfl (Ev.mono V ?_)
            rintro v sh1 h22 ⟨rfl, Rh22, x23, rfl, V⟩
            show Rn G (d + 1) 0 0 mX11_word 72 [(0, .inr (.inr (some 0))), (1, .inl a1), (2, .inl a2), (3, .inl a3), (4, .inl a4)] [.inl x23] SH h22 (QI Q)
            exact rn_iret dX11_word_72 rfl ⟨rfl, Rh22, _, rfl, V⟩
        · replace V := V.2 c18
          refine rn_aload_n dX11_word_49 rfl rfl ?_
          refine rn_iconst (v := 1) dX11_word_50 (by decide) ?_
          refine rn_cV (M' := mX11_refuse) (n := 1) (av := [.inl 1]) (S := []) (rc := 0) (rs := 0) (mc := 0) (ms := 0) (a := 0) (ci := 10) (r := (RX11, TX11, 12)) dX11_word_51 pa_X11_refuse (Nat.le_refl _) rfl (Nat.le_of_ble_eq_true rfl) ml_X11_87 im_X11_refuse se_X11_refuse rfl rfl rfl (Ev.mono V ?_)
          rintro v sh1 h24 ⟨rfl, Rh24, x25, rfl, V⟩
          show Rn G (d + 1) 0 0 mX11_word 54 [(0, .inr (.inr (some 0))), (1, .inl a1), (2, .inl a2), (3, .inl a3), (4, .inl a4)] [.inl x25] SH h24 (QI Q)
          exact rn_iret dX11_word_54 rfl ⟨rfl, Rh24, _, rfl, V⟩
set_option maxRecDepth 100000 in
set_option maxHeartbeats 4000000 in
theorem vc_X11_ofWord {G : GT} {d : Nat} {a1 : Int32} {a2 : Int32}  {h : Hp} {Q : Int32 → Hp → Prop} (hR : RF h) (V : EvI G d mX9_hasWord [.inr (.inr (some 1)), .inl a1] h (fun x2 h1 => ((x2 = 0 → EvI G d mX11_refuse [.inr (.inr (some 0)), .inl 1] h1 (fun x5 h4 => Q x5 h4)) ∧ (¬ x2 = 0 → EvI G d mX11_within [.inl a2, .inl 0, .inl 4] h1 (fun x7 h6 => ((¬ x7 = 0 → ((((a2).toInt = 0 + (0 : Nat) → vp_in a1 12 ∧ Q (h6.1 5 (Int32.toNatClampNeg a1)) h6) ∧ ((a2).toInt = 0 + (1 : Nat) → vp_in a1 12 ∧ Q (h6.1 6 (Int32.toNatClampNeg a1)) h6) ∧ ((a2).toInt = 0 + (2 : Nat) → vp_in a1 12 ∧ Q (h6.1 7 (Int32.toNatClampNeg a1)) h6) ∧ ((a2).toInt = 0 + (3 : Nat) → vp_in a1 12 ∧ Q (h6.1 8 (Int32.toNatClampNeg a1)) h6)) ∧ ((a2).toInt < 0 ∨ 3 < (a2).toInt → vp_in a1 12 ∧ Q (h6.1 12 (Int32.toNatClampNeg a1)) h6))) ∧ (x7 = 0 → EvI G d mX11_refuse [.inr (.inr (some 0)), .inl 1] h6 (fun x12 h11 => Q x12 h11)))))))) : EvI G (d + 1) mX11_ofWord [.inr (.inr (some 0)), .inl a1, .inl a2] h Q := by
  refine Ev.of rfl (fun _ => Nat.le_of_ble_eq_true rfl) ?_
  show Rn G (d + 1) 0 0 mX11_ofWord 0 [(0, .inr (.inr (some 0))), (1, .inl a1), (2, .inl a2)] [] SH h (QI Q)
  refine rn_aload_n dX11_ofWord_0 rfl rfl ?_
  refine rn_get (v := .inr (.inr (some 1))) dX11_ofWord_1 fl_X11_10 rfl rfl (congrArg (fun z => (Sum.inr (Sum.inr z) : MV)) (rf_0_0 hR)) ?_
  refine rn_iload_n dX11_ofWord_4 rfl rfl ?_
  refine rn_cV (M' := mX9_hasWord) (n := 1) (av := [.inl a1]) (S := []) (rc := 0) (rs := 0) (mc := 0) (ms := 0) (a := 1) (ci := 8) (r := (RX9, TX9, 17)) dX11_ofWord_5 pa_X9_hasWord (Nat.le_refl _) rfl (Nat.le_of_ble_eq_true rfl) ml_X11_142 im_X9_hasWord se_X9_hasWord rfl rfl rfl (Ev.mono V ?_)
  rintro v sh1 h1 ⟨rfl, Rh1, x2, rfl, V⟩
  show Rn G (d + 1) 0 0 mX11_ofWord 8 [(0, .inr (.inr (some 0))), (1, .inl a1), (2, .inl a2)] [.inl x2] SH h1 (QI Q)
  refine rn_if_eq (tgt := 20) dX11_ofWord_8 (by decide) (fun c3 => ?_) (fun c3 => ?_)
  · replace V := V.1 c3
    refine rn_aload_n dX11_ofWord_20 rfl rfl ?_
    refine rn_iconst (v := 1) dX11_ofWord_21 (by decide) ?_
    refine rn_cV (M' := mX11_refuse) (n := 1) (av := [.inl 1]) (S := []) (rc := 0) (rs := 0) (mc := 0) (ms := 0) (a := 0) (ci := 10) (r := (RX11, TX11, 12)) dX11_ofWord_22 pa_X11_refuse (Nat.le_refl _) rfl (Nat.le_of_ble_eq_true rfl) ml_X11_87 im_X11_refuse se_X11_refuse rfl rfl rfl (Ev.mono V ?_)
    rintro v sh1 h4 ⟨rfl, Rh4, x5, rfl, V⟩
    show Rn G (d + 1) 0 0 mX11_ofWord 25 [(0, .inr (.inr (some 0))), (1, .inl a1), (2, .inl a2)] [.inl x5] SH h4 (QI Q)
    exact rn_iret dX11_ofWord_25 rfl ⟨rfl, Rh4, _, rfl, V⟩
  · replace V := V.2 c3
    refine rn_iload_n dX11_ofWord_11 rfl rfl ?_
    refine rn_iconst (v := 0) dX11_ofWord_12 (by decide) ?_
    refine rn_iconst (v := 4) dX11_ofWord_13 (by decide) ?_
    refine rn_cS (M' := mX11_within) (n := 3) (av := [.inl a2, .inl 0, .inl 4]) (S := []) (rc := 0) (rs := 0) (mc := 0) (ms := 0) dX11_ofWord_14 pa_X11_within (Nat.le_refl _) rfl (Nat.le_of_ble_eq_true rfl) ml_X11_83 ss_X11_within rfl (Ev.mono V ?_)
    rintro v sh1 h6 ⟨rfl, Rh6, x7, rfl, V⟩
    show Rn G (d + 1) 0 0 mX11_ofWord 17 [(0, .inr (.inr (some 0))), (1, .inl a1), (2, .inl a2)] [.inl x7] SH h6 (QI Q)
    refine rn_if_ne (tgt := 26) dX11_ofWord_17 (by decide) (fun c8 => ?_) (fun c8 => ?_)
    · replace V := V.1 c8
      refine rn_iload_n dX11_ofWord_26 rfl rfl ?_
      refine rn_tsw (td := 96) [56, 66, 76, 86] dX11_ofWord_27 (by decide) (by decide +kernel) (by decide) (fun i10 hi c9 => ?_) (fun c9 => ?_)
      · replace V := V.1
        match i10, hi, c9 with
        | 0, _, c9 =>
          replace V := V.1 c9
          show Rn G (d + 1) 0 0 mX11_ofWord 56 [(0, .inr (.inr (some 0))), (1, .inl a1), (2, .inl a2)] [] SH h6 (QI Q)
          refine rn_aload_n dX11_ofWord_56 rfl rfl ?_
          refine rn_get (v := .inr (.inr (some 1))) dX11_ofWord_57 fl_X11_10 rfl rfl (congrArg (fun z => (Sum.inr (Sum.inr z) : MV)) (rf_0_0 Rh6)) ?_
          refine rn_get (v := .inr (.inr (some 5))) dX11_ofWord_60 fl_X11_145 rfl rfl (congrArg (fun z => (Sum.inr (Sum.inr z) : MV)) (rf_1_5 Rh6)) ?_
          refine rn_iload_n dX11_ofWord_63 rfl rfl ?_
          obtain ⟨g0, V⟩ := V
          refine rn_iald (k := (Int32.toNatClampNeg a1)) dX11_ofWord_64 rfl rfl g0 ?_
          exact rn_iret dX11_ofWord_65 rfl ⟨rfl, Rh6, _, rfl, V⟩
        | 1, _, c9 =>
          replace V := V.2.1 c9
          show Rn G (d + 1) 0 0 mX11_ofWord 66 [(0, .inr (.inr (some 0))), (1, .inl a1), (2, .inl a2)] [] SH h6 (QI Q)
          refine rn_aload_n dX11_ofWord_66 rfl rfl ?_
          refine rn_get (v := .inr (.inr (some 1))) dX11_ofWord_67 fl_X11_10 rfl rfl (congrArg (fun z => (Sum.inr (Sum.inr z) : MV)) (rf_0_0 Rh6)) ?_
          refine rn_get (v := .inr (.inr (some 6))) dX11_ofWord_70 fl_X11_148 rfl rfl (congrArg (fun z => (Sum.inr (Sum.inr z) : MV)) (rf_1_6 Rh6)) ?_
          refine rn_iload_n dX11_ofWord_73 rfl rfl ?_
          obtain ⟨g0, V⟩ := V
          refine rn_iald (k := (Int32.toNatClampNeg a1)) dX11_ofWord_74 rfl rfl g0 ?_
          exact rn_iret dX11_ofWord_75 rfl ⟨rfl, Rh6, _, rfl, V⟩
        | 2, _, c9 =>
          replace V := V.2.2.1 c9
          show Rn G (d + 1) 0 0 mX11_ofWord 76 [(0, .inr (.inr (some 0))), (1, .inl a1), (2, .inl a2)] [] SH h6 (QI Q)
          refine rn_aload_n dX11_ofWord_76 rfl rfl ?_
          refine rn_get (v := .inr (.inr (some 1))) dX11_ofWord_77 fl_X11_10 rfl rfl (congrArg (fun z => (Sum.inr (Sum.inr z) : MV)) (rf_0_0 Rh6)) ?_
          refine rn_get (v := .inr (.inr (some 7))) dX11_ofWord_80 fl_X11_151 rfl rfl (congrArg (fun z => (Sum.inr (Sum.inr z) : MV)) (rf_1_7 Rh6)) ?_
          refine rn_iload_n dX11_ofWord_83 rfl rfl ?_
          obtain ⟨g0, V⟩ := V
          refine rn_iald (k := (Int32.toNatClampNeg a1)) dX11_ofWord_84 rfl rfl g0 ?_
          exact rn_iret dX11_ofWord_85 rfl ⟨rfl, Rh6, _, rfl, V⟩
        | 3, _, c9 =>
          replace V := V.2.2.2 c9
          show Rn G (d + 1) 0 0 mX11_ofWord 86 [(0, .inr (.inr (some 0))), (1, .inl a1), (2, .inl a2)] [] SH h6 (QI Q)
          refine rn_aload_n dX11_ofWord_86 rfl rfl ?_
          refine rn_get (v := .inr (.inr (some 1))) dX11_ofWord_87 fl_X11_10 rfl rfl (congrArg (fun z => (Sum.inr (Sum.inr z) : MV)) (rf_0_0 Rh6)) ?_
          refine rn_get (v := .inr (.inr (some 8))) dX11_ofWord_90 fl_X11_154 rfl rfl (congrArg (fun z => (Sum.inr (Sum.inr z) : MV)) (rf_1_8 Rh6)) ?_
          refine rn_iload_n dX11_ofWord_93 rfl rfl ?_
          obtain ⟨g0, V⟩ := V
          refine rn_iald (k := (Int32.toNatClampNeg a1)) dX11_ofWord_94 rfl rfl g0 ?_
          exact rn_iret dX11_ofWord_95 rfl ⟨rfl, Rh6, _, rfl, V⟩
        | n + 4, hi, _ => exact absurd hi (by simp)
      · replace V := V.2 c9
        refine rn_aload_n dX11_ofWord_96 rfl rfl ?_
        refine rn_get (v := .inr (.inr (some 1))) dX11_ofWord_97 fl_X11_10 rfl rfl (congrArg (fun z => (Sum.inr (Sum.inr z) : MV)) (rf_0_0 Rh6)) ?_
        refine rn_get (v := .inr (.inr (some 9))) dX11_ofWord_100 fl_X11_111 rfl rfl (congrArg (fun z => (Sum.inr (Sum.inr z) : MV)) (rf_1_9 Rh6)) ?_
        refine rn_get (v := .inr (.inr (some 12))) dX11_ofWord_103 fl_X11_157 rfl rfl (congrArg (fun z => (Sum.inr (Sum.inr z) : MV)) (rf_9_2 Rh6)) ?_
        refine rn_iload_n dX11_ofWord_106 rfl rfl ?_
        obtain ⟨g0, V⟩ := V
        refine rn_iald (k := (Int32.toNatClampNeg a1)) dX11_ofWord_107 rfl rfl g0 ?_
        exact rn_iret dX11_ofWord_108 rfl ⟨rfl, Rh6, _, rfl, V⟩
    · replace V := V.2 c8
      refine rn_aload_n dX11_ofWord_20 rfl rfl ?_
      refine rn_iconst (v := 1) dX11_ofWord_21 (by decide) ?_
      refine rn_cV (M' := mX11_refuse) (n := 1) (av := [.inl 1]) (S := []) (rc := 0) (rs := 0) (mc := 0) (ms := 0) (a := 0) (ci := 10) (r := (RX11, TX11, 12)) dX11_ofWord_22 pa_X11_refuse (Nat.le_refl _) rfl (Nat.le_of_ble_eq_true rfl) ml_X11_87 im_X11_refuse se_X11_refuse rfl rfl rfl (Ev.mono V ?_)
      rintro v sh1 h11 ⟨rfl, Rh11, x12, rfl, V⟩
      show Rn G (d + 1) 0 0 mX11_ofWord 25 [(0, .inr (.inr (some 0))), (1, .inl a1), (2, .inl a2)] [.inl x12] SH h11 (QI Q)
      exact rn_iret dX11_ofWord_25 rfl ⟨rfl, Rh11, _, rfl, V⟩
set_option maxRecDepth 100000 in
set_option maxHeartbeats 4000000 in
theorem vc_X11_set {G : GT} {d : Nat} {a1 : Int32} {a2 : Int32} {a3 : Int32}  {h : Hp} {Q : Int32 → Hp → Prop} (hR : RF h) (V : EvI G d mX9_hasWord [.inr (.inr (some 1)), .inl a1] h (fun x2 h1 => ((x2 = 0 → EvI G d mX11_refuse [.inr (.inr (some 0)), .inl 1] h1 (fun x5 h4 => Q x5 h4)) ∧ (¬ x2 = 0 → EvI G d mX11_within [.inl a2, .inl 1, .inl 2] h1 (fun x7 h6 => ((x7 = 0 → EvI G d mX11_refuse [.inr (.inr (some 0)), .inl 1] h6 (fun x10 h9 => Q x10 h9)) ∧ (¬ x7 = 0 → ((¬ a2 = 1 → ((¬ a2 = 1 → EvI G d mX11_within [.inl a3, .inl 0, .inl 99] h6 (fun x14 h13 => ((¬ x14 = 0 → vp_in a1 12 ∧ ((¬ h13.1 12 (Int32.toNatClampNeg a1) = 0 → EvI G d mX11_refuse [.inr (.inr (some 0)), .inl 3] h13 (fun x18 h17 => Q x18 h17)) ∧ (h13.1 12 (Int32.toNatClampNeg a1) = 0 → ((¬ h13.1 9 6 = a1 → ((¬ a2 = 1 → vp_in a1 12 ∧ vp_in a1 12 ∧ Q (h13.1 7 (Int32.toNatClampNeg a1)) (sI h13 7 (Int32.toNatClampNeg a1) a3)) ∧ (a2 = 1 → vp_in a1 12 ∧ vp_in a1 12 ∧ Q (h13.1 6 (Int32.toNatClampNeg a1)) (sI h13 6 (Int32.toNatClampNeg a1) a3)))) ∧ (h13.1 9 6 = a1 → EvI G d mX11_refuse [.inr (.inr (some 0)), .inl 3] h13 (fun x22 h21 => Q x22 h21)))))) ∧ (x14 = 0 → EvI G d mX11_refuse [.inr (.inr (some 0)), .inl 1] h13 (fun x24 h23 => Q x24 h23))))) ∧ (a2 = 1 → EvI G d mX11_within [.inl a3, .inl 0, .inl 30] h6 (fun x26 h25 => ((¬ x26 = 0 → vp_in a1 12 ∧ ((¬ h25.1 12 (Int32.toNatClampNeg a1) = 0 → EvI G d mX11_refuse [.inr (.inr (some 0)), .inl 3] h25 (fun x30 h29 => Q x30 h29)) ∧ (h25.1 12 (Int32.toNatClampNeg a1) = 0 → ((¬ h25.1 9 6 = a1 → ((¬ a2 = 1 → vp_in a1 12 ∧ vp_in a1 12 ∧ Q (h25.1 7 (Int32.toNatClampNeg a1)) (sI h25 7 (Int32.toNatClampNeg a1) a3)) ∧ (a2 = 1 → vp_in a1 12 ∧ vp_in a1 12 ∧ Q (h25.1 6 (Int32.toNatClampNeg a1)) (sI h25 6 (Int32.toNatClampNeg a1) a3)))) ∧ (h25.1 9 6 = a1 → EvI G d mX11_refuse [.inr (.inr (some 0)), .inl 3] h25 (fun x34 h33 => Q x34 h33)))))) ∧ (x26 = 0 → EvI G d mX11_refuse [.inr (.inr (some 0)), .inl 1] h25 (fun x36 h35 => Q x36 h35))))))) ∧ (a2 = 1 → ((¬ a2 = 1 → EvI G d mX11_within [.inl a3, .inl 1, .inl 99] h6 (fun x39 h38 => ((¬ x39 = 0 → vp_in a1 12 ∧ ((¬ h38.1 12 (Int32.toNatClampNeg a1) = 0 → EvI G d mX11_refuse [.inr (.inr (some 0)), .inl 3] h38 (fun x43 h42 => Q x43 h42)) ∧ (h38.1 12 (Int32.toNatClampNeg a1) = 0 → ((¬ h38.1 9 6 = a1 → ((¬ a2 = 1 → vp_in a1 12 ∧ vp_in a1 12 ∧ Q (h38.1 7 (Int32.toNatClampNeg a1)) (sI h38 7 (Int32.toNatClampNeg a1) a3)) ∧ (a2 = 1 → vp_in a1 12 ∧ vp_in a1 12 ∧ Q (h38.1 6 (Int32.toNatClampNeg a1)) (sI h38 6 (Int32.toNatClampNeg a1) a3)))) ∧ (h38.1 9 6 = a1 → EvI G d mX11_refuse [.inr (.inr (some 0)), .inl 3] h38 (fun x47 h46 => Q x47 h46)))))) ∧ (x39 = 0 → EvI G d mX11_refuse [.inr (.inr (some 0)), .inl 1] h38 (fun x49 h48 => Q x49 h48))))) ∧ (a2 = 1 → EvI G d mX11_within [.inl a3, .inl 1, .inl 30] h6 (fun x51 h50 => ((¬ x51 = 0 → vp_in a1 12 ∧ ((¬ h50.1 12 (Int32.toNatClampNeg a1) = 0 → EvI G d mX11_refuse [.inr (.inr (some 0)), .inl 3] h50 (fun x55 h54 => Q x55 h54)) ∧ (h50.1 12 (Int32.toNatClampNeg a1) = 0 → ((¬ h50.1 9 6 = a1 → ((¬ a2 = 1 → vp_in a1 12 ∧ vp_in a1 12 ∧ Q (h50.1 7 (Int32.toNatClampNeg a1)) (sI h50 7 (Int32.toNatClampNeg a1) a3)) ∧ (a2 = 1 → vp_in a1 12 ∧ vp_in a1 12 ∧ Q (h50.1 6 (Int32.toNatClampNeg a1)) (sI h50 6 (Int32.toNatClampNeg a1) a3)))) ∧ (h50.1 9 6 = a1 → EvI G d mX11_refuse [.inr (.inr (some 0)), .inl 3] h50 (fun x59 h58 => Q x59 h58)))))) ∧ (x51 = 0 → EvI G d mX11_refuse [.inr (.inr (some 0)), .inl 1] h50 (fun x61 h60 => Q x61 h60))))))))))))))) : EvI G (d + 1) mX11_set [.inr (.inr (some 0)), .inl a1, .inl a2, .inl a3] h Q := by
  refine Ev.of rfl (fun _ => Nat.le_of_ble_eq_true rfl) ?_
  show Rn G (d + 1) 0 0 mX11_set 0 [(0, .inr (.inr (some 0))), (1, .inl a1), (2, .inl a2), (3, .inl a3)] [] SH h (QI Q)
  refine rn_aload_n dX11_set_0 rfl rfl ?_
  refine rn_get (v := .inr (.inr (some 1))) dX11_set_1 fl_X11_10 rfl rfl (congrArg (fun z => (Sum.inr (Sum.inr z) : MV)) (rf_0_0 hR)) ?_
  refine rn_iload_n dX11_set_4 rfl rfl ?_
  refine rn_cV (M' := mX9_hasWord) (n := 1) (av := [.inl a1]) (S := []) (rc := 0) (rs := 0) (mc := 0) (ms := 0) (a := 1) (ci := 8) (r := (RX9, TX9, 17)) dX11_set_5 pa_X9_hasWord (Nat.le_refl _) rfl (Nat.le_of_ble_eq_true rfl) ml_X11_142 im_X9_hasWord se_X9_hasWord rfl rfl rfl (Ev.mono V ?_)
  rintro v sh1 h1 ⟨rfl, Rh1, x2, rfl, V⟩
  show Rn G (d + 1) 0 0 mX11_set 8 [(0, .inr (.inr (some 0))), (1, .inl a1), (2, .inl a2), (3, .inl a3)] [.inl x2] SH h1 (QI Q)
  refine rn_if_eq (tgt := 49) dX11_set_8 (by decide) (fun c3 => ?_) (fun c3 => ?_)
  · replace V := V.1 c3
    refine rn_aload_n dX11_set_49 rfl rfl ?_
    refine rn_iconst (v := 1) dX11_set_50 (by decide) ?_
    refine rn_cV (M' := mX11_refuse) (n := 1) (av := [.inl 1]) (S := []) (rc := 0) (rs := 0) (mc := 0) (ms := 0) (a := 0) (ci := 10) (r := (RX11, TX11, 12)) dX11_set_51 pa_X11_refuse (Nat.le_refl _) rfl (Nat.le_of_ble_eq_true rfl) ml_X11_87 im_X11_refuse se_X11_refuse rfl rfl rfl (Ev.mono V ?_)
    rintro v sh1 h4 ⟨rfl, Rh4, x5, rfl, V⟩
    show Rn G (d + 1) 0 0 mX11_set 54 [(0, .inr (.inr (some 0))), (1, .inl a1), (2, .inl a2), (3, .inl a3)] [.inl x5] SH h4 (QI Q)
    exact rn_iret dX11_set_54 rfl ⟨rfl, Rh4, _, rfl, V⟩
  · replace V := V.2 c3
    refine rn_iload_n dX11_set_11 rfl rfl ?_
    refine rn_iconst (v := 1) dX11_set_12 (by decide) ?_
    refine rn_iconst (v := 2) dX11_set_13 (by decide) ?_
    refine rn_cS (M' := mX11_within) (n := 3) (av := [.inl a2, .inl 1, .inl 2]) (S := []) (rc := 0) (rs := 0) (mc := 0) (ms := 0) dX11_set_14 pa_X11_within (Nat.le_refl _) rfl (Nat.le_of_ble_eq_true rfl) ml_X11_83 ss_X11_within rfl (Ev.mono V ?_)
    rintro v sh1 h6 ⟨rfl, Rh6, x7, rfl, V⟩
    show Rn G (d + 1) 0 0 mX11_set 17 [(0, .inr (.inr (some 0))), (1, .inl a1), (2, .inl a2), (3, .inl a3)] [.inl x7] SH h6 (QI Q)
    refine rn_if_eq (tgt := 49) dX11_set_17 (by decide) (fun c8 => ?_) (fun c8 => ?_)
    · replace V := V.1 c8
      refine rn_aload_n dX11_set_49 rfl rfl ?_
      refine rn_iconst (v := 1) dX11_set_50 (by decide) ?_
      refine rn_cV (M' := mX11_refuse) (n := 1) (av := [.inl 1]) (S := []) (rc := 0) (rs := 0) (mc := 0) (ms := 0) (a := 0) (ci := 10) (r := (RX11, TX11, 12)) dX11_set_51 pa_X11_refuse (Nat.le_refl _) rfl (Nat.le_of_ble_eq_true rfl) ml_X11_87 im_X11_refuse se_X11_refuse rfl rfl rfl (Ev.mono V ?_)
      rintro v sh1 h9 ⟨rfl, Rh9, x10, rfl, V⟩
      show Rn G (d + 1) 0 0 mX11_set 54 [(0, .inr (.inr (some 0))), (1, .inl a1), (2, .inl a2), (3, .inl a3)] [.inl x10] SH h9 (QI Q)
      exact rn_iret dX11_set_54 rfl ⟨rfl, Rh9, _, rfl, V⟩
    · replace V := V.2 c8
      refine rn_iload_n dX11_set_20 rfl rfl ?_
      refine rn_iload_n dX11_set_21 rfl rfl ?_
      refine rn_iconst (v := 1) dX11_set_22 (by decide) ?_
      refine rn_icmp_ne (tgt := 30) dX11_set_23 (by decide) (fun c11 => ?_) (fun c11 => ?_)
      · replace V := V.1 c11
        refine rn_iconst (v := 0) dX11_set_30 (by decide) ?_
        refine rn_iload_n dX11_set_31 rfl rfl ?_
        refine rn_iconst (v := 1) dX11_set_32 (by decide) ?_
        refine rn_icmp_ne (tgt := 41) dX11_set_33 (by decide) (fun c12 => ?_) (fun c12 => ?_)
        · replace V := V.1 c12
          refine rn_bipush (v := 99) dX11_set_41 (by decide) ?_
          refine rn_cS (M' := mX11_within) (n := 3) (av := [.inl a3, .inl 0, .inl 99]) (S := []) (rc := 0) (rs := 0) (mc := 0) (ms := 0) dX11_set_43 pa_X11_within (Nat.le_refl _) rfl (Nat.le_of_ble_eq_true rfl) ml_X11_83 ss_X11_within rfl (Ev.mono V ?_)
          rintro v sh1 h13 ⟨rfl, Rh13, x14, rfl, V⟩
          show Rn G (d + 1) 0 0 mX11_set 46 [(0, .inr (.inr (some 0))), (1, .inl a1), (2, .inl a2), (3, .inl a3)] [.inl x14] SH h13 (QI Q)
          refine rn_if_ne (tgt := 55) dX11_set_46 (by decide) (fun c15 => ?_) (fun c15 => ?_)
          · replace V := V.1 c15
            refine rn_aload_n dX11_set_55 rfl rfl ?_
            refine rn_get (v := .inr (.inr (some 1))) dX11_set_56 fl_X11_10 rfl rfl (congrArg (fun z => (Sum.inr (Sum.inr z) : MV)) (rf_0_0 Rh13)) ?_
            refine rn_get (v := .inr (.inr (some 9))) dX11_set_59 fl_X11_111 rfl rfl (congrArg (fun z => (Sum.inr (Sum.inr z) : MV)) (rf_1_9 Rh13)) ?_
            refine rn_get (v := .inr (.inr (some 12))) dX11_set_62 fl_X11_157 rfl rfl (congrArg (fun z => (Sum.inr (Sum.inr z) : MV)) (rf_9_2 Rh13)) ?_
            refine rn_iload_n dX11_set_65 rfl rfl ?_
            obtain ⟨g0, V⟩ := V
            refine rn_iald (k := (Int32.toNatClampNeg a1)) dX11_set_66 rfl rfl g0 ?_
            refine rn_if_ne (tgt := 84) dX11_set_67 (by decide) (fun c16 => ?_) (fun c16 => ?_)
            · replace V := V.1 c16
              refine rn_aload_n dX11_set_84 rfl rfl ?_
              refine rn_iconst (v := 3) dX11_set_85 (by decide) ?_
              refine rn_cV (M' := mX11_refuse) (n := 1) (av := [.inl 3]) (S := []) (rc := 0) (rs := 0) (mc := 0) (ms := 0) (a := 0) (ci := 10) (r := (RX11, TX11, 12)) dX11_set_86 pa_X11_refuse (Nat.le_refl _) rfl (Nat.le_of_ble_eq_true rfl) ml_X11_87 im_X11_refuse se_X11_refuse rfl rfl rfl (Ev.mono V ?_)
              rintro v sh1 h17 ⟨rfl, Rh17, x18, rfl, V⟩
              show Rn G (d + 1) 0 0 mX11_set 89 [(0, .inr (.inr (some 0))), (1, .inl a1), (2, .inl a2), (3, .inl a3)] [.inl x18] SH h17 (QI Q)
              exact rn_iret dX11_set_89 rfl ⟨rfl, Rh17, _, rfl, V⟩
            · replace V := V.2 c16
              refine rn_aload_n dX11_set_70 rfl rfl ?_
              refine rn_get (v := .inr (.inr (some 1))) dX11_set_71 fl_X11_10 rfl rfl (congrArg (fun z => (Sum.inr (Sum.inr z) : MV)) (rf_0_0 Rh13)) ?_
              refine rn_get (v := .inr (.inr (some 9))) dX11_set_74 fl_X11_111 rfl rfl (congrArg (fun z => (Sum.inr (Sum.inr z) : MV)) (rf_1_9 Rh13)) ?_
              refine rn_get (v := .inl (h13.1 9 6)) dX11_set_77 fl_X11_160 rfl rfl rfl ?_
              refine rn_iload_n dX11_set_80 rfl rfl ?_
              refine rn_icmp_ne (tgt := 90) dX11_set_81 (by decide) (fun c19 => ?_) (fun c19 => ?_)
              · replace V := V.1 c19
                refine rn_iload_n dX11_set_90 rfl rfl ?_
                refine rn_iconst (v := 1) dX11_set_91 (by decide) ?_
                refine rn_icmp_ne (tgt := 105) dX11_set_92 (by decide) (fun c20 => ?_) (fun c20 => ?_)
                · replace V := V.1 c20
                  refine rn_aload_n dX11_set_105 rfl rfl ?_
                  refine rn_get (v := .inr (.inr (some 1))) dX11_set_106 fl_X11_10 rfl rfl (congrArg (fun z => (Sum.inr (Sum.inr z) : MV)) (rf_0_0 Rh13)) ?_
                  refine rn_get (v := .inr (.inr (some 7))) dX11_set_109 fl_X11_151 rfl rfl (congrArg (fun z => (Sum.inr (Sum.inr z) : MV)) (rf_1_7 Rh13)) ?_
                  refine rn_astore (L' := [(4, .inr (.inr (some 7))), (0, .inr (.inr (some 0))), (1, .inl a1), (2, .inl a2), (3, .inl a3)]) dX11_set_112 (Nat.le_of_ble_eq_true rfl) rfl ?_
                  refine rn_aload dX11_set_114 rfl ?_
                  refine rn_iload_n dX11_set_116 rfl rfl ?_
                  obtain ⟨g0, V⟩ := V
                  refine rn_iald (k := (Int32.toNatClampNeg a1)) dX11_set_117 rfl rfl g0 ?_
                  refine rn_istore (L' := [(5, .inl (h13.1 7 (Int32.toNatClampNeg a1))), (4, .inr (.inr (some 7))), (0, .inr (.inr (some 0))), (1, .inl a1), (2, .inl a2), (3, .inl a3)]) dX11_set_118 (Nat.le_of_ble_eq_true rfl) rfl ?_
                  refine rn_aload dX11_set_120 rfl ?_
                  refine rn_iload_n dX11_set_122 rfl rfl ?_
                  refine rn_iload_n dX11_set_123 rfl rfl ?_
                  obtain ⟨g0, V⟩ := V
                  refine rn_iast (k := (Int32.toNatClampNeg a1)) dX11_set_124 rfl rfl g0 ?_
                  refine rn_iload dX11_set_125 rfl ?_
                  exact rn_iret dX11_set_127 rfl ⟨rfl, Rh13, _, rfl, V⟩
                · replace V := V.2 c20
                  refine rn_aload_n dX11_set_95 rfl rfl ?_
                  refine rn_get (v := .inr (.inr (some 1))) dX11_set_96 fl_X11_10 rfl rfl (congrArg (fun z => (Sum.inr (Sum.inr z) : MV)) (rf_0_0 Rh13)) ?_
                  refine rn_get (v := .inr (.inr (some 6))) dX11_set_99 fl_X11_148 rfl rfl (congrArg (fun z => (Sum.inr (Sum.inr z) : MV)) (rf_1_6 Rh13)) ?_
                  refine rn_goto (tgt := 112) dX11_set_102 (by decide) ?_
                  refine rn_astore (L' := [(4, .inr (.inr (some 6))), (0, .inr (.inr (some 0))), (1, .inl a1), (2, .inl a2), (3, .inl a3)]) dX11_set_112 (Nat.le_of_ble_eq_true rfl) rfl ?_
                  refine rn_aload dX11_set_114 rfl ?_
                  refine rn_iload_n dX11_set_116 rfl rfl ?_
                  obtain ⟨g0, V⟩ := V
                  refine rn_iald (k := (Int32.toNatClampNeg a1)) dX11_set_117 rfl rfl g0 ?_
                  refine rn_istore (L' := [(5, .inl (h13.1 6 (Int32.toNatClampNeg a1))), (4, .inr (.inr (some 6))), (0, .inr (.inr (some 0))), (1, .inl a1), (2, .inl a2), (3, .inl a3)]) dX11_set_118 (Nat.le_of_ble_eq_true rfl) rfl ?_
                  refine rn_aload dX11_set_120 rfl ?_
                  refine rn_iload_n dX11_set_122 rfl rfl ?_
                  refine rn_iload_n dX11_set_123 rfl rfl ?_
                  obtain ⟨g0, V⟩ := V
                  refine rn_iast (k := (Int32.toNatClampNeg a1)) dX11_set_124 rfl rfl g0 ?_
                  refine rn_iload dX11_set_125 rfl ?_
                  exact rn_iret dX11_set_127 rfl ⟨rfl, Rh13, _, rfl, V⟩
              · replace V := V.2 c19
                refine rn_aload_n dX11_set_84 rfl rfl ?_
                refine rn_iconst (v := 3) dX11_set_85 (by decide) ?_
                refine rn_cV (M' := mX11_refuse) (n := 1) (av := [.inl 3]) (S := []) (rc := 0) (rs := 0) (mc := 0) (ms := 0) (a := 0) (ci := 10) (r := (RX11, TX11, 12)) dX11_set_86 pa_X11_refuse (Nat.le_refl _) rfl (Nat.le_of_ble_eq_true rfl) ml_X11_87 im_X11_refuse se_X11_refuse rfl rfl rfl (Ev.mono V ?_)
                rintro v sh1 h21 ⟨rfl, Rh21, x22, rfl, V⟩
                show Rn G (d + 1) 0 0 mX11_set 89 [(0, .inr (.inr (some 0))), (1, .inl a1), (2, .inl a2), (3, .inl a3)] [.inl x22] SH h21 (QI Q)
                exact rn_iret dX11_set_89 rfl ⟨rfl, Rh21, _, rfl, V⟩
          · replace V := V.2 c15
            refine rn_aload_n dX11_set_49 rfl rfl ?_
            refine rn_iconst (v := 1) dX11_set_50 (by decide) ?_
            refine rn_cV (M' := mX11_refuse) (n := 1) (av := [.inl 1]) (S := []) (rc := 0) (rs := 0) (mc := 0) (ms := 0) (a := 0) (ci := 10) (r := (RX11, TX11, 12)) dX11_set_51 pa_X11_refuse (Nat.le_refl _) rfl (Nat.le_of_ble_eq_true rfl) ml_X11_87 im_X11_refuse se_X11_refuse rfl rfl rfl (Ev.mono V ?_)
            rintro v sh1 h23 ⟨rfl, Rh23, x24, rfl, V⟩
            show Rn G (d + 1) 0 0 mX11_set 54 [(0, .inr (.inr (some 0))), (1, .inl a1), (2, .inl a2), (3, .inl a3)] [.inl x24] SH h23 (QI Q)
            exact rn_iret dX11_set_54 rfl ⟨rfl, Rh23, _, rfl, V⟩
        · replace V := V.2 c12
          refine rn_bipush (v := 30) dX11_set_36 (by decide) ?_
          refine rn_goto (tgt := 43) dX11_set_38 (by decide) ?_
          refine rn_cS (M' := mX11_within) (n := 3) (av := [.inl a3, .inl 0, .inl 30]) (S := []) (rc := 0) (rs := 0) (mc := 0) (ms := 0) dX11_set_43 pa_X11_within (Nat.le_refl _) rfl (Nat.le_of_ble_eq_true rfl) ml_X11_83 ss_X11_within rfl (Ev.mono V ?_)
          rintro v sh1 h25 ⟨rfl, Rh25, x26, rfl, V⟩
          show Rn G (d + 1) 0 0 mX11_set 46 [(0, .inr (.inr (some 0))), (1, .inl a1), (2, .inl a2), (3, .inl a3)] [.inl x26] SH h25 (QI Q)
          refine rn_if_ne (tgt := 55) dX11_set_46 (by decide) (fun c27 => ?_) (fun c27 => ?_)
          · replace V := V.1 c27
            refine rn_aload_n dX11_set_55 rfl rfl ?_
            refine rn_get (v := .inr (.inr (some 1))) dX11_set_56 fl_X11_10 rfl rfl (congrArg (fun z => (Sum.inr (Sum.inr z) : MV)) (rf_0_0 Rh25)) ?_
            refine rn_get (v := .inr (.inr (some 9))) dX11_set_59 fl_X11_111 rfl rfl (congrArg (fun z => (Sum.inr (Sum.inr z) : MV)) (rf_1_9 Rh25)) ?_
            refine rn_get (v := .inr (.inr (some 12))) dX11_set_62 fl_X11_157 rfl rfl (congrArg (fun z => (Sum.inr (Sum.inr z) : MV)) (rf_9_2 Rh25)) ?_
            refine rn_iload_n dX11_set_65 rfl rfl ?_
            obtain ⟨g0, V⟩ := V
            refine rn_iald (k := (Int32.toNatClampNeg a1)) dX11_set_66 rfl rfl g0 ?_
            refine rn_if_ne (tgt := 84) dX11_set_67 (by decide) (fun c28 => ?_) (fun c28 => ?_)
            · replace V := V.1 c28
              refine rn_aload_n dX11_set_84 rfl rfl ?_
              refine rn_iconst (v := 3) dX11_set_85 (by decide) ?_
              refine rn_cV (M' := mX11_refuse) (n := 1) (av := [.inl 3]) (S := []) (rc := 0) (rs := 0) (mc := 0) (ms := 0) (a := 0) (ci := 10) (r := (RX11, TX11, 12)) dX11_set_86 pa_X11_refuse (Nat.le_refl _) rfl (Nat.le_of_ble_eq_true rfl) ml_X11_87 im_X11_refuse se_X11_refuse rfl rfl rfl (Ev.mono V ?_)
              rintro v sh1 h29 ⟨rfl, Rh29, x30, rfl, V⟩
              show Rn G (d + 1) 0 0 mX11_set 89 [(0, .inr (.inr (some 0))), (1, .inl a1), (2, .inl a2), (3, .inl a3)] [.inl x30] SH h29 (QI Q)
              exact rn_iret dX11_set_89 rfl ⟨rfl, Rh29, _, rfl, V⟩
            · replace V := V.2 c28
              refine rn_aload_n dX11_set_70 rfl rfl ?_
              refine rn_get (v := .inr (.inr (some 1))) dX11_set_71 fl_X11_10 rfl rfl (congrArg (fun z => (Sum.inr (Sum.inr z) : MV)) (rf_0_0 Rh25)) ?_
              refine rn_get (v := .inr (.inr (some 9))) dX11_set_74 fl_X11_111 rfl rfl (congrArg (fun z => (Sum.inr (Sum.inr z) : MV)) (rf_1_9 Rh25)) ?_
              refine rn_get (v := .inl (h25.1 9 6)) dX11_set_77 fl_X11_160 rfl rfl rfl ?_
              refine rn_iload_n dX11_set_80 rfl rfl ?_
              refine rn_icmp_ne (tgt := 90) dX11_set_81 (by decide) (fun c31 => ?_) (fun c31 => ?_)
              · replace V := V.1 c31
                refine rn_iload_n dX11_set_90 rfl rfl ?_
                refine rn_iconst (v := 1) dX11_set_91 (by decide) ?_
                refine rn_icmp_ne (tgt := 105) dX11_set_92 (by decide) (fun c32 => ?_) (fun c32 => ?_)
                · replace V := V.1 c32
                  refine rn_aload_n dX11_set_105 rfl rfl ?_
                  refine rn_get (v := .inr (.inr (some 1))) dX11_set_106 fl_X11_10 rfl rfl (congrArg (fun z => (Sum.inr (Sum.inr z) : MV)) (rf_0_0 Rh25)) ?_
                  refine rn_get (v := .inr (.inr (some 7))) dX11_set_109 fl_X11_151 rfl rfl (congrArg (fun z => (Sum.inr (Sum.inr z) : MV)) (rf_1_7 Rh25)) ?_
                  refine rn_astore (L' := [(4, .inr (.inr (some 7))), (0, .inr (.inr (some 0))), (1, .inl a1), (2, .inl a2), (3, .inl a3)]) dX11_set_112 (Nat.le_of_ble_eq_true rfl) rfl ?_
                  refine rn_aload dX11_set_114 rfl ?_
                  refine rn_iload_n dX11_set_116 rfl rfl ?_
                  obtain ⟨g0, V⟩ := V
                  refine rn_iald (k := (Int32.toNatClampNeg a1)) dX11_set_117 rfl rfl g0 ?_
                  refine rn_istore (L' := [(5, .inl (h25.1 7 (Int32.toNatClampNeg a1))), (4, .inr (.inr (some 7))), (0, .inr (.inr (some 0))), (1, .inl a1), (2, .inl a2), (3, .inl a3)]) dX11_set_118 (Nat.le_of_ble_eq_true rfl) rfl ?_
                  refine rn_aload dX11_set_120 rfl ?_
                  refine rn_iload_n dX11_set_122 rfl rfl ?_
                  refine rn_iload_n dX11_set_123 rfl rfl ?_
                  obtain ⟨g0, V⟩ := V
                  refine rn_iast (k := (Int32.toNatClampNeg a1)) dX11_set_124 rfl rfl g0 ?_
                  refine rn_iload dX11_set_125 rfl ?_
                  exact rn_iret dX11_set_127 rfl ⟨rfl, Rh25, _, rfl, V⟩
                · replace V := V.2 c32
                  refine rn_aload_n dX11_set_95 rfl rfl ?_
                  refine rn_get (v := .inr (.inr (some 1))) dX11_set_96 fl_X11_10 rfl rfl (congrArg (fun z => (Sum.inr (Sum.inr z) : MV)) (rf_0_0 Rh25)) ?_
                  refine rn_get (v := .inr (.inr (some 6))) dX11_set_99 fl_X11_148 rfl rfl (congrArg (fun z => (Sum.inr (Sum.inr z) : MV)) (rf_1_6 Rh25)) ?_
                  refine rn_goto (tgt := 112) dX11_set_102 (by decide) ?_
                  refine rn_astore (L' := [(4, .inr (.inr (some 6))), (0, .inr (.inr (some 0))), (1, .inl a1), (2, .inl a2), (3, .inl a3)]) dX11_set_112 (Nat.le_of_ble_eq_true rfl) rfl ?_
                  refine rn_aload dX11_set_114 rfl ?_
                  refine rn_iload_n dX11_set_116 rfl rfl ?_
                  obtain ⟨g0, V⟩ := V
                  refine rn_iald (k := (Int32.toNatClampNeg a1)) dX11_set_117 rfl rfl g0 ?_
                  refine rn_istore (L' := [(5, .inl (h25.1 6 (Int32.toNatClampNeg a1))), (4, .inr (.inr (some 6))), (0, .inr (.inr (some 0))), (1, .inl a1), (2, .inl a2), (3, .inl a3)]) dX11_set_118 (Nat.le_of_ble_eq_true rfl) rfl ?_
                  refine rn_aload dX11_set_120 rfl ?_
                  refine rn_iload_n dX11_set_122 rfl rfl ?_
                  refine rn_iload_n dX11_set_123 rfl rfl ?_
                  obtain ⟨g0, V⟩ := V
                  refine rn_iast (k := (Int32.toNatClampNeg a1)) dX11_set_124 rfl rfl g0 ?_
                  refine rn_iload dX11_set_125 rfl ?_
                  exact rn_iret dX11_set_127 rfl ⟨rfl, Rh25, _, rfl, V⟩
              · replace V := V.2 c31
                refine rn_aload_n dX11_set_84 rfl rfl ?_
                refine rn_iconst (v := 3) dX11_set_85 (by decide) ?_
                refine rn_cV (M' := mX11_refuse) (n := 1) (av := [.inl 3]) (S := []) (rc := 0) (rs := 0) (mc := 0) (ms := 0) (a := 0) (ci := 10) (r := (RX11, TX11, 12)) dX11_set_86 pa_X11_refuse (Nat.le_refl _) rfl (Nat.le_of_ble_eq_true rfl) ml_X11_87 im_X11_refuse se_X11_refuse rfl rfl rfl (Ev.mono V ?_)
                rintro v sh1 h33 ⟨rfl, Rh33, x34, rfl, V⟩
                show Rn G (d + 1) 0 0 mX11_set 89 [(0, .inr (.inr (some 0))), (1, .inl a1), (2, .inl a2), (3, .inl a3)] [.inl x34] SH h33 (QI Q)
                exact rn_iret dX11_set_89 rfl ⟨rfl, Rh33, _, rfl, V⟩
          · replace V := V.2 c27
            refine rn_aload_n dX11_set_49 rfl rfl ?_
            refine rn_iconst (v := 1) dX11_set_50 (by decide) ?_
            refine rn_cV (M' := mX11_refuse) (n := 1) (av := [.inl 1]) (S := []) (rc := 0) (rs := 0) (mc := 0) (ms := 0) (a := 0) (ci := 10) (r := (RX11, TX11, 12)) dX11_set_51 pa_X11_refuse (Nat.le_refl _) rfl (Nat.le_of_ble_eq_true rfl) ml_X11_87 im_X11_refuse se_X11_refuse rfl rfl rfl (Ev.mono V ?_)
            rintro v sh1 h35 ⟨rfl, Rh35, x36, rfl, V⟩
            show Rn G (d + 1) 0 0 mX11_set 54 [(0, .inr (.inr (some 0))), (1, .inl a1), (2, .inl a2), (3, .inl a3)] [.inl x36] SH h35 (QI Q)
            exact rn_iret dX11_set_54 rfl ⟨rfl, Rh35, _, rfl, V⟩
      · replace V := V.2 c11
        refine rn_iconst (v := 1) dX11_set_26 (by decide) ?_
        refine rn_goto (tgt := 31) dX11_set_27 (by decide) ?_
        refine rn_iload_n dX11_set_31 rfl rfl ?_
        refine rn_iconst (v := 1) dX11_set_32 (by decide) ?_
        refine rn_icmp_ne (tgt := 41) dX11_set_33 (by decide) (fun c37 => ?_) (fun c37 => ?_)
        · replace V := V.1 c37
          refine rn_bipush (v := 99) dX11_set_41 (by decide) ?_
          refine rn_cS (M' := mX11_within) (n := 3) (av := [.inl a3, .inl 1, .inl 99]) (S := []) (rc := 0) (rs := 0) (mc := 0) (ms := 0) dX11_set_43 pa_X11_within (Nat.le_refl _) rfl (Nat.le_of_ble_eq_true rfl) ml_X11_83 ss_X11_within rfl (Ev.mono V ?_)
          rintro v sh1 h38 ⟨rfl, Rh38, x39, rfl, V⟩
          show Rn G (d + 1) 0 0 mX11_set 46 [(0, .inr (.inr (some 0))), (1, .inl a1), (2, .inl a2), (3, .inl a3)] [.inl x39] SH h38 (QI Q)
          refine rn_if_ne (tgt := 55) dX11_set_46 (by decide) (fun c40 => ?_) (fun c40 => ?_)
          · replace V := V.1 c40
            refine rn_aload_n dX11_set_55 rfl rfl ?_
            refine rn_get (v := .inr (.inr (some 1))) dX11_set_56 fl_X11_10 rfl rfl (congrArg (fun z => (Sum.inr (Sum.inr z) : MV)) (rf_0_0 Rh38)) ?_
            refine rn_get (v := .inr (.inr (some 9))) dX11_set_59 fl_X11_111 rfl rfl (congrArg (fun z => (Sum.inr (Sum.inr z) : MV)) (rf_1_9 Rh38)) ?_
            refine rn_get (v := .inr (.inr (some 12))) dX11_set_62 fl_X11_157 rfl rfl (congrArg (fun z => (Sum.inr (Sum.inr z) : MV)) (rf_9_2 Rh38)) ?_
            refine rn_iload_n dX11_set_65 rfl rfl ?_
            obtain ⟨g0, V⟩ := V
            refine rn_iald (k := (Int32.toNatClampNeg a1)) dX11_set_66 rfl rfl g0 ?_
            refine rn_if_ne (tgt := 84) dX11_set_67 (by decide) (fun c41 => ?_) (fun c41 => ?_)
            · replace V := V.1 c41
              refine rn_aload_n dX11_set_84 rfl rfl ?_
              refine rn_iconst (v := 3) dX11_set_85 (by decide) ?_
              refine rn_cV (M' := mX11_refuse) (n := 1) (av := [.inl 3]) (S := []) (rc := 0) (rs := 0) (mc := 0) (ms := 0) (a := 0) (ci := 10) (r := (RX11, TX11, 12)) dX11_set_86 pa_X11_refuse (Nat.le_refl _) rfl (Nat.le_of_ble_eq_true rfl) ml_X11_87 im_X11_refuse se_X11_refuse rfl rfl rfl (Ev.mono V ?_)
              rintro v sh1 h42 ⟨rfl, Rh42, x43, rfl, V⟩
              show Rn G (d + 1) 0 0 mX11_set 89 [(0, .inr (.inr (some 0))), (1, .inl a1), (2, .inl a2), (3, .inl a3)] [.inl x43] SH h42 (QI Q)
              exact rn_iret dX11_set_89 rfl ⟨rfl, Rh42, _, rfl, V⟩
            · replace V := V.2 c41
              refine rn_aload_n dX11_set_70 rfl rfl ?_
              refine rn_get (v := .inr (.inr (some 1))) dX11_set_71 fl_X11_10 rfl rfl (congrArg (fun z => (Sum.inr (Sum.inr z) : MV)) (rf_0_0 Rh38)) ?_
              refine rn_get (v := .inr (.inr (some 9))) dX11_set_74 fl_X11_111 rfl rfl (congrArg (fun z => (Sum.inr (Sum.inr z) : MV)) (rf_1_9 Rh38)) ?_
              refine rn_get (v := .inl (h38.1 9 6)) dX11_set_77 fl_X11_160 rfl rfl rfl ?_
              refine rn_iload_n dX11_set_80 rfl rfl ?_
              refine rn_icmp_ne (tgt := 90) dX11_set_81 (by decide) (fun c44 => ?_) (fun c44 => ?_)
              · replace V := V.1 c44
                refine rn_iload_n dX11_set_90 rfl rfl ?_
                refine rn_iconst (v := 1) dX11_set_91 (by decide) ?_
                refine rn_icmp_ne (tgt := 105) dX11_set_92 (by decide) (fun c45 => ?_) (fun c45 => ?_)
                · replace V := V.1 c45
                  refine rn_aload_n dX11_set_105 rfl rfl ?_
                  refine rn_get (v := .inr (.inr (some 1))) dX11_set_106 fl_X11_10 rfl rfl (congrArg (fun z => (Sum.inr (Sum.inr z) : MV)) (rf_0_0 Rh38)) ?_
                  refine rn_get (v := .inr (.inr (some 7))) dX11_set_109 fl_X11_151 rfl rfl (congrArg (fun z => (Sum.inr (Sum.inr z) : MV)) (rf_1_7 Rh38)) ?_
                  refine rn_astore (L' := [(4, .inr (.inr (some 7))), (0, .inr (.inr (some 0))), (1, .inl a1), (2, .inl a2), (3, .inl a3)]) dX11_set_112 (Nat.le_of_ble_eq_true rfl) rfl ?_
                  refine rn_aload dX11_set_114 rfl ?_
                  refine rn_iload_n dX11_set_116 rfl rfl ?_
                  obtain ⟨g0, V⟩ := V
                  refine rn_iald (k := (Int32.toNatClampNeg a1)) dX11_set_117 rfl rfl g0 ?_
                  refine rn_istore (L' := [(5, .inl (h38.1 7 (Int32.toNatClampNeg a1))), (4, .inr (.inr (some 7))), (0, .inr (.inr (some 0))), (1, .inl a1), (2, .inl a2), (3, .inl a3)]) dX11_set_118 (Nat.le_of_ble_eq_true rfl) rfl ?_
                  refine rn_aload dX11_set_120 rfl ?_
                  refine rn_iload_n dX11_set_122 rfl rfl ?_
                  refine rn_iload_n dX11_set_123 rfl rfl ?_
                  obtain ⟨g0, V⟩ := V
                  refine rn_iast (k := (Int32.toNatClampNeg a1)) dX11_set_124 rfl rfl g0 ?_
                  refine rn_iload dX11_set_125 rfl ?_
                  exact rn_iret dX11_set_127 rfl ⟨rfl, Rh38, _, rfl, V⟩
                · replace V := V.2 c45
                  refine rn_aload_n dX11_set_95 rfl rfl ?_
                  refine rn_get (v := .inr (.inr (some 1))) dX11_set_96 fl_X11_10 rfl rfl (congrArg (fun z => (Sum.inr (Sum.inr z) : MV)) (rf_0_0 Rh38)) ?_
                  refine rn_get (v := .inr (.inr (some 6))) dX11_set_99 fl_X11_148 rfl rfl (congrArg (fun z => (Sum.inr (Sum.inr z) : MV)) (rf_1_6 Rh38)) ?_
                  refine rn_goto (tgt := 112) dX11_set_102 (by decide) ?_
                  refine rn_astore (L' := [(4, .inr (.inr (some 6))), (0, .inr (.inr (some 0))), (1, .inl a1), (2, .inl a2), (3, .inl a3)]) dX11_set_112 (Nat.le_of_ble_eq_true rfl) rfl ?_
                  refine rn_aload dX11_set_114 rfl ?_
                  refine rn_iload_n dX11_set_116 rfl rfl ?_
                  obtain ⟨g0, V⟩ := V
                  refine rn_iald (k := (Int32.toNatClampNeg a1)) dX11_set_117 rfl rfl g0 ?_
                  refine rn_istore (L' := [(5, .inl (h38.1 6 (Int32.toNatClampNeg a1))), (4, .inr (.inr (some 6))), (0, .inr (.inr (some 0))), (1, .inl a1), (2, .inl a2), (3, .inl a3)]) dX11_set_118 (Nat.le_of_ble_eq_true rfl) rfl ?_
                  refine rn_aload dX11_set_120 rfl ?_
                  refine rn_iload_n dX11_set_122 rfl rfl ?_
                  refine rn_iload_n dX11_set_123 rfl rfl ?_
                  obtain ⟨g0, V⟩ := V
                  refine rn_iast (k := (Int32.toNatClampNeg a1)) dX11_set_124 rfl rfl g0 ?_
                  refine rn_iload dX11_set_125 rfl ?_
                  exact rn_iret dX11_set_127 rfl ⟨rfl, Rh38, _, rfl, V⟩
              · replace V := V.2 c44
                refine rn_aload_n dX11_set_84 rfl rfl ?_
                refine rn_iconst (v := 3) dX11_set_85 (by decide) ?_
                refine rn_cV (M' := mX11_refuse) (n := 1) (av := [.inl 3]) (S := []) (rc := 0) (rs := 0) (mc := 0) (ms := 0) (a := 0) (ci := 10) (r := (RX11, TX11, 12)) dX11_set_86 pa_X11_refuse (Nat.le_refl _) rfl (Nat.le_of_ble_eq_true rfl) ml_X11_87 im_X11_refuse se_X11_refuse rfl rfl rfl (Ev.mono V ?_)
                rintro v sh1 h46 ⟨rfl, Rh46, x47, rfl, V⟩
                show Rn G (d + 1) 0 0 mX11_set 89 [(0, .inr (.inr (some 0))), (1, .inl a1), (2, .inl a2), (3, .inl a3)] [.inl x47] SH h46 (QI Q)
                exact rn_iret dX11_set_89 rfl ⟨rfl, Rh46, _, rfl, V⟩
          · replace V := V.2 c40
            refine rn_aload_n dX11_set_49 rfl rfl ?_
            refine rn_iconst (v := 1) dX11_set_50 (by decide) ?_
            refine rn_cV (M' := mX11_refuse) (n := 1) (av := [.inl 1]) (S := []) (rc := 0) (rs := 0) (mc := 0) (ms := 0) (a := 0) (ci := 10) (r := (RX11, TX11, 12)) dX11_set_51 pa_X11_refuse (Nat.le_refl _) rfl (Nat.le_of_ble_eq_true rfl) ml_X11_87 im_X11_refuse se_X11_refuse rfl rfl rfl (Ev.mono V ?_)
            rintro v sh1 h48 ⟨rfl, Rh48, x49, rfl, V⟩
            show Rn G (d + 1) 0 0 mX11_set 54 [(0, .inr (.inr (some 0))), (1, .inl a1), (2, .inl a2), (3, .inl a3)] [.inl x49] SH h48 (QI Q)
            exact rn_iret dX11_set_54 rfl ⟨rfl, Rh48, _, rfl, V⟩
        · replace V := V.2 c37
          refine rn_bipush (v := 30) dX11_set_36 (by decide) ?_
          refine rn_goto (tgt := 43) dX11_set_38 (by decide) ?_
          refine rn_cS (M' := mX11_within) (n := 3) (av := [.inl a3, .inl 1, .inl 30]) (S := []) (rc := 0) (rs := 0) (mc := 0) (ms := 0) dX11_set_43 pa_X11_within (Nat.le_refl _) rfl (Nat.le_of_ble_eq_true rfl) ml_X11_83 ss_X11_within rfl (Ev.mono V ?_)
          rintro v sh1 h50 ⟨rfl, Rh50, x51, rfl, V⟩
          show Rn G (d + 1) 0 0 mX11_set 46 [(0, .inr (.inr (some 0))), (1, .inl a1), (2, .inl a2), (3, .inl a3)] [.inl x51] SH h50 (QI Q)
          refine rn_if_ne (tgt := 55) dX11_set_46 (by decide) (fun c52 => ?_) (fun c52 => ?_)
          · replace V := V.1 c52
            refine rn_aload_n dX11_set_55 rfl rfl ?_
            refine rn_get (v := .inr (.inr (some 1))) dX11_set_56 fl_X11_10 rfl rfl (congrArg (fun z => (Sum.inr (Sum.inr z) : MV)) (rf_0_0 Rh50)) ?_
            refine rn_get (v := .inr (.inr (some 9))) dX11_set_59 fl_X11_111 rfl rfl (congrArg (fun z => (Sum.inr (Sum.inr z) : MV)) (rf_1_9 Rh50)) ?_
            refine rn_get (v := .inr (.inr (some 12))) dX11_set_62 fl_X11_157 rfl rfl (congrArg (fun z => (Sum.inr (Sum.inr z) : MV)) (rf_9_2 Rh50)) ?_
            refine rn_iload_n dX11_set_65 rfl rfl ?_
            obtain ⟨g0, V⟩ := V
            refine rn_iald (k := (Int32.toNatClampNeg a1)) dX11_set_66 rfl rfl g0 ?_
            refine rn_if_ne (tgt := 84) dX11_set_67 (by decide) (fun c53 => ?_) (fun c53 => ?_)
            · replace V := V.1 c53
              refine rn_aload_n dX11_set_84 rfl rfl ?_
              refine rn_iconst (v := 3) dX11_set_85 (by decide) ?_
              refine rn_cV (M' := mX11_refuse) (n := 1) (av := [.inl 3]) (S := []) (rc := 0) (rs := 0) (mc := 0) (ms := 0) (a := 0) (ci := 10) (r := (RX11, TX11, 12)) dX11_set_86 pa_X11_refuse (Nat.le_refl _) rfl (Nat.le_of_ble_eq_true rfl) ml_X11_87 im_X11_refuse se_X11_refuse rfl rfl rfl (Ev.mono V ?_)
              rintro v sh1 h54 ⟨rfl, Rh54, x55, rfl, V⟩
              show Rn G (d + 1) 0 0 mX11_set 89 [(0, .inr (.inr (some 0))), (1, .inl a1), (2, .inl a2), (3, .inl a3)] [.inl x55] SH h54 (QI Q)
              exact rn_iret dX11_set_89 rfl ⟨rfl, Rh54, _, rfl, V⟩
            · replace V := V.2 c53
              refine rn_aload_n dX11_set_70 rfl rfl ?_
              refine rn_get (v := .inr (.inr (some 1))) dX11_set_71 fl_X11_10 rfl rfl (congrArg (fun z => (Sum.inr (Sum.inr z) : MV)) (rf_0_0 Rh50)) ?_
              refine rn_get (v := .inr (.inr (some 9))) dX11_set_74 fl_X11_111 rfl rfl (congrArg (fun z => (Sum.inr (Sum.inr z) : MV)) (rf_1_9 Rh50)) ?_
              refine rn_get (v := .inl (h50.1 9 6)) dX11_set_77 fl_X11_160 rfl rfl rfl ?_
              refine rn_iload_n dX11_set_80 rfl rfl ?_
              refine rn_icmp_ne (tgt := 90) dX11_set_81 (by decide) (fun c56 => ?_) (fun c56 => ?_)
              · replace V := V.1 c56
                refine rn_iload_n dX11_set_90 rfl rfl ?_
                refine rn_iconst (v := 1) dX11_set_91 (by decide) ?_
                refine rn_icmp_ne (tgt := 105) dX11_set_92 (by decide) (fun c57 => ?_) (fun c57 => ?_)
                · replace V := V.1 c57
                  refine rn_aload_n dX11_set_105 rfl rfl ?_
                  refine rn_get (v := .inr (.inr (some 1))) dX11_set_106 fl_X11_10 rfl rfl (congrArg (fun z => (Sum.inr (Sum.inr z) : MV)) (rf_0_0 Rh50)) ?_
                  refine rn_get (v := .inr (.inr (some 7))) dX11_set_109 fl_X11_151 rfl rfl (congrArg (fun z => (Sum.inr (Sum.inr z) : MV)) (rf_1_7 Rh50)) ?_
                  refine rn_astore (L' := [(4, .inr (.inr (some 7))), (0, .inr (.inr (some 0))), (1, .inl a1), (2, .inl a2), (3, .inl a3)]) dX11_set_112 (Nat.le_of_ble_eq_true rfl) rfl ?_
                  refine rn_aload dX11_set_114 rfl ?_
                  refine rn_iload_n dX11_set_116 rfl rfl ?_
                  obtain ⟨g0, V⟩ := V
                  refine rn_iald (k := (Int32.toNatClampNeg a1)) dX11_set_117 rfl rfl g0 ?_
                  refine rn_istore (L' := [(5, .inl (h50.1 7 (Int32.toNatClampNeg a1))), (4, .inr (.inr (some 7))), (0, .inr (.inr (some 0))), (1, .inl a1), (2, .inl a2), (3, .inl a3)]) dX11_set_118 (Nat.le_of_ble_eq_true rfl) rfl ?_
                  refine rn_aload dX11_set_120 rfl ?_
                  refine rn_iload_n dX11_set_122 rfl rfl ?_
                  refine rn_iload_n dX11_set_123 rfl rfl ?_
                  obtain ⟨g0, V⟩ := V
                  refine rn_iast (k := (Int32.toNatClampNeg a1)) dX11_set_124 rfl rfl g0 ?_
                  refine rn_iload dX11_set_125 rfl ?_
                  exact rn_iret dX11_set_127 rfl ⟨rfl, Rh50, _, rfl, V⟩
                · replace V := V.2 c57
                  refine rn_aload_n dX11_set_95 rfl rfl ?_
                  refine rn_get (v := .inr (.inr (some 1))) dX11_set_96 fl_X11_10 rfl rfl (congrArg (fun z => (Sum.inr (Sum.inr z) : MV)) (rf_0_0 Rh50)) ?_
                  refine rn_get (v := .inr (.inr (some 6))) dX11_set_99 fl_X11_148 rfl rfl (congrArg (fun z => (Sum.inr (Sum.inr z) : MV)) (rf_1_6 Rh50)) ?_
                  refine rn_goto (tgt := 112) dX11_set_102 (by decide) ?_
                  refine rn_astore (L' := [(4, .inr (.inr (some 6))), (0, .inr (.inr (some 0))), (1, .inl a1), (2, .inl a2), (3, .inl a3)]) dX11_set_112 (Nat.le_of_ble_eq_true rfl) rfl ?_
                  refine rn_aload dX11_set_114 rfl ?_
                  refine rn_iload_n dX11_set_116 rfl rfl ?_
                  obtain ⟨g0, V⟩ := V
                  refine rn_iald (k := (Int32.toNatClampNeg a1)) dX11_set_117 rfl rfl g0 ?_
                  refine rn_istore (L' := [(5, .inl (h50.1 6 (Int32.toNatClampNeg a1))), (4, .inr (.inr (some 6))), (0, .inr (.inr (some 0))), (1, .inl a1), (2, .inl a2), (3, .inl a3)]) dX11_set_118 (Nat.le_of_ble_eq_true rfl) rfl ?_
                  refine rn_aload dX11_set_120 rfl ?_
                  refine rn_iload_n dX11_set_122 rfl rfl ?_
                  refine rn_iload_n dX11_set_123 rfl rfl ?_
                  obtain ⟨g0, V⟩ := V
                  refine rn_iast (k := (Int32.toNatClampNeg a1)) dX11_set_124 rfl rfl g0 ?_
                  refine rn_iload dX11_set_125 rfl ?_
                  exact rn_iret dX11_set_127 rfl ⟨rfl, Rh50, _, rfl, V⟩
              · replace V := V.2 c56
                refine rn_aload_n dX11_set_84 rfl rfl ?_
                refine rn_iconst (v := 3) dX11_set_85 (by decide) ?_
                refine rn_cV (M' := mX11_refuse) (n := 1) (av := [.inl 3]) (S := []) (rc := 0) (rs := 0) (mc := 0) (ms := 0) (a := 0) (ci := 10) (r := (RX11, TX11, 12)) dX11_set_86 pa_X11_refuse (Nat.le_refl _) rfl (Nat.le_of_ble_eq_true rfl) ml_X11_87 im_X11_refuse se_X11_refuse rfl rfl rfl (Ev.mono V ?_)
                rintro v sh1 h58 ⟨rfl, Rh58, x59, rfl, V⟩
                show Rn G (d + 1) 0 0 mX11_set 89 [(0, .inr (.inr (some 0))), (1, .inl a1), (2, .inl a2), (3, .inl a3)] [.inl x59] SH h58 (QI Q)
                exact rn_iret dX11_set_89 rfl ⟨rfl, Rh58, _, rfl, V⟩
          · replace V := V.2 c52
            refine rn_aload_n dX11_set_49 rfl rfl ?_
            refine rn_iconst (v := 1) dX11_set_50 (by decide) ?_
            refine rn_cV (M' := mX11_refuse) (n := 1) (av := [.inl 1]) (S := []) (rc := 0) (rs := 0) (mc := 0) (ms := 0) (a := 0) (ci := 10) (r := (RX11, TX11, 12)) dX11_set_51 pa_X11_refuse (Nat.le_refl _) rfl (Nat.le_of_ble_eq_true rfl) ml_X11_87 im_X11_refuse se_X11_refuse rfl rfl rfl (Ev.mono V ?_)
            rintro v sh1 h60 ⟨rfl, Rh60, x61, rfl, V⟩
            show Rn G (d + 1) 0 0 mX11_set 54 [(0, .inr (.inr (some 0))), (1, .inl a1), (2, .inl a2), (3, .inl a3)] [.inl x61] SH h60 (QI Q)
            exact rn_iret dX11_set_54 rfl ⟨rfl, Rh60, _, rfl, V⟩
set_option maxRecDepth 100000 in
set_option maxHeartbeats 4000000 in
theorem vc_X11_fetch {G : GT} {d : Nat} {a1 : Int32} {a2 : Int32}  {h : Hp} {Q : Int32 → Hp → Prop} (hR : RF h) (V : EvI G d mX9_hasParty [.inr (.inr (some 1)), .inl a1] h (fun x2 h1 => ((x2 = 0 → EvI G d mX11_refuse [.inr (.inr (some 0)), .inl 1] h1 (fun x5 h4 => Q x5 h4)) ∧ (¬ x2 = 0 → EvI G d mX11_within [.inl a2, .inl 1, .inl 999] h1 (fun x7 h6 => ((¬ x7 = 0 → vp_in a1 4 ∧ vp_in a1 4 ∧ vp_in a1 4 ∧ ∀ h9 : Hp, h9 = (sI h6 10 (Int32.toNatClampNeg a1) (if (h6.1 10 (Int32.toNatClampNeg a1) + a2) < h6.1 4 (Int32.toNatClampNeg a1) then (h6.1 10 (Int32.toNatClampNeg a1) + a2) else h6.1 4 (Int32.toNatClampNeg a1))) → Q (if (h6.1 10 (Int32.toNatClampNeg a1) + a2) < h6.1 4 (Int32.toNatClampNeg a1) then (h6.1 10 (Int32.toNatClampNeg a1) + a2) else h6.1 4 (Int32.toNatClampNeg a1)) h9) ∧ (x7 = 0 → EvI G d mX11_refuse [.inr (.inr (some 0)), .inl 1] h6 (fun x11 h10 => Q x11 h10)))))))) : EvI G (d + 1) mX11_fetch [.inr (.inr (some 0)), .inl a1, .inl a2] h Q := by
  refine Ev.of rfl (fun _ => Nat.le_of_ble_eq_true rfl) ?_
  show Rn G (d + 1) 0 0 mX11_fetch 0 [(0, .inr (.inr (some 0))), (1, .inl a1), (2, .inl a2)] [] SH h (QI Q)
  refine rn_aload_n dX11_fetch_0 rfl rfl ?_
  refine rn_get (v := .inr (.inr (some 1))) dX11_fetch_1 fl_X11_10 rfl rfl (congrArg (fun z => (Sum.inr (Sum.inr z) : MV)) (rf_0_0 hR)) ?_
  refine rn_iload_n dX11_fetch_4 rfl rfl ?_
  refine rn_cV (M' := mX9_hasParty) (n := 1) (av := [.inl a1]) (S := []) (rc := 0) (rs := 0) (mc := 0) (ms := 0) (a := 1) (ci := 8) (r := (RX9, TX9, 17)) dX11_fetch_5 pa_X9_hasParty (Nat.le_refl _) rfl (Nat.le_of_ble_eq_true rfl) ml_X11_99 im_X9_hasParty se_X9_hasParty rfl rfl rfl (Ev.mono V ?_)
  rintro v sh1 h1 ⟨rfl, Rh1, x2, rfl, V⟩
  show Rn G (d + 1) 0 0 mX11_fetch 8 [(0, .inr (.inr (some 0))), (1, .inl a1), (2, .inl a2)] [.inl x2] SH h1 (QI Q)
  refine rn_if_eq (tgt := 22) dX11_fetch_8 (by decide) (fun c3 => ?_) (fun c3 => ?_)
  · replace V := V.1 c3
    refine rn_aload_n dX11_fetch_22 rfl rfl ?_
    refine rn_iconst (v := 1) dX11_fetch_23 (by decide) ?_
    refine rn_cV (M' := mX11_refuse) (n := 1) (av := [.inl 1]) (S := []) (rc := 0) (rs := 0) (mc := 0) (ms := 0) (a := 0) (ci := 10) (r := (RX11, TX11, 12)) dX11_fetch_24 pa_X11_refuse (Nat.le_refl _) rfl (Nat.le_of_ble_eq_true rfl) ml_X11_87 im_X11_refuse se_X11_refuse rfl rfl rfl (Ev.mono V ?_)
    rintro v sh1 h4 ⟨rfl, Rh4, x5, rfl, V⟩
    show Rn G (d + 1) 0 0 mX11_fetch 27 [(0, .inr (.inr (some 0))), (1, .inl a1), (2, .inl a2)] [.inl x5] SH h4 (QI Q)
    exact rn_iret dX11_fetch_27 rfl ⟨rfl, Rh4, _, rfl, V⟩
  · replace V := V.2 c3
    refine rn_iload_n dX11_fetch_11 rfl rfl ?_
    refine rn_iconst (v := 1) dX11_fetch_12 (by decide) ?_
    refine rn_sipush (v := 999) dX11_fetch_13 (by decide) ?_
    refine rn_cS (M' := mX11_within) (n := 3) (av := [.inl a2, .inl 1, .inl 999]) (S := []) (rc := 0) (rs := 0) (mc := 0) (ms := 0) dX11_fetch_16 pa_X11_within (Nat.le_refl _) rfl (Nat.le_of_ble_eq_true rfl) ml_X11_83 ss_X11_within rfl (Ev.mono V ?_)
    rintro v sh1 h6 ⟨rfl, Rh6, x7, rfl, V⟩
    show Rn G (d + 1) 0 0 mX11_fetch 19 [(0, .inr (.inr (some 0))), (1, .inl a1), (2, .inl a2)] [.inl x7] SH h6 (QI Q)
    refine rn_if_ne (tgt := 28) dX11_fetch_19 (by decide) (fun c8 => ?_) (fun c8 => ?_)
    · replace V := V.1 c8
      refine rn_aload_n dX11_fetch_28 rfl rfl ?_
      refine rn_get (v := .inr (.inr (some 1))) dX11_fetch_29 fl_X11_10 rfl rfl (congrArg (fun z => (Sum.inr (Sum.inr z) : MV)) (rf_0_0 Rh6)) ?_
      refine rn_get (v := .inr (.inr (some 4))) dX11_fetch_32 fl_X11_108 rfl rfl (congrArg (fun z => (Sum.inr (Sum.inr z) : MV)) (rf_1_3 Rh6)) ?_
      refine rn_iload_n dX11_fetch_35 rfl rfl ?_
      obtain ⟨g0, V⟩ := V
      refine rn_iald (k := (Int32.toNatClampNeg a1)) dX11_fetch_36 rfl rfl g0 ?_
      refine rn_aload_n dX11_fetch_37 rfl rfl ?_
      refine rn_get (v := .inr (.inr (some 1))) dX11_fetch_38 fl_X11_10 rfl rfl (congrArg (fun z => (Sum.inr (Sum.inr z) : MV)) (rf_0_0 Rh6)) ?_
      refine rn_get (v := .inr (.inr (some 9))) dX11_fetch_41 fl_X11_111 rfl rfl (congrArg (fun z => (Sum.inr (Sum.inr z) : MV)) (rf_1_9 Rh6)) ?_
      refine rn_get (v := .inr (.inr (some 10))) dX11_fetch_44 fl_X11_114 rfl rfl (congrArg (fun z => (Sum.inr (Sum.inr z) : MV)) (rf_9_0 Rh6)) ?_
      refine rn_iload_n dX11_fetch_47 rfl rfl ?_
      obtain ⟨g0, V⟩ := V
      refine rn_iald (k := (Int32.toNatClampNeg a1)) dX11_fetch_48 rfl rfl g0 ?_
      refine rn_iload_n dX11_fetch_49 rfl rfl ?_
      refine rn_iadd dX11_fetch_50 ?_
      refine rn_mmin dX11_fetch_51 ml_X11_163 (Nat.le_of_ble_eq_true rfl) ?_
      refine rn_istore_n (L' := [(3, .inl (if (h6.1 10 (Int32.toNatClampNeg a1) + a2) < h6.1 4 (Int32.toNatClampNeg a1) then (h6.1 10 (Int32.toNatClampNeg a1) + a2) else h6.1 4 (Int32.toNatClampNeg a1))), (0, .inr (.inr (some 0))), (1, .inl a1), (2, .inl a2)]) dX11_fetch_54 rfl (Nat.le_of_ble_eq_true rfl) rfl ?_
      refine rn_aload_n dX11_fetch_55 rfl rfl ?_
      refine rn_get (v := .inr (.inr (some 1))) dX11_fetch_56 fl_X11_10 rfl rfl (congrArg (fun z => (Sum.inr (Sum.inr z) : MV)) (rf_0_0 Rh6)) ?_
      refine rn_get (v := .inr (.inr (some 9))) dX11_fetch_59 fl_X11_111 rfl rfl (congrArg (fun z => (Sum.inr (Sum.inr z) : MV)) (rf_1_9 Rh6)) ?_
      refine rn_get (v := .inr (.inr (some 10))) dX11_fetch_62 fl_X11_114 rfl rfl (congrArg (fun z => (Sum.inr (Sum.inr z) : MV)) (rf_9_0 Rh6)) ?_
      refine rn_iload_n dX11_fetch_65 rfl rfl ?_
      refine rn_iload_n dX11_fetch_66 rfl rfl ?_
      obtain ⟨g0, V⟩ := V
      refine rn_iast (k := (Int32.toNatClampNeg a1)) dX11_fetch_67 rfl rfl g0 ?_
      obtain ⟨h9, eh9⟩ : ∃ z, z = (sI h6 10 (Int32.toNatClampNeg a1) (if (h6.1 10 (Int32.toNatClampNeg a1) + a2) < h6.1 4 (Int32.toNatClampNeg a1) then (h6.1 10 (Int32.toNatClampNeg a1) + a2) else h6.1 4 (Int32.toNatClampNeg a1))) := ⟨_, rfl⟩
      show Rn G (d + 1) 0 0 mX11_fetch 68 [(3, .inl (if (h6.1 10 (Int32.toNatClampNeg a1) + a2) < h6.1 4 (Int32.toNatClampNeg a1) then (h6.1 10 (Int32.toNatClampNeg a1) + a2) else h6.1 4 (Int32.toNatClampNeg a1))), (0, .inr (.inr (some 0))), (1, .inl a1), (2, .inl a2)] [] SH (sI h6 10 (Int32.toNatClampNeg a1) (if (h6.1 10 (Int32.toNatClampNeg a1) + a2) < h6.1 4 (Int32.toNatClampNeg a1) then (h6.1 10 (Int32.toNatClampNeg a1) + a2) else h6.1 4 (Int32.toNatClampNeg a1))) (QI Q)
      rw [← eh9]
      replace V := V h9 eh9
      have Rh9 : RF h9 := by rw [eh9]; exact Rh6
      refine rn_iload_n dX11_fetch_68 rfl rfl ?_
      exact rn_iret dX11_fetch_69 rfl ⟨rfl, Rh9, _, rfl, V⟩
    · replace V := V.2 c8
      refine rn_aload_n dX11_fetch_22 rfl rfl ?_
      refine rn_iconst (v := 1) dX11_fetch_23 (by decide) ?_
      refine rn_cV (M' := mX11_refuse) (n := 1) (av := [.inl 1]) (S := []) (rc := 0) (rs := 0) (mc := 0) (ms := 0) (a := 0) (ci := 10) (r := (RX11, TX11, 12)) dX11_fetch_24 pa_X11_refuse (Nat.le_refl _) rfl (Nat.le_of_ble_eq_true rfl) ml_X11_87 im_X11_refuse se_X11_refuse rfl rfl rfl (Ev.mono V ?_)
      rintro v sh1 h10 ⟨rfl, Rh10, x11, rfl, V⟩
      show Rn G (d + 1) 0 0 mX11_fetch 27 [(0, .inr (.inr (some 0))), (1, .inl a1), (2, .inl a2)] [.inl x11] SH h10 (QI Q)
      exact rn_iret dX11_fetch_27 rfl ⟨rfl, Rh10, _, rfl, V⟩
set_option maxRecDepth 100000 in
set_option maxHeartbeats 4000000 in
theorem vc_X11_pour {G : GT} {d : Nat} {a1 : Int32} {a2 : Int32} {a3 : Int32}  {h : Hp} {Q : Int32 → Hp → Prop} (hR : RF h) (V : EvI G d mX11_areTwo [.inr (.inr (some 0)), .inl a1, .inl a2] h (fun x2 h1 => ((x2 = 0 → EvI G d mX11_refuse [.inr (.inr (some 0)), .inl 1] h1 (fun x5 h4 => Q x5 h4)) ∧ (¬ x2 = 0 → EvI G d mX11_within [.inl a3, .inl 1, .inl 999] h1 (fun x7 h6 => ((¬ x7 = 0 → vp_in a1 4 ∧ ((a3 ≤ h6.1 10 (Int32.toNatClampNeg a1) → vp_in a2 4 ∧ vp_in a2 4 ∧ (((h6.1 10 (Int32.toNatClampNeg a2) + a3) ≤ h6.1 4 (Int32.toNatClampNeg a2) → vp_in a1 4 ∧ vp_in a1 4 ∧ vp_in a2 4 ∧ vp_in a2 4 ∧ ∀ h11 : Hp, h11 = (sI (sI h6 10 (Int32.toNatClampNeg a1) (h6.1 10 (Int32.toNatClampNeg a1) - a3)) 10 (Int32.toNatClampNeg a2) ((sI h6 10 (Int32.toNatClampNeg a1) (h6.1 10 (Int32.toNatClampNeg a1) - a3)).1 10 (Int32.toNatClampNeg a2) + a3)) → vp_in a2 4 ∧ Q (h11.1 10 (Int32.toNatClampNeg a2)) h11) ∧ (¬ (h6.1 10 (Int32.toNatClampNeg a2) + a3) ≤ h6.1 4 (Int32.toNatClampNeg a2) → EvI G d mX11_refuse [.inr (.inr (some 0)), .inl 4] h6 (fun x13 h12 => Q x13 h12)))) ∧ (¬ a3 ≤ h6.1 10 (Int32.toNatClampNeg a1) → EvI G d mX11_refuse [.inr (.inr (some 0)), .inl 3] h6 (fun x15 h14 => Q x15 h14)))) ∧ (x7 = 0 → EvI G d mX11_refuse [.inr (.inr (some 0)), .inl 1] h6 (fun x17 h16 => Q x17 h16)))))))) : EvI G (d + 1) mX11_pour [.inr (.inr (some 0)), .inl a1, .inl a2, .inl a3] h Q := by
  refine Ev.of rfl (fun _ => Nat.le_of_ble_eq_true rfl) ?_
  show Rn G (d + 1) 0 0 mX11_pour 0 [(0, .inr (.inr (some 0))), (1, .inl a1), (2, .inl a2), (3, .inl a3)] [] SH h (QI Q)
  refine rn_aload_n dX11_pour_0 rfl rfl ?_
  refine rn_iload_n dX11_pour_1 rfl rfl ?_
  refine rn_iload_n dX11_pour_2 rfl rfl ?_
  refine rn_cV (M' := mX11_areTwo) (n := 2) (av := [.inl a1, .inl a2]) (S := []) (rc := 0) (rs := 0) (mc := 0) (ms := 0) (a := 0) (ci := 10) (r := (RX11, TX11, 12)) dX11_pour_3 pa_X11_areTwo (Nat.le_refl _) rfl (Nat.le_of_ble_eq_true rfl) ml_X11_168 im_X11_areTwo se_X11_areTwo rfl rfl rfl (Ev.mono V ?_)
  rintro v sh1 h1 ⟨rfl, Rh1, x2, rfl, V⟩
  show Rn G (d + 1) 0 0 mX11_pour 6 [(0, .inr (.inr (some 0))), (1, .inl a1), (2, .inl a2), (3, .inl a3)] [.inl x2] SH h1 (QI Q)
  refine rn_if_eq (tgt := 20) dX11_pour_6 (by decide) (fun c3 => ?_) (fun c3 => ?_)
  · replace V := V.1 c3
    refine rn_aload_n dX11_pour_20 rfl rfl ?_
    refine rn_iconst (v := 1) dX11_pour_21 (by decide) ?_
    refine rn_cV (M' := mX11_refuse) (n := 1) (av := [.inl 1]) (S := []) (rc := 0) (rs := 0) (mc := 0) (ms := 0) (a := 0) (ci := 10) (r := (RX11, TX11, 12)) dX11_pour_22 pa_X11_refuse (Nat.le_refl _) rfl (Nat.le_of_ble_eq_true rfl) ml_X11_87 im_X11_refuse se_X11_refuse rfl rfl rfl (Ev.mono V ?_)
    rintro v sh1 h4 ⟨rfl, Rh4, x5, rfl, V⟩
    show Rn G (d + 1) 0 0 mX11_pour 25 [(0, .inr (.inr (some 0))), (1, .inl a1), (2, .inl a2), (3, .inl a3)] [.inl x5] SH h4 (QI Q)
    exact rn_iret dX11_pour_25 rfl ⟨rfl, Rh4, _, rfl, V⟩
  · replace V := V.2 c3
    refine rn_iload_n dX11_pour_9 rfl rfl ?_
    refine rn_iconst (v := 1) dX11_pour_10 (by decide) ?_
    refine rn_sipush (v := 999) dX11_pour_11 (by decide) ?_
    refine rn_cS (M' := mX11_within) (n := 3) (av := [.inl a3, .inl 1, .inl 999]) (S := []) (rc := 0) (rs := 0) (mc := 0) (ms := 0) dX11_pour_14 pa_X11_within (Nat.le_refl _) rfl (Nat.le_of_ble_eq_true rfl) ml_X11_83 ss_X11_within rfl (Ev.mono V ?_)
    rintro v sh1 h6 ⟨rfl, Rh6, x7, rfl, V⟩
    show Rn G (d + 1) 0 0 mX11_pour 17 [(0, .inr (.inr (some 0))), (1, .inl a1), (2, .inl a2), (3, .inl a3)] [.inl x7] SH h6 (QI Q)
    refine rn_if_ne (tgt := 26) dX11_pour_17 (by decide) (fun c8 => ?_) (fun c8 => ?_)
    · replace V := V.1 c8
      refine rn_aload_n dX11_pour_26 rfl rfl ?_
      refine rn_get (v := .inr (.inr (some 1))) dX11_pour_27 fl_X11_10 rfl rfl (congrArg (fun z => (Sum.inr (Sum.inr z) : MV)) (rf_0_0 Rh6)) ?_
      refine rn_get (v := .inr (.inr (some 9))) dX11_pour_30 fl_X11_111 rfl rfl (congrArg (fun z => (Sum.inr (Sum.inr z) : MV)) (rf_1_9 Rh6)) ?_
      refine rn_get (v := .inr (.inr (some 10))) dX11_pour_33 fl_X11_114 rfl rfl (congrArg (fun z => (Sum.inr (Sum.inr z) : MV)) (rf_9_0 Rh6)) ?_
      refine rn_astore (L' := [(4, .inr (.inr (some 10))), (0, .inr (.inr (some 0))), (1, .inl a1), (2, .inl a2), (3, .inl a3)]) dX11_pour_36 (Nat.le_of_ble_eq_true rfl) rfl ?_
      refine rn_aload dX11_pour_38 rfl ?_
      refine rn_iload_n dX11_pour_40 rfl rfl ?_
      obtain ⟨g0, V⟩ := V
      refine rn_iald (k := (Int32.toNatClampNeg a1)) dX11_pour_41 rfl rfl g0 ?_
      refine rn_iload_n dX11_pour_42 rfl rfl ?_
      refine rn_icmp_ge (tgt := 52) dX11_pour_43 (by decide) (fun c9 => ?_) (fun c9 => ?_)
      · replace V := V.1 c9
        refine rn_aload dX11_pour_52 rfl ?_
        refine rn_iload_n dX11_pour_54 rfl rfl ?_
        obtain ⟨g0, V⟩ := V
        refine rn_iald (k := (Int32.toNatClampNeg a2)) dX11_pour_55 rfl rfl g0 ?_
        refine rn_iload_n dX11_pour_56 rfl rfl ?_
        refine rn_iadd dX11_pour_57 ?_
        refine rn_aload_n dX11_pour_58 rfl rfl ?_
        refine rn_get (v := .inr (.inr (some 1))) dX11_pour_59 fl_X11_10 rfl rfl (congrArg (fun z => (Sum.inr (Sum.inr z) : MV)) (rf_0_0 Rh6)) ?_
        refine rn_get (v := .inr (.inr (some 4))) dX11_pour_62 fl_X11_108 rfl rfl (congrArg (fun z => (Sum.inr (Sum.inr z) : MV)) (rf_1_3 Rh6)) ?_
        refine rn_iload_n dX11_pour_65 rfl rfl ?_
        obtain ⟨g0, V⟩ := V
        refine rn_iald (k := (Int32.toNatClampNeg a2)) dX11_pour_66 rfl rfl g0 ?_
        refine rn_icmp_le (tgt := 76) dX11_pour_67 (by decide) (fun c10 => ?_) (fun c10 => ?_)
        · replace V := V.1 c10
          refine rn_aload dX11_pour_76 rfl ?_
          refine rn_iload_n dX11_pour_78 rfl rfl ?_
          refine rn_dup2 dX11_pour_79 rfl rfl ?_
          obtain ⟨g0, V⟩ := V
          refine rn_iald (k := (Int32.toNatClampNeg a1)) dX11_pour_80 rfl rfl g0 ?_
          refine rn_iload_n dX11_pour_81 rfl rfl ?_
          refine rn_isub dX11_pour_82 ?_
          obtain ⟨g0, V⟩ := V
          refine rn_iast (k := (Int32.toNatClampNeg a1)) dX11_pour_83 rfl rfl g0 ?_
          refine rn_aload dX11_pour_84 rfl ?_
          refine rn_iload_n dX11_pour_86 rfl rfl ?_
          refine rn_dup2 dX11_pour_87 rfl rfl ?_
          obtain ⟨g0, V⟩ := V
          refine rn_iald (k := (Int32.toNatClampNeg a2)) dX11_pour_88 rfl rfl g0 ?_
          refine rn_iload_n dX11_pour_89 rfl rfl ?_
          refine rn_iadd dX11_pour_90 ?_
          obtain ⟨g0, V⟩ := V
          refine rn_iast (k := (Int32.toNatClampNeg a2)) dX11_pour_91 rfl rfl g0 ?_
          obtain ⟨h11, eh11⟩ : ∃ z, z = (sI (sI h6 10 (Int32.toNatClampNeg a1) (h6.1 10 (Int32.toNatClampNeg a1) - a3)) 10 (Int32.toNatClampNeg a2) ((sI h6 10 (Int32.toNatClampNeg a1) (h6.1 10 (Int32.toNatClampNeg a1) - a3)).1 10 (Int32.toNatClampNeg a2) + a3)) := ⟨_, rfl⟩
          show Rn G (d + 1) 0 0 mX11_pour 92 [(4, .inr (.inr (some 10))), (0, .inr (.inr (some 0))), (1, .inl a1), (2, .inl a2), (3, .inl a3)] [] SH (sI (sI h6 10 (Int32.toNatClampNeg a1) (h6.1 10 (Int32.toNatClampNeg a1) - a3)) 10 (Int32.toNatClampNeg a2) ((sI h6 10 (Int32.toNatClampNeg a1) (h6.1 10 (Int32.toNatClampNeg a1) - a3)).1 10 (Int32.toNatClampNeg a2) + a3)) (QI Q)
          rw [← eh11]
          replace V := V h11 eh11
          have Rh11 : RF h11 := by rw [eh11]; exact Rh6
          refine rn_aload dX11_pour_92 rfl ?_
          refine rn_iload_n dX11_pour_94 rfl rfl ?_
          obtain ⟨g0, V⟩ := V
          refine rn_iald (k := (Int32.toNatClampNeg a2)) dX11_pour_95 rfl rfl g0 ?_
          exact rn_iret dX11_pour_96 rfl ⟨rfl, Rh11, _, rfl, V⟩
        · replace V := V.2 c10
          refine rn_aload_n dX11_pour_70 rfl rfl ?_
          refine rn_iconst (v := 4) dX11_pour_71 (by decide) ?_
          refine rn_cV (M' := mX11_refuse) (n := 1) (av := [.inl 4]) (S := []) (rc := 0) (rs := 0) (mc := 0) (ms := 0) (a := 0) (ci := 10) (r := (RX11, TX11, 12)) dX11_pour_72 pa_X11_refuse (Nat.le_refl _) rfl (Nat.le_of_ble_eq_true rfl) ml_X11_87 im_X11_refuse se_X11_refuse rfl rfl rfl (Ev.mono V ?_)
          rintro v sh1 h12 ⟨rfl, Rh12, x13, rfl, V⟩
          show Rn G (d + 1) 0 0 mX11_pour 75 [(4, .inr (.inr (some 10))), (0, .inr (.inr (some 0))), (1, .inl a1), (2, .inl a2), (3, .inl a3)] [.inl x13] SH h12 (QI Q)
          exact rn_iret dX11_pour_75 rfl ⟨rfl, Rh12, _, rfl, V⟩
      · replace V := V.2 c9
        refine rn_aload_n dX11_pour_46 rfl rfl ?_
        refine rn_iconst (v := 3) dX11_pour_47 (by decide) ?_
        refine rn_cV (M' := mX11_refuse) (n := 1) (av := [.inl 3]) (S := []) (rc := 0) (rs := 0) (mc := 0) (ms := 0) (a := 0) (ci := 10) (r := (RX11, TX11, 12)) dX11_pour_48 pa_X11_refuse (Nat.le_refl _) rfl (Nat.le_of_ble_eq_true rfl) ml_X11_87 im_X11_refuse se_X11_refuse rfl rfl rfl (Ev.mono V ?_)
        rintro v sh1 h14 ⟨rfl, Rh14, x15, rfl, V⟩
        show Rn G (d + 1) 0 0 mX11_pour 51 [(4, .inr (.inr (some 10))), (0, .inr (.inr (some 0))), (1, .inl a1), (2, .inl a2), (3, .inl a3)] [.inl x15] SH h14 (QI Q)
        exact rn_iret dX11_pour_51 rfl ⟨rfl, Rh14, _, rfl, V⟩
    · replace V := V.2 c8
      refine rn_aload_n dX11_pour_20 rfl rfl ?_
      refine rn_iconst (v := 1) dX11_pour_21 (by decide) ?_
      refine rn_cV (M' := mX11_refuse) (n := 1) (av := [.inl 1]) (S := []) (rc := 0) (rs := 0) (mc := 0) (ms := 0) (a := 0) (ci := 10) (r := (RX11, TX11, 12)) dX11_pour_22 pa_X11_refuse (Nat.le_refl _) rfl (Nat.le_of_ble_eq_true rfl) ml_X11_87 im_X11_refuse se_X11_refuse rfl rfl rfl (Ev.mono V ?_)
      rintro v sh1 h16 ⟨rfl, Rh16, x17, rfl, V⟩
      show Rn G (d + 1) 0 0 mX11_pour 25 [(0, .inr (.inr (some 0))), (1, .inl a1), (2, .inl a2), (3, .inl a3)] [.inl x17] SH h16 (QI Q)
      exact rn_iret dX11_pour_25 rfl ⟨rfl, Rh16, _, rfl, V⟩
set_option maxRecDepth 100000 in
set_option maxHeartbeats 4000000 in
theorem vc_X11_object {G : GT} {d : Nat} {a1 : Int32} {a2 : Int32}  {h : Hp} {Q : Int32 → Hp → Prop} (hR : RF h) (V : EvI G d mX9_hasParty [.inr (.inr (some 1)), .inl a1] h (fun x2 h1 => ((x2 = 0 → EvI G d mX11_refuse [.inr (.inr (some 0)), .inl 1] h1 (fun x5 h4 => Q x5 h4)) ∧ (¬ x2 = 0 → EvI G d mX11_within [.inl a2, .inl 1, .inl 99] h1 (fun x7 h6 => ((¬ x7 = 0 → EvI G d mX9_speaker [.inr (.inr (some 1)), .inr (.inr (some 9))] h6 (fun x10 h9 => ((x10 = (-1) → EvI G d mX11_refuse [.inr (.inr (some 0)), .inl 3] h9 (fun x13 h12 => Q x13 h12)) ∧ (¬ x10 = (-1) → ((x10 = a1 → EvI G d mX11_refuse [.inr (.inr (some 0)), .inl 3] h9 (fun x16 h15 => Q x16 h15)) ∧ (¬ x10 = a1 → vp_in a1 4 ∧ ((a2 ≤ h9.1 10 (Int32.toNatClampNeg a1) → EvI G d mX2_lose [.inr (.inr (some 9)), .inl a1, .inl a2] h9 (fun x19 h18 => EvV G d mX2_floorGets [.inr (.inr (some 9)), .inl x19] h18 (fun h20 => EvI G d mX2_lose [.inr (.inr (some 9)), .inl x10, .inl (2 * a2)] h20 (fun x22 h21 => EvV G d mX2_floorGets [.inr (.inr (some 9)), .inl x22] h21 (fun h23 => vp_in x10 4 ∧ Q (h23.1 10 (Int32.toNatClampNeg x10)) h23))))) ∧ (¬ a2 ≤ h9.1 10 (Int32.toNatClampNeg a1) → EvI G d mX11_refuse [.inr (.inr (some 0)), .inl 3] h9 (fun x25 h24 => Q x25 h24))))))))) ∧ (x7 = 0 → EvI G d mX11_refuse [.inr (.inr (some 0)), .inl 1] h6 (fun x27 h26 => Q x27 h26)))))))) : EvI G (d + 1) mX11_object [.inr (.inr (some 0)), .inl a1, .inl a2] h Q := by
  refine Ev.of rfl (fun _ => Nat.le_of_ble_eq_true rfl) ?_
  show Rn G (d + 1) 0 0 mX11_object 0 [(0, .inr (.inr (some 0))), (1, .inl a1), (2, .inl a2)] [] SH h (QI Q)
  refine rn_aload_n dX11_object_0 rfl rfl ?_
  refine rn_get (v := .inr (.inr (some 1))) dX11_object_1 fl_X11_10 rfl rfl (congrArg (fun z => (Sum.inr (Sum.inr z) : MV)) (rf_0_0 hR)) ?_
  refine rn_iload_n dX11_object_4 rfl rfl ?_
  refine rn_cV (M' := mX9_hasParty) (n := 1) (av := [.inl a1]) (S := []) (rc := 0) (rs := 0) (mc := 0) (ms := 0) (a := 1) (ci := 8) (r := (RX9, TX9, 17)) dX11_object_5 pa_X9_hasParty (Nat.le_refl _) rfl (Nat.le_of_ble_eq_true rfl) ml_X11_99 im_X9_hasParty se_X9_hasParty rfl rfl rfl (Ev.mono V ?_)
  rintro v sh1 h1 ⟨rfl, Rh1, x2, rfl, V⟩
  show Rn G (d + 1) 0 0 mX11_object 8 [(0, .inr (.inr (some 0))), (1, .inl a1), (2, .inl a2)] [.inl x2] SH h1 (QI Q)
  refine rn_if_eq (tgt := 21) dX11_object_8 (by decide) (fun c3 => ?_) (fun c3 => ?_)
  · replace V := V.1 c3
    refine rn_aload_n dX11_object_21 rfl rfl ?_
    refine rn_iconst (v := 1) dX11_object_22 (by decide) ?_
    refine rn_cV (M' := mX11_refuse) (n := 1) (av := [.inl 1]) (S := []) (rc := 0) (rs := 0) (mc := 0) (ms := 0) (a := 0) (ci := 10) (r := (RX11, TX11, 12)) dX11_object_23 pa_X11_refuse (Nat.le_refl _) rfl (Nat.le_of_ble_eq_true rfl) ml_X11_87 im_X11_refuse se_X11_refuse rfl rfl rfl (Ev.mono V ?_)
    rintro v sh1 h4 ⟨rfl, Rh4, x5, rfl, V⟩
    show Rn G (d + 1) 0 0 mX11_object 26 [(0, .inr (.inr (some 0))), (1, .inl a1), (2, .inl a2)] [.inl x5] SH h4 (QI Q)
    exact rn_iret dX11_object_26 rfl ⟨rfl, Rh4, _, rfl, V⟩
  · replace V := V.2 c3
    refine rn_iload_n dX11_object_11 rfl rfl ?_
    refine rn_iconst (v := 1) dX11_object_12 (by decide) ?_
    refine rn_bipush (v := 99) dX11_object_13 (by decide) ?_
    refine rn_cS (M' := mX11_within) (n := 3) (av := [.inl a2, .inl 1, .inl 99]) (S := []) (rc := 0) (rs := 0) (mc := 0) (ms := 0) dX11_object_15 pa_X11_within (Nat.le_refl _) rfl (Nat.le_of_ble_eq_true rfl) ml_X11_83 ss_X11_within rfl (Ev.mono V ?_)
    rintro v sh1 h6 ⟨rfl, Rh6, x7, rfl, V⟩
    show Rn G (d + 1) 0 0 mX11_object 18 [(0, .inr (.inr (some 0))), (1, .inl a1), (2, .inl a2)] [.inl x7] SH h6 (QI Q)
    refine rn_if_ne (tgt := 27) dX11_object_18 (by decide) (fun c8 => ?_) (fun c8 => ?_)
    · replace V := V.1 c8
      refine rn_aload_n dX11_object_27 rfl rfl ?_
      refine rn_get (v := .inr (.inr (some 1))) dX11_object_28 fl_X11_10 rfl rfl (congrArg (fun z => (Sum.inr (Sum.inr z) : MV)) (rf_0_0 Rh6)) ?_
      refine rn_get (v := .inr (.inr (some 9))) dX11_object_31 fl_X11_111 rfl rfl (congrArg (fun z => (Sum.inr (Sum.inr z) : MV)) (rf_1_9 Rh6)) ?_
      refine rn_astore_n (L' := [(3, .inr (.inr (some 9))), (0, .inr (.inr (some 0))), (1, .inl a1), (2, .inl a2)]) dX11_object_34 rfl (Nat.le_of_ble_eq_true rfl) rfl ?_
      refine rn_aload_n dX11_object_35 rfl rfl ?_
      refine rn_get (v := .inr (.inr (some 1))) dX11_object_36 fl_X11_10 rfl rfl (congrArg (fun z => (Sum.inr (Sum.inr z) : MV)) (rf_0_0 Rh6)) ?_
      refine rn_aload_n dX11_object_39 rfl rfl ?_
      refine rn_cV (M' := mX9_speaker) (n := 1) (av := [.inr (.inr (some 9))]) (S := []) (rc := 0) (rs := 0) (mc := 0) (ms := 0) (a := 1) (ci := 8) (r := (RX9, TX9, 17)) dX11_object_40 pa_X9_speaker (Nat.le_refl _) rfl (Nat.le_of_ble_eq_true rfl) ml_X11_171 im_X9_speaker se_X9_speaker rfl rfl rfl (Ev.mono V ?_)
      rintro v sh1 h9 ⟨rfl, Rh9, x10, rfl, V⟩
      show Rn G (d + 1) 0 0 mX11_object 43 [(3, .inr (.inr (some 9))), (0, .inr (.inr (some 0))), (1, .inl a1), (2, .inl a2)] [.inl x10] SH h9 (QI Q)
      refine rn_istore (L' := [(4, .inl x10), (3, .inr (.inr (some 9))), (0, .inr (.inr (some 0))), (1, .inl a1), (2, .inl a2)]) dX11_object_43 (Nat.le_of_ble_eq_true rfl) rfl ?_
      refine rn_iload dX11_object_45 rfl ?_
      refine rn_iconst (v := (-1)) dX11_object_47 (by decide) ?_
      refine rn_icmp_eq (tgt := 67) dX11_object_48 (by decide) (fun c11 => ?_) (fun c11 => ?_)
      · replace V := V.1 c11
        refine rn_aload_n dX11_object_67 rfl rfl ?_
        refine rn_iconst (v := 3) dX11_object_68 (by decide) ?_
        refine rn_cV (M' := mX11_refuse) (n := 1) (av := [.inl 3]) (S := []) (rc := 0) (rs := 0) (mc := 0) (ms := 0) (a := 0) (ci := 10) (r := (RX11, TX11, 12)) dX11_object_69 pa_X11_refuse (Nat.le_refl _) rfl (Nat.le_of_ble_eq_true rfl) ml_X11_87 im_X11_refuse se_X11_refuse rfl rfl rfl (Ev.mono V ?_)
        rintro v sh1 h12 ⟨rfl, Rh12, x13, rfl, V⟩
        show Rn G (d + 1) 0 0 mX11_object 72 [(4, .inl x10), (3, .inr (.inr (some 9))), (0, .inr (.inr (some 0))), (1, .inl a1), (2, .inl a2)] [.inl x13] SH h12 (QI Q)
        exact rn_iret dX11_object_72 rfl ⟨rfl, Rh12, _, rfl, V⟩
      · replace V := V.2 c11
        refine rn_iload dX11_object_51 rfl ?_
        refine rn_iload_n dX11_object_53 rfl rfl ?_
        refine rn_icmp_eq (tgt := 67) dX11_object_54 (by decide) (fun c14 => ?_) (fun c14 => ?_)
        · replace V := V.1 c14
          refine rn_aload_n dX11_object_67 rfl rfl ?_
          refine rn_iconst (v := 3) dX11_object_68 (by decide) ?_
          refine rn_cV (M' := mX11_refuse) (n := 1) (av := [.inl 3]) (S := []) (rc := 0) (rs := 0) (mc := 0) (ms := 0) (a := 0) (ci := 10) (r := (RX11, TX11, 12)) dX11_object_69 pa_X11_refuse (Nat.le_refl _) rfl (Nat.le_of_ble_eq_true rfl) ml_X11_87 im_X11_refuse se_X11_refuse rfl rfl rfl (Ev.mono V ?_)
          rintro v sh1 h15 ⟨rfl, Rh15, x16, rfl, V⟩
          show Rn G (d + 1) 0 0 mX11_object 72 [(4, .inl x10), (3, .inr (.inr (some 9))), (0, .inr (.inr (some 0))), (1, .inl a1), (2, .inl a2)] [.inl x16] SH h15 (QI Q)
          exact rn_iret dX11_object_72 rfl ⟨rfl, Rh15, _, rfl, V⟩
        · replace V := V.2 c14
          refine rn_aload_n dX11_object_57 rfl rfl ?_
          refine rn_get (v := .inr (.inr (some 10))) dX11_object_58 fl_X11_114 rfl rfl (congrArg (fun z => (Sum.inr (Sum.inr z) : MV)) (rf_9_0 Rh9)) ?_
          refine rn_iload_n dX11_object_61 rfl rfl ?_
          obtain ⟨g0, V⟩ := V
          refine rn_iald (k := (Int32.toNatClampNeg a1)) dX11_object_62 rfl rfl g0 ?_
          refine rn_iload_n dX11_object_63 rfl rfl ?_
          refine rn_icmp_ge (tgt := 73) dX11_object_64 (by decide) (fun c17 => ?_) (fun c17 => ?_)
          · replace V := V.1 c17
            refine rn_aload_n dX11_object_73 rfl rfl ?_
            refine rn_aload_n dX11_object_74 rfl rfl ?_
            refine rn_iload_n dX11_object_75 rfl rfl ?_
            refine rn_iload_n dX11_object_76 rfl rfl ?_
            refine rn_cV (M' := mX2_lose) (n := 2) (av := [.inl a1, .inl a2]) (S := [.inr (.inr (some 9))]) (rc := 0) (rs := 0) (mc := 0) (ms := 0) (a := 9) (ci := 2) (r := (RX2, TX2, 8)) dX11_object_77 pa_X2_lose (Nat.le_refl _) rfl (Nat.le_of_ble_eq_true rfl) ml_X11_175 im_X2_lose se_X2_lose rfl rfl rfl (Ev.mono V ?_)
            rintro v sh1 h18 ⟨rfl, Rh18, x19, rfl, V⟩
            show Rn G (d + 1) 0 0 mX11_object 80 [(4, .inl x10), (3, .inr (.inr (some 9))), (0, .inr (.inr (some 0))), (1, .inl a1), (2, .inl a2)] [.inl x19, .inr (.inr (some 9))] SH h18 (QI Q)
            refine rn_cV (M' := mX2_floorGets) (n := 1) (av := [.inl x19]) (S := []) (rc := 0) (rs := 0) (mc := 0) (ms := 0) (a := 9) (ci := 2) (r := (RX2, TX2, 8)) dX11_object_80 pa_X2_floorGets (Nat.le_refl _) rfl (Nat.le_of_ble_eq_true rfl) ml_X11_178 im_X2_floorGets se_X2_floorGets rfl rfl rfl (Ev.mono V ?_)
            rintro v sh1 h20 ⟨rfl, Rh20, rfl, V⟩
            show Rn G (d + 1) 0 0 mX11_object 83 [(4, .inl x10), (3, .inr (.inr (some 9))), (0, .inr (.inr (some 0))), (1, .inl a1), (2, .inl a2)] [] SH h20 (QI Q)
            refine rn_aload_n dX11_object_83 rfl rfl ?_
            refine rn_aload_n dX11_object_84 rfl rfl ?_
            refine rn_iload dX11_object_85 rfl ?_
            refine rn_iconst (v := 2) dX11_object_87 (by decide) ?_
            refine rn_iload_n dX11_object_88 rfl rfl ?_
            refine rn_imul dX11_object_89 ?_
            refine rn_cV (M' := mX2_lose) (n := 2) (av := [.inl x10, .inl (2 * a2)]) (S := [.inr (.inr (some 9))]) (rc := 0) (rs := 0) (mc := 0) (ms := 0) (a := 9) (ci := 2) (r := (RX2, TX2, 8)) dX11_object_90 pa_X2_lose (Nat.le_refl _) rfl (Nat.le_of_ble_eq_true rfl) ml_X11_175 im_X2_lose se_X2_lose rfl rfl rfl (Ev.mono V ?_)
            rintro v sh1 h21 ⟨rfl, Rh21, x22, rfl, V⟩
            show Rn G (d + 1) 0 0 mX11_object 93 [(4, .inl x10), (3, .inr (.inr (some 9))), (0, .inr (.inr (some 0))), (1, .inl a1), (2, .inl a2)] [.inl x22, .inr (.inr (some 9))] SH h21 (QI Q)
            refine rn_cV (M' := mX2_floorGets) (n := 1) (av := [.inl x22]) (S := []) (rc := 0) (rs := 0) (mc := 0) (ms := 0) (a := 9) (ci := 2) (r := (RX2, TX2, 8)) dX11_object_93 pa_X2_floorGets (Nat.le_refl _) rfl (Nat.le_of_ble_eq_true rfl) ml_X11_178 im_X2_floorGets se_X2_floorGets rfl rfl rfl (Ev.mono V ?_)
            rintro v sh1 h23 ⟨rfl, Rh23, rfl, V⟩
            show Rn G (d + 1) 0 0 mX11_object 96 [(4, .inl x10), (3, .inr (.inr (some 9))), (0, .inr (.inr (some 0))), (1, .inl a1), (2, .inl a2)] [] SH h23 (QI Q)
            refine rn_aload_n dX11_object_96 rfl rfl ?_
            refine rn_get (v := .inr (.inr (some 10))) dX11_object_97 fl_X11_114 rfl rfl (congrArg (fun z => (Sum.inr (Sum.inr z) : MV)) (rf_9_0 Rh23)) ?_
            refine rn_iload dX11_object_100 rfl ?_
            obtain ⟨g0, V⟩ := V
            refine rn_iald (k := (Int32.toNatClampNeg x10)) dX11_object_102 rfl rfl g0 ?_
            exact rn_iret dX11_object_103 rfl ⟨rfl, Rh23, _, rfl, V⟩
          · replace V := V.2 c17
            refine rn_aload_n dX11_object_67 rfl rfl ?_
            refine rn_iconst (v := 3) dX11_object_68 (by decide) ?_
            refine rn_cV (M' := mX11_refuse) (n := 1) (av := [.inl 3]) (S := []) (rc := 0) (rs := 0) (mc := 0) (ms := 0) (a := 0) (ci := 10) (r := (RX11, TX11, 12)) dX11_object_69 pa_X11_refuse (Nat.le_refl _) rfl (Nat.le_of_ble_eq_true rfl) ml_X11_87 im_X11_refuse se_X11_refuse rfl rfl rfl (Ev.mono V ?_)
            rintro v sh1 h24 ⟨rfl, Rh24, x25, rfl, V⟩
            show Rn G (d + 1) 0 0 mX11_object 72 [(4, .inl x10), (3, .inr (.inr (some 9))), (0, .inr (.inr (some 0))), (1, .inl a1), (2, .inl a2)] [.inl x25] SH h24 (QI Q)
            exact rn_iret dX11_object_72 rfl ⟨rfl, Rh24, _, rfl, V⟩
    · replace V := V.2 c8
      refine rn_aload_n dX11_object_21 rfl rfl ?_
      refine rn_iconst (v := 1) dX11_object_22 (by decide) ?_
      refine rn_cV (M' := mX11_refuse) (n := 1) (av := [.inl 1]) (S := []) (rc := 0) (rs := 0) (mc := 0) (ms := 0) (a := 0) (ci := 10) (r := (RX11, TX11, 12)) dX11_object_23 pa_X11_refuse (Nat.le_refl _) rfl (Nat.le_of_ble_eq_true rfl) ml_X11_87 im_X11_refuse se_X11_refuse rfl rfl rfl (Ev.mono V ?_)
      rintro v sh1 h26 ⟨rfl, Rh26, x27, rfl, V⟩
      show Rn G (d + 1) 0 0 mX11_object 26 [(0, .inr (.inr (some 0))), (1, .inl a1), (2, .inl a2)] [.inl x27] SH h26 (QI Q)
      exact rn_iret dX11_object_26 rfl ⟨rfl, Rh26, _, rfl, V⟩
set_option maxRecDepth 100000 in
set_option maxHeartbeats 4000000 in
theorem vc_X11_thumb {G : GT} {d : Nat} {a1 : Int32}  {h : Hp} {Q : Int32 → Hp → Prop} (hR : RF h) (V : EvI G d mX11_within [.inl a1, .inl 0, .inl 1] h (fun x2 h1 => ((¬ x2 = 0 → Q (h1.1 9 5) (sI h1 9 5 a1)) ∧ (x2 = 0 → EvI G d mX11_refuse [.inr (.inr (some 0)), .inl 1] h1 (fun x5 h4 => Q x5 h4))))) : EvI G (d + 1) mX11_thumb [.inr (.inr (some 0)), .inl a1] h Q := by
  refine Ev.of rfl (fun _ => Nat.le_of_ble_eq_true rfl) ?_
  show Rn G (d + 1) 0 0 mX11_thumb 0 [(0, .inr (.inr (some 0))), (1, .inl a1)] [] SH h (QI Q)
  refine rn_iload_n dX11_thumb_0 rfl rfl ?_
  refine rn_iconst (v := 0) dX11_thumb_1 (by decide) ?_
  refine rn_iconst (v := 1) dX11_thumb_2 (by decide) ?_
  refine rn_cS (M' := mX11_within) (n := 3) (av := [.inl a1, .inl 0, .inl 1]) (S := []) (rc := 0) (rs := 0) (mc := 0) (ms := 0) dX11_thumb_3 pa_X11_within (Nat.le_refl _) rfl (Nat.le_of_ble_eq_true rfl) ml_X11_83 ss_X11_within rfl (Ev.mono V ?_)
  rintro v sh1 h1 ⟨rfl, Rh1, x2, rfl, V⟩
  show Rn G (d + 1) 0 0 mX11_thumb 6 [(0, .inr (.inr (some 0))), (1, .inl a1)] [.inl x2] SH h1 (QI Q)
  refine rn_if_ne (tgt := 15) dX11_thumb_6 (by decide) (fun c3 => ?_) (fun c3 => ?_)
  · replace V := V.1 c3
    refine rn_aload_n dX11_thumb_15 rfl rfl ?_
    refine rn_get (v := .inr (.inr (some 1))) dX11_thumb_16 fl_X11_10 rfl rfl (congrArg (fun z => (Sum.inr (Sum.inr z) : MV)) (rf_0_0 Rh1)) ?_
    refine rn_get (v := .inr (.inr (some 9))) dX11_thumb_19 fl_X11_111 rfl rfl (congrArg (fun z => (Sum.inr (Sum.inr z) : MV)) (rf_1_9 Rh1)) ?_
    refine rn_get (v := .inl (h1.1 9 5)) dX11_thumb_22 fl_X11_182 rfl rfl rfl ?_
    refine rn_istore_n (L' := [(2, .inl (h1.1 9 5)), (0, .inr (.inr (some 0))), (1, .inl a1)]) dX11_thumb_25 rfl (Nat.le_of_ble_eq_true rfl) rfl ?_
    refine rn_aload_n dX11_thumb_26 rfl rfl ?_
    refine rn_get (v := .inr (.inr (some 1))) dX11_thumb_27 fl_X11_10 rfl rfl (congrArg (fun z => (Sum.inr (Sum.inr z) : MV)) (rf_0_0 Rh1)) ?_
    refine rn_get (v := .inr (.inr (some 9))) dX11_thumb_30 fl_X11_111 rfl rfl (congrArg (fun z => (Sum.inr (Sum.inr z) : MV)) (rf_1_9 Rh1)) ?_
    refine rn_iload_n dX11_thumb_33 rfl rfl ?_
    refine rn_putI dX11_thumb_34 fl_X11_182 rfl rfl (Or.inl rfl) rfl rfl ?_
    refine rn_iload_n dX11_thumb_37 rfl rfl ?_
    exact rn_iret dX11_thumb_38 rfl ⟨rfl, Rh1, _, rfl, V⟩
  · replace V := V.2 c3
    refine rn_aload_n dX11_thumb_9 rfl rfl ?_
    refine rn_iconst (v := 1) dX11_thumb_10 (by decide) ?_
    refine rn_cV (M' := mX11_refuse) (n := 1) (av := [.inl 1]) (S := []) (rc := 0) (rs := 0) (mc := 0) (ms := 0) (a := 0) (ci := 10) (r := (RX11, TX11, 12)) dX11_thumb_11 pa_X11_refuse (Nat.le_refl _) rfl (Nat.le_of_ble_eq_true rfl) ml_X11_87 im_X11_refuse se_X11_refuse rfl rfl rfl (Ev.mono V ?_)
    rintro v sh1 h4 ⟨rfl, Rh4, x5, rfl, V⟩
    show Rn G (d + 1) 0 0 mX11_thumb 14 [(0, .inr (.inr (some 0))), (1, .inl a1)] [.inl x5] SH h4 (QI Q)
    exact rn_iret dX11_thumb_14 rfl ⟨rfl, Rh4, _, rfl, V⟩
set_option maxRecDepth 100000 in
set_option maxHeartbeats 4000000 in
theorem vc_X11_say {G : GT} {d : Nat} {a1 : Int32}  {h : Hp} {Q : Int32 → Hp → Prop} (hR : RF h) (V : EvI G d mX9_hasWord [.inr (.inr (some 1)), .inl a1] h (fun x2 h1 => ((¬ x2 = 0 → EvI G d mX9_maySay [.inr (.inr (some 1)), .inr (.inr (some 9)), .inl a1] h1 (fun x5 h4 => ((¬ x5 = 0 → EvV G d mX9_begin [.inr (.inr (some 1)), .inr (.inr (some 9)), .inl a1] h4 (fun h7 => vp_in a1 12 ∧ Q (h7.1 6 (Int32.toNatClampNeg a1)) h7)) ∧ (x5 = 0 → EvI G d mX11_refuse [.inr (.inr (some 0)), .inl 3] h4 (fun x9 h8 => Q x9 h8))))) ∧ (x2 = 0 → EvI G d mX11_refuse [.inr (.inr (some 0)), .inl 1] h1 (fun x11 h10 => Q x11 h10))))) : EvI G (d + 1) mX11_say [.inr (.inr (some 0)), .inl a1] h Q := by
  refine Ev.of rfl (fun _ => Nat.le_of_ble_eq_true rfl) ?_
  show Rn G (d + 1) 0 0 mX11_say 0 [(0, .inr (.inr (some 0))), (1, .inl a1)] [] SH h (QI Q)
  refine rn_aload_n dX11_say_0 rfl rfl ?_
  refine rn_get (v := .inr (.inr (some 1))) dX11_say_1 fl_X11_10 rfl rfl (congrArg (fun z => (Sum.inr (Sum.inr z) : MV)) (rf_0_0 hR)) ?_
  refine rn_iload_n dX11_say_4 rfl rfl ?_
  refine rn_cV (M' := mX9_hasWord) (n := 1) (av := [.inl a1]) (S := []) (rc := 0) (rs := 0) (mc := 0) (ms := 0) (a := 1) (ci := 8) (r := (RX9, TX9, 17)) dX11_say_5 pa_X9_hasWord (Nat.le_refl _) rfl (Nat.le_of_ble_eq_true rfl) ml_X11_142 im_X9_hasWord se_X9_hasWord rfl rfl rfl (Ev.mono V ?_)
  rintro v sh1 h1 ⟨rfl, Rh1, x2, rfl, V⟩
  show Rn G (d + 1) 0 0 mX11_say 8 [(0, .inr (.inr (some 0))), (1, .inl a1)] [.inl x2] SH h1 (QI Q)
  refine rn_if_ne (tgt := 17) dX11_say_8 (by decide) (fun c3 => ?_) (fun c3 => ?_)
  · replace V := V.1 c3
    refine rn_aload_n dX11_say_17 rfl rfl ?_
    refine rn_get (v := .inr (.inr (some 1))) dX11_say_18 fl_X11_10 rfl rfl (congrArg (fun z => (Sum.inr (Sum.inr z) : MV)) (rf_0_0 Rh1)) ?_
    refine rn_aload_n dX11_say_21 rfl rfl ?_
    refine rn_get (v := .inr (.inr (some 1))) dX11_say_22 fl_X11_10 rfl rfl (congrArg (fun z => (Sum.inr (Sum.inr z) : MV)) (rf_0_0 Rh1)) ?_
    refine rn_get (v := .inr (.inr (some 9))) dX11_say_25 fl_X11_111 rfl rfl (congrArg (fun z => (Sum.inr (Sum.inr z) : MV)) (rf_1_9 Rh1)) ?_
    refine rn_iload_n dX11_say_28 rfl rfl ?_
    refine rn_cV (M' := mX9_maySay) (n := 2) (av := [.inr (.inr (some 9)), .inl a1]) (S := []) (rc := 0) (rs := 0) (mc := 0) (ms := 0) (a := 1) (ci := 8) (r := (RX9, TX9, 17)) dX11_say_29 pa_X9_maySay (Nat.le_refl _) rfl (Nat.le_of_ble_eq_true rfl) ml_X11_185 im_X9_maySay se_X9_maySay rfl rfl rfl (Ev.mono V ?_)
    rintro v sh1 h4 ⟨rfl, Rh4, x5, rfl, V⟩
    show Rn G (d + 1) 0 0 mX11_say 32 [(0, .inr (.inr (some 0))), (1, .inl a1)] [.inl x5] SH h4 (QI Q)
    refine rn_if_ne (tgt := 41) dX11_say_32 (by decide) (fun c6 => ?_) (fun c6 => ?_)
    · replace V := V.1 c6
      refine rn_aload_n dX11_say_41 rfl rfl ?_
      refine rn_get (v := .inr (.inr (some 1))) dX11_say_42 fl_X11_10 rfl rfl (congrArg (fun z => (Sum.inr (Sum.inr z) : MV)) (rf_0_0 Rh4)) ?_
      refine rn_aload_n dX11_say_45 rfl rfl ?_
      refine rn_get (v := .inr (.inr (some 1))) dX11_say_46 fl_X11_10 rfl rfl (congrArg (fun z => (Sum.inr (Sum.inr z) : MV)) (rf_0_0 Rh4)) ?_
      refine rn_get (v := .inr (.inr (some 9))) dX11_say_49 fl_X11_111 rfl rfl (congrArg (fun z => (Sum.inr (Sum.inr z) : MV)) (rf_1_9 Rh4)) ?_
      refine rn_iload_n dX11_say_52 rfl rfl ?_
      refine rn_cV (M' := mX9_begin) (n := 2) (av := [.inr (.inr (some 9)), .inl a1]) (S := []) (rc := 0) (rs := 0) (mc := 0) (ms := 0) (a := 1) (ci := 8) (r := (RX9, TX9, 17)) dX11_say_53 pa_X9_begin (Nat.le_refl _) rfl (Nat.le_of_ble_eq_true rfl) ml_X11_189 im_X9_begin se_X9_begin rfl rfl rfl (Ev.mono V ?_)
      rintro v sh1 h7 ⟨rfl, Rh7, rfl, V⟩
      show Rn G (d + 1) 0 0 mX11_say 56 [(0, .inr (.inr (some 0))), (1, .inl a1)] [] SH h7 (QI Q)
      refine rn_aload_n dX11_say_56 rfl rfl ?_
      refine rn_get (v := .inr (.inr (some 1))) dX11_say_57 fl_X11_10 rfl rfl (congrArg (fun z => (Sum.inr (Sum.inr z) : MV)) (rf_0_0 Rh7)) ?_
      refine rn_get (v := .inr (.inr (some 6))) dX11_say_60 fl_X11_148 rfl rfl (congrArg (fun z => (Sum.inr (Sum.inr z) : MV)) (rf_1_6 Rh7)) ?_
      refine rn_iload_n dX11_say_63 rfl rfl ?_
      obtain ⟨g0, V⟩ := V
      refine rn_iald (k := (Int32.toNatClampNeg a1)) dX11_say_64 rfl rfl g0 ?_
      exact rn_iret dX11_say_65 rfl ⟨rfl, Rh7, _, rfl, V⟩
    · replace V := V.2 c6
      refine rn_aload_n dX11_say_35 rfl rfl ?_
      refine rn_iconst (v := 3) dX11_say_36 (by decide) ?_
      refine rn_cV (M' := mX11_refuse) (n := 1) (av := [.inl 3]) (S := []) (rc := 0) (rs := 0) (mc := 0) (ms := 0) (a := 0) (ci := 10) (r := (RX11, TX11, 12)) dX11_say_37 pa_X11_refuse (Nat.le_refl _) rfl (Nat.le_of_ble_eq_true rfl) ml_X11_87 im_X11_refuse se_X11_refuse rfl rfl rfl (Ev.mono V ?_)
      rintro v sh1 h8 ⟨rfl, Rh8, x9, rfl, V⟩
      show Rn G (d + 1) 0 0 mX11_say 40 [(0, .inr (.inr (some 0))), (1, .inl a1)] [.inl x9] SH h8 (QI Q)
      exact rn_iret dX11_say_40 rfl ⟨rfl, Rh8, _, rfl, V⟩
  · replace V := V.2 c3
    refine rn_aload_n dX11_say_11 rfl rfl ?_
    refine rn_iconst (v := 1) dX11_say_12 (by decide) ?_
    refine rn_cV (M' := mX11_refuse) (n := 1) (av := [.inl 1]) (S := []) (rc := 0) (rs := 0) (mc := 0) (ms := 0) (a := 0) (ci := 10) (r := (RX11, TX11, 12)) dX11_say_13 pa_X11_refuse (Nat.le_refl _) rfl (Nat.le_of_ble_eq_true rfl) ml_X11_87 im_X11_refuse se_X11_refuse rfl rfl rfl (Ev.mono V ?_)
    rintro v sh1 h10 ⟨rfl, Rh10, x11, rfl, V⟩
    show Rn G (d + 1) 0 0 mX11_say 16 [(0, .inr (.inr (some 0))), (1, .inl a1)] [.inl x11] SH h10 (QI Q)
    exact rn_iret dX11_say_16 rfl ⟨rfl, Rh10, _, rfl, V⟩
set_option maxRecDepth 100000 in
set_option maxHeartbeats 4000000 in
theorem vc_X11_stop {G : GT} {d : Nat}   {h : Hp} {Q : Int32 → Hp → Prop} (hR : RF h) (V : EvI G d mX9_hasWord [.inr (.inr (some 1)), .inl (h.1 9 6)] h (fun x2 h1 => ((¬ x2 = 0 → EvV G d mX2_end [.inr (.inr (some 9)), .inl (h.1 9 6), .inl 2] h1 (fun h4 => Q (h.1 9 6) h4)) ∧ (x2 = 0 → EvI G d mX11_refuse [.inr (.inr (some 0)), .inl 2] h1 (fun x6 h5 => Q x6 h5))))) : EvI G (d + 1) mX11_stop [.inr (.inr (some 0))] h Q := by
  refine Ev.of rfl (fun _ => Nat.le_of_ble_eq_true rfl) ?_
  show Rn G (d + 1) 0 0 mX11_stop 0 [(0, .inr (.inr (some 0)))] [] SH h (QI Q)
  refine rn_aload_n dX11_stop_0 rfl rfl ?_
  refine rn_get (v := .inr (.inr (some 1))) dX11_stop_1 fl_X11_10 rfl rfl (congrArg (fun z => (Sum.inr (Sum.inr z) : MV)) (rf_0_0 hR)) ?_
  refine rn_get (v := .inr (.inr (some 9))) dX11_stop_4 fl_X11_111 rfl rfl (congrArg (fun z => (Sum.inr (Sum.inr z) : MV)) (rf_1_9 hR)) ?_
  refine rn_get (v := .inl (h.1 9 6)) dX11_stop_7 fl_X11_160 rfl rfl rfl ?_
  refine rn_istore_n (L' := [(1, .inl (h.1 9 6)), (0, .inr (.inr (some 0)))]) dX11_stop_10 rfl (Nat.le_of_ble_eq_true rfl) rfl ?_
  refine rn_aload_n dX11_stop_11 rfl rfl ?_
  refine rn_get (v := .inr (.inr (some 1))) dX11_stop_12 fl_X11_10 rfl rfl (congrArg (fun z => (Sum.inr (Sum.inr z) : MV)) (rf_0_0 hR)) ?_
  refine rn_iload_n dX11_stop_15 rfl rfl ?_
  refine rn_cV (M' := mX9_hasWord) (n := 1) (av := [.inl (h.1 9 6)]) (S := []) (rc := 0) (rs := 0) (mc := 0) (ms := 0) (a := 1) (ci := 8) (r := (RX9, TX9, 17)) dX11_stop_16 pa_X9_hasWord (Nat.le_refl _) rfl (Nat.le_of_ble_eq_true rfl) ml_X11_142 im_X9_hasWord se_X9_hasWord rfl rfl rfl (Ev.mono V ?_)
  rintro v sh1 h1 ⟨rfl, Rh1, x2, rfl, V⟩
  show Rn G (d + 1) 0 0 mX11_stop 19 [(1, .inl (h.1 9 6)), (0, .inr (.inr (some 0)))] [.inl x2] SH h1 (QI Q)
  refine rn_if_ne (tgt := 28) dX11_stop_19 (by decide) (fun c3 => ?_) (fun c3 => ?_)
  · replace V := V.1 c3
    refine rn_aload_n dX11_stop_28 rfl rfl ?_
    refine rn_get (v := .inr (.inr (some 1))) dX11_stop_29 fl_X11_10 rfl rfl (congrArg (fun z => (Sum.inr (Sum.inr z) : MV)) (rf_0_0 Rh1)) ?_
    refine rn_get (v := .inr (.inr (some 9))) dX11_stop_32 fl_X11_111 rfl rfl (congrArg (fun z => (Sum.inr (Sum.inr z) : MV)) (rf_1_9 Rh1)) ?_
    refine rn_iload_n dX11_stop_35 rfl rfl ?_
    refine rn_iconst (v := 2) dX11_stop_36 (by decide) ?_
    refine rn_cV (M' := mX2_end) (n := 2) (av := [.inl (h.1 9 6), .inl 2]) (S := []) (rc := 0) (rs := 0) (mc := 0) (ms := 0) (a := 9) (ci := 2) (r := (RX2, TX2, 8)) dX11_stop_37 pa_X2_end (Nat.le_refl _) rfl (Nat.le_of_ble_eq_true rfl) ml_X11_193 im_X2_end se_X2_end rfl rfl rfl (Ev.mono V ?_)
    rintro v sh1 h4 ⟨rfl, Rh4, rfl, V⟩
    show Rn G (d + 1) 0 0 mX11_stop 40 [(1, .inl (h.1 9 6)), (0, .inr (.inr (some 0)))] [] SH h4 (QI Q)
    refine rn_iload_n dX11_stop_40 rfl rfl ?_
    exact rn_iret dX11_stop_41 rfl ⟨rfl, Rh4, _, rfl, V⟩
  · replace V := V.2 c3
    refine rn_aload_n dX11_stop_22 rfl rfl ?_
    refine rn_iconst (v := 2) dX11_stop_23 (by decide) ?_
    refine rn_cV (M' := mX11_refuse) (n := 1) (av := [.inl 2]) (S := []) (rc := 0) (rs := 0) (mc := 0) (ms := 0) (a := 0) (ci := 10) (r := (RX11, TX11, 12)) dX11_stop_24 pa_X11_refuse (Nat.le_refl _) rfl (Nat.le_of_ble_eq_true rfl) ml_X11_87 im_X11_refuse se_X11_refuse rfl rfl rfl (Ev.mono V ?_)
    rintro v sh1 h5 ⟨rfl, Rh5, x6, rfl, V⟩
    show Rn G (d + 1) 0 0 mX11_stop 27 [(1, .inl (h.1 9 6)), (0, .inr (.inr (some 0)))] [.inl x6] SH h5 (QI Q)
    exact rn_iret dX11_stop_27 rfl ⟨rfl, Rh5, _, rfl, V⟩
set_option maxRecDepth 100000 in
set_option maxHeartbeats 4000000 in
theorem vc_X11_seconds {G : GT} {d : Nat} {a1 : Int32}  {h : Hp} {Q : Int32 → Hp → Prop} (hR : RF h) (V : EvI G d mX11_within [.inl a1, .inl 1, .inl 300] h (fun x2 h1 => ((¬ x2 = 0 → (((h1.1 9 3 + a1) ≤ 99999 → EvV G d mX9_pass [.inr (.inr (some 1)), .inr (.inr (some 9)), .inl a1] h1 (fun h5 => Q (h5.1 9 4) h5)) ∧ (¬ (h1.1 9 3 + a1) ≤ 99999 → EvI G d mX11_refuse [.inr (.inr (some 0)), .inl 3] h1 (fun x7 h6 => Q x7 h6)))) ∧ (x2 = 0 → EvI G d mX11_refuse [.inr (.inr (some 0)), .inl 1] h1 (fun x9 h8 => Q x9 h8))))) : EvI G (d + 1) mX11_seconds [.inr (.inr (some 0)), .inl a1] h Q := by
  refine Ev.of rfl (fun _ => Nat.le_of_ble_eq_true rfl) ?_
  show Rn G (d + 1) 0 0 mX11_seconds 0 [(0, .inr (.inr (some 0))), (1, .inl a1)] [] SH h (QI Q)
  refine rn_iload_n dX11_seconds_0 rfl rfl ?_
  refine rn_iconst (v := 1) dX11_seconds_1 (by decide) ?_
  refine rn_sipush (v := 300) dX11_seconds_2 (by decide) ?_
  refine rn_cS (M' := mX11_within) (n := 3) (av := [.inl a1, .inl 1, .inl 300]) (S := []) (rc := 0) (rs := 0) (mc := 0) (ms := 0) dX11_seconds_5 pa_X11_within (Nat.le_refl _) rfl (Nat.le_of_ble_eq_true rfl) ml_X11_83 ss_X11_within rfl (Ev.mono V ?_)
  rintro v sh1 h1 ⟨rfl, Rh1, x2, rfl, V⟩
  show Rn G (d + 1) 0 0 mX11_seconds 8 [(0, .inr (.inr (some 0))), (1, .inl a1)] [.inl x2] SH h1 (QI Q)
  refine rn_if_ne (tgt := 17) dX11_seconds_8 (by decide) (fun c3 => ?_) (fun c3 => ?_)
  · replace V := V.1 c3
    refine rn_aload_n dX11_seconds_17 rfl rfl ?_
    refine rn_get (v := .inr (.inr (some 1))) dX11_seconds_18 fl_X11_10 rfl rfl (congrArg (fun z => (Sum.inr (Sum.inr z) : MV)) (rf_0_0 Rh1)) ?_
    refine rn_get (v := .inr (.inr (some 9))) dX11_seconds_21 fl_X11_111 rfl rfl (congrArg (fun z => (Sum.inr (Sum.inr z) : MV)) (rf_1_9 Rh1)) ?_
    refine rn_get (v := .inl (h1.1 9 3)) dX11_seconds_24 fl_X11_197 rfl rfl rfl ?_
    refine rn_iload_n dX11_seconds_27 rfl rfl ?_
    refine rn_iadd dX11_seconds_28 ?_
    refine rn_ldc (v := 99999) dX11_seconds_29 cw_X11_200 ?_
    refine rn_icmp_le (tgt := 40) dX11_seconds_31 (by decide) (fun c4 => ?_) (fun c4 => ?_)
    · replace V := V.1 c4
      refine rn_aload_n dX11_seconds_40 rfl rfl ?_
      refine rn_get (v := .inr (.inr (some 1))) dX11_seconds_41 fl_X11_10 rfl rfl (congrArg (fun z => (Sum.inr (Sum.inr z) : MV)) (rf_0_0 Rh1)) ?_
      refine rn_aload_n dX11_seconds_44 rfl rfl ?_
      refine rn_get (v := .inr (.inr (some 1))) dX11_seconds_45 fl_X11_10 rfl rfl (congrArg (fun z => (Sum.inr (Sum.inr z) : MV)) (rf_0_0 Rh1)) ?_
      refine rn_get (v := .inr (.inr (some 9))) dX11_seconds_48 fl_X11_111 rfl rfl (congrArg (fun z => (Sum.inr (Sum.inr z) : MV)) (rf_1_9 Rh1)) ?_
      refine rn_iload_n dX11_seconds_51 rfl rfl ?_
      refine rn_cV (M' := mX9_pass) (n := 2) (av := [.inr (.inr (some 9)), .inl a1]) (S := []) (rc := 0) (rs := 0) (mc := 0) (ms := 0) (a := 1) (ci := 8) (r := (RX9, TX9, 17)) dX11_seconds_52 pa_X9_pass (Nat.le_refl _) rfl (Nat.le_of_ble_eq_true rfl) ml_X11_201 im_X9_pass se_X9_pass rfl rfl rfl (Ev.mono V ?_)
      rintro v sh1 h5 ⟨rfl, Rh5, rfl, V⟩
      show Rn G (d + 1) 0 0 mX11_seconds 55 [(0, .inr (.inr (some 0))), (1, .inl a1)] [] SH h5 (QI Q)
      refine rn_aload_n dX11_seconds_55 rfl rfl ?_
      refine rn_get (v := .inr (.inr (some 1))) dX11_seconds_56 fl_X11_10 rfl rfl (congrArg (fun z => (Sum.inr (Sum.inr z) : MV)) (rf_0_0 Rh5)) ?_
      refine rn_get (v := .inr (.inr (some 9))) dX11_seconds_59 fl_X11_111 rfl rfl (congrArg (fun z => (Sum.inr (Sum.inr z) : MV)) (rf_1_9 Rh5)) ?_
      refine rn_get (v := .inl (h5.1 9 4)) dX11_seconds_62 fl_X11_204 rfl rfl rfl ?_
      exact rn_iret dX11_seconds_65 rfl ⟨rfl, Rh5, _, rfl, V⟩
    · replace V := V.2 c4
      refine rn_aload_n dX11_seconds_34 rfl rfl ?_
      refine rn_iconst (v := 3) dX11_seconds_35 (by decide) ?_
      refine rn_cV (M' := mX11_refuse) (n := 1) (av := [.inl 3]) (S := []) (rc := 0) (rs := 0) (mc := 0) (ms := 0) (a := 0) (ci := 10) (r := (RX11, TX11, 12)) dX11_seconds_36 pa_X11_refuse (Nat.le_refl _) rfl (Nat.le_of_ble_eq_true rfl) ml_X11_87 im_X11_refuse se_X11_refuse rfl rfl rfl (Ev.mono V ?_)
      rintro v sh1 h6 ⟨rfl, Rh6, x7, rfl, V⟩
      show Rn G (d + 1) 0 0 mX11_seconds 39 [(0, .inr (.inr (some 0))), (1, .inl a1)] [.inl x7] SH h6 (QI Q)
      exact rn_iret dX11_seconds_39 rfl ⟨rfl, Rh6, _, rfl, V⟩
  · replace V := V.2 c3
    refine rn_aload_n dX11_seconds_11 rfl rfl ?_
    refine rn_iconst (v := 1) dX11_seconds_12 (by decide) ?_
    refine rn_cV (M' := mX11_refuse) (n := 1) (av := [.inl 1]) (S := []) (rc := 0) (rs := 0) (mc := 0) (ms := 0) (a := 0) (ci := 10) (r := (RX11, TX11, 12)) dX11_seconds_13 pa_X11_refuse (Nat.le_refl _) rfl (Nat.le_of_ble_eq_true rfl) ml_X11_87 im_X11_refuse se_X11_refuse rfl rfl rfl (Ev.mono V ?_)
    rintro v sh1 h8 ⟨rfl, Rh8, x9, rfl, V⟩
    show Rn G (d + 1) 0 0 mX11_seconds 16 [(0, .inr (.inr (some 0))), (1, .inl a1)] [.inl x9] SH h8 (QI Q)
    exact rn_iret dX11_seconds_16 rfl ⟨rfl, Rh8, _, rfl, V⟩
def Rg_X11_loose_42 (G : GT) (d : Nat) (l1 : Int32) (l2 : Int32) (h : Hp) (Q : Int32 → Hp → Prop) : Prop := Rn G (d + 1) 0 0 mX11_loose 42 [(0, .inr (.inr (some 0))), (1, .inl l1), (2, .inl l2)] [] SH h (QI Q)
set_option maxRecDepth 100000 in
set_option maxHeartbeats 4000000 in
theorem vc_X11_loose_42 {G : GT} {d : Nat} {l1 : Int32} {l2 : Int32}  {h : Hp} {Q : Int32 → Hp → Prop} (hR : RF h) (V : ((l1 ≤ l2 → Q (h.1 9 4) h) ∧ (¬ l1 ≤ l2 → EvV G d mX9_loseByDraws [.inr (.inr (some 1))] h (fun h10 => EvV G d mX9_pass [.inr (.inr (some 1)), .inr (.inr (some 9)), .inl 1] h10 (fun h11 => Rg_X11_loose_42 G d l1 (l2 + 1) h11 Q))))) : Rg_X11_loose_42 G d l1 l2 h Q := by
  show Rn G (d + 1) 0 0 mX11_loose 42 [(0, .inr (.inr (some 0))), (1, .inl l1), (2, .inl l2)] [] SH h (QI Q)
  refine rn_iload_n dX11_loose_42 rfl rfl ?_
  refine rn_iload_n dX11_loose_43 rfl rfl ?_
  refine rn_icmp_ge (tgt := 75) dX11_loose_44 (by decide) (fun c9 => ?_) (fun c9 => ?_)
  · replace V := V.1 c9
    refine rn_aload_n dX11_loose_75 rfl rfl ?_
    refine rn_get (v := .inr (.inr (some 1))) dX11_loose_76 fl_X11_10 rfl rfl (congrArg (fun z => (Sum.inr (Sum.inr z) : MV)) (rf_0_0 hR)) ?_
    refine rn_get (v := .inr (.inr (some 9))) dX11_loose_79 fl_X11_111 rfl rfl (congrArg (fun z => (Sum.inr (Sum.inr z) : MV)) (rf_1_9 hR)) ?_
    refine rn_get (v := .inl (h.1 9 4)) dX11_loose_82 fl_X11_204 rfl rfl rfl ?_
    exact rn_iret dX11_loose_85 rfl ⟨rfl, hR, _, rfl, V⟩
  · replace V := V.2 c9
    refine rn_aload_n dX11_loose_47 rfl rfl ?_
    refine rn_get (v := .inr (.inr (some 1))) dX11_loose_48 fl_X11_10 rfl rfl (congrArg (fun z => (Sum.inr (Sum.inr z) : MV)) (rf_0_0 hR)) ?_
    refine rn_cV (M' := mX9_loseByDraws) (n := 0) (av := []) (S := []) (rc := 0) (rs := 0) (mc := 0) (ms := 0) (a := 1) (ci := 8) (r := (RX9, TX9, 17)) dX11_loose_51 pa_X9_loseByDraws (Nat.le_refl _) rfl (Nat.le_of_ble_eq_true rfl) ml_X11_207 im_X9_loseByDraws se_X9_loseByDraws rfl rfl rfl (Ev.mono V ?_)
    rintro v sh1 h10 ⟨rfl, Rh10, rfl, V⟩
    show Rn G (d + 1) 0 0 mX11_loose 54 [(0, .inr (.inr (some 0))), (1, .inl l1), (2, .inl l2)] [] SH h10 (QI Q)
    refine rn_aload_n dX11_loose_54 rfl rfl ?_
    refine rn_get (v := .inr (.inr (some 1))) dX11_loose_55 fl_X11_10 rfl rfl (congrArg (fun z => (Sum.inr (Sum.inr z) : MV)) (rf_0_0 Rh10)) ?_
    refine rn_aload_n dX11_loose_58 rfl rfl ?_
    refine rn_get (v := .inr (.inr (some 1))) dX11_loose_59 fl_X11_10 rfl rfl (congrArg (fun z => (Sum.inr (Sum.inr z) : MV)) (rf_0_0 Rh10)) ?_
    refine rn_get (v := .inr (.inr (some 9))) dX11_loose_62 fl_X11_111 rfl rfl (congrArg (fun z => (Sum.inr (Sum.inr z) : MV)) (rf_1_9 Rh10)) ?_
    refine rn_iconst (v := 1) dX11_loose_65 (by decide) ?_
    refine rn_cV (M' := mX9_pass) (n := 2) (av := [.inr (.inr (some 9)), .inl 1]) (S := []) (rc := 0) (rs := 0) (mc := 0) (ms := 0) (a := 1) (ci := 8) (r := (RX9, TX9, 17)) dX11_loose_66 pa_X9_pass (Nat.le_refl _) rfl (Nat.le_of_ble_eq_true rfl) ml_X11_201 im_X9_pass se_X9_pass rfl rfl rfl (Ev.mono V ?_)
    rintro v sh1 h11 ⟨rfl, Rh11, rfl, V⟩
    show Rn G (d + 1) 0 0 mX11_loose 69 [(0, .inr (.inr (some 0))), (1, .inl l1), (2, .inl l2)] [] SH h11 (QI Q)
    refine rn_iinc (L' := [(2, .inl (l2 + 1)), (0, .inr (.inr (some 0))), (1, .inl l1)]) dX11_loose_69 rfl (v := (l2 + 1)) rfl (Nat.le_of_ble_eq_true rfl) rfl ?_
    refine rn_goto (tgt := 42) dX11_loose_72 (by decide) ?_
    refine rn_sub [1, 2, 0] (L' := [(0, .inr (.inr (some 0))), (1, .inl l1), (2, .inl (l2 + 1))]) rfl ?_
    exact V
set_option maxRecDepth 100000 in
set_option maxHeartbeats 4000000 in
theorem vc_X11_loose {G : GT} {d : Nat} {a1 : Int32}  {h : Hp} {Q : Int32 → Hp → Prop} (hR : RF h) (V : EvI G d mX11_within [.inl a1, .inl 1, .inl 300] h (fun x2 h1 => ((¬ x2 = 0 → (((h1.1 9 3 + a1) ≤ 99999 → Rg_X11_loose_42 G d a1 0 h1 Q) ∧ (¬ (h1.1 9 3 + a1) ≤ 99999 → EvI G d mX11_refuse [.inr (.inr (some 0)), .inl 3] h1 (fun x6 h5 => Q x6 h5)))) ∧ (x2 = 0 → EvI G d mX11_refuse [.inr (.inr (some 0)), .inl 1] h1 (fun x8 h7 => Q x8 h7))))) : EvI G (d + 1) mX11_loose [.inr (.inr (some 0)), .inl a1] h Q := by
  refine Ev.of rfl (fun _ => Nat.le_of_ble_eq_true rfl) ?_
  show Rn G (d + 1) 0 0 mX11_loose 0 [(0, .inr (.inr (some 0))), (1, .inl a1)] [] SH h (QI Q)
  refine rn_iload_n dX11_loose_0 rfl rfl ?_
  refine rn_iconst (v := 1) dX11_loose_1 (by decide) ?_
  refine rn_sipush (v := 300) dX11_loose_2 (by decide) ?_
  refine rn_cS (M' := mX11_within) (n := 3) (av := [.inl a1, .inl 1, .inl 300]) (S := []) (rc := 0) (rs := 0) (mc := 0) (ms := 0) dX11_loose_5 pa_X11_within (Nat.le_refl _) rfl (Nat.le_of_ble_eq_true rfl) ml_X11_83 ss_X11_within rfl (Ev.mono V ?_)
  rintro v sh1 h1 ⟨rfl, Rh1, x2, rfl, V⟩
  show Rn G (d + 1) 0 0 mX11_loose 8 [(0, .inr (.inr (some 0))), (1, .inl a1)] [.inl x2] SH h1 (QI Q)
  refine rn_if_ne (tgt := 17) dX11_loose_8 (by decide) (fun c3 => ?_) (fun c3 => ?_)
  · replace V := V.1 c3
    refine rn_aload_n dX11_loose_17 rfl rfl ?_
    refine rn_get (v := .inr (.inr (some 1))) dX11_loose_18 fl_X11_10 rfl rfl (congrArg (fun z => (Sum.inr (Sum.inr z) : MV)) (rf_0_0 Rh1)) ?_
    refine rn_get (v := .inr (.inr (some 9))) dX11_loose_21 fl_X11_111 rfl rfl (congrArg (fun z => (Sum.inr (Sum.inr z) : MV)) (rf_1_9 Rh1)) ?_
    refine rn_get (v := .inl (h1.1 9 3)) dX11_loose_24 fl_X11_197 rfl rfl rfl ?_
    refine rn_iload_n dX11_loose_27 rfl rfl ?_
    refine rn_iadd dX11_loose_28 ?_
    refine rn_ldc (v := 99999) dX11_loose_29 cw_X11_200 ?_
    refine rn_icmp_le (tgt := 40) dX11_loose_31 (by decide) (fun c4 => ?_) (fun c4 => ?_)
    · replace V := V.1 c4
      refine rn_iconst (v := 0) dX11_loose_40 (by decide) ?_
      refine rn_istore_n (L' := [(2, .inl 0), (0, .inr (.inr (some 0))), (1, .inl a1)]) dX11_loose_41 rfl (Nat.le_of_ble_eq_true rfl) rfl ?_
      refine rn_sub [1, 2, 0] (L' := [(0, .inr (.inr (some 0))), (1, .inl a1), (2, .inl 0)]) rfl ?_
      exact V
    · replace V := V.2 c4
      refine rn_aload_n dX11_loose_34 rfl rfl ?_
      refine rn_iconst (v := 3) dX11_loose_35 (by decide) ?_
      refine rn_cV (M' := mX11_refuse) (n := 1) (av := [.inl 3]) (S := []) (rc := 0) (rs := 0) (mc := 0) (ms := 0) (a := 0) (ci := 10) (r := (RX11, TX11, 12)) dX11_loose_36 pa_X11_refuse (Nat.le_refl _) rfl (Nat.le_of_ble_eq_true rfl) ml_X11_87 im_X11_refuse se_X11_refuse rfl rfl rfl (Ev.mono V ?_)
      rintro v sh1 h5 ⟨rfl, Rh5, x6, rfl, V⟩
      show Rn G (d + 1) 0 0 mX11_loose 39 [(0, .inr (.inr (some 0))), (1, .inl a1)] [.inl x6] SH h5 (QI Q)
      exact rn_iret dX11_loose_39 rfl ⟨rfl, Rh5, _, rfl, V⟩
  · replace V := V.2 c3
    refine rn_aload_n dX11_loose_11 rfl rfl ?_
    refine rn_iconst (v := 1) dX11_loose_12 (by decide) ?_
    refine rn_cV (M' := mX11_refuse) (n := 1) (av := [.inl 1]) (S := []) (rc := 0) (rs := 0) (mc := 0) (ms := 0) (a := 0) (ci := 10) (r := (RX11, TX11, 12)) dX11_loose_13 pa_X11_refuse (Nat.le_refl _) rfl (Nat.le_of_ble_eq_true rfl) ml_X11_87 im_X11_refuse se_X11_refuse rfl rfl rfl (Ev.mono V ?_)
    rintro v sh1 h7 ⟨rfl, Rh7, x8, rfl, V⟩
    show Rn G (d + 1) 0 0 mX11_loose 16 [(0, .inr (.inr (some 0))), (1, .inl a1)] [.inl x8] SH h7 (QI Q)
    exact rn_iret dX11_loose_16 rfl ⟨rfl, Rh7, _, rfl, V⟩
set_option maxRecDepth 100000 in
set_option maxHeartbeats 4000000 in
theorem vc_X11_then {G : GT} {d : Nat} {a1 : Int32} {a2 : Int32} {a3 : Int32}  {h : Hp} {Q : Int32 → Hp → Prop} (hR : RF h) (V : EvI G d mX11_within [.inl a1, .inl 0, .inl 300] h (fun x2 h1 => ((x2 = 0 → EvI G d mX11_refuse [.inr (.inr (some 0)), .inl 1] h1 (fun x5 h4 => Q x5 h4)) ∧ (¬ x2 = 0 → EvI G d mX9_hasParty [.inr (.inr (some 1)), .inl a2] h1 (fun x7 h6 => ((x7 = 0 → EvI G d mX11_refuse [.inr (.inr (some 0)), .inl 1] h6 (fun x10 h9 => Q x10 h9)) ∧ (¬ x7 = 0 → EvI G d mX11_within [.inl a3, .inl 0, .inl 3] h6 (fun x12 h11 => ((¬ x12 = 0 → EvV G d mX2_copy [.inr (.inr (some 41)), .inr (.inr (some 9))] h11 (fun h14 => EvV G d mX9_pass [.inr (.inr (some 1)), .inr (.inr (some 41)), .inl a1] h14 (fun h15 => ((((a3).toInt = 0 + (0 : Nat) → vp_in a2 4 ∧ Q (h15.1 42 (Int32.toNatClampNeg a2)) h15) ∧ ((a3).toInt = 0 + (1 : Nat) → vp_in a2 4 ∧ Q (h15.1 43 (Int32.toNatClampNeg a2)) h15) ∧ ((a3).toInt = 0 + (2 : Nat) → Q (h15.1 41 4) h15)) ∧ ((a3).toInt < 0 ∨ 2 < (a3).toInt → Q (h15.1 41 6) h15))))) ∧ (x12 = 0 → EvI G d mX11_refuse [.inr (.inr (some 0)), .inl 1] h11 (fun x19 h18 => Q x19 h18))))))))))) : EvI G (d + 1) mX11_then [.inr (.inr (some 0)), .inl a1, .inl a2, .inl a3] h Q := by
  refine Ev.of rfl (fun _ => Nat.le_of_ble_eq_true rfl) ?_
  show Rn G (d + 1) 0 0 mX11_then 0 [(0, .inr (.inr (some 0))), (1, .inl a1), (2, .inl a2), (3, .inl a3)] [] SH h (QI Q)
  refine rn_iload_n dX11_then_0 rfl rfl ?_
  refine rn_iconst (v := 0) dX11_then_1 (by decide) ?_
  refine rn_sipush (v := 300) dX11_then_2 (by decide) ?_
  refine rn_cS (M' := mX11_within) (n := 3) (av := [.inl a1, .inl 0, .inl 300]) (S := []) (rc := 0) (rs := 0) (mc := 0) (ms := 0) dX11_then_5 pa_X11_within (Nat.le_refl _) rfl (Nat.le_of_ble_eq_true rfl) ml_X11_83 ss_X11_within rfl (Ev.mono V ?_)
  rintro v sh1 h1 ⟨rfl, Rh1, x2, rfl, V⟩
  show Rn G (d + 1) 0 0 mX11_then 8 [(0, .inr (.inr (some 0))), (1, .inl a1), (2, .inl a2), (3, .inl a3)] [.inl x2] SH h1 (QI Q)
  refine rn_if_eq (tgt := 31) dX11_then_8 (by decide) (fun c3 => ?_) (fun c3 => ?_)
  · replace V := V.1 c3
    refine rn_aload_n dX11_then_31 rfl rfl ?_
    refine rn_iconst (v := 1) dX11_then_32 (by decide) ?_
    refine rn_cV (M' := mX11_refuse) (n := 1) (av := [.inl 1]) (S := []) (rc := 0) (rs := 0) (mc := 0) (ms := 0) (a := 0) (ci := 10) (r := (RX11, TX11, 12)) dX11_then_33 pa_X11_refuse (Nat.le_refl _) rfl (Nat.le_of_ble_eq_true rfl) ml_X11_87 im_X11_refuse se_X11_refuse rfl rfl rfl (Ev.mono V ?_)
    rintro v sh1 h4 ⟨rfl, Rh4, x5, rfl, V⟩
    show Rn G (d + 1) 0 0 mX11_then 36 [(0, .inr (.inr (some 0))), (1, .inl a1), (2, .inl a2), (3, .inl a3)] [.inl x5] SH h4 (QI Q)
    exact rn_iret dX11_then_36 rfl ⟨rfl, Rh4, _, rfl, V⟩
  · replace V := V.2 c3
    refine rn_aload_n dX11_then_11 rfl rfl ?_
    refine rn_get (v := .inr (.inr (some 1))) dX11_then_12 fl_X11_10 rfl rfl (congrArg (fun z => (Sum.inr (Sum.inr z) : MV)) (rf_0_0 Rh1)) ?_
    refine rn_iload_n dX11_then_15 rfl rfl ?_
    refine rn_cV (M' := mX9_hasParty) (n := 1) (av := [.inl a2]) (S := []) (rc := 0) (rs := 0) (mc := 0) (ms := 0) (a := 1) (ci := 8) (r := (RX9, TX9, 17)) dX11_then_16 pa_X9_hasParty (Nat.le_refl _) rfl (Nat.le_of_ble_eq_true rfl) ml_X11_99 im_X9_hasParty se_X9_hasParty rfl rfl rfl (Ev.mono V ?_)
    rintro v sh1 h6 ⟨rfl, Rh6, x7, rfl, V⟩
    show Rn G (d + 1) 0 0 mX11_then 19 [(0, .inr (.inr (some 0))), (1, .inl a1), (2, .inl a2), (3, .inl a3)] [.inl x7] SH h6 (QI Q)
    refine rn_if_eq (tgt := 31) dX11_then_19 (by decide) (fun c8 => ?_) (fun c8 => ?_)
    · replace V := V.1 c8
      refine rn_aload_n dX11_then_31 rfl rfl ?_
      refine rn_iconst (v := 1) dX11_then_32 (by decide) ?_
      refine rn_cV (M' := mX11_refuse) (n := 1) (av := [.inl 1]) (S := []) (rc := 0) (rs := 0) (mc := 0) (ms := 0) (a := 0) (ci := 10) (r := (RX11, TX11, 12)) dX11_then_33 pa_X11_refuse (Nat.le_refl _) rfl (Nat.le_of_ble_eq_true rfl) ml_X11_87 im_X11_refuse se_X11_refuse rfl rfl rfl (Ev.mono V ?_)
      rintro v sh1 h9 ⟨rfl, Rh9, x10, rfl, V⟩
      show Rn G (d + 1) 0 0 mX11_then 36 [(0, .inr (.inr (some 0))), (1, .inl a1), (2, .inl a2), (3, .inl a3)] [.inl x10] SH h9 (QI Q)
      exact rn_iret dX11_then_36 rfl ⟨rfl, Rh9, _, rfl, V⟩
    · replace V := V.2 c8
      refine rn_iload_n dX11_then_22 rfl rfl ?_
      refine rn_iconst (v := 0) dX11_then_23 (by decide) ?_
      refine rn_iconst (v := 3) dX11_then_24 (by decide) ?_
      refine rn_cS (M' := mX11_within) (n := 3) (av := [.inl a3, .inl 0, .inl 3]) (S := []) (rc := 0) (rs := 0) (mc := 0) (ms := 0) dX11_then_25 pa_X11_within (Nat.le_refl _) rfl (Nat.le_of_ble_eq_true rfl) ml_X11_83 ss_X11_within rfl (Ev.mono V ?_)
      rintro v sh1 h11 ⟨rfl, Rh11, x12, rfl, V⟩
      show Rn G (d + 1) 0 0 mX11_then 28 [(0, .inr (.inr (some 0))), (1, .inl a1), (2, .inl a2), (3, .inl a3)] [.inl x12] SH h11 (QI Q)
      refine rn_if_ne (tgt := 37) dX11_then_28 (by decide) (fun c13 => ?_) (fun c13 => ?_)
      · replace V := V.1 c13
        refine rn_aload_n dX11_then_37 rfl rfl ?_
        refine rn_get (v := .inr (.inr (some 41))) dX11_then_38 fl_X11_22 rfl rfl (congrArg (fun z => (Sum.inr (Sum.inr z) : MV)) (rf_0_3 Rh11)) ?_
        refine rn_aload_n dX11_then_41 rfl rfl ?_
        refine rn_get (v := .inr (.inr (some 1))) dX11_then_42 fl_X11_10 rfl rfl (congrArg (fun z => (Sum.inr (Sum.inr z) : MV)) (rf_0_0 Rh11)) ?_
        refine rn_get (v := .inr (.inr (some 9))) dX11_then_45 fl_X11_111 rfl rfl (congrArg (fun z => (Sum.inr (Sum.inr z) : MV)) (rf_1_9 Rh11)) ?_
        refine rn_cV (M' := mX2_copy) (n := 1) (av := [.inr (.inr (some 9))]) (S := []) (rc := 0) (rs := 0) (mc := 0) (ms := 0) (a := 41) (ci := 2) (r := (RX2, TX2, 8)) dX11_then_48 pa_X2_copy (Nat.le_refl _) rfl (Nat.le_of_ble_eq_true rfl) ml_X11_210 im_X2_copy se_X2_copy rfl rfl rfl (Ev.mono V ?_)
        rintro v sh1 h14 ⟨rfl, Rh14, rfl, V⟩
        show Rn G (d + 1) 0 0 mX11_then 51 [(0, .inr (.inr (some 0))), (1, .inl a1), (2, .inl a2), (3, .inl a3)] [] SH h14 (QI Q)
        refine rn_aload_n dX11_then_51 rfl rfl ?_
        refine rn_get (v := .inr (.inr (some 1))) dX11_then_52 fl_X11_10 rfl rfl (congrArg (fun z => (Sum.inr (Sum.inr z) : MV)) (rf_0_0 Rh14)) ?_
        refine rn_aload_n dX11_then_55 rfl rfl ?_
        refine rn_get (v := .inr (.inr (some 41))) dX11_then_56 fl_X11_22 rfl rfl (congrArg (fun z => (Sum.inr (Sum.inr z) : MV)) (rf_0_3 Rh14)) ?_
        refine rn_iload_n dX11_then_59 rfl rfl ?_
        refine rn_cV (M' := mX9_pass) (n := 2) (av := [.inr (.inr (some 41)), .inl a1]) (S := []) (rc := 0) (rs := 0) (mc := 0) (ms := 0) (a := 1) (ci := 8) (r := (RX9, TX9, 17)) dX11_then_60 pa_X9_pass (Nat.le_refl _) rfl (Nat.le_of_ble_eq_true rfl) ml_X11_201 im_X9_pass se_X9_pass rfl rfl rfl (Ev.mono V ?_)
        rintro v sh1 h15 ⟨rfl, Rh15, rfl, V⟩
        show Rn G (d + 1) 0 0 mX11_then 63 [(0, .inr (.inr (some 0))), (1, .inl a1), (2, .inl a2), (3, .inl a3)] [] SH h15 (QI Q)
        refine rn_iload_n dX11_then_63 rfl rfl ?_
        refine rn_tsw (td := 120) [92, 102, 112] dX11_then_64 (by decide) (by decide +kernel) (by decide) (fun i17 hi c16 => ?_) (fun c16 => ?_)
        · replace V := V.1
          match i17, hi, c16 with
          | 0, _, c16 =>
            replace V := V.1 c16
            show Rn G (d + 1) 0 0 mX11_then 92 [(0, .inr (.inr (some 0))), (1, .inl a1), (2, .inl a2), (3, .inl a3)] [] SH h15 (QI Q)
            refine rn_aload_n dX11_then_92 rfl rfl ?_
            refine rn_get (v := .inr (.inr (some 41))) dX11_then_93 fl_X11_22 rfl rfl (congrArg (fun z => (Sum.inr (Sum.inr z) : MV)) (rf_0_3 Rh15)) ?_
            refine rn_get (v := .inr (.inr (some 42))) dX11_then_96 fl_X11_114 rfl rfl (congrArg (fun z => (Sum.inr (Sum.inr z) : MV)) (rf_41_0 Rh15)) ?_
            refine rn_iload_n dX11_then_99 rfl rfl ?_
            obtain ⟨g0, V⟩ := V
            refine rn_iald (k := (Int32.toNatClampNeg a2)) dX11_then_100 rfl rfl g0 ?_
            exact rn_iret dX11_then_101 rfl ⟨rfl, Rh15, _, rfl, V⟩
          | 1, _, c16 =>
            replace V := V.2.1 c16
            show Rn G (d + 1) 0 0 mX11_then 102 [(0, .inr (.inr (some 0))), (1, .inl a1), (2, .inl a2), (3, .inl a3)] [] SH h15 (QI Q)
            refine rn_aload_n dX11_then_102 rfl rfl ?_
            refine rn_get (v := .inr (.inr (some 41))) dX11_then_103 fl_X11_22 rfl rfl (congrArg (fun z => (Sum.inr (Sum.inr z) : MV)) (rf_0_3 Rh15)) ?_
            refine rn_get (v := .inr (.inr (some 43))) dX11_then_106 fl_X11_117 rfl rfl (congrArg (fun z => (Sum.inr (Sum.inr z) : MV)) (rf_41_1 Rh15)) ?_
            refine rn_iload_n dX11_then_109 rfl rfl ?_
            obtain ⟨g0, V⟩ := V
            refine rn_iald (k := (Int32.toNatClampNeg a2)) dX11_then_110 rfl rfl g0 ?_
            exact rn_iret dX11_then_111 rfl ⟨rfl, Rh15, _, rfl, V⟩
          | 2, _, c16 =>
            replace V := V.2.2 c16
            show Rn G (d + 1) 0 0 mX11_then 112 [(0, .inr (.inr (some 0))), (1, .inl a1), (2, .inl a2), (3, .inl a3)] [] SH h15 (QI Q)
            refine rn_aload_n dX11_then_112 rfl rfl ?_
            refine rn_get (v := .inr (.inr (some 41))) dX11_then_113 fl_X11_22 rfl rfl (congrArg (fun z => (Sum.inr (Sum.inr z) : MV)) (rf_0_3 Rh15)) ?_
            refine rn_get (v := .inl (h15.1 41 4)) dX11_then_116 fl_X11_204 rfl rfl rfl ?_
            exact rn_iret dX11_then_119 rfl ⟨rfl, Rh15, _, rfl, V⟩
          | n + 3, hi, _ => exact absurd hi (by simp)
        · replace V := V.2 c16
          refine rn_aload_n dX11_then_120 rfl rfl ?_
          refine rn_get (v := .inr (.inr (some 41))) dX11_then_121 fl_X11_22 rfl rfl (congrArg (fun z => (Sum.inr (Sum.inr z) : MV)) (rf_0_3 Rh15)) ?_
          refine rn_get (v := .inl (h15.1 41 6)) dX11_then_124 fl_X11_160 rfl rfl rfl ?_
          exact rn_iret dX11_then_127 rfl ⟨rfl, Rh15, _, rfl, V⟩
      · replace V := V.2 c13
        refine rn_aload_n dX11_then_31 rfl rfl ?_
        refine rn_iconst (v := 1) dX11_then_32 (by decide) ?_
        refine rn_cV (M' := mX11_refuse) (n := 1) (av := [.inl 1]) (S := []) (rc := 0) (rs := 0) (mc := 0) (ms := 0) (a := 0) (ci := 10) (r := (RX11, TX11, 12)) dX11_then_33 pa_X11_refuse (Nat.le_refl _) rfl (Nat.le_of_ble_eq_true rfl) ml_X11_87 im_X11_refuse se_X11_refuse rfl rfl rfl (Ev.mono V ?_)
        rintro v sh1 h18 ⟨rfl, Rh18, x19, rfl, V⟩
        show Rn G (d + 1) 0 0 mX11_then 36 [(0, .inr (.inr (some 0))), (1, .inl a1), (2, .inl a2), (3, .inl a3)] [.inl x19] SH h18 (QI Q)
        exact rn_iret dX11_then_36 rfl ⟨rfl, Rh18, _, rfl, V⟩
def Rg_X11_feed_39 (G : GT) (d : Nat) (l1 : Int64) (l3 : Int32) (l4 : Int32) (h : Hp) (Q : Int32 → Hp → Prop) : Prop := Rn G (d + 1) 0 0 mX11_feed 39 [(0, .inr (.inr (some 0))), (1, .inr (.inl l1)), (3, .inl l3), (4, .inl l4)] [] SH h (QI Q)
set_option maxRecDepth 100000 in
set_option maxHeartbeats 4000000 in
theorem vc_X11_feed_39 {G : GT} {d : Nat} {l1 : Int64} {l3 : Int32} {l4 : Int32}  {h : Hp} {Q : Int32 → Hp → Prop} (hR : RF h) (V : ((l3 ≤ l4 → Q (h.1 1 13) h) ∧ (¬ l3 ≤ l4 → vp_in (h.1 1 13) 50 ∧ ∀ h10 : Hp, h10 = (sI h 19 (Int32.toNatClampNeg (h.1 1 13)) ((Int64.toInt32 ((Int64.toUInt64 l1 >>> ((Int32.toInt64 (8 * l4)).toUInt64 &&& Int64.toUInt64 63)).toInt64)) &&& 255)) → Rg_X11_feed_39 G d l1 l3 (l4 + 1) (sI h10 1 13 (h10.1 1 13 + 1)) Q))) : Rg_X11_feed_39 G d l1 l3 l4 h Q := by
  show Rn G (d + 1) 0 0 mX11_feed 39 [(0, .inr (.inr (some 0))), (1, .inr (.inl l1)), (3, .inl l3), (4, .inl l4)] [] SH h (QI Q)
  refine rn_iload dX11_feed_39 rfl ?_
  refine rn_iload_n dX11_feed_41 rfl rfl ?_
  refine rn_icmp_ge (tgt := 91) dX11_feed_42 (by decide) (fun c9 => ?_) (fun c9 => ?_)
  · replace V := V.1 c9
    refine rn_aload_n dX11_feed_91 rfl rfl ?_
    refine rn_get (v := .inr (.inr (some 1))) dX11_feed_92 fl_X11_10 rfl rfl (congrArg (fun z => (Sum.inr (Sum.inr z) : MV)) (rf_0_0 hR)) ?_
    refine rn_get (v := .inl (h.1 1 13)) dX11_feed_95 fl_X11_214 rfl rfl rfl ?_
    exact rn_iret dX11_feed_98 rfl ⟨rfl, hR, _, rfl, V⟩
  · replace V := V.2 c9
    refine rn_aload_n dX11_feed_45 rfl rfl ?_
    refine rn_get (v := .inr (.inr (some 1))) dX11_feed_46 fl_X11_10 rfl rfl (congrArg (fun z => (Sum.inr (Sum.inr z) : MV)) (rf_0_0 hR)) ?_
    refine rn_get (v := .inr (.inr (some 19))) dX11_feed_49 fl_X11_217 rfl rfl (congrArg (fun z => (Sum.inr (Sum.inr z) : MV)) (rf_1_12 hR)) ?_
    refine rn_aload_n dX11_feed_52 rfl rfl ?_
    refine rn_get (v := .inr (.inr (some 1))) dX11_feed_53 fl_X11_10 rfl rfl (congrArg (fun z => (Sum.inr (Sum.inr z) : MV)) (rf_0_0 hR)) ?_
    refine rn_get (v := .inl (h.1 1 13)) dX11_feed_56 fl_X11_214 rfl rfl rfl ?_
    refine rn_lload_n dX11_feed_59 rfl rfl ?_
    refine rn_bipush (v := 8) dX11_feed_60 (by decide) ?_
    refine rn_iload dX11_feed_62 rfl ?_
    refine rn_imul dX11_feed_64 ?_
    refine rn_lushr dX11_feed_65 ?_
    refine rn_l2i dX11_feed_66 ?_
    refine rn_sipush (v := 255) dX11_feed_67 (by decide) ?_
    refine rn_iand dX11_feed_70 ?_
    obtain ⟨g0, V⟩ := V
    refine rn_iast (k := (Int32.toNatClampNeg (h.1 1 13))) dX11_feed_71 rfl rfl g0 ?_
    obtain ⟨h10, eh10⟩ : ∃ z, z = (sI h 19 (Int32.toNatClampNeg (h.1 1 13)) ((Int64.toInt32 ((Int64.toUInt64 l1 >>> ((Int32.toInt64 (8 * l4)).toUInt64 &&& Int64.toUInt64 63)).toInt64)) &&& 255)) := ⟨_, rfl⟩
    show Rn G (d + 1) 0 0 mX11_feed 72 [(0, .inr (.inr (some 0))), (1, .inr (.inl l1)), (3, .inl l3), (4, .inl l4)] [] SH (sI h 19 (Int32.toNatClampNeg (h.1 1 13)) ((Int64.toInt32 ((Int64.toUInt64 l1 >>> ((Int32.toInt64 (8 * l4)).toUInt64 &&& Int64.toUInt64 63)).toInt64)) &&& 255)) (QI Q)
    rw [← eh10]
    replace V := V h10 eh10
    have Rh10 : RF h10 := by rw [eh10]; exact hR
    refine rn_aload_n dX11_feed_72 rfl rfl ?_
    refine rn_get (v := .inr (.inr (some 1))) dX11_feed_73 fl_X11_10 rfl rfl (congrArg (fun z => (Sum.inr (Sum.inr z) : MV)) (rf_0_0 Rh10)) ?_
    refine rn_dup dX11_feed_76 rfl ?_
    refine rn_get (v := .inl (h10.1 1 13)) dX11_feed_77 fl_X11_214 rfl rfl rfl ?_
    refine rn_iconst (v := 1) dX11_feed_80 (by decide) ?_
    refine rn_iadd dX11_feed_81 ?_
    refine rn_putI dX11_feed_82 fl_X11_214 rfl rfl (Or.inl rfl) rfl rfl ?_
    refine rn_iinc (L' := [(4, .inl (l4 + 1)), (0, .inr (.inr (some 0))), (1, .inr (.inl l1)), (3, .inl l3)]) dX11_feed_85 rfl (v := (l4 + 1)) rfl (Nat.le_of_ble_eq_true rfl) rfl ?_
    refine rn_goto (tgt := 39) dX11_feed_88 (by decide) ?_
    refine rn_sub [1, 2, 3, 0] (L' := [(0, .inr (.inr (some 0))), (1, .inr (.inl l1)), (3, .inl l3), (4, .inl (l4 + 1))]) rfl ?_
    exact V
set_option maxRecDepth 100000 in
set_option maxHeartbeats 4000000 in
theorem vc_X11_feed {G : GT} {d : Nat} {a1 : Int64} {a2 : Int32}  {h : Hp} {Q : Int32 → Hp → Prop} (hR : RF h) (V : EvI G d mX11_within [.inl a2, .inl 1, .inl 8] h (fun x2 h1 => ((¬ x2 = 0 → (((h1.1 1 13 + a2) ≤ 50 → Rg_X11_feed_39 G d a1 a2 0 h1 Q) ∧ (¬ (h1.1 1 13 + a2) ≤ 50 → EvI G d mX11_refuse [.inr (.inr (some 0)), .inl 4] h1 (fun x6 h5 => Q x6 h5)))) ∧ (x2 = 0 → EvI G d mX11_refuse [.inr (.inr (some 0)), .inl 1] h1 (fun x8 h7 => Q x8 h7))))) : EvI G (d + 1) mX11_feed [.inr (.inr (some 0)), .inr (.inl a1), .inl a2] h Q := by
  refine Ev.of rfl (fun _ => Nat.le_of_ble_eq_true rfl) ?_
  show Rn G (d + 1) 0 0 mX11_feed 0 [(0, .inr (.inr (some 0))), (1, .inr (.inl a1)), (3, .inl a2)] [] SH h (QI Q)
  refine rn_iload_n dX11_feed_0 rfl rfl ?_
  refine rn_iconst (v := 1) dX11_feed_1 (by decide) ?_
  refine rn_bipush (v := 8) dX11_feed_2 (by decide) ?_
  refine rn_cS (M' := mX11_within) (n := 3) (av := [.inl a2, .inl 1, .inl 8]) (S := []) (rc := 0) (rs := 0) (mc := 0) (ms := 0) dX11_feed_4 pa_X11_within (Nat.le_refl _) rfl (Nat.le_of_ble_eq_true rfl) ml_X11_83 ss_X11_within rfl (Ev.mono V ?_)
  rintro v sh1 h1 ⟨rfl, Rh1, x2, rfl, V⟩
  show Rn G (d + 1) 0 0 mX11_feed 7 [(0, .inr (.inr (some 0))), (1, .inr (.inl a1)), (3, .inl a2)] [.inl x2] SH h1 (QI Q)
  refine rn_if_ne (tgt := 16) dX11_feed_7 (by decide) (fun c3 => ?_) (fun c3 => ?_)
  · replace V := V.1 c3
    refine rn_aload_n dX11_feed_16 rfl rfl ?_
    refine rn_get (v := .inr (.inr (some 1))) dX11_feed_17 fl_X11_10 rfl rfl (congrArg (fun z => (Sum.inr (Sum.inr z) : MV)) (rf_0_0 Rh1)) ?_
    refine rn_get (v := .inl (h1.1 1 13)) dX11_feed_20 fl_X11_214 rfl rfl rfl ?_
    refine rn_iload_n dX11_feed_23 rfl rfl ?_
    refine rn_iadd dX11_feed_24 ?_
    refine rn_bipush (v := 50) dX11_feed_25 (by decide) ?_
    refine rn_icmp_le (tgt := 36) dX11_feed_27 (by decide) (fun c4 => ?_) (fun c4 => ?_)
    · replace V := V.1 c4
      refine rn_iconst (v := 0) dX11_feed_36 (by decide) ?_
      refine rn_istore (L' := [(4, .inl 0), (0, .inr (.inr (some 0))), (1, .inr (.inl a1)), (3, .inl a2)]) dX11_feed_37 (Nat.le_of_ble_eq_true rfl) rfl ?_
      refine rn_sub [1, 2, 3, 0] (L' := [(0, .inr (.inr (some 0))), (1, .inr (.inl a1)), (3, .inl a2), (4, .inl 0)]) rfl ?_
      exact V
    · replace V := V.2 c4
      refine rn_aload_n dX11_feed_30 rfl rfl ?_
      refine rn_iconst (v := 4) dX11_feed_31 (by decide) ?_
      refine rn_cV (M' := mX11_refuse) (n := 1) (av := [.inl 4]) (S := []) (rc := 0) (rs := 0) (mc := 0) (ms := 0) (a := 0) (ci := 10) (r := (RX11, TX11, 12)) dX11_feed_32 pa_X11_refuse (Nat.le_refl _) rfl (Nat.le_of_ble_eq_true rfl) ml_X11_87 im_X11_refuse se_X11_refuse rfl rfl rfl (Ev.mono V ?_)
      rintro v sh1 h5 ⟨rfl, Rh5, x6, rfl, V⟩
      show Rn G (d + 1) 0 0 mX11_feed 35 [(0, .inr (.inr (some 0))), (1, .inr (.inl a1)), (3, .inl a2)] [.inl x6] SH h5 (QI Q)
      exact rn_iret dX11_feed_35 rfl ⟨rfl, Rh5, _, rfl, V⟩
  · replace V := V.2 c3
    refine rn_aload_n dX11_feed_10 rfl rfl ?_
    refine rn_iconst (v := 1) dX11_feed_11 (by decide) ?_
    refine rn_cV (M' := mX11_refuse) (n := 1) (av := [.inl 1]) (S := []) (rc := 0) (rs := 0) (mc := 0) (ms := 0) (a := 0) (ci := 10) (r := (RX11, TX11, 12)) dX11_feed_12 pa_X11_refuse (Nat.le_refl _) rfl (Nat.le_of_ble_eq_true rfl) ml_X11_87 im_X11_refuse se_X11_refuse rfl rfl rfl (Ev.mono V ?_)
    rintro v sh1 h7 ⟨rfl, Rh7, x8, rfl, V⟩
    show Rn G (d + 1) 0 0 mX11_feed 15 [(0, .inr (.inr (some 0))), (1, .inr (.inl a1)), (3, .inl a2)] [.inl x8] SH h7 (QI Q)
    exact rn_iret dX11_feed_15 rfl ⟨rfl, Rh7, _, rfl, V⟩
set_option maxRecDepth 100000 in
set_option maxHeartbeats 4000000 in
theorem vc_X11_text {G : GT} {d : Nat} {a1 : Int32}  {h : Hp} {Q : Int32 → Hp → Prop} (hR : RF h) (V : EvI G d mX11_within [.inl a1, .inl 0, .inl 1] h (fun x2 h1 => ((¬ x2 = 0 → EvI G d mX6_read [.inr (.inr (some 45)), .inr (.inr (some 19)), .inl (h1.1 1 13), .inl a1] h1 (fun x5 h4 => ((x5 = (-1) → ((¬ a1 = 0 → EvV G d mX10_copy [.inr (.inr (some 16)), .inr (.inr (some 46))] (sI h4 1 13 0) (fun h8 => Q 1 h8)) ∧ (a1 = 0 → EvV G d mX10_copy [.inr (.inr (some 13)), .inr (.inr (some 46))] (sI h4 1 13 0) (fun h9 => Q 1 h9)))) ∧ (¬ x5 = (-1) → Q ((-10) - x5) (sI h4 1 13 0))))) ∧ (x2 = 0 → EvI G d mX11_refuse [.inr (.inr (some 0)), .inl 1] h1 (fun x11 h10 => Q x11 h10))))) : EvI G (d + 1) mX11_text [.inr (.inr (some 0)), .inl a1] h Q := by
  refine Ev.of rfl (fun _ => Nat.le_of_ble_eq_true rfl) ?_
  show Rn G (d + 1) 0 0 mX11_text 0 [(0, .inr (.inr (some 0))), (1, .inl a1)] [] SH h (QI Q)
  refine rn_iload_n dX11_text_0 rfl rfl ?_
  refine rn_iconst (v := 0) dX11_text_1 (by decide) ?_
  refine rn_iconst (v := 1) dX11_text_2 (by decide) ?_
  refine rn_cS (M' := mX11_within) (n := 3) (av := [.inl a1, .inl 0, .inl 1]) (S := []) (rc := 0) (rs := 0) (mc := 0) (ms := 0) dX11_text_3 pa_X11_within (Nat.le_refl _) rfl (Nat.le_of_ble_eq_true rfl) ml_X11_83 ss_X11_within rfl (Ev.mono V ?_)
  rintro v sh1 h1 ⟨rfl, Rh1, x2, rfl, V⟩
  show Rn G (d + 1) 0 0 mX11_text 6 [(0, .inr (.inr (some 0))), (1, .inl a1)] [.inl x2] SH h1 (QI Q)
  refine rn_if_ne (tgt := 15) dX11_text_6 (by decide) (fun c3 => ?_) (fun c3 => ?_)
  · replace V := V.1 c3
    refine rn_aload_n dX11_text_15 rfl rfl ?_
    refine rn_get (v := .inr (.inr (some 45))) dX11_text_16 fl_X11_29 rfl rfl (congrArg (fun z => (Sum.inr (Sum.inr z) : MV)) (rf_0_4 Rh1)) ?_
    refine rn_aload_n dX11_text_19 rfl rfl ?_
    refine rn_get (v := .inr (.inr (some 1))) dX11_text_20 fl_X11_10 rfl rfl (congrArg (fun z => (Sum.inr (Sum.inr z) : MV)) (rf_0_0 Rh1)) ?_
    refine rn_get (v := .inr (.inr (some 19))) dX11_text_23 fl_X11_217 rfl rfl (congrArg (fun z => (Sum.inr (Sum.inr z) : MV)) (rf_1_12 Rh1)) ?_
    refine rn_aload_n dX11_text_26 rfl rfl ?_
    refine rn_get (v := .inr (.inr (some 1))) dX11_text_27 fl_X11_10 rfl rfl (congrArg (fun z => (Sum.inr (Sum.inr z) : MV)) (rf_0_0 Rh1)) ?_
    refine rn_get (v := .inl (h1.1 1 13)) dX11_text_30 fl_X11_214 rfl rfl rfl ?_
    refine rn_iload_n dX11_text_33 rfl rfl ?_
    refine rn_cV (M' := mX6_read) (n := 3) (av := [.inr (.inr (some 19)), .inl (h1.1 1 13), .inl a1]) (S := []) (rc := 0) (rs := 0) (mc := 0) (ms := 0) (a := 45) (ci := 5) (r := (RX6, TX6, 5)) dX11_text_34 pa_X6_read (Nat.le_refl _) rfl (Nat.le_of_ble_eq_true rfl) ml_X11_220 im_X6_read se_X6_read rfl rfl rfl (Ev.mono V ?_)
    rintro v sh1 h4 ⟨rfl, Rh4, x5, rfl, V⟩
    show Rn G (d + 1) 0 0 mX11_text 37 [(0, .inr (.inr (some 0))), (1, .inl a1)] [.inl x5] SH h4 (QI Q)
    refine rn_istore_n (L' := [(2, .inl x5), (0, .inr (.inr (some 0))), (1, .inl a1)]) dX11_text_37 rfl (Nat.le_of_ble_eq_true rfl) rfl ?_
    refine rn_aload_n dX11_text_38 rfl rfl ?_
    refine rn_get (v := .inr (.inr (some 1))) dX11_text_39 fl_X11_10 rfl rfl (congrArg (fun z => (Sum.inr (Sum.inr z) : MV)) (rf_0_0 Rh4)) ?_
    refine rn_iconst (v := 0) dX11_text_42 (by decide) ?_
    refine rn_putI dX11_text_43 fl_X11_214 rfl rfl (Or.inl rfl) rfl rfl ?_
    refine rn_iload_n dX11_text_46 rfl rfl ?_
    refine rn_iconst (v := (-1)) dX11_text_47 (by decide) ?_
    refine rn_icmp_eq (tgt := 56) dX11_text_48 (by decide) (fun c6 => ?_) (fun c6 => ?_)
    · replace V := V.1 c6
      refine rn_iload_n dX11_text_56 rfl rfl ?_
      refine rn_if_ne (tgt := 70) dX11_text_57 (by decide) (fun c7 => ?_) (fun c7 => ?_)
      · replace V := V.1 c7
        refine rn_aload_n dX11_text_70 rfl rfl ?_
        refine rn_get (v := .inr (.inr (some 1))) dX11_text_71 fl_X11_10 rfl rfl (congrArg (fun z => (Sum.inr (Sum.inr z) : MV)) (rf_0_0 Rh4)) ?_
        refine rn_get (v := .inr (.inr (some 16))) dX11_text_74 fl_X11_228 rfl rfl (congrArg (fun z => (Sum.inr (Sum.inr z) : MV)) (rf_1_11 Rh4)) ?_
        refine rn_aload_n dX11_text_77 rfl rfl ?_
        refine rn_get (v := .inr (.inr (some 45))) dX11_text_78 fl_X11_29 rfl rfl (congrArg (fun z => (Sum.inr (Sum.inr z) : MV)) (rf_0_4 Rh4)) ?_
        refine rn_get (v := .inr (.inr (some 46))) dX11_text_81 fl_X11_231 rfl rfl (congrArg (fun z => (Sum.inr (Sum.inr z) : MV)) (rf_45_0 Rh4)) ?_
        refine rn_cV (M' := mX10_copy) (n := 1) (av := [.inr (.inr (some 46))]) (S := []) (rc := 0) (rs := 0) (mc := 0) (ms := 0) (a := 16) (ci := 9) (r := (RX10, TX10, 3)) dX11_text_84 pa_X10_copy (Nat.le_refl _) rfl (Nat.le_of_ble_eq_true rfl) ml_X11_234 im_X10_copy se_X10_copy rfl rfl rfl (Ev.mono V ?_)
        rintro v sh1 h8 ⟨rfl, Rh8, rfl, V⟩
        show Rn G (d + 1) 0 0 mX11_text 87 [(2, .inl x5), (0, .inr (.inr (some 0))), (1, .inl a1)] [] SH h8 (QI Q)
        refine rn_iconst (v := 1) dX11_text_87 (by decide) ?_
        exact rn_iret dX11_text_88 rfl ⟨rfl, Rh8, _, rfl, V⟩
      · replace V := V.2 c7
        refine rn_aload_n dX11_text_60 rfl rfl ?_
        refine rn_get (v := .inr (.inr (some 1))) dX11_text_61 fl_X11_10 rfl rfl (congrArg (fun z => (Sum.inr (Sum.inr z) : MV)) (rf_0_0 Rh4)) ?_
        refine rn_get (v := .inr (.inr (some 13))) dX11_text_64 fl_X11_224 rfl rfl (congrArg (fun z => (Sum.inr (Sum.inr z) : MV)) (rf_1_10 Rh4)) ?_
        refine rn_goto (tgt := 77) dX11_text_67 (by decide) ?_
        refine rn_aload_n dX11_text_77 rfl rfl ?_
        refine rn_get (v := .inr (.inr (some 45))) dX11_text_78 fl_X11_29 rfl rfl (congrArg (fun z => (Sum.inr (Sum.inr z) : MV)) (rf_0_4 Rh4)) ?_
        refine rn_get (v := .inr (.inr (some 46))) dX11_text_81 fl_X11_231 rfl rfl (congrArg (fun z => (Sum.inr (Sum.inr z) : MV)) (rf_45_0 Rh4)) ?_
        refine rn_cV (M' := mX10_copy) (n := 1) (av := [.inr (.inr (some 46))]) (S := []) (rc := 0) (rs := 0) (mc := 0) (ms := 0) (a := 13) (ci := 9) (r := (RX10, TX10, 3)) dX11_text_84 pa_X10_copy (Nat.le_refl _) rfl (Nat.le_of_ble_eq_true rfl) ml_X11_234 im_X10_copy se_X10_copy rfl rfl rfl (Ev.mono V ?_)
        rintro v sh1 h9 ⟨rfl, Rh9, rfl, V⟩
        show Rn G (d + 1) 0 0 mX11_text 87 [(2, .inl x5), (0, .inr (.inr (some 0))), (1, .inl a1)] [] SH h9 (QI Q)
        refine rn_iconst (v := 1) dX11_text_87 (by decide) ?_
        exact rn_iret dX11_text_88 rfl ⟨rfl, Rh9, _, rfl, V⟩
    · replace V := V.2 c6
      refine rn_bipush (v := (-10)) dX11_text_51 (by decide) ?_
      refine rn_iload_n dX11_text_53 rfl rfl ?_
      refine rn_isub dX11_text_54 ?_
      exact rn_iret dX11_text_55 rfl ⟨rfl, Rh4, _, rfl, V⟩
  · replace V := V.2 c3
    refine rn_aload_n dX11_text_9 rfl rfl ?_
    refine rn_iconst (v := 1) dX11_text_10 (by decide) ?_
    refine rn_cV (M' := mX11_refuse) (n := 1) (av := [.inl 1]) (S := []) (rc := 0) (rs := 0) (mc := 0) (ms := 0) (a := 0) (ci := 10) (r := (RX11, TX11, 12)) dX11_text_11 pa_X11_refuse (Nat.le_refl _) rfl (Nat.le_of_ble_eq_true rfl) ml_X11_87 im_X11_refuse se_X11_refuse rfl rfl rfl (Ev.mono V ?_)
    rintro v sh1 h10 ⟨rfl, Rh10, x11, rfl, V⟩
    show Rn G (d + 1) 0 0 mX11_text 14 [(0, .inr (.inr (some 0))), (1, .inl a1)] [.inl x11] SH h10 (QI Q)
    exact rn_iret dX11_text_14 rfl ⟨rfl, Rh10, _, rfl, V⟩
set_option maxRecDepth 100000 in
set_option maxHeartbeats 4000000 in
theorem vc_X11_law {G : GT} {d : Nat} {a1 : Int32} {a2 : Int32} {a3 : Int32} {a4 : Int32}  {h : Hp} {Q : Int32 → Hp → Prop} (hR : RF h) (V : EvI G d mX11_within [.inl a1, .inl 0, .inl 1] h (fun x2 h1 => ((x2 = 0 → EvI G d mX11_refuse [.inr (.inr (some 0)), .inl 1] h1 (fun x5 h4 => Q x5 h4)) ∧ (¬ x2 = 0 → ((¬ a1 = 1 → ((¬ a1 = 0 → EvI G d mX9_spillBy [.inr (.inr (some 1)), .inl a2, .inl a3, .inl a4] h1 (fun x9 h8 => Q x9 h8)) ∧ (a1 = 0 → EvI G d mX9_earBy [.inr (.inr (some 1)), .inl a2, .inl a3, .inl a4] h1 (fun x11 h10 => Q x11 h10)))) ∧ (a1 = 1 → EvI G d mX11_within [.inl a2, .inl 0, .inl 999] h1 (fun x13 h12 => ((¬ x13 = 0 → ((¬ a1 = 0 → EvI G d mX9_spillBy [.inr (.inr (some 1)), .inl a2, .inl a3, .inl a4] h12 (fun x17 h16 => Q x17 h16)) ∧ (a1 = 0 → EvI G d mX9_earBy [.inr (.inr (some 1)), .inl a2, .inl a3, .inl a4] h12 (fun x19 h18 => Q x19 h18)))) ∧ (x13 = 0 → EvI G d mX11_refuse [.inr (.inr (some 0)), .inl 1] h12 (fun x21 h20 => Q x21 h20)))))))))) : EvI G (d + 1) mX11_law [.inr (.inr (some 0)), .inl a1, .inl a2, .inl a3, .inl a4] h Q := by
  refine Ev.of rfl (fun _ => Nat.le_of_ble_eq_true rfl) ?_
  show Rn G (d + 1) 0 0 mX11_law 0 [(0, .inr (.inr (some 0))), (1, .inl a1), (2, .inl a2), (3, .inl a3), (4, .inl a4)] [] SH h (QI Q)
  refine rn_iload_n dX11_law_0 rfl rfl ?_
  refine rn_iconst (v := 0) dX11_law_1 (by decide) ?_
  refine rn_iconst (v := 1) dX11_law_2 (by decide) ?_
  refine rn_cS (M' := mX11_within) (n := 3) (av := [.inl a1, .inl 0, .inl 1]) (S := []) (rc := 0) (rs := 0) (mc := 0) (ms := 0) dX11_law_3 pa_X11_within (Nat.le_refl _) rfl (Nat.le_of_ble_eq_true rfl) ml_X11_83 ss_X11_within rfl (Ev.mono V ?_)
  rintro v sh1 h1 ⟨rfl, Rh1, x2, rfl, V⟩
  show Rn G (d + 1) 0 0 mX11_law 6 [(0, .inr (.inr (some 0))), (1, .inl a1), (2, .inl a2), (3, .inl a3), (4, .inl a4)] [.inl x2] SH h1 (QI Q)
  refine rn_if_eq (tgt := 25) dX11_law_6 (by decide) (fun c3 => ?_) (fun c3 => ?_)
  · replace V := V.1 c3
    refine rn_aload_n dX11_law_25 rfl rfl ?_
    refine rn_iconst (v := 1) dX11_law_26 (by decide) ?_
    refine rn_cV (M' := mX11_refuse) (n := 1) (av := [.inl 1]) (S := []) (rc := 0) (rs := 0) (mc := 0) (ms := 0) (a := 0) (ci := 10) (r := (RX11, TX11, 12)) dX11_law_27 pa_X11_refuse (Nat.le_refl _) rfl (Nat.le_of_ble_eq_true rfl) ml_X11_87 im_X11_refuse se_X11_refuse rfl rfl rfl (Ev.mono V ?_)
    rintro v sh1 h4 ⟨rfl, Rh4, x5, rfl, V⟩
    show Rn G (d + 1) 0 0 mX11_law 30 [(0, .inr (.inr (some 0))), (1, .inl a1), (2, .inl a2), (3, .inl a3), (4, .inl a4)] [.inl x5] SH h4 (QI Q)
    exact rn_iret dX11_law_30 rfl ⟨rfl, Rh4, _, rfl, V⟩
  · replace V := V.2 c3
    refine rn_iload_n dX11_law_9 rfl rfl ?_
    refine rn_iconst (v := 1) dX11_law_10 (by decide) ?_
    refine rn_icmp_ne (tgt := 31) dX11_law_11 (by decide) (fun c6 => ?_) (fun c6 => ?_)
    · replace V := V.1 c6
      refine rn_iload_n dX11_law_31 rfl rfl ?_
      refine rn_if_ne (tgt := 49) dX11_law_32 (by decide) (fun c7 => ?_) (fun c7 => ?_)
      · replace V := V.1 c7
        refine rn_aload_n dX11_law_49 rfl rfl ?_
        refine rn_get (v := .inr (.inr (some 1))) dX11_law_50 fl_X11_10 rfl rfl (congrArg (fun z => (Sum.inr (Sum.inr z) : MV)) (rf_0_0 Rh1)) ?_
        refine rn_iload_n dX11_law_53 rfl rfl ?_
        refine rn_iload_n dX11_law_54 rfl rfl ?_
        refine rn_iload dX11_law_55 rfl ?_
        refine rn_cV (M' := mX9_spillBy) (n := 3) (av := [.inl a2, .inl a3, .inl a4]) (S := []) (rc := 0) (rs := 0) (mc := 0) (ms := 0) (a := 1) (ci := 8) (r := (RX9, TX9, 17)) dX11_law_57 pa_X9_spillBy (Nat.le_refl _) rfl (Nat.le_of_ble_eq_true rfl) ml_X11_243 im_X9_spillBy se_X9_spillBy rfl rfl rfl (Ev.mono V ?_)
        rintro v sh1 h8 ⟨rfl, Rh8, x9, rfl, V⟩
        show Rn G (d + 1) 0 0 mX11_law 60 [(0, .inr (.inr (some 0))), (1, .inl a1), (2, .inl a2), (3, .inl a3), (4, .inl a4)] [.inl x9] SH h8 (QI Q)
        exact rn_iret dX11_law_60 rfl ⟨rfl, Rh8, _, rfl, V⟩
      · replace V := V.2 c7
        refine rn_aload_n dX11_law_35 rfl rfl ?_
        refine rn_get (v := .inr (.inr (some 1))) dX11_law_36 fl_X11_10 rfl rfl (congrArg (fun z => (Sum.inr (Sum.inr z) : MV)) (rf_0_0 Rh1)) ?_
        refine rn_iload_n dX11_law_39 rfl rfl ?_
        refine rn_iload_n dX11_law_40 rfl rfl ?_
        refine rn_iload dX11_law_41 rfl ?_
        refine rn_cV (M' := mX9_earBy) (n := 3) (av := [.inl a2, .inl a3, .inl a4]) (S := []) (rc := 0) (rs := 0) (mc := 0) (ms := 0) (a := 1) (ci := 8) (r := (RX9, TX9, 17)) dX11_law_43 pa_X9_earBy (Nat.le_refl _) rfl (Nat.le_of_ble_eq_true rfl) ml_X11_239 im_X9_earBy se_X9_earBy rfl rfl rfl (Ev.mono V ?_)
        rintro v sh1 h10 ⟨rfl, Rh10, x11, rfl, V⟩
        show Rn G (d + 1) 0 0 mX11_law 46 [(0, .inr (.inr (some 0))), (1, .inl a1), (2, .inl a2), (3, .inl a3), (4, .inl a4)] [.inl x11] SH h10 (QI Q)
        refine rn_goto (tgt := 60) dX11_law_46 (by decide) ?_
        exact rn_iret dX11_law_60 rfl ⟨rfl, Rh10, _, rfl, V⟩
    · replace V := V.2 c6
      refine rn_iload_n dX11_law_14 rfl rfl ?_
      refine rn_iconst (v := 0) dX11_law_15 (by decide) ?_
      refine rn_sipush (v := 999) dX11_law_16 (by decide) ?_
      refine rn_cS (M' := mX11_within) (n := 3) (av := [.inl a2, .inl 0, .inl 999]) (S := []) (rc := 0) (rs := 0) (mc := 0) (ms := 0) dX11_law_19 pa_X11_within (Nat.le_refl _) rfl (Nat.le_of_ble_eq_true rfl) ml_X11_83 ss_X11_within rfl (Ev.mono V ?_)
      rintro v sh1 h12 ⟨rfl, Rh12, x13, rfl, V⟩
      show Rn G (d + 1) 0 0 mX11_law 22 [(0, .inr (.inr (some 0))), (1, .inl a1), (2, .inl a2), (3, .inl a3), (4, .inl a4)] [.inl x13] SH h12 (QI Q)
      refine rn_if_ne (tgt := 31) dX11_law_22 (by decide) (fun c14 => ?_) (fun c14 => ?_)
      · replace V := V.1 c14
        refine rn_iload_n dX11_law_31 rfl rfl ?_
        refine rn_if_ne (tgt := 49) dX11_law_32 (by decide) (fun c15 => ?_) (fun c15 => ?_)
        · replace V := V.1 c15
          refine rn_aload_n dX11_law_49 rfl rfl ?_
          refine rn_get (v := .inr (.inr (some 1))) dX11_law_50 fl_X11_10 rfl rfl (congrArg (fun z => (Sum.inr (Sum.inr z) : MV)) (rf_0_0 Rh12)) ?_
          refine rn_iload_n dX11_law_53 rfl rfl ?_
          refine rn_iload_n dX11_law_54 rfl rfl ?_
          refine rn_iload dX11_law_55 rfl ?_
          refine rn_cV (M' := mX9_spillBy) (n := 3) (av := [.inl a2, .inl a3, .inl a4]) (S := []) (rc := 0) (rs := 0) (mc := 0) (ms := 0) (a := 1) (ci := 8) (r := (RX9, TX9, 17)) dX11_law_57 pa_X9_spillBy (Nat.le_refl _) rfl (Nat.le_of_ble_eq_true rfl) ml_X11_243 im_X9_spillBy se_X9_spillBy rfl rfl rfl (Ev.mono V ?_)
          rintro v sh1 h16 ⟨rfl, Rh16, x17, rfl, V⟩
          show Rn G (d + 1) 0 0 mX11_law 60 [(0, .inr (.inr (some 0))), (1, .inl a1), (2, .inl a2), (3, .inl a3), (4, .inl a4)] [.inl x17] SH h16 (QI Q)
          exact rn_iret dX11_law_60 rfl ⟨rfl, Rh16, _, rfl, V⟩
        · replace V := V.2 c15
          refine rn_aload_n dX11_law_35 rfl rfl ?_
          refine rn_get (v := .inr (.inr (some 1))) dX11_law_36 fl_X11_10 rfl rfl (congrArg (fun z => (Sum.inr (Sum.inr z) : MV)) (rf_0_0 Rh12)) ?_
          refine rn_iload_n dX11_law_39 rfl rfl ?_
          refine rn_iload_n dX11_law_40 rfl rfl ?_
          refine rn_iload dX11_law_41 rfl ?_
          refine rn_cV (M' := mX9_earBy) (n := 3) (av := [.inl a2, .inl a3, .inl a4]) (S := []) (rc := 0) (rs := 0) (mc := 0) (ms := 0) (a := 1) (ci := 8) (r := (RX9, TX9, 17)) dX11_law_43 pa_X9_earBy (Nat.le_refl _) rfl (Nat.le_of_ble_eq_true rfl) ml_X11_239 im_X9_earBy se_X9_earBy rfl rfl rfl (Ev.mono V ?_)
          rintro v sh1 h18 ⟨rfl, Rh18, x19, rfl, V⟩
          show Rn G (d + 1) 0 0 mX11_law 46 [(0, .inr (.inr (some 0))), (1, .inl a1), (2, .inl a2), (3, .inl a3), (4, .inl a4)] [.inl x19] SH h18 (QI Q)
          refine rn_goto (tgt := 60) dX11_law_46 (by decide) ?_
          exact rn_iret dX11_law_60 rfl ⟨rfl, Rh18, _, rfl, V⟩
      · replace V := V.2 c14
        refine rn_aload_n dX11_law_25 rfl rfl ?_
        refine rn_iconst (v := 1) dX11_law_26 (by decide) ?_
        refine rn_cV (M' := mX11_refuse) (n := 1) (av := [.inl 1]) (S := []) (rc := 0) (rs := 0) (mc := 0) (ms := 0) (a := 0) (ci := 10) (r := (RX11, TX11, 12)) dX11_law_27 pa_X11_refuse (Nat.le_refl _) rfl (Nat.le_of_ble_eq_true rfl) ml_X11_87 im_X11_refuse se_X11_refuse rfl rfl rfl (Ev.mono V ?_)
        rintro v sh1 h20 ⟨rfl, Rh20, x21, rfl, V⟩
        show Rn G (d + 1) 0 0 mX11_law 30 [(0, .inr (.inr (some 0))), (1, .inl a1), (2, .inl a2), (3, .inl a3), (4, .inl a4)] [.inl x21] SH h20 (QI Q)
        exact rn_iret dX11_law_30 rfl ⟨rfl, Rh20, _, rfl, V⟩
set_option maxRecDepth 100000 in
set_option maxHeartbeats 4000000 in
theorem vc_X11_best {G : GT} {d : Nat} {a1 : Int32} {a2 : Int32}  {h : Hp} {Q : Int32 → Hp → Prop} (hR : RF h) (V : EvI G d mX9_sets [.inr (.inr (some 1))] h (fun x2 h1 => EvI G d mX11_within [.inl a1, .inl 1, .inl (x2 - 1)] h1 (fun x4 h3 => ((x4 = 0 → EvI G d mX11_refuse [.inr (.inr (some 0)), .inl 1] h3 (fun x7 h6 => Q x7 h6)) ∧ (¬ x4 = 0 → EvI G d mX11_within [.inl a2, .inl (-2), .inl 4] h3 (fun x9 h8 => ((¬ x9 = 0 → EvV G d mX5_find [.inr (.inr (some 49)), .inr (.inr (some 1)), .inl a1] h8 (fun h11 => ((¬ a2 = (-2) → ((¬ a2 = (-1) → ((h11.1 49 1 ≤ a2 → EvI G d mX11_refuse [.inr (.inr (some 0)), .inl 2] h11 (fun x16 h15 => Q x16 h15)) ∧ (¬ h11.1 49 1 ≤ a2 → vp_in a2 5 ∧ Q (h11.1 50 (Int32.toNatClampNeg a2)) h11))) ∧ (a2 = (-1) → Q (h11.1 49 1) h11))) ∧ (a2 = (-2) → Q (h11.1 49 2) h11)))) ∧ (x9 = 0 → EvI G d mX11_refuse [.inr (.inr (some 0)), .inl 1] h8 (fun x18 h17 => Q x18 h17))))))))) : EvI G (d + 1) mX11_best [.inr (.inr (some 0)), .inl a1, .inl a2] h Q := by
  refine Ev.of rfl (fun _ => Nat.le_of_ble_eq_true rfl) ?_
  show Rn G (d + 1) 0 0 mX11_best 0 [(0, .inr (.inr (some 0))), (1, .inl a1), (2, .inl a2)] [] SH h (QI Q)
  refine rn_iload_n dX11_best_0 rfl rfl ?_
  refine rn_iconst (v := 1) dX11_best_1 (by decide) ?_
  refine rn_aload_n dX11_best_2 rfl rfl ?_
  refine rn_get (v := .inr (.inr (some 1))) dX11_best_3 fl_X11_10 rfl rfl (congrArg (fun z => (Sum.inr (Sum.inr z) : MV)) (rf_0_0 hR)) ?_
  refine rn_cV (M' := mX9_sets) (n := 0) (av := []) (S := [.inl 1, .inl a1]) (rc := 0) (rs := 0) (mc := 0) (ms := 0) (a := 1) (ci := 8) (r := (RX9, TX9, 17)) dX11_best_6 pa_X9_sets (Nat.le_refl _) rfl (Nat.le_of_ble_eq_true rfl) ml_X11_246 im_X9_sets se_X9_sets rfl rfl rfl (Ev.mono V ?_)
  rintro v sh1 h1 ⟨rfl, Rh1, x2, rfl, V⟩
  show Rn G (d + 1) 0 0 mX11_best 9 [(0, .inr (.inr (some 0))), (1, .inl a1), (2, .inl a2)] [.inl x2, .inl 1, .inl a1] SH h1 (QI Q)
  refine rn_iconst (v := 1) dX11_best_9 (by decide) ?_
  refine rn_isub dX11_best_10 ?_
  refine rn_cS (M' := mX11_within) (n := 3) (av := [.inl a1, .inl 1, .inl (x2 - 1)]) (S := []) (rc := 0) (rs := 0) (mc := 0) (ms := 0) dX11_best_11 pa_X11_within (Nat.le_refl _) rfl (Nat.le_of_ble_eq_true rfl) ml_X11_83 ss_X11_within rfl (Ev.mono V ?_)
  rintro v sh1 h3 ⟨rfl, Rh3, x4, rfl, V⟩
  show Rn G (d + 1) 0 0 mX11_best 14 [(0, .inr (.inr (some 0))), (1, .inl a1), (2, .inl a2)] [.inl x4] SH h3 (QI Q)
  refine rn_if_eq (tgt := 27) dX11_best_14 (by decide) (fun c5 => ?_) (fun c5 => ?_)
  · replace V := V.1 c5
    refine rn_aload_n dX11_best_27 rfl rfl ?_
    refine rn_iconst (v := 1) dX11_best_28 (by decide) ?_
    refine rn_cV (M' := mX11_refuse) (n := 1) (av := [.inl 1]) (S := []) (rc := 0) (rs := 0) (mc := 0) (ms := 0) (a := 0) (ci := 10) (r := (RX11, TX11, 12)) dX11_best_29 pa_X11_refuse (Nat.le_refl _) rfl (Nat.le_of_ble_eq_true rfl) ml_X11_87 im_X11_refuse se_X11_refuse rfl rfl rfl (Ev.mono V ?_)
    rintro v sh1 h6 ⟨rfl, Rh6, x7, rfl, V⟩
    show Rn G (d + 1) 0 0 mX11_best 32 [(0, .inr (.inr (some 0))), (1, .inl a1), (2, .inl a2)] [.inl x7] SH h6 (QI Q)
    exact rn_iret dX11_best_32 rfl ⟨rfl, Rh6, _, rfl, V⟩
  · replace V := V.2 c5
    refine rn_iload_n dX11_best_17 rfl rfl ?_
    refine rn_bipush (v := (-2)) dX11_best_18 (by decide) ?_
    refine rn_iconst (v := 4) dX11_best_20 (by decide) ?_
    refine rn_cS (M' := mX11_within) (n := 3) (av := [.inl a2, .inl (-2), .inl 4]) (S := []) (rc := 0) (rs := 0) (mc := 0) (ms := 0) dX11_best_21 pa_X11_within (Nat.le_refl _) rfl (Nat.le_of_ble_eq_true rfl) ml_X11_83 ss_X11_within rfl (Ev.mono V ?_)
    rintro v sh1 h8 ⟨rfl, Rh8, x9, rfl, V⟩
    show Rn G (d + 1) 0 0 mX11_best 24 [(0, .inr (.inr (some 0))), (1, .inl a1), (2, .inl a2)] [.inl x9] SH h8 (QI Q)
    refine rn_if_ne (tgt := 33) dX11_best_24 (by decide) (fun c10 => ?_) (fun c10 => ?_)
    · replace V := V.1 c10
      refine rn_aload_n dX11_best_33 rfl rfl ?_
      refine rn_get (v := .inr (.inr (some 49))) dX11_best_34 fl_X11_36 rfl rfl (congrArg (fun z => (Sum.inr (Sum.inr z) : MV)) (rf_0_5 Rh8)) ?_
      refine rn_aload_n dX11_best_37 rfl rfl ?_
      refine rn_get (v := .inr (.inr (some 1))) dX11_best_38 fl_X11_10 rfl rfl (congrArg (fun z => (Sum.inr (Sum.inr z) : MV)) (rf_0_0 Rh8)) ?_
      refine rn_iload_n dX11_best_41 rfl rfl ?_
      refine rn_cV (M' := mX5_find) (n := 2) (av := [.inr (.inr (some 1)), .inl a1]) (S := []) (rc := 0) (rs := 0) (mc := 0) (ms := 0) (a := 49) (ci := 4) (r := (RX5, TX5, 9)) dX11_best_42 pa_X5_find (Nat.le_refl _) rfl (Nat.le_of_ble_eq_true rfl) ml_X11_250 im_X5_find se_X5_find rfl rfl rfl (Ev.mono V ?_)
      rintro v sh1 h11 ⟨rfl, Rh11, rfl, V⟩
      show Rn G (d + 1) 0 0 mX11_best 45 [(0, .inr (.inr (some 0))), (1, .inl a1), (2, .inl a2)] [] SH h11 (QI Q)
      refine rn_iload_n dX11_best_45 rfl rfl ?_
      refine rn_bipush (v := (-2)) dX11_best_46 (by decide) ?_
      refine rn_icmp_ne (tgt := 59) dX11_best_48 (by decide) (fun c12 => ?_) (fun c12 => ?_)
      · replace V := V.1 c12
        refine rn_iload_n dX11_best_59 rfl rfl ?_
        refine rn_iconst (v := (-1)) dX11_best_60 (by decide) ?_
        refine rn_icmp_ne (tgt := 72) dX11_best_61 (by decide) (fun c13 => ?_) (fun c13 => ?_)
        · replace V := V.1 c13
          refine rn_iload_n dX11_best_72 rfl rfl ?_
          refine rn_aload_n dX11_best_73 rfl rfl ?_
          refine rn_get (v := .inr (.inr (some 49))) dX11_best_74 fl_X11_36 rfl rfl (congrArg (fun z => (Sum.inr (Sum.inr z) : MV)) (rf_0_5 Rh11)) ?_
          refine rn_get (v := .inl (h11.1 49 1)) dX11_best_77 fl_X11_257 rfl rfl rfl ?_
          refine rn_icmp_ge (tgt := 95) dX11_best_80 (by decide) (fun c14 => ?_) (fun c14 => ?_)
          · replace V := V.1 c14
            refine rn_aload_n dX11_best_95 rfl rfl ?_
            refine rn_iconst (v := 2) dX11_best_96 (by decide) ?_
            refine rn_cV (M' := mX11_refuse) (n := 1) (av := [.inl 2]) (S := []) (rc := 0) (rs := 0) (mc := 0) (ms := 0) (a := 0) (ci := 10) (r := (RX11, TX11, 12)) dX11_best_97 pa_X11_refuse (Nat.le_refl _) rfl (Nat.le_of_ble_eq_true rfl) ml_X11_87 im_X11_refuse se_X11_refuse rfl rfl rfl (Ev.mono V ?_)
            rintro v sh1 h15 ⟨rfl, Rh15, x16, rfl, V⟩
            show Rn G (d + 1) 0 0 mX11_best 100 [(0, .inr (.inr (some 0))), (1, .inl a1), (2, .inl a2)] [.inl x16] SH h15 (QI Q)
            exact rn_iret dX11_best_100 rfl ⟨rfl, Rh15, _, rfl, V⟩
          · replace V := V.2 c14
            refine rn_aload_n dX11_best_83 rfl rfl ?_
            refine rn_get (v := .inr (.inr (some 49))) dX11_best_84 fl_X11_36 rfl rfl (congrArg (fun z => (Sum.inr (Sum.inr z) : MV)) (rf_0_5 Rh11)) ?_
            refine rn_get (v := .inr (.inr (some 50))) dX11_best_87 fl_X11_260 rfl rfl (congrArg (fun z => (Sum.inr (Sum.inr z) : MV)) (rf_49_0 Rh11)) ?_
            refine rn_iload_n dX11_best_90 rfl rfl ?_
            obtain ⟨g0, V⟩ := V
            refine rn_iald (k := (Int32.toNatClampNeg a2)) dX11_best_91 rfl rfl g0 ?_
            refine rn_goto (tgt := 100) dX11_best_92 (by decide) ?_
            exact rn_iret dX11_best_100 rfl ⟨rfl, Rh11, _, rfl, V⟩
        · replace V := V.2 c13
          refine rn_aload_n dX11_best_64 rfl rfl ?_
          refine rn_get (v := .inr (.inr (some 49))) dX11_best_65 fl_X11_36 rfl rfl (congrArg (fun z => (Sum.inr (Sum.inr z) : MV)) (rf_0_5 Rh11)) ?_
          refine rn_get (v := .inl (h11.1 49 1)) dX11_best_68 fl_X11_257 rfl rfl rfl ?_
          exact rn_iret dX11_best_71 rfl ⟨rfl, Rh11, _, rfl, V⟩
      · replace V := V.2 c12
        refine rn_aload_n dX11_best_51 rfl rfl ?_
        refine rn_get (v := .inr (.inr (some 49))) dX11_best_52 fl_X11_36 rfl rfl (congrArg (fun z => (Sum.inr (Sum.inr z) : MV)) (rf_0_5 Rh11)) ?_
        refine rn_get (v := .inl (h11.1 49 2)) dX11_best_55 fl_X11_254 rfl rfl rfl ?_
        exact rn_iret dX11_best_58 rfl ⟨rfl, Rh11, _, rfl, V⟩
    · replace V := V.2 c10
      refine rn_aload_n dX11_best_27 rfl rfl ?_
      refine rn_iconst (v := 1) dX11_best_28 (by decide) ?_
      refine rn_cV (M' := mX11_refuse) (n := 1) (av := [.inl 1]) (S := []) (rc := 0) (rs := 0) (mc := 0) (ms := 0) (a := 0) (ci := 10) (r := (RX11, TX11, 12)) dX11_best_29 pa_X11_refuse (Nat.le_refl _) rfl (Nat.le_of_ble_eq_true rfl) ml_X11_87 im_X11_refuse se_X11_refuse rfl rfl rfl (Ev.mono V ?_)
      rintro v sh1 h17 ⟨rfl, Rh17, x18, rfl, V⟩
      show Rn G (d + 1) 0 0 mX11_best 32 [(0, .inr (.inr (some 0))), (1, .inl a1), (2, .inl a2)] [.inl x18] SH h17 (QI Q)
      exact rn_iret dX11_best_32 rfl ⟨rfl, Rh17, _, rfl, V⟩
set_option maxRecDepth 100000 in
set_option maxHeartbeats 4000000 in
theorem vc_X11_share {G : GT} {d : Nat} {a1 : Int32} {a2 : Int32}  {h : Hp} {Q : Int64 → Hp → Prop} (hR : RF h) (V : EvI G d mX9_hasParty [.inr (.inr (some 1)), .inl a1] h (fun x2 h1 => ((x2 = 0 → EvI G d mX11_refuse [.inr (.inr (some 0)), .inl 1] h1 (fun x5 h4 => Q (Int32.toInt64 x5) h4)) ∧ (¬ x2 = 0 → EvI G d mX11_within [.inl a2, .inl 0, .inl 1] h1 (fun x7 h6 => ((¬ x7 = 0 → EvV G d mX3_weigh [.inr (.inr (some 53)), .inr (.inr (some 1)), .inr (.inr (some 49))] h6 (fun h9 => vp_in a1 4 ∧ EvL G d mX11_partOf [.inr (.inl (Int32.toInt64 (h9.1 54 (Int32.toNatClampNeg a1)))), .inr (.inl (Int32.toInt64 (h9.1 53 1))), .inl a2] h9 (fun x11 h10 => Q x11 h10))) ∧ (x7 = 0 → EvI G d mX11_refuse [.inr (.inr (some 0)), .inl 1] h6 (fun x13 h12 => Q (Int32.toInt64 x13) h12)))))))) : EvL G (d + 1) mX11_share [.inr (.inr (some 0)), .inl a1, .inl a2] h Q := by
  refine Ev.of rfl (fun _ => Nat.le_of_ble_eq_true rfl) ?_
  show Rn G (d + 1) 0 0 mX11_share 0 [(0, .inr (.inr (some 0))), (1, .inl a1), (2, .inl a2)] [] SH h (QL Q)
  refine rn_aload_n dX11_share_0 rfl rfl ?_
  refine rn_get (v := .inr (.inr (some 1))) dX11_share_1 fl_X11_10 rfl rfl (congrArg (fun z => (Sum.inr (Sum.inr z) : MV)) (rf_0_0 hR)) ?_
  refine rn_iload_n dX11_share_4 rfl rfl ?_
  refine rn_cV (M' := mX9_hasParty) (n := 1) (av := [.inl a1]) (S := []) (rc := 0) (rs := 0) (mc := 0) (ms := 0) (a := 1) (ci := 8) (r := (RX9, TX9, 17)) dX11_share_5 pa_X9_hasParty (Nat.le_refl _) rfl (Nat.le_of_ble_eq_true rfl) ml_X11_99 im_X9_hasParty se_X9_hasParty rfl rfl rfl (Ev.mono V ?_)
  rintro v sh1 h1 ⟨rfl, Rh1, x2, rfl, V⟩
  show Rn G (d + 1) 0 0 mX11_share 8 [(0, .inr (.inr (some 0))), (1, .inl a1), (2, .inl a2)] [.inl x2] SH h1 (QL Q)
  refine rn_if_eq (tgt := 20) dX11_share_8 (by decide) (fun c3 => ?_) (fun c3 => ?_)
  · replace V := V.1 c3
    refine rn_aload_n dX11_share_20 rfl rfl ?_
    refine rn_iconst (v := 1) dX11_share_21 (by decide) ?_
    refine rn_cV (M' := mX11_refuse) (n := 1) (av := [.inl 1]) (S := []) (rc := 0) (rs := 0) (mc := 0) (ms := 0) (a := 0) (ci := 10) (r := (RX11, TX11, 12)) dX11_share_22 pa_X11_refuse (Nat.le_refl _) rfl (Nat.le_of_ble_eq_true rfl) ml_X11_87 im_X11_refuse se_X11_refuse rfl rfl rfl (Ev.mono V ?_)
    rintro v sh1 h4 ⟨rfl, Rh4, x5, rfl, V⟩
    show Rn G (d + 1) 0 0 mX11_share 25 [(0, .inr (.inr (some 0))), (1, .inl a1), (2, .inl a2)] [.inl x5] SH h4 (QL Q)
    refine rn_i2l dX11_share_25 ?_
    exact rn_lret dX11_share_26 rfl ⟨rfl, Rh4, _, rfl, V⟩
  · replace V := V.2 c3
    refine rn_iload_n dX11_share_11 rfl rfl ?_
    refine rn_iconst (v := 0) dX11_share_12 (by decide) ?_
    refine rn_iconst (v := 1) dX11_share_13 (by decide) ?_
    refine rn_cS (M' := mX11_within) (n := 3) (av := [.inl a2, .inl 0, .inl 1]) (S := []) (rc := 0) (rs := 0) (mc := 0) (ms := 0) dX11_share_14 pa_X11_within (Nat.le_refl _) rfl (Nat.le_of_ble_eq_true rfl) ml_X11_83 ss_X11_within rfl (Ev.mono V ?_)
    rintro v sh1 h6 ⟨rfl, Rh6, x7, rfl, V⟩
    show Rn G (d + 1) 0 0 mX11_share 17 [(0, .inr (.inr (some 0))), (1, .inl a1), (2, .inl a2)] [.inl x7] SH h6 (QL Q)
    refine rn_if_ne (tgt := 27) dX11_share_17 (by decide) (fun c8 => ?_) (fun c8 => ?_)
    · replace V := V.1 c8
      refine rn_aload_n dX11_share_27 rfl rfl ?_
      refine rn_get (v := .inr (.inr (some 53))) dX11_share_28 fl_X11_43 rfl rfl (congrArg (fun z => (Sum.inr (Sum.inr z) : MV)) (rf_0_6 Rh6)) ?_
      refine rn_aload_n dX11_share_31 rfl rfl ?_
      refine rn_get (v := .inr (.inr (some 1))) dX11_share_32 fl_X11_10 rfl rfl (congrArg (fun z => (Sum.inr (Sum.inr z) : MV)) (rf_0_0 Rh6)) ?_
      refine rn_aload_n dX11_share_35 rfl rfl ?_
      refine rn_get (v := .inr (.inr (some 49))) dX11_share_36 fl_X11_36 rfl rfl (congrArg (fun z => (Sum.inr (Sum.inr z) : MV)) (rf_0_5 Rh6)) ?_
      refine rn_cV (M' := mX3_weigh) (n := 2) (av := [.inr (.inr (some 1)), .inr (.inr (some 49))]) (S := []) (rc := 0) (rs := 0) (mc := 0) (ms := 0) (a := 53) (ci := 3) (r := (RX3, TX3, 4)) dX11_share_39 pa_X3_weigh (Nat.le_refl _) rfl (Nat.le_of_ble_eq_true rfl) ml_X11_263 im_X3_weigh se_X3_weigh rfl rfl rfl (Ev.mono V ?_)
      rintro v sh1 h9 ⟨rfl, Rh9, rfl, V⟩
      show Rn G (d + 1) 0 0 mX11_share 42 [(0, .inr (.inr (some 0))), (1, .inl a1), (2, .inl a2)] [] SH h9 (QL Q)
      refine rn_aload_n dX11_share_42 rfl rfl ?_
      refine rn_get (v := .inr (.inr (some 53))) dX11_share_43 fl_X11_43 rfl rfl (congrArg (fun z => (Sum.inr (Sum.inr z) : MV)) (rf_0_6 Rh9)) ?_
      refine rn_get (v := .inr (.inr (some 54))) dX11_share_46 fl_X11_267 rfl rfl (congrArg (fun z => (Sum.inr (Sum.inr z) : MV)) (rf_53_0 Rh9)) ?_
      refine rn_iload_n dX11_share_49 rfl rfl ?_
      obtain ⟨g0, V⟩ := V
      refine rn_iald (k := (Int32.toNatClampNeg a1)) dX11_share_50 rfl rfl g0 ?_
      refine rn_i2l dX11_share_51 ?_
      refine rn_aload_n dX11_share_52 rfl rfl ?_
      refine rn_get (v := .inr (.inr (some 53))) dX11_share_53 fl_X11_43 rfl rfl (congrArg (fun z => (Sum.inr (Sum.inr z) : MV)) (rf_0_6 Rh9)) ?_
      refine rn_get (v := .inl (h9.1 53 1)) dX11_share_56 fl_X11_270 rfl rfl rfl ?_
      refine rn_i2l dX11_share_59 ?_
      refine rn_iload_n dX11_share_60 rfl rfl ?_
      refine rn_cS (M' := mX11_partOf) (n := 3) (av := [.inr (.inl (Int32.toInt64 (h9.1 54 (Int32.toNatClampNeg a1)))), .inr (.inl (Int32.toInt64 (h9.1 53 1))), .inl a2]) (S := []) (rc := 0) (rs := 0) (mc := 0) (ms := 0) dX11_share_61 pa_X11_partOf (Nat.le_refl _) rfl (Nat.le_of_ble_eq_true rfl) ml_X11_273 ss_X11_partOf rfl (Ev.mono V ?_)
      rintro v sh1 h10 ⟨rfl, Rh10, x11, rfl, V⟩
      show Rn G (d + 1) 0 0 mX11_share 64 [(0, .inr (.inr (some 0))), (1, .inl a1), (2, .inl a2)] [.inr (.inl x11)] SH h10 (QL Q)
      exact rn_lret dX11_share_64 rfl ⟨rfl, Rh10, _, rfl, V⟩
    · replace V := V.2 c8
      refine rn_aload_n dX11_share_20 rfl rfl ?_
      refine rn_iconst (v := 1) dX11_share_21 (by decide) ?_
      refine rn_cV (M' := mX11_refuse) (n := 1) (av := [.inl 1]) (S := []) (rc := 0) (rs := 0) (mc := 0) (ms := 0) (a := 0) (ci := 10) (r := (RX11, TX11, 12)) dX11_share_22 pa_X11_refuse (Nat.le_refl _) rfl (Nat.le_of_ble_eq_true rfl) ml_X11_87 im_X11_refuse se_X11_refuse rfl rfl rfl (Ev.mono V ?_)
      rintro v sh1 h12 ⟨rfl, Rh12, x13, rfl, V⟩
      show Rn G (d + 1) 0 0 mX11_share 25 [(0, .inr (.inr (some 0))), (1, .inl a1), (2, .inl a2)] [.inl x13] SH h12 (QL Q)
      refine rn_i2l dX11_share_25 ?_
      exact rn_lret dX11_share_26 rfl ⟨rfl, Rh12, _, rfl, V⟩
set_option maxRecDepth 100000 in
set_option maxHeartbeats 4000000 in
theorem vc_X11_leaves {G : GT} {d : Nat}   {h : Hp} {Q : Int32 → Hp → Prop} (hR : RF h) (V : EvV G d mX3_weigh [.inr (.inr (some 53)), .inr (.inr (some 1)), .inr (.inr (some 49))] h (fun h1 => EvI G d mX3_leastLeaving [.inr (.inr (some 53))] h1 (fun x3 h2 => ((¬ x3 = 0 → Q x3 h2) ∧ (x3 = 0 → EvI G d mX11_refuse [.inr (.inr (some 0)), .inl 2] h2 (fun x6 h5 => Q x6 h5)))))) : EvI G (d + 1) mX11_leaves [.inr (.inr (some 0))] h Q := by
  refine Ev.of rfl (fun _ => Nat.le_of_ble_eq_true rfl) ?_
  show Rn G (d + 1) 0 0 mX11_leaves 0 [(0, .inr (.inr (some 0)))] [] SH h (QI Q)
  refine rn_aload_n dX11_leaves_0 rfl rfl ?_
  refine rn_get (v := .inr (.inr (some 53))) dX11_leaves_1 fl_X11_43 rfl rfl (congrArg (fun z => (Sum.inr (Sum.inr z) : MV)) (rf_0_6 hR)) ?_
  refine rn_aload_n dX11_leaves_4 rfl rfl ?_
  refine rn_get (v := .inr (.inr (some 1))) dX11_leaves_5 fl_X11_10 rfl rfl (congrArg (fun z => (Sum.inr (Sum.inr z) : MV)) (rf_0_0 hR)) ?_
  refine rn_aload_n dX11_leaves_8 rfl rfl ?_
  refine rn_get (v := .inr (.inr (some 49))) dX11_leaves_9 fl_X11_36 rfl rfl (congrArg (fun z => (Sum.inr (Sum.inr z) : MV)) (rf_0_5 hR)) ?_
  refine rn_cV (M' := mX3_weigh) (n := 2) (av := [.inr (.inr (some 1)), .inr (.inr (some 49))]) (S := []) (rc := 0) (rs := 0) (mc := 0) (ms := 0) (a := 53) (ci := 3) (r := (RX3, TX3, 4)) dX11_leaves_12 pa_X3_weigh (Nat.le_refl _) rfl (Nat.le_of_ble_eq_true rfl) ml_X11_263 im_X3_weigh se_X3_weigh rfl rfl rfl (Ev.mono V ?_)
  rintro v sh1 h1 ⟨rfl, Rh1, rfl, V⟩
  show Rn G (d + 1) 0 0 mX11_leaves 15 [(0, .inr (.inr (some 0)))] [] SH h1 (QI Q)
  refine rn_aload_n dX11_leaves_15 rfl rfl ?_
  refine rn_get (v := .inr (.inr (some 53))) dX11_leaves_16 fl_X11_43 rfl rfl (congrArg (fun z => (Sum.inr (Sum.inr z) : MV)) (rf_0_6 Rh1)) ?_
  refine rn_cV (M' := mX3_leastLeaving) (n := 0) (av := []) (S := []) (rc := 0) (rs := 0) (mc := 0) (ms := 0) (a := 53) (ci := 3) (r := (RX3, TX3, 4)) dX11_leaves_19 pa_X3_leastLeaving (Nat.le_refl _) rfl (Nat.le_of_ble_eq_true rfl) ml_X11_277 im_X3_leastLeaving se_X3_leastLeaving rfl rfl rfl (Ev.mono V ?_)
  rintro v sh1 h2 ⟨rfl, Rh2, x3, rfl, V⟩
  show Rn G (d + 1) 0 0 mX11_leaves 22 [(0, .inr (.inr (some 0)))] [.inl x3] SH h2 (QI Q)
  refine rn_istore_n (L' := [(1, .inl x3), (0, .inr (.inr (some 0)))]) dX11_leaves_22 rfl (Nat.le_of_ble_eq_true rfl) rfl ?_
  refine rn_iload_n dX11_leaves_23 rfl rfl ?_
  refine rn_if_ne (tgt := 35) dX11_leaves_24 (by decide) (fun c4 => ?_) (fun c4 => ?_)
  · replace V := V.1 c4
    refine rn_iload_n dX11_leaves_35 rfl rfl ?_
    exact rn_iret dX11_leaves_36 rfl ⟨rfl, Rh2, _, rfl, V⟩
  · replace V := V.2 c4
    refine rn_aload_n dX11_leaves_27 rfl rfl ?_
    refine rn_iconst (v := 2) dX11_leaves_28 (by decide) ?_
    refine rn_cV (M' := mX11_refuse) (n := 1) (av := [.inl 2]) (S := []) (rc := 0) (rs := 0) (mc := 0) (ms := 0) (a := 0) (ci := 10) (r := (RX11, TX11, 12)) dX11_leaves_29 pa_X11_refuse (Nat.le_refl _) rfl (Nat.le_of_ble_eq_true rfl) ml_X11_87 im_X11_refuse se_X11_refuse rfl rfl rfl (Ev.mono V ?_)
    rintro v sh1 h5 ⟨rfl, Rh5, x6, rfl, V⟩
    show Rn G (d + 1) 0 0 mX11_leaves 32 [(1, .inl x3), (0, .inr (.inr (some 0)))] [.inl x6] SH h5 (QI Q)
    refine rn_goto (tgt := 36) dX11_leaves_32 (by decide) ?_
    exact rn_iret dX11_leaves_36 rfl ⟨rfl, Rh5, _, rfl, V⟩
set_option maxRecDepth 100000 in
set_option maxHeartbeats 4000000 in
theorem vc_X11_game {G : GT} {d : Nat} {a1 : Int32} {a2 : Int32} {a3 : Int32} {a4 : Int32}  {h : Hp} {Q : Int32 → Hp → Prop} (hR : RF h) (V : EvI G d mX11_areTwo [.inr (.inr (some 0)), .inl a1, .inl a2] h (fun x2 h1 => ((x2 = 0 → EvI G d mX11_refuse [.inr (.inr (some 0)), .inl 1] h1 (fun x5 h4 => Q x5 h4)) ∧ (¬ x2 = 0 → EvI G d mX11_within [.inl a3, .inl 1, .inl 4] h1 (fun x7 h6 => ((x7 = 0 → EvI G d mX11_refuse [.inr (.inr (some 0)), .inl 1] h6 (fun x10 h9 => Q x10 h9)) ∧ (¬ x7 = 0 → EvI G d mX11_within [.inl a4, .inl 0, .inl 1] h6 (fun x12 h11 => ((¬ x12 = 0 → EvI G d mX1_play [.inr (.inr (some 56)), .inr (.inr (some 1)), .inl a1, .inl a2, .inl a3] h11 (fun x15 h14 => ((¬ a4 = 0 → Q (h14.1 56 0) h14) ∧ (a4 = 0 → Q x15 h14)))) ∧ (x12 = 0 → EvI G d mX11_refuse [.inr (.inr (some 0)), .inl 1] h11 (fun x18 h17 => Q x18 h17))))))))))) : EvI G (d + 1) mX11_game [.inr (.inr (some 0)), .inl a1, .inl a2, .inl a3, .inl a4] h Q := by
  refine Ev.of rfl (fun _ => Nat.le_of_ble_eq_true rfl) ?_
  show Rn G (d + 1) 0 0 mX11_game 0 [(0, .inr (.inr (some 0))), (1, .inl a1), (2, .inl a2), (3, .inl a3), (4, .inl a4)] [] SH h (QI Q)
  refine rn_aload_n dX11_game_0 rfl rfl ?_
  refine rn_iload_n dX11_game_1 rfl rfl ?_
  refine rn_iload_n dX11_game_2 rfl rfl ?_
  refine rn_cV (M' := mX11_areTwo) (n := 2) (av := [.inl a1, .inl a2]) (S := []) (rc := 0) (rs := 0) (mc := 0) (ms := 0) (a := 0) (ci := 10) (r := (RX11, TX11, 12)) dX11_game_3 pa_X11_areTwo (Nat.le_refl _) rfl (Nat.le_of_ble_eq_true rfl) ml_X11_168 im_X11_areTwo se_X11_areTwo rfl rfl rfl (Ev.mono V ?_)
  rintro v sh1 h1 ⟨rfl, Rh1, x2, rfl, V⟩
  show Rn G (d + 1) 0 0 mX11_game 6 [(0, .inr (.inr (some 0))), (1, .inl a1), (2, .inl a2), (3, .inl a3), (4, .inl a4)] [.inl x2] SH h1 (QI Q)
  refine rn_if_eq (tgt := 28) dX11_game_6 (by decide) (fun c3 => ?_) (fun c3 => ?_)
  · replace V := V.1 c3
    refine rn_aload_n dX11_game_28 rfl rfl ?_
    refine rn_iconst (v := 1) dX11_game_29 (by decide) ?_
    refine rn_cV (M' := mX11_refuse) (n := 1) (av := [.inl 1]) (S := []) (rc := 0) (rs := 0) (mc := 0) (ms := 0) (a := 0) (ci := 10) (r := (RX11, TX11, 12)) dX11_game_30 pa_X11_refuse (Nat.le_refl _) rfl (Nat.le_of_ble_eq_true rfl) ml_X11_87 im_X11_refuse se_X11_refuse rfl rfl rfl (Ev.mono V ?_)
    rintro v sh1 h4 ⟨rfl, Rh4, x5, rfl, V⟩
    show Rn G (d + 1) 0 0 mX11_game 33 [(0, .inr (.inr (some 0))), (1, .inl a1), (2, .inl a2), (3, .inl a3), (4, .inl a4)] [.inl x5] SH h4 (QI Q)
    exact rn_iret dX11_game_33 rfl ⟨rfl, Rh4, _, rfl, V⟩
  · replace V := V.2 c3
    refine rn_iload_n dX11_game_9 rfl rfl ?_
    refine rn_iconst (v := 1) dX11_game_10 (by decide) ?_
    refine rn_iconst (v := 4) dX11_game_11 (by decide) ?_
    refine rn_cS (M' := mX11_within) (n := 3) (av := [.inl a3, .inl 1, .inl 4]) (S := []) (rc := 0) (rs := 0) (mc := 0) (ms := 0) dX11_game_12 pa_X11_within (Nat.le_refl _) rfl (Nat.le_of_ble_eq_true rfl) ml_X11_83 ss_X11_within rfl (Ev.mono V ?_)
    rintro v sh1 h6 ⟨rfl, Rh6, x7, rfl, V⟩
    show Rn G (d + 1) 0 0 mX11_game 15 [(0, .inr (.inr (some 0))), (1, .inl a1), (2, .inl a2), (3, .inl a3), (4, .inl a4)] [.inl x7] SH h6 (QI Q)
    refine rn_if_eq (tgt := 28) dX11_game_15 (by decide) (fun c8 => ?_) (fun c8 => ?_)
    · replace V := V.1 c8
      refine rn_aload_n dX11_game_28 rfl rfl ?_
      refine rn_iconst (v := 1) dX11_game_29 (by decide) ?_
      refine rn_cV (M' := mX11_refuse) (n := 1) (av := [.inl 1]) (S := []) (rc := 0) (rs := 0) (mc := 0) (ms := 0) (a := 0) (ci := 10) (r := (RX11, TX11, 12)) dX11_game_30 pa_X11_refuse (Nat.le_refl _) rfl (Nat.le_of_ble_eq_true rfl) ml_X11_87 im_X11_refuse se_X11_refuse rfl rfl rfl (Ev.mono V ?_)
      rintro v sh1 h9 ⟨rfl, Rh9, x10, rfl, V⟩
      show Rn G (d + 1) 0 0 mX11_game 33 [(0, .inr (.inr (some 0))), (1, .inl a1), (2, .inl a2), (3, .inl a3), (4, .inl a4)] [.inl x10] SH h9 (QI Q)
      exact rn_iret dX11_game_33 rfl ⟨rfl, Rh9, _, rfl, V⟩
    · replace V := V.2 c8
      refine rn_iload dX11_game_18 rfl ?_
      refine rn_iconst (v := 0) dX11_game_20 (by decide) ?_
      refine rn_iconst (v := 1) dX11_game_21 (by decide) ?_
      refine rn_cS (M' := mX11_within) (n := 3) (av := [.inl a4, .inl 0, .inl 1]) (S := []) (rc := 0) (rs := 0) (mc := 0) (ms := 0) dX11_game_22 pa_X11_within (Nat.le_refl _) rfl (Nat.le_of_ble_eq_true rfl) ml_X11_83 ss_X11_within rfl (Ev.mono V ?_)
      rintro v sh1 h11 ⟨rfl, Rh11, x12, rfl, V⟩
      show Rn G (d + 1) 0 0 mX11_game 25 [(0, .inr (.inr (some 0))), (1, .inl a1), (2, .inl a2), (3, .inl a3), (4, .inl a4)] [.inl x12] SH h11 (QI Q)
      refine rn_if_ne (tgt := 34) dX11_game_25 (by decide) (fun c13 => ?_) (fun c13 => ?_)
      · replace V := V.1 c13
        refine rn_aload_n dX11_game_34 rfl rfl ?_
        refine rn_get (v := .inr (.inr (some 56))) dX11_game_35 fl_X11_50 rfl rfl (congrArg (fun z => (Sum.inr (Sum.inr z) : MV)) (rf_0_7 Rh11)) ?_
        refine rn_aload_n dX11_game_38 rfl rfl ?_
        refine rn_get (v := .inr (.inr (some 1))) dX11_game_39 fl_X11_10 rfl rfl (congrArg (fun z => (Sum.inr (Sum.inr z) : MV)) (rf_0_0 Rh11)) ?_
        refine rn_iload_n dX11_game_42 rfl rfl ?_
        refine rn_iload_n dX11_game_43 rfl rfl ?_
        refine rn_iload_n dX11_game_44 rfl rfl ?_
        refine rn_cV (M' := mX1_play) (n := 4) (av := [.inr (.inr (some 1)), .inl a1, .inl a2, .inl a3]) (S := []) (rc := 0) (rs := 0) (mc := 0) (ms := 0) (a := 56) (ci := 1) (r := (RX1, TX1, 5)) dX11_game_45 pa_X1_play (Nat.le_refl _) rfl (Nat.le_of_ble_eq_true rfl) ml_X11_280 im_X1_play se_X1_play rfl rfl rfl (Ev.mono V ?_)
        rintro v sh1 h14 ⟨rfl, Rh14, x15, rfl, V⟩
        show Rn G (d + 1) 0 0 mX11_game 48 [(0, .inr (.inr (some 0))), (1, .inl a1), (2, .inl a2), (3, .inl a3), (4, .inl a4)] [.inl x15] SH h14 (QI Q)
        refine rn_istore (L' := [(5, .inl x15), (0, .inr (.inr (some 0))), (1, .inl a1), (2, .inl a2), (3, .inl a3), (4, .inl a4)]) dX11_game_48 (Nat.le_of_ble_eq_true rfl) rfl ?_
        refine rn_iload dX11_game_50 rfl ?_
        refine rn_if_ne (tgt := 60) dX11_game_52 (by decide) (fun c16 => ?_) (fun c16 => ?_)
        · replace V := V.1 c16
          refine rn_aload_n dX11_game_60 rfl rfl ?_
          refine rn_get (v := .inr (.inr (some 56))) dX11_game_61 fl_X11_50 rfl rfl (congrArg (fun z => (Sum.inr (Sum.inr z) : MV)) (rf_0_7 Rh14)) ?_
          refine rn_get (v := .inl (h14.1 56 0)) dX11_game_64 fl_X11_284 rfl rfl rfl ?_
          exact rn_iret dX11_game_67 rfl ⟨rfl, Rh14, _, rfl, V⟩
        · replace V := V.2 c16
          refine rn_iload dX11_game_55 rfl ?_
          refine rn_goto (tgt := 67) dX11_game_57 (by decide) ?_
          exact rn_iret dX11_game_67 rfl ⟨rfl, Rh14, _, rfl, V⟩
      · replace V := V.2 c13
        refine rn_aload_n dX11_game_28 rfl rfl ?_
        refine rn_iconst (v := 1) dX11_game_29 (by decide) ?_
        refine rn_cV (M' := mX11_refuse) (n := 1) (av := [.inl 1]) (S := []) (rc := 0) (rs := 0) (mc := 0) (ms := 0) (a := 0) (ci := 10) (r := (RX11, TX11, 12)) dX11_game_30 pa_X11_refuse (Nat.le_refl _) rfl (Nat.le_of_ble_eq_true rfl) ml_X11_87 im_X11_refuse se_X11_refuse rfl rfl rfl (Ev.mono V ?_)
        rintro v sh1 h17 ⟨rfl, Rh17, x18, rfl, V⟩
        show Rn G (d + 1) 0 0 mX11_game 33 [(0, .inr (.inr (some 0))), (1, .inl a1), (2, .inl a2), (3, .inl a3), (4, .inl a4)] [.inl x18] SH h17 (QI Q)
        exact rn_iret dX11_game_33 rfl ⟨rfl, Rh17, _, rfl, V⟩
set_option maxRecDepth 100000 in
set_option maxHeartbeats 4000000 in
theorem vc_X11_odds {G : GT} {d : Nat} {a1 : Int32} {a2 : Int32} {a3 : Int32} {a4 : Int32}  {h : Hp} {Q : Int64 → Hp → Prop} (hR : RF h) (V : EvI G d mX11_areTwo [.inr (.inr (some 0)), .inl a1, .inl a2] h (fun x2 h1 => ((x2 = 0 → EvI G d mX11_refuse [.inr (.inr (some 0)), .inl 1] h1 (fun x5 h4 => Q (Int32.toInt64 x5) h4)) ∧ (¬ x2 = 0 → EvI G d mX11_within [.inl a3, .inl 0, .inl 16] h1 (fun x7 h6 => ((x7 = 0 → EvI G d mX11_refuse [.inr (.inr (some 0)), .inl 1] h6 (fun x10 h9 => Q (Int32.toInt64 x10) h9)) ∧ (¬ x7 = 0 → EvI G d mX11_within [.inl a4, .inl 0, .inl 1] h6 (fun x12 h11 => ((¬ x12 = 0 → EvV G d mX7_weigh [.inr (.inr (some 78)), .inr (.inr (some 1)), .inl a1, .inl a2, .inl a3] h11 (fun h14 => EvL G d mX11_partOf [.inr (.inl (h14.2.1 78 0)), .inr (.inl (h14.2.1 78 1)), .inl a4] h14 (fun x16 h15 => Q x16 h15))) ∧ (x12 = 0 → EvI G d mX11_refuse [.inr (.inr (some 0)), .inl 1] h11 (fun x18 h17 => Q (Int32.toInt64 x18) h17))))))))))) : EvL G (d + 1) mX11_odds [.inr (.inr (some 0)), .inl a1, .inl a2, .inl a3, .inl a4] h Q := by
  refine Ev.of rfl (fun _ => Nat.le_of_ble_eq_true rfl) ?_
  show Rn G (d + 1) 0 0 mX11_odds 0 [(0, .inr (.inr (some 0))), (1, .inl a1), (2, .inl a2), (3, .inl a3), (4, .inl a4)] [] SH h (QL Q)
  refine rn_aload_n dX11_odds_0 rfl rfl ?_
  refine rn_iload_n dX11_odds_1 rfl rfl ?_
  refine rn_iload_n dX11_odds_2 rfl rfl ?_
  refine rn_cV (M' := mX11_areTwo) (n := 2) (av := [.inl a1, .inl a2]) (S := []) (rc := 0) (rs := 0) (mc := 0) (ms := 0) (a := 0) (ci := 10) (r := (RX11, TX11, 12)) dX11_odds_3 pa_X11_areTwo (Nat.le_refl _) rfl (Nat.le_of_ble_eq_true rfl) ml_X11_168 im_X11_areTwo se_X11_areTwo rfl rfl rfl (Ev.mono V ?_)
  rintro v sh1 h1 ⟨rfl, Rh1, x2, rfl, V⟩
  show Rn G (d + 1) 0 0 mX11_odds 6 [(0, .inr (.inr (some 0))), (1, .inl a1), (2, .inl a2), (3, .inl a3), (4, .inl a4)] [.inl x2] SH h1 (QL Q)
  refine rn_if_eq (tgt := 29) dX11_odds_6 (by decide) (fun c3 => ?_) (fun c3 => ?_)
  · replace V := V.1 c3
    refine rn_aload_n dX11_odds_29 rfl rfl ?_
    refine rn_iconst (v := 1) dX11_odds_30 (by decide) ?_
    refine rn_cV (M' := mX11_refuse) (n := 1) (av := [.inl 1]) (S := []) (rc := 0) (rs := 0) (mc := 0) (ms := 0) (a := 0) (ci := 10) (r := (RX11, TX11, 12)) dX11_odds_31 pa_X11_refuse (Nat.le_refl _) rfl (Nat.le_of_ble_eq_true rfl) ml_X11_87 im_X11_refuse se_X11_refuse rfl rfl rfl (Ev.mono V ?_)
    rintro v sh1 h4 ⟨rfl, Rh4, x5, rfl, V⟩
    show Rn G (d + 1) 0 0 mX11_odds 34 [(0, .inr (.inr (some 0))), (1, .inl a1), (2, .inl a2), (3, .inl a3), (4, .inl a4)] [.inl x5] SH h4 (QL Q)
    refine rn_i2l dX11_odds_34 ?_
    exact rn_lret dX11_odds_35 rfl ⟨rfl, Rh4, _, rfl, V⟩
  · replace V := V.2 c3
    refine rn_iload_n dX11_odds_9 rfl rfl ?_
    refine rn_iconst (v := 0) dX11_odds_10 (by decide) ?_
    refine rn_bipush (v := 16) dX11_odds_11 (by decide) ?_
    refine rn_cS (M' := mX11_within) (n := 3) (av := [.inl a3, .inl 0, .inl 16]) (S := []) (rc := 0) (rs := 0) (mc := 0) (ms := 0) dX11_odds_13 pa_X11_within (Nat.le_refl _) rfl (Nat.le_of_ble_eq_true rfl) ml_X11_83 ss_X11_within rfl (Ev.mono V ?_)
    rintro v sh1 h6 ⟨rfl, Rh6, x7, rfl, V⟩
    show Rn G (d + 1) 0 0 mX11_odds 16 [(0, .inr (.inr (some 0))), (1, .inl a1), (2, .inl a2), (3, .inl a3), (4, .inl a4)] [.inl x7] SH h6 (QL Q)
    refine rn_if_eq (tgt := 29) dX11_odds_16 (by decide) (fun c8 => ?_) (fun c8 => ?_)
    · replace V := V.1 c8
      refine rn_aload_n dX11_odds_29 rfl rfl ?_
      refine rn_iconst (v := 1) dX11_odds_30 (by decide) ?_
      refine rn_cV (M' := mX11_refuse) (n := 1) (av := [.inl 1]) (S := []) (rc := 0) (rs := 0) (mc := 0) (ms := 0) (a := 0) (ci := 10) (r := (RX11, TX11, 12)) dX11_odds_31 pa_X11_refuse (Nat.le_refl _) rfl (Nat.le_of_ble_eq_true rfl) ml_X11_87 im_X11_refuse se_X11_refuse rfl rfl rfl (Ev.mono V ?_)
      rintro v sh1 h9 ⟨rfl, Rh9, x10, rfl, V⟩
      show Rn G (d + 1) 0 0 mX11_odds 34 [(0, .inr (.inr (some 0))), (1, .inl a1), (2, .inl a2), (3, .inl a3), (4, .inl a4)] [.inl x10] SH h9 (QL Q)
      refine rn_i2l dX11_odds_34 ?_
      exact rn_lret dX11_odds_35 rfl ⟨rfl, Rh9, _, rfl, V⟩
    · replace V := V.2 c8
      refine rn_iload dX11_odds_19 rfl ?_
      refine rn_iconst (v := 0) dX11_odds_21 (by decide) ?_
      refine rn_iconst (v := 1) dX11_odds_22 (by decide) ?_
      refine rn_cS (M' := mX11_within) (n := 3) (av := [.inl a4, .inl 0, .inl 1]) (S := []) (rc := 0) (rs := 0) (mc := 0) (ms := 0) dX11_odds_23 pa_X11_within (Nat.le_refl _) rfl (Nat.le_of_ble_eq_true rfl) ml_X11_83 ss_X11_within rfl (Ev.mono V ?_)
      rintro v sh1 h11 ⟨rfl, Rh11, x12, rfl, V⟩
      show Rn G (d + 1) 0 0 mX11_odds 26 [(0, .inr (.inr (some 0))), (1, .inl a1), (2, .inl a2), (3, .inl a3), (4, .inl a4)] [.inl x12] SH h11 (QL Q)
      refine rn_if_ne (tgt := 36) dX11_odds_26 (by decide) (fun c13 => ?_) (fun c13 => ?_)
      · replace V := V.1 c13
        refine rn_aload_n dX11_odds_36 rfl rfl ?_
        refine rn_get (v := .inr (.inr (some 78))) dX11_odds_37 fl_X11_57 rfl rfl (congrArg (fun z => (Sum.inr (Sum.inr z) : MV)) (rf_0_8 Rh11)) ?_
        refine rn_aload_n dX11_odds_40 rfl rfl ?_
        refine rn_get (v := .inr (.inr (some 1))) dX11_odds_41 fl_X11_10 rfl rfl (congrArg (fun z => (Sum.inr (Sum.inr z) : MV)) (rf_0_0 Rh11)) ?_
        refine rn_iload_n dX11_odds_44 rfl rfl ?_
        refine rn_iload_n dX11_odds_45 rfl rfl ?_
        refine rn_iload_n dX11_odds_46 rfl rfl ?_
        refine rn_cV (M' := mX7_weigh) (n := 4) (av := [.inr (.inr (some 1)), .inl a1, .inl a2, .inl a3]) (S := []) (rc := 0) (rs := 0) (mc := 0) (ms := 0) (a := 78) (ci := 6) (r := (RX7, TX7, 6)) dX11_odds_47 pa_X7_weigh (Nat.le_refl _) rfl (Nat.le_of_ble_eq_true rfl) ml_X11_287 im_X7_weigh se_X7_weigh rfl rfl rfl (Ev.mono V ?_)
        rintro v sh1 h14 ⟨rfl, Rh14, rfl, V⟩
        show Rn G (d + 1) 0 0 mX11_odds 50 [(0, .inr (.inr (some 0))), (1, .inl a1), (2, .inl a2), (3, .inl a3), (4, .inl a4)] [] SH h14 (QL Q)
        refine rn_aload_n dX11_odds_50 rfl rfl ?_
        refine rn_get (v := .inr (.inr (some 78))) dX11_odds_51 fl_X11_57 rfl rfl (congrArg (fun z => (Sum.inr (Sum.inr z) : MV)) (rf_0_8 Rh14)) ?_
        refine rn_get (v := .inr (.inl (h14.2.1 78 0))) dX11_odds_54 fl_X11_290 rfl rfl rfl ?_
        refine rn_aload_n dX11_odds_57 rfl rfl ?_
        refine rn_get (v := .inr (.inr (some 78))) dX11_odds_58 fl_X11_57 rfl rfl (congrArg (fun z => (Sum.inr (Sum.inr z) : MV)) (rf_0_8 Rh14)) ?_
        refine rn_get (v := .inr (.inl (h14.2.1 78 1))) dX11_odds_61 fl_X11_293 rfl rfl rfl ?_
        refine rn_iload dX11_odds_64 rfl ?_
        refine rn_cS (M' := mX11_partOf) (n := 3) (av := [.inr (.inl (h14.2.1 78 0)), .inr (.inl (h14.2.1 78 1)), .inl a4]) (S := []) (rc := 0) (rs := 0) (mc := 0) (ms := 0) dX11_odds_66 pa_X11_partOf (Nat.le_refl _) rfl (Nat.le_of_ble_eq_true rfl) ml_X11_273 ss_X11_partOf rfl (Ev.mono V ?_)
        rintro v sh1 h15 ⟨rfl, Rh15, x16, rfl, V⟩
        show Rn G (d + 1) 0 0 mX11_odds 69 [(0, .inr (.inr (some 0))), (1, .inl a1), (2, .inl a2), (3, .inl a3), (4, .inl a4)] [.inr (.inl x16)] SH h15 (QL Q)
        exact rn_lret dX11_odds_69 rfl ⟨rfl, Rh15, _, rfl, V⟩
      · replace V := V.2 c13
        refine rn_aload_n dX11_odds_29 rfl rfl ?_
        refine rn_iconst (v := 1) dX11_odds_30 (by decide) ?_
        refine rn_cV (M' := mX11_refuse) (n := 1) (av := [.inl 1]) (S := []) (rc := 0) (rs := 0) (mc := 0) (ms := 0) (a := 0) (ci := 10) (r := (RX11, TX11, 12)) dX11_odds_31 pa_X11_refuse (Nat.le_refl _) rfl (Nat.le_of_ble_eq_true rfl) ml_X11_87 im_X11_refuse se_X11_refuse rfl rfl rfl (Ev.mono V ?_)
        rintro v sh1 h17 ⟨rfl, Rh17, x18, rfl, V⟩
        show Rn G (d + 1) 0 0 mX11_odds 34 [(0, .inr (.inr (some 0))), (1, .inl a1), (2, .inl a2), (3, .inl a3), (4, .inl a4)] [.inl x18] SH h17 (QL Q)
        refine rn_i2l dX11_odds_34 ?_
        exact rn_lret dX11_odds_35 rfl ⟨rfl, Rh17, _, rfl, V⟩
def Rg_X11_carried_57 (G : GT) (d : Nat) (l1 : Int32) (l2 : Int32) (l3 : Int32) (l4 : Int32) (l5 : Int32) (l6 : Int32) (l7 : Int32) (h : Hp) (Q : Int32 → Hp → Prop) : Prop := Rn G (d + 1) 0 0 mX11_carried 57 [(0, .inr (.inr (some 0))), (1, .inl l1), (2, .inl l2), (3, .inl l3), (4, .inl l4), (5, .inl l5), (6, .inl l6), (7, .inl l7)] [] SH h (QI Q)
set_option maxRecDepth 100000 in
set_option maxHeartbeats 4000000 in
theorem vc_X11_carried_57 {G : GT} {d : Nat} {l1 : Int32} {l2 : Int32} {l3 : Int32} {l4 : Int32} {l5 : Int32} {l6 : Int32} {l7 : Int32}  {h : Hp} {Q : Int32 → Hp → Prop} (hR : RF h) (V : vp_in l1 4 ∧ ((h.1 4 (Int32.toNatClampNeg l1) < l7 → ((¬ l4 = 0 → Q l6 h) ∧ (l4 = 0 → Q l5 h))) ∧ (¬ h.1 4 (Int32.toNatClampNeg l1) < l7 → EvI G d mX11_quotient [.inl l2, .inl (l3 * (2 + (l7 / 20)))] h (fun x24 h23 => ((¬ x24 = 0 → vp_in l1 4 ∧ EvI G d mX9_spillBy [.inr (.inr (some 1)), .inl l7, .inl l3, .inl (h23.1 3 (Int32.toNatClampNeg l1))] h23 (fun x27 h26 => (((x24 * (l7 - x27)) ≤ l6 → Rg_X11_carried_57 G d l1 l2 l3 l4 l5 l6 (l7 + 1) h26 Q) ∧ (¬ (x24 * (l7 - x27)) ≤ l6 → Rg_X11_carried_57 G d l1 l2 l3 l4 l7 (x24 * (l7 - x27)) (l7 + 1) h26 Q)))) ∧ (x24 = 0 → ((0 ≤ l6 → Rg_X11_carried_57 G d l1 l2 l3 l4 l5 l6 (l7 + 1) h23 Q) ∧ (¬ 0 ≤ l6 → Rg_X11_carried_57 G d l1 l2 l3 l4 l7 0 (l7 + 1) h23 Q)))))))) : Rg_X11_carried_57 G d l1 l2 l3 l4 l5 l6 l7 h Q := by
  show Rn G (d + 1) 0 0 mX11_carried 57 [(0, .inr (.inr (some 0))), (1, .inl l1), (2, .inl l2), (3, .inl l3), (4, .inl l4), (5, .inl l5), (6, .inl l6), (7, .inl l7)] [] SH h (QI Q)
  refine rn_iload dX11_carried_57 rfl ?_
  refine rn_aload_n dX11_carried_59 rfl rfl ?_
  refine rn_get (v := .inr (.inr (some 1))) dX11_carried_60 fl_X11_10 rfl rfl (congrArg (fun z => (Sum.inr (Sum.inr z) : MV)) (rf_0_0 hR)) ?_
  refine rn_get (v := .inr (.inr (some 4))) dX11_carried_63 fl_X11_108 rfl rfl (congrArg (fun z => (Sum.inr (Sum.inr z) : MV)) (rf_1_3 hR)) ?_
  refine rn_iload_n dX11_carried_66 rfl rfl ?_
  obtain ⟨g0, V⟩ := V
  refine rn_iald (k := (Int32.toNatClampNeg l1)) dX11_carried_67 rfl rfl g0 ?_
  refine rn_icmp_gt (tgt := 143) dX11_carried_68 (by decide) (fun c21 => ?_) (fun c21 => ?_)
  · replace V := V.1 c21
    refine rn_iload dX11_carried_143 rfl ?_
    refine rn_if_ne (tgt := 153) dX11_carried_145 (by decide) (fun c22 => ?_) (fun c22 => ?_)
    · replace V := V.1 c22
      refine rn_iload dX11_carried_153 rfl ?_
      exact rn_iret dX11_carried_155 rfl ⟨rfl, hR, _, rfl, V⟩
    · replace V := V.2 c22
      refine rn_iload dX11_carried_148 rfl ?_
      refine rn_goto (tgt := 155) dX11_carried_150 (by decide) ?_
      exact rn_iret dX11_carried_155 rfl ⟨rfl, hR, _, rfl, V⟩
  · replace V := V.2 c21
    refine rn_iload_n dX11_carried_71 rfl rfl ?_
    refine rn_iload_n dX11_carried_72 rfl rfl ?_
    refine rn_iconst (v := 2) dX11_carried_73 (by decide) ?_
    refine rn_iload dX11_carried_74 rfl ?_
    refine rn_bipush (v := 20) dX11_carried_76 (by decide) ?_
    refine rn_idiv dX11_carried_78 (by decide) ?_
    refine rn_iadd dX11_carried_79 ?_
    refine rn_imul dX11_carried_80 ?_
    refine rn_cS (M' := mX11_quotient) (n := 2) (av := [.inl l2, .inl (l3 * (2 + (l7 / 20)))]) (S := []) (rc := 0) (rs := 0) (mc := 0) (ms := 0) dX11_carried_81 pa_X11_quotient (Nat.le_refl _) rfl (Nat.le_of_ble_eq_true rfl) ml_X11_296 ss_X11_quotient rfl (Ev.mono V ?_)
    rintro v sh1 h23 ⟨rfl, Rh23, x24, rfl, V⟩
    show Rn G (d + 1) 0 0 mX11_carried 84 [(0, .inr (.inr (some 0))), (1, .inl l1), (2, .inl l2), (3, .inl l3), (4, .inl l4), (5, .inl l5), (6, .inl l6), (7, .inl l7)] [.inl x24] SH h23 (QI Q)
    refine rn_istore (L' := [(8, .inl x24), (0, .inr (.inr (some 0))), (1, .inl l1), (2, .inl l2), (3, .inl l3), (4, .inl l4), (5, .inl l5), (6, .inl l6), (7, .inl l7)]) dX11_carried_84 (Nat.le_of_ble_eq_true rfl) rfl ?_
    refine rn_iload dX11_carried_86 rfl ?_
    refine rn_if_ne (tgt := 95) dX11_carried_88 (by decide) (fun c25 => ?_) (fun c25 => ?_)
    · replace V := V.1 c25
      refine rn_iload dX11_carried_95 rfl ?_
      refine rn_iload dX11_carried_97 rfl ?_
      refine rn_aload_n dX11_carried_99 rfl rfl ?_
      refine rn_get (v := .inr (.inr (some 1))) dX11_carried_100 fl_X11_10 rfl rfl (congrArg (fun z => (Sum.inr (Sum.inr z) : MV)) (rf_0_0 Rh23)) ?_
      refine rn_iload dX11_carried_103 rfl ?_
      refine rn_iload_n dX11_carried_105 rfl rfl ?_
      refine rn_aload_n dX11_carried_106 rfl rfl ?_
      refine rn_get (v := .inr (.inr (some 1))) dX11_carried_107 fl_X11_10 rfl rfl (congrArg (fun z => (Sum.inr (Sum.inr z) : MV)) (rf_0_0 Rh23)) ?_
      refine rn_get (v := .inr (.inr (some 3))) dX11_carried_110 fl_X11_105 rfl rfl (congrArg (fun z => (Sum.inr (Sum.inr z) : MV)) (rf_1_2 Rh23)) ?_
      refine rn_iload_n dX11_carried_113 rfl rfl ?_
      obtain ⟨g0, V⟩ := V
      refine rn_iald (k := (Int32.toNatClampNeg l1)) dX11_carried_114 rfl rfl g0 ?_
      refine rn_cV (M' := mX9_spillBy) (n := 3) (av := [.inl l7, .inl l3, .inl (h23.1 3 (Int32.toNatClampNeg l1))]) (S := [.inl l7, .inl x24]) (rc := 0) (rs := 0) (mc := 0) (ms := 0) (a := 1) (ci := 8) (r := (RX9, TX9, 17)) dX11_carried_115 pa_X9_spillBy (Nat.le_refl _) rfl (Nat.le_of_ble_eq_true rfl) ml_X11_243 im_X9_spillBy se_X9_spillBy rfl rfl rfl (Ev.mono V ?_)
      rintro v sh1 h26 ⟨rfl, Rh26, x27, rfl, V⟩
      show Rn G (d + 1) 0 0 mX11_carried 118 [(8, .inl x24), (0, .inr (.inr (some 0))), (1, .inl l1), (2, .inl l2), (3, .inl l3), (4, .inl l4), (5, .inl l5), (6, .inl l6), (7, .inl l7)] [.inl x27, .inl l7, .inl x24] SH h26 (QI Q)
      refine rn_isub dX11_carried_118 ?_
      refine rn_imul dX11_carried_119 ?_
      refine rn_istore (L' := [(9, .inl (x24 * (l7 - x27))), (8, .inl x24), (0, .inr (.inr (some 0))), (1, .inl l1), (2, .inl l2), (3, .inl l3), (4, .inl l4), (5, .inl l5), (6, .inl l6), (7, .inl l7)]) dX11_carried_120 (Nat.le_of_ble_eq_true rfl) rfl ?_
      refine rn_iload dX11_carried_122 rfl ?_
      refine rn_iload dX11_carried_124 rfl ?_
      refine rn_icmp_le (tgt := 137) dX11_carried_126 (by decide) (fun c28 => ?_) (fun c28 => ?_)
      · replace V := V.1 c28
        refine rn_iinc (L' := [(7, .inl (l7 + 1)), (9, .inl (x24 * (l7 - x27))), (8, .inl x24), (0, .inr (.inr (some 0))), (1, .inl l1), (2, .inl l2), (3, .inl l3), (4, .inl l4), (5, .inl l5), (6, .inl l6)]) dX11_carried_137 rfl (v := (l7 + 1)) rfl (Nat.le_of_ble_eq_true rfl) rfl ?_
        refine rn_goto (tgt := 57) dX11_carried_140 (by decide) ?_
        refine rn_sub [3, 4, 5, 6, 7, 8, 9, 0] (L' := [(0, .inr (.inr (some 0))), (1, .inl l1), (2, .inl l2), (3, .inl l3), (4, .inl l4), (5, .inl l5), (6, .inl l6), (7, .inl (l7 + 1))]) rfl ?_
        exact V
      · replace V := V.2 c28
        refine rn_iload dX11_carried_129 rfl ?_
        refine rn_istore (L' := [(6, .inl (x24 * (l7 - x27))), (9, .inl (x24 * (l7 - x27))), (8, .inl x24), (0, .inr (.inr (some 0))), (1, .inl l1), (2, .inl l2), (3, .inl l3), (4, .inl l4), (5, .inl l5), (7, .inl l7)]) dX11_carried_131 (Nat.le_of_ble_eq_true rfl) rfl ?_
        refine rn_iload dX11_carried_133 rfl ?_
        refine rn_istore (L' := [(5, .inl l7), (6, .inl (x24 * (l7 - x27))), (9, .inl (x24 * (l7 - x27))), (8, .inl x24), (0, .inr (.inr (some 0))), (1, .inl l1), (2, .inl l2), (3, .inl l3), (4, .inl l4), (7, .inl l7)]) dX11_carried_135 (Nat.le_of_ble_eq_true rfl) rfl ?_
        refine rn_iinc (L' := [(7, .inl (l7 + 1)), (5, .inl l7), (6, .inl (x24 * (l7 - x27))), (9, .inl (x24 * (l7 - x27))), (8, .inl x24), (0, .inr (.inr (some 0))), (1, .inl l1), (2, .inl l2), (3, .inl l3), (4, .inl l4)]) dX11_carried_137 rfl (v := (l7 + 1)) rfl (Nat.le_of_ble_eq_true rfl) rfl ?_
        refine rn_goto (tgt := 57) dX11_carried_140 (by decide) ?_
        refine rn_sub [5, 6, 7, 8, 9, 1, 2, 0] (L' := [(0, .inr (.inr (some 0))), (1, .inl l1), (2, .inl l2), (3, .inl l3), (4, .inl l4), (5, .inl l7), (6, .inl (x24 * (l7 - x27))), (7, .inl (l7 + 1))]) rfl ?_
        exact V
    · replace V := V.2 c25
      refine rn_iconst (v := 0) dX11_carried_91 (by decide) ?_
      refine rn_goto (tgt := 120) dX11_carried_92 (by decide) ?_
      refine rn_istore (L' := [(9, .inl 0), (8, .inl x24), (0, .inr (.inr (some 0))), (1, .inl l1), (2, .inl l2), (3, .inl l3), (4, .inl l4), (5, .inl l5), (6, .inl l6), (7, .inl l7)]) dX11_carried_120 (Nat.le_of_ble_eq_true rfl) rfl ?_
      refine rn_iload dX11_carried_122 rfl ?_
      refine rn_iload dX11_carried_124 rfl ?_
      refine rn_icmp_le (tgt := 137) dX11_carried_126 (by decide) (fun c29 => ?_) (fun c29 => ?_)
      · replace V := V.1 c29
        refine rn_iinc (L' := [(7, .inl (l7 + 1)), (9, .inl 0), (8, .inl x24), (0, .inr (.inr (some 0))), (1, .inl l1), (2, .inl l2), (3, .inl l3), (4, .inl l4), (5, .inl l5), (6, .inl l6)]) dX11_carried_137 rfl (v := (l7 + 1)) rfl (Nat.le_of_ble_eq_true rfl) rfl ?_
        refine rn_goto (tgt := 57) dX11_carried_140 (by decide) ?_
        refine rn_sub [3, 4, 5, 6, 7, 8, 9, 0] (L' := [(0, .inr (.inr (some 0))), (1, .inl l1), (2, .inl l2), (3, .inl l3), (4, .inl l4), (5, .inl l5), (6, .inl l6), (7, .inl (l7 + 1))]) rfl ?_
        exact V
      · replace V := V.2 c29
        refine rn_iload dX11_carried_129 rfl ?_
        refine rn_istore (L' := [(6, .inl 0), (9, .inl 0), (8, .inl x24), (0, .inr (.inr (some 0))), (1, .inl l1), (2, .inl l2), (3, .inl l3), (4, .inl l4), (5, .inl l5), (7, .inl l7)]) dX11_carried_131 (Nat.le_of_ble_eq_true rfl) rfl ?_
        refine rn_iload dX11_carried_133 rfl ?_
        refine rn_istore (L' := [(5, .inl l7), (6, .inl 0), (9, .inl 0), (8, .inl x24), (0, .inr (.inr (some 0))), (1, .inl l1), (2, .inl l2), (3, .inl l3), (4, .inl l4), (7, .inl l7)]) dX11_carried_135 (Nat.le_of_ble_eq_true rfl) rfl ?_
        refine rn_iinc (L' := [(7, .inl (l7 + 1)), (5, .inl l7), (6, .inl 0), (9, .inl 0), (8, .inl x24), (0, .inr (.inr (some 0))), (1, .inl l1), (2, .inl l2), (3, .inl l3), (4, .inl l4)]) dX11_carried_137 rfl (v := (l7 + 1)) rfl (Nat.le_of_ble_eq_true rfl) rfl ?_
        refine rn_goto (tgt := 57) dX11_carried_140 (by decide) ?_
        refine rn_sub [5, 6, 7, 8, 9, 1, 2, 0] (L' := [(0, .inr (.inr (some 0))), (1, .inl l1), (2, .inl l2), (3, .inl l3), (4, .inl l4), (5, .inl l7), (6, .inl 0), (7, .inl (l7 + 1))]) rfl ?_
        exact V
set_option maxRecDepth 100000 in
set_option maxHeartbeats 4000000 in
theorem vc_X11_carried {G : GT} {d : Nat} {a1 : Int32} {a2 : Int32} {a3 : Int32} {a4 : Int32}  {h : Hp} {Q : Int32 → Hp → Prop} (hR : RF h) (V : EvI G d mX9_hasParty [.inr (.inr (some 1)), .inl a1] h (fun x2 h1 => ((x2 = 0 → EvI G d mX11_refuse [.inr (.inr (some 0)), .inl 1] h1 (fun x5 h4 => Q x5 h4)) ∧ (¬ x2 = 0 → EvI G d mX11_within [.inl a2, .inl 1, .inl 9999] h1 (fun x7 h6 => ((x7 = 0 → EvI G d mX11_refuse [.inr (.inr (some 0)), .inl 1] h6 (fun x10 h9 => Q x10 h9)) ∧ (¬ x7 = 0 → EvI G d mX11_within [.inl a3, .inl 1, .inl 99] h6 (fun x12 h11 => ((x12 = 0 → EvI G d mX11_refuse [.inr (.inr (some 0)), .inl 1] h11 (fun x15 h14 => Q x15 h14)) ∧ (¬ x12 = 0 → EvI G d mX11_within [.inl a4, .inl 0, .inl 1] h11 (fun x17 h16 => ((¬ x17 = 0 → Rg_X11_carried_57 G d a1 a2 a3 a4 0 (-1) 1 h16 Q) ∧ (x17 = 0 → EvI G d mX11_refuse [.inr (.inr (some 0)), .inl 1] h16 (fun x20 h19 => Q x20 h19)))))))))))))) : EvI G (d + 1) mX11_carried [.inr (.inr (some 0)), .inl a1, .inl a2, .inl a3, .inl a4] h Q := by
  refine Ev.of rfl (fun _ => Nat.le_of_ble_eq_true rfl) ?_
  show Rn G (d + 1) 0 0 mX11_carried 0 [(0, .inr (.inr (some 0))), (1, .inl a1), (2, .inl a2), (3, .inl a3), (4, .inl a4)] [] SH h (QI Q)
  refine rn_aload_n dX11_carried_0 rfl rfl ?_
  refine rn_get (v := .inr (.inr (some 1))) dX11_carried_1 fl_X11_10 rfl rfl (congrArg (fun z => (Sum.inr (Sum.inr z) : MV)) (rf_0_0 hR)) ?_
  refine rn_iload_n dX11_carried_4 rfl rfl ?_
  refine rn_cV (M' := mX9_hasParty) (n := 1) (av := [.inl a1]) (S := []) (rc := 0) (rs := 0) (mc := 0) (ms := 0) (a := 1) (ci := 8) (r := (RX9, TX9, 17)) dX11_carried_5 pa_X9_hasParty (Nat.le_refl _) rfl (Nat.le_of_ble_eq_true rfl) ml_X11_99 im_X9_hasParty se_X9_hasParty rfl rfl rfl (Ev.mono V ?_)
  rintro v sh1 h1 ⟨rfl, Rh1, x2, rfl, V⟩
  show Rn G (d + 1) 0 0 mX11_carried 8 [(0, .inr (.inr (some 0))), (1, .inl a1), (2, .inl a2), (3, .inl a3), (4, .inl a4)] [.inl x2] SH h1 (QI Q)
  refine rn_if_eq (tgt := 42) dX11_carried_8 (by decide) (fun c3 => ?_) (fun c3 => ?_)
  · replace V := V.1 c3
    refine rn_aload_n dX11_carried_42 rfl rfl ?_
    refine rn_iconst (v := 1) dX11_carried_43 (by decide) ?_
    refine rn_cV (M' := mX11_refuse) (n := 1) (av := [.inl 1]) (S := []) (rc := 0) (rs := 0) (mc := 0) (ms := 0) (a := 0) (ci := 10) (r := (RX11, TX11, 12)) dX11_carried_44 pa_X11_refuse (Nat.le_refl _) rfl (Nat.le_of_ble_eq_true rfl) ml_X11_87 im_X11_refuse se_X11_refuse rfl rfl rfl (Ev.mono V ?_)
    rintro v sh1 h4 ⟨rfl, Rh4, x5, rfl, V⟩
    show Rn G (d + 1) 0 0 mX11_carried 47 [(0, .inr (.inr (some 0))), (1, .inl a1), (2, .inl a2), (3, .inl a3), (4, .inl a4)] [.inl x5] SH h4 (QI Q)
    exact rn_iret dX11_carried_47 rfl ⟨rfl, Rh4, _, rfl, V⟩
  · replace V := V.2 c3
    refine rn_iload_n dX11_carried_11 rfl rfl ?_
    refine rn_iconst (v := 1) dX11_carried_12 (by decide) ?_
    refine rn_sipush (v := 9999) dX11_carried_13 (by decide) ?_
    refine rn_cS (M' := mX11_within) (n := 3) (av := [.inl a2, .inl 1, .inl 9999]) (S := []) (rc := 0) (rs := 0) (mc := 0) (ms := 0) dX11_carried_16 pa_X11_within (Nat.le_refl _) rfl (Nat.le_of_ble_eq_true rfl) ml_X11_83 ss_X11_within rfl (Ev.mono V ?_)
    rintro v sh1 h6 ⟨rfl, Rh6, x7, rfl, V⟩
    show Rn G (d + 1) 0 0 mX11_carried 19 [(0, .inr (.inr (some 0))), (1, .inl a1), (2, .inl a2), (3, .inl a3), (4, .inl a4)] [.inl x7] SH h6 (QI Q)
    refine rn_if_eq (tgt := 42) dX11_carried_19 (by decide) (fun c8 => ?_) (fun c8 => ?_)
    · replace V := V.1 c8
      refine rn_aload_n dX11_carried_42 rfl rfl ?_
      refine rn_iconst (v := 1) dX11_carried_43 (by decide) ?_
      refine rn_cV (M' := mX11_refuse) (n := 1) (av := [.inl 1]) (S := []) (rc := 0) (rs := 0) (mc := 0) (ms := 0) (a := 0) (ci := 10) (r := (RX11, TX11, 12)) dX11_carried_44 pa_X11_refuse (Nat.le_refl _) rfl (Nat.le_of_ble_eq_true rfl) ml_X11_87 im_X11_refuse se_X11_refuse rfl rfl rfl (Ev.mono V ?_)
      rintro v sh1 h9 ⟨rfl, Rh9, x10, rfl, V⟩
      show Rn G (d + 1) 0 0 mX11_carried 47 [(0, .inr (.inr (some 0))), (1, .inl a1), (2, .inl a2), (3, .inl a3), (4, .inl a4)] [.inl x10] SH h9 (QI Q)
      exact rn_iret dX11_carried_47 rfl ⟨rfl, Rh9, _, rfl, V⟩
    · replace V := V.2 c8
      refine rn_iload_n dX11_carried_22 rfl rfl ?_
      refine rn_iconst (v := 1) dX11_carried_23 (by decide) ?_
      refine rn_bipush (v := 99) dX11_carried_24 (by decide) ?_
      refine rn_cS (M' := mX11_within) (n := 3) (av := [.inl a3, .inl 1, .inl 99]) (S := []) (rc := 0) (rs := 0) (mc := 0) (ms := 0) dX11_carried_26 pa_X11_within (Nat.le_refl _) rfl (Nat.le_of_ble_eq_true rfl) ml_X11_83 ss_X11_within rfl (Ev.mono V ?_)
      rintro v sh1 h11 ⟨rfl, Rh11, x12, rfl, V⟩
      show Rn G (d + 1) 0 0 mX11_carried 29 [(0, .inr (.inr (some 0))), (1, .inl a1), (2, .inl a2), (3, .inl a3), (4, .inl a4)] [.inl x12] SH h11 (QI Q)
      refine rn_if_eq (tgt := 42) dX11_carried_29 (by decide) (fun c13 => ?_) (fun c13 => ?_)
      · replace V := V.1 c13
        refine rn_aload_n dX11_carried_42 rfl rfl ?_
        refine rn_iconst (v := 1) dX11_carried_43 (by decide) ?_
        refine rn_cV (M' := mX11_refuse) (n := 1) (av := [.inl 1]) (S := []) (rc := 0) (rs := 0) (mc := 0) (ms := 0) (a := 0) (ci := 10) (r := (RX11, TX11, 12)) dX11_carried_44 pa_X11_refuse (Nat.le_refl _) rfl (Nat.le_of_ble_eq_true rfl) ml_X11_87 im_X11_refuse se_X11_refuse rfl rfl rfl (Ev.mono V ?_)
        rintro v sh1 h14 ⟨rfl, Rh14, x15, rfl, V⟩
        show Rn G (d + 1) 0 0 mX11_carried 47 [(0, .inr (.inr (some 0))), (1, .inl a1), (2, .inl a2), (3, .inl a3), (4, .inl a4)] [.inl x15] SH h14 (QI Q)
        exact rn_iret dX11_carried_47 rfl ⟨rfl, Rh14, _, rfl, V⟩
      · replace V := V.2 c13
        refine rn_iload dX11_carried_32 rfl ?_
        refine rn_iconst (v := 0) dX11_carried_34 (by decide) ?_
        refine rn_iconst (v := 1) dX11_carried_35 (by decide) ?_
        refine rn_cS (M' := mX11_within) (n := 3) (av := [.inl a4, .inl 0, .inl 1]) (S := []) (rc := 0) (rs := 0) (mc := 0) (ms := 0) dX11_carried_36 pa_X11_within (Nat.le_refl _) rfl (Nat.le_of_ble_eq_true rfl) ml_X11_83 ss_X11_within rfl (Ev.mono V ?_)
        rintro v sh1 h16 ⟨rfl, Rh16, x17, rfl, V⟩
        show Rn G (d + 1) 0 0 mX11_carried 39 [(0, .inr (.inr (some 0))), (1, .inl a1), (2, .inl a2), (3, .inl a3), (4, .inl a4)] [.inl x17] SH h16 (QI Q)
        refine rn_if_ne (tgt := 48) dX11_carried_39 (by decide) (fun c18 => ?_) (fun c18 => ?_)
        · replace V := V.1 c18
          refine rn_iconst (v := 0) dX11_carried_48 (by decide) ?_
          refine rn_istore (L' := [(5, .inl 0), (0, .inr (.inr (some 0))), (1, .inl a1), (2, .inl a2), (3, .inl a3), (4, .inl a4)]) dX11_carried_49 (Nat.le_of_ble_eq_true rfl) rfl ?_
          refine rn_iconst (v := (-1)) dX11_carried_51 (by decide) ?_
          refine rn_istore (L' := [(6, .inl (-1)), (5, .inl 0), (0, .inr (.inr (some 0))), (1, .inl a1), (2, .inl a2), (3, .inl a3), (4, .inl a4)]) dX11_carried_52 (Nat.le_of_ble_eq_true rfl) rfl ?_
          refine rn_iconst (v := 1) dX11_carried_54 (by decide) ?_
          refine rn_istore (L' := [(7, .inl 1), (6, .inl (-1)), (5, .inl 0), (0, .inr (.inr (some 0))), (1, .inl a1), (2, .inl a2), (3, .inl a3), (4, .inl a4)]) dX11_carried_55 (Nat.le_of_ble_eq_true rfl) rfl ?_
          refine rn_sub [3, 4, 5, 6, 7, 2, 1, 0] (L' := [(0, .inr (.inr (some 0))), (1, .inl a1), (2, .inl a2), (3, .inl a3), (4, .inl a4), (5, .inl 0), (6, .inl (-1)), (7, .inl 1)]) rfl ?_
          exact V
        · replace V := V.2 c18
          refine rn_aload_n dX11_carried_42 rfl rfl ?_
          refine rn_iconst (v := 1) dX11_carried_43 (by decide) ?_
          refine rn_cV (M' := mX11_refuse) (n := 1) (av := [.inl 1]) (S := []) (rc := 0) (rs := 0) (mc := 0) (ms := 0) (a := 0) (ci := 10) (r := (RX11, TX11, 12)) dX11_carried_44 pa_X11_refuse (Nat.le_refl _) rfl (Nat.le_of_ble_eq_true rfl) ml_X11_87 im_X11_refuse se_X11_refuse rfl rfl rfl (Ev.mono V ?_)
          rintro v sh1 h19 ⟨rfl, Rh19, x20, rfl, V⟩
          show Rn G (d + 1) 0 0 mX11_carried 47 [(0, .inr (.inr (some 0))), (1, .inl a1), (2, .inl a2), (3, .inl a3), (4, .inl a4)] [.inl x20] SH h19 (QI Q)
          exact rn_iret dX11_carried_47 rfl ⟨rfl, Rh19, _, rfl, V⟩
def Rg_X11_explained_61 (G : GT) (d : Nat) (l1 : Int32) (l2 : Int32) (l3 : Int32) (l4 : Int32) (l5 : Int32) (h : Hp) (Q : Int32 → Hp → Prop) : Prop := Rn G (d + 1) 0 0 mX11_explained 61 [(0, .inr (.inr (some 0))), (1, .inl l1), (2, .inl l2), (3, .inl l3), (4, .inl l4), (5, .inl l5)] [] SH h (QI Q)
set_option maxRecDepth 100000 in
set_option maxHeartbeats 4000000 in
theorem vc_X11_explained_61 {G : GT} {d : Nat} {l1 : Int32} {l2 : Int32} {l3 : Int32} {l4 : Int32} {l5 : Int32}  {h : Hp} {Q : Int32 → Hp → Prop} (hR : RF h) (V : ((9 < l5 → vp_in l1 4 ∧ ((¬ l4 = (-1) → Q l4 (sI h 3 (Int32.toNatClampNeg l1) l3)) ∧ (l4 = (-1) → EvI G d mX11_refuse [.inr (.inr (some 0)), .inl 2] (sI h 3 (Int32.toNatClampNeg l1) l3) (fun x19 h18 => Q x19 h18)))) ∧ (¬ 9 < l5 → ((¬ l4 = (-1) → vp_in l1 4 ∧ ((¬ l4 = (-1) → Q l4 (sI h 3 (Int32.toNatClampNeg l1) l3)) ∧ (l4 = (-1) → EvI G d mX11_refuse [.inr (.inr (some 0)), .inl 2] (sI h 3 (Int32.toNatClampNeg l1) l3) (fun x23 h22 => Q x23 h22)))) ∧ (l4 = (-1) → vp_in l1 4 ∧ vp_in l2 4 ∧ ∃ r24 : Nat, h.2.2 88 (Int32.toNatClampNeg l2) = some r24 ∧ SH[r24]? = some (.inr (0, 40)) ∧ vp_in l2 4 ∧ EvI G d mX11_firstUnlike [.inr (.inr (some 0)), .inr (.inr (some r24)), .inl (h.1 87 (Int32.toNatClampNeg l2))] (sI h 3 (Int32.toNatClampNeg l1) l5) (fun x26 h25 => ((¬ x26 = (-1) → Rg_X11_explained_61 G d l1 l2 l3 l4 (l5 + 1) h25 Q) ∧ (x26 = (-1) → Rg_X11_explained_61 G d l1 l2 l3 l5 (l5 + 1) h25 Q)))))))) : Rg_X11_explained_61 G d l1 l2 l3 l4 l5 h Q := by
  show Rn G (d + 1) 0 0 mX11_explained 61 [(0, .inr (.inr (some 0))), (1, .inl l1), (2, .inl l2), (3, .inl l3), (4, .inl l4), (5, .inl l5)] [] SH h (QI Q)
  refine rn_iload dX11_explained_61 rfl ?_
  refine rn_bipush (v := 9) dX11_explained_63 (by decide) ?_
  refine rn_icmp_gt (tgt := 121) dX11_explained_65 (by decide) (fun c16 => ?_) (fun c16 => ?_)
  · replace V := V.1 c16
    refine rn_aload_n dX11_explained_121 rfl rfl ?_
    refine rn_get (v := .inr (.inr (some 1))) dX11_explained_122 fl_X11_10 rfl rfl (congrArg (fun z => (Sum.inr (Sum.inr z) : MV)) (rf_0_0 hR)) ?_
    refine rn_get (v := .inr (.inr (some 3))) dX11_explained_125 fl_X11_105 rfl rfl (congrArg (fun z => (Sum.inr (Sum.inr z) : MV)) (rf_1_2 hR)) ?_
    refine rn_iload_n dX11_explained_128 rfl rfl ?_
    refine rn_iload_n dX11_explained_129 rfl rfl ?_
    obtain ⟨g0, V⟩ := V
    refine rn_iast (k := (Int32.toNatClampNeg l1)) dX11_explained_130 rfl rfl g0 ?_
    refine rn_iload dX11_explained_131 rfl ?_
    refine rn_iconst (v := (-1)) dX11_explained_133 (by decide) ?_
    refine rn_icmp_ne (tgt := 145) dX11_explained_134 (by decide) (fun c17 => ?_) (fun c17 => ?_)
    · replace V := V.1 c17
      refine rn_iload dX11_explained_145 rfl ?_
      exact rn_iret dX11_explained_147 rfl ⟨rfl, hR, _, rfl, V⟩
    · replace V := V.2 c17
      refine rn_aload_n dX11_explained_137 rfl rfl ?_
      refine rn_iconst (v := 2) dX11_explained_138 (by decide) ?_
      refine rn_cV (M' := mX11_refuse) (n := 1) (av := [.inl 2]) (S := []) (rc := 0) (rs := 0) (mc := 0) (ms := 0) (a := 0) (ci := 10) (r := (RX11, TX11, 12)) dX11_explained_139 pa_X11_refuse (Nat.le_refl _) rfl (Nat.le_of_ble_eq_true rfl) ml_X11_87 im_X11_refuse se_X11_refuse rfl rfl rfl (Ev.mono V ?_)
      rintro v sh1 h18 ⟨rfl, Rh18, x19, rfl, V⟩
      show Rn G (d + 1) 0 0 mX11_explained 142 [(0, .inr (.inr (some 0))), (1, .inl l1), (2, .inl l2), (3, .inl l3), (4, .inl l4), (5, .inl l5)] [.inl x19] SH h18 (QI Q)
      refine rn_goto (tgt := 147) dX11_explained_142 (by decide) ?_
      exact rn_iret dX11_explained_147 rfl ⟨rfl, Rh18, _, rfl, V⟩
  · replace V := V.2 c16
    refine rn_iload dX11_explained_68 rfl ?_
    refine rn_iconst (v := (-1)) dX11_explained_70 (by decide) ?_
    refine rn_icmp_ne (tgt := 121) dX11_explained_71 (by decide) (fun c20 => ?_) (fun c20 => ?_)
    · replace V := V.1 c20
      refine rn_aload_n dX11_explained_121 rfl rfl ?_
      refine rn_get (v := .inr (.inr (some 1))) dX11_explained_122 fl_X11_10 rfl rfl (congrArg (fun z => (Sum.inr (Sum.inr z) : MV)) (rf_0_0 hR)) ?_
      refine rn_get (v := .inr (.inr (some 3))) dX11_explained_125 fl_X11_105 rfl rfl (congrArg (fun z => (Sum.inr (Sum.inr z) : MV)) (rf_1_2 hR)) ?_
      refine rn_iload_n dX11_explained_128 rfl rfl ?_
      refine rn_iload_n dX11_explained_129 rfl rfl ?_
      obtain ⟨g0, V⟩ := V
      refine rn_iast (k := (Int32.toNatClampNeg l1)) dX11_explained_130 rfl rfl g0 ?_
      refine rn_iload dX11_explained_131 rfl ?_
      refine rn_iconst (v := (-1)) dX11_explained_133 (by decide) ?_
      refine rn_icmp_ne (tgt := 145) dX11_explained_134 (by decide) (fun c21 => ?_) (fun c21 => ?_)
      · replace V := V.1 c21
        refine rn_iload dX11_explained_145 rfl ?_
        exact rn_iret dX11_explained_147 rfl ⟨rfl, hR, _, rfl, V⟩
      · replace V := V.2 c21
        refine rn_aload_n dX11_explained_137 rfl rfl ?_
        refine rn_iconst (v := 2) dX11_explained_138 (by decide) ?_
        refine rn_cV (M' := mX11_refuse) (n := 1) (av := [.inl 2]) (S := []) (rc := 0) (rs := 0) (mc := 0) (ms := 0) (a := 0) (ci := 10) (r := (RX11, TX11, 12)) dX11_explained_139 pa_X11_refuse (Nat.le_refl _) rfl (Nat.le_of_ble_eq_true rfl) ml_X11_87 im_X11_refuse se_X11_refuse rfl rfl rfl (Ev.mono V ?_)
        rintro v sh1 h22 ⟨rfl, Rh22, x23, rfl, V⟩
        show Rn G (d + 1) 0 0 mX11_explained 142 [(0, .inr (.inr (some 0))), (1, .inl l1), (2, .inl l2), (3, .inl l3), (4, .inl l4), (5, .inl l5)] [.inl x23] SH h22 (QI Q)
        refine rn_goto (tgt := 147) dX11_explained_142 (by decide) ?_
        exact rn_iret dX11_explained_147 rfl ⟨rfl, Rh22, _, rfl, V⟩
    · replace V := V.2 c20
      refine rn_aload_n dX11_explained_74 rfl rfl ?_
      refine rn_get (v := .inr (.inr (some 1))) dX11_explained_75 fl_X11_10 rfl rfl (congrArg (fun z => (Sum.inr (Sum.inr z) : MV)) (rf_0_0 hR)) ?_
      refine rn_get (v := .inr (.inr (some 3))) dX11_explained_78 fl_X11_105 rfl rfl (congrArg (fun z => (Sum.inr (Sum.inr z) : MV)) (rf_1_2 hR)) ?_
      refine rn_iload_n dX11_explained_81 rfl rfl ?_
      refine rn_iload dX11_explained_82 rfl ?_
      obtain ⟨g0, V⟩ := V
      refine rn_iast (k := (Int32.toNatClampNeg l1)) dX11_explained_84 rfl rfl g0 ?_
      refine rn_aload_n dX11_explained_85 rfl rfl ?_
      refine rn_aload_n dX11_explained_86 rfl rfl ?_
      refine rn_get (v := .inr (.inr (some 85))) dX11_explained_87 fl_X11_71 rfl rfl (congrArg (fun z => (Sum.inr (Sum.inr z) : MV)) (rf_0_10 hR)) ?_
      refine rn_get (v := .inr (.inr (some 88))) dX11_explained_90 fl_X11_305 rfl rfl (congrArg (fun z => (Sum.inr (Sum.inr z) : MV)) (rf_85_2 hR)) ?_
      refine rn_iload_n dX11_explained_93 rfl rfl ?_
      obtain ⟨g0, V⟩ := V
      obtain ⟨r24, g, hr24, V⟩ := V
      refine rn_aald3 (k := (Int32.toNatClampNeg l2)) dX11_explained_94 rfl rfl g0 g ?_
      refine rn_aload_n dX11_explained_95 rfl rfl ?_
      refine rn_get (v := .inr (.inr (some 85))) dX11_explained_96 fl_X11_71 rfl rfl (congrArg (fun z => (Sum.inr (Sum.inr z) : MV)) (rf_0_10 hR)) ?_
      refine rn_get (v := .inr (.inr (some 87))) dX11_explained_99 fl_X11_309 rfl rfl (congrArg (fun z => (Sum.inr (Sum.inr z) : MV)) (rf_85_1 hR)) ?_
      refine rn_iload_n dX11_explained_102 rfl rfl ?_
      obtain ⟨g0, V⟩ := V
      refine rn_iald (k := (Int32.toNatClampNeg l2)) dX11_explained_103 rfl rfl g0 ?_
      refine rn_cV (M' := mX11_firstUnlike) (n := 2) (av := [.inr (.inr (some r24)), .inl (h.1 87 (Int32.toNatClampNeg l2))]) (S := []) (rc := 0) (rs := 0) (mc := 0) (ms := 0) (a := 0) (ci := 10) (r := (RX11, TX11, 12)) dX11_explained_104 pa_X11_firstUnlike (Nat.le_refl _) rfl (Nat.le_of_ble_eq_true rfl) ml_X11_312 im_X11_firstUnlike se_X11_firstUnlike rfl rfl rfl (Ev.mono V ?_)
      rintro v sh1 h25 ⟨rfl, Rh25, x26, rfl, V⟩
      show Rn G (d + 1) 0 0 mX11_explained 107 [(0, .inr (.inr (some 0))), (1, .inl l1), (2, .inl l2), (3, .inl l3), (4, .inl l4), (5, .inl l5)] [.inl x26] SH h25 (QI Q)
      refine rn_iconst (v := (-1)) dX11_explained_107 (by decide) ?_
      refine rn_icmp_ne (tgt := 115) dX11_explained_108 (by decide) (fun c27 => ?_) (fun c27 => ?_)
      · replace V := V.1 c27
        refine rn_iinc (L' := [(5, .inl (l5 + 1)), (0, .inr (.inr (some 0))), (1, .inl l1), (2, .inl l2), (3, .inl l3), (4, .inl l4)]) dX11_explained_115 rfl (v := (l5 + 1)) rfl (Nat.le_of_ble_eq_true rfl) rfl ?_
        refine rn_goto (tgt := 61) dX11_explained_118 (by decide) ?_
        refine rn_sub [1, 2, 3, 4, 5, 0] (L' := [(0, .inr (.inr (some 0))), (1, .inl l1), (2, .inl l2), (3, .inl l3), (4, .inl l4), (5, .inl (l5 + 1))]) rfl ?_
        exact V
      · replace V := V.2 c27
        refine rn_iload dX11_explained_111 rfl ?_
        refine rn_istore (L' := [(4, .inl l5), (0, .inr (.inr (some 0))), (1, .inl l1), (2, .inl l2), (3, .inl l3), (5, .inl l5)]) dX11_explained_113 (Nat.le_of_ble_eq_true rfl) rfl ?_
        refine rn_iinc (L' := [(5, .inl (l5 + 1)), (4, .inl l5), (0, .inr (.inr (some 0))), (1, .inl l1), (2, .inl l2), (3, .inl l3)]) dX11_explained_115 rfl (v := (l5 + 1)) rfl (Nat.le_of_ble_eq_true rfl) rfl ?_
        refine rn_goto (tgt := 61) dX11_explained_118 (by decide) ?_
        refine rn_sub [2, 3, 4, 5, 1, 0] (L' := [(0, .inr (.inr (some 0))), (1, .inl l1), (2, .inl l2), (3, .inl l3), (4, .inl l5), (5, .inl (l5 + 1))]) rfl ?_
        exact V
set_option maxRecDepth 100000 in
set_option maxHeartbeats 4000000 in
theorem vc_X11_explained {G : GT} {d : Nat} {a1 : Int32} {a2 : Int32}  {h : Hp} {Q : Int32 → Hp → Prop} (hR : RF h) (V : EvI G d mX9_hasParty [.inr (.inr (some 1)), .inl a1] h (fun x2 h1 => ((x2 = 0 → EvI G d mX11_refuse [.inr (.inr (some 0)), .inl 1] h1 (fun x5 h4 => Q x5 h4)) ∧ (¬ x2 = 0 → EvI G d mX8_has [.inr (.inr (some 85)), .inl a2] h1 (fun x7 h6 => ((¬ x7 = 0 → EvI G d mX8_isMissing [.inr (.inr (some 85)), .inl a2] h6 (fun x10 h9 => ((x10 = 0 → vp_in a1 4 ∧ Rg_X11_explained_61 G d a1 a2 (h9.1 3 (Int32.toNatClampNeg a1)) (-1) 0 h9 Q) ∧ (¬ x10 = 0 → EvI G d mX11_refuse [.inr (.inr (some 0)), .inl 2] h9 (fun x13 h12 => Q x13 h12))))) ∧ (x7 = 0 → EvI G d mX11_refuse [.inr (.inr (some 0)), .inl 1] h6 (fun x15 h14 => Q x15 h14)))))))) : EvI G (d + 1) mX11_explained [.inr (.inr (some 0)), .inl a1, .inl a2] h Q := by
  refine Ev.of rfl (fun _ => Nat.le_of_ble_eq_true rfl) ?_
  show Rn G (d + 1) 0 0 mX11_explained 0 [(0, .inr (.inr (some 0))), (1, .inl a1), (2, .inl a2)] [] SH h (QI Q)
  refine rn_aload_n dX11_explained_0 rfl rfl ?_
  refine rn_get (v := .inr (.inr (some 1))) dX11_explained_1 fl_X11_10 rfl rfl (congrArg (fun z => (Sum.inr (Sum.inr z) : MV)) (rf_0_0 hR)) ?_
  refine rn_iload_n dX11_explained_4 rfl rfl ?_
  refine rn_cV (M' := mX9_hasParty) (n := 1) (av := [.inl a1]) (S := []) (rc := 0) (rs := 0) (mc := 0) (ms := 0) (a := 1) (ci := 8) (r := (RX9, TX9, 17)) dX11_explained_5 pa_X9_hasParty (Nat.le_refl _) rfl (Nat.le_of_ble_eq_true rfl) ml_X11_99 im_X9_hasParty se_X9_hasParty rfl rfl rfl (Ev.mono V ?_)
  rintro v sh1 h1 ⟨rfl, Rh1, x2, rfl, V⟩
  show Rn G (d + 1) 0 0 mX11_explained 8 [(0, .inr (.inr (some 0))), (1, .inl a1), (2, .inl a2)] [.inl x2] SH h1 (QI Q)
  refine rn_if_eq (tgt := 22) dX11_explained_8 (by decide) (fun c3 => ?_) (fun c3 => ?_)
  · replace V := V.1 c3
    refine rn_aload_n dX11_explained_22 rfl rfl ?_
    refine rn_iconst (v := 1) dX11_explained_23 (by decide) ?_
    refine rn_cV (M' := mX11_refuse) (n := 1) (av := [.inl 1]) (S := []) (rc := 0) (rs := 0) (mc := 0) (ms := 0) (a := 0) (ci := 10) (r := (RX11, TX11, 12)) dX11_explained_24 pa_X11_refuse (Nat.le_refl _) rfl (Nat.le_of_ble_eq_true rfl) ml_X11_87 im_X11_refuse se_X11_refuse rfl rfl rfl (Ev.mono V ?_)
    rintro v sh1 h4 ⟨rfl, Rh4, x5, rfl, V⟩
    show Rn G (d + 1) 0 0 mX11_explained 27 [(0, .inr (.inr (some 0))), (1, .inl a1), (2, .inl a2)] [.inl x5] SH h4 (QI Q)
    exact rn_iret dX11_explained_27 rfl ⟨rfl, Rh4, _, rfl, V⟩
  · replace V := V.2 c3
    refine rn_aload_n dX11_explained_11 rfl rfl ?_
    refine rn_get (v := .inr (.inr (some 85))) dX11_explained_12 fl_X11_71 rfl rfl (congrArg (fun z => (Sum.inr (Sum.inr z) : MV)) (rf_0_10 Rh1)) ?_
    refine rn_iload_n dX11_explained_15 rfl rfl ?_
    refine rn_cV (M' := mX8_has) (n := 1) (av := [.inl a2]) (S := []) (rc := 0) (rs := 0) (mc := 0) (ms := 0) (a := 85) (ci := 7) (r := (RX8, TX8, 3)) dX11_explained_16 pa_X8_has (Nat.le_refl _) rfl (Nat.le_of_ble_eq_true rfl) ml_X11_299 im_X8_has se_X8_has rfl rfl rfl (Ev.mono V ?_)
    rintro v sh1 h6 ⟨rfl, Rh6, x7, rfl, V⟩
    show Rn G (d + 1) 0 0 mX11_explained 19 [(0, .inr (.inr (some 0))), (1, .inl a1), (2, .inl a2)] [.inl x7] SH h6 (QI Q)
    refine rn_if_ne (tgt := 28) dX11_explained_19 (by decide) (fun c8 => ?_) (fun c8 => ?_)
    · replace V := V.1 c8
      refine rn_aload_n dX11_explained_28 rfl rfl ?_
      refine rn_get (v := .inr (.inr (some 85))) dX11_explained_29 fl_X11_71 rfl rfl (congrArg (fun z => (Sum.inr (Sum.inr z) : MV)) (rf_0_10 Rh6)) ?_
      refine rn_iload_n dX11_explained_32 rfl rfl ?_
      refine rn_cV (M' := mX8_isMissing) (n := 1) (av := [.inl a2]) (S := []) (rc := 0) (rs := 0) (mc := 0) (ms := 0) (a := 85) (ci := 7) (r := (RX8, TX8, 3)) dX11_explained_33 pa_X8_isMissing (Nat.le_refl _) rfl (Nat.le_of_ble_eq_true rfl) ml_X11_302 im_X8_isMissing se_X8_isMissing rfl rfl rfl (Ev.mono V ?_)
      rintro v sh1 h9 ⟨rfl, Rh9, x10, rfl, V⟩
      show Rn G (d + 1) 0 0 mX11_explained 36 [(0, .inr (.inr (some 0))), (1, .inl a1), (2, .inl a2)] [.inl x10] SH h9 (QI Q)
      refine rn_if_eq (tgt := 45) dX11_explained_36 (by decide) (fun c11 => ?_) (fun c11 => ?_)
      · replace V := V.1 c11
        refine rn_aload_n dX11_explained_45 rfl rfl ?_
        refine rn_get (v := .inr (.inr (some 1))) dX11_explained_46 fl_X11_10 rfl rfl (congrArg (fun z => (Sum.inr (Sum.inr z) : MV)) (rf_0_0 Rh9)) ?_
        refine rn_get (v := .inr (.inr (some 3))) dX11_explained_49 fl_X11_105 rfl rfl (congrArg (fun z => (Sum.inr (Sum.inr z) : MV)) (rf_1_2 Rh9)) ?_
        refine rn_iload_n dX11_explained_52 rfl rfl ?_
        obtain ⟨g0, V⟩ := V
        refine rn_iald (k := (Int32.toNatClampNeg a1)) dX11_explained_53 rfl rfl g0 ?_
        refine rn_istore_n (L' := [(3, .inl (h9.1 3 (Int32.toNatClampNeg a1))), (0, .inr (.inr (some 0))), (1, .inl a1), (2, .inl a2)]) dX11_explained_54 rfl (Nat.le_of_ble_eq_true rfl) rfl ?_
        refine rn_iconst (v := (-1)) dX11_explained_55 (by decide) ?_
        refine rn_istore (L' := [(4, .inl (-1)), (3, .inl (h9.1 3 (Int32.toNatClampNeg a1))), (0, .inr (.inr (some 0))), (1, .inl a1), (2, .inl a2)]) dX11_explained_56 (Nat.le_of_ble_eq_true rfl) rfl ?_
        refine rn_iconst (v := 0) dX11_explained_58 (by decide) ?_
        refine rn_istore (L' := [(5, .inl 0), (4, .inl (-1)), (3, .inl (h9.1 3 (Int32.toNatClampNeg a1))), (0, .inr (.inr (some 0))), (1, .inl a1), (2, .inl a2)]) dX11_explained_59 (Nat.le_of_ble_eq_true rfl) rfl ?_
        refine rn_sub [3, 4, 5, 2, 1, 0] (L' := [(0, .inr (.inr (some 0))), (1, .inl a1), (2, .inl a2), (3, .inl (h9.1 3 (Int32.toNatClampNeg a1))), (4, .inl (-1)), (5, .inl 0)]) rfl ?_
        exact V
      · replace V := V.2 c11
        refine rn_aload_n dX11_explained_39 rfl rfl ?_
        refine rn_iconst (v := 2) dX11_explained_40 (by decide) ?_
        refine rn_cV (M' := mX11_refuse) (n := 1) (av := [.inl 2]) (S := []) (rc := 0) (rs := 0) (mc := 0) (ms := 0) (a := 0) (ci := 10) (r := (RX11, TX11, 12)) dX11_explained_41 pa_X11_refuse (Nat.le_refl _) rfl (Nat.le_of_ble_eq_true rfl) ml_X11_87 im_X11_refuse se_X11_refuse rfl rfl rfl (Ev.mono V ?_)
        rintro v sh1 h12 ⟨rfl, Rh12, x13, rfl, V⟩
        show Rn G (d + 1) 0 0 mX11_explained 44 [(0, .inr (.inr (some 0))), (1, .inl a1), (2, .inl a2)] [.inl x13] SH h12 (QI Q)
        exact rn_iret dX11_explained_44 rfl ⟨rfl, Rh12, _, rfl, V⟩
    · replace V := V.2 c8
      refine rn_aload_n dX11_explained_22 rfl rfl ?_
      refine rn_iconst (v := 1) dX11_explained_23 (by decide) ?_
      refine rn_cV (M' := mX11_refuse) (n := 1) (av := [.inl 1]) (S := []) (rc := 0) (rs := 0) (mc := 0) (ms := 0) (a := 0) (ci := 10) (r := (RX11, TX11, 12)) dX11_explained_24 pa_X11_refuse (Nat.le_refl _) rfl (Nat.le_of_ble_eq_true rfl) ml_X11_87 im_X11_refuse se_X11_refuse rfl rfl rfl (Ev.mono V ?_)
      rintro v sh1 h14 ⟨rfl, Rh14, x15, rfl, V⟩
      show Rn G (d + 1) 0 0 mX11_explained 27 [(0, .inr (.inr (some 0))), (1, .inl a1), (2, .inl a2)] [.inl x15] SH h14 (QI Q)
      exact rn_iret dX11_explained_27 rfl ⟨rfl, Rh14, _, rfl, V⟩
set_option maxRecDepth 100000 in
set_option maxHeartbeats 4000000 in
theorem vc_X11_seed {G : GT} {d : Nat} {a1 : Int32}  {h : Hp} {Q : Int32 → Hp → Prop} (hR : RF h) (V : Q (h.1 1 16) (sI h 1 16 a1)) : EvI G (d + 1) mX11_seed [.inr (.inr (some 0)), .inl a1] h Q := by
  refine Ev.of rfl (fun _ => Nat.le_of_ble_eq_true rfl) ?_
  show Rn G (d + 1) 0 0 mX11_seed 0 [(0, .inr (.inr (some 0))), (1, .inl a1)] [] SH h (QI Q)
  refine rn_aload_n dX11_seed_0 rfl rfl ?_
  refine rn_get (v := .inr (.inr (some 1))) dX11_seed_1 fl_X11_10 rfl rfl (congrArg (fun z => (Sum.inr (Sum.inr z) : MV)) (rf_0_0 hR)) ?_
  refine rn_get (v := .inl (h.1 1 16)) dX11_seed_4 fl_X11_316 rfl rfl rfl ?_
  refine rn_istore_n (L' := [(2, .inl (h.1 1 16)), (0, .inr (.inr (some 0))), (1, .inl a1)]) dX11_seed_7 rfl (Nat.le_of_ble_eq_true rfl) rfl ?_
  refine rn_aload_n dX11_seed_8 rfl rfl ?_
  refine rn_get (v := .inr (.inr (some 1))) dX11_seed_9 fl_X11_10 rfl rfl (congrArg (fun z => (Sum.inr (Sum.inr z) : MV)) (rf_0_0 hR)) ?_
  refine rn_iload_n dX11_seed_12 rfl rfl ?_
  refine rn_putI dX11_seed_13 fl_X11_316 rfl rfl (Or.inl rfl) rfl rfl ?_
  refine rn_iload_n dX11_seed_16 rfl rfl ?_
  exact rn_iret dX11_seed_17 rfl ⟨rfl, hR, _, rfl, V⟩
set_option maxRecDepth 100000 in
set_option maxHeartbeats 4000000 in
theorem vc_X11_voice {G : GT} {d : Nat} {a1 : Int32} {a2 : Int32} {a3 : Int32}  {h : Hp} {Q : Int32 → Hp → Prop} (hR : RF h) (V : EvI G d mX9_hasParty [.inr (.inr (some 1)), .inl a1] h (fun x2 h1 => ((x2 = 0 → EvI G d mX11_refuse [.inr (.inr (some 0)), .inl 1] h1 (fun x5 h4 => Q x5 h4)) ∧ (¬ x2 = 0 → EvI G d mX11_within [.inl a2, .inl 0, .inl 3] h1 (fun x7 h6 => ((¬ x7 = 0 → vp_in a1 4 ∧ vp_in a1 4 ∧ EvI G d mX0_answer [.inr (.inr (some 83)), .inl (h6.1 2 (Int32.toNatClampNeg a1)), .inl a1, .inl (h6.1 3 (Int32.toNatClampNeg a1)), .inl a2, .inl a3] h6 (fun x10 h9 => Q x10 h9)) ∧ (x7 = 0 → EvI G d mX11_refuse [.inr (.inr (some 0)), .inl 1] h6 (fun x12 h11 => Q x12 h11)))))))) : EvI G (d + 1) mX11_voice [.inr (.inr (some 0)), .inl a1, .inl a2, .inl a3] h Q := by
  refine Ev.of rfl (fun _ => Nat.le_of_ble_eq_true rfl) ?_
  show Rn G (d + 1) 0 0 mX11_voice 0 [(0, .inr (.inr (some 0))), (1, .inl a1), (2, .inl a2), (3, .inl a3)] [] SH h (QI Q)
  refine rn_aload_n dX11_voice_0 rfl rfl ?_
  refine rn_get (v := .inr (.inr (some 1))) dX11_voice_1 fl_X11_10 rfl rfl (congrArg (fun z => (Sum.inr (Sum.inr z) : MV)) (rf_0_0 hR)) ?_
  refine rn_iload_n dX11_voice_4 rfl rfl ?_
  refine rn_cV (M' := mX9_hasParty) (n := 1) (av := [.inl a1]) (S := []) (rc := 0) (rs := 0) (mc := 0) (ms := 0) (a := 1) (ci := 8) (r := (RX9, TX9, 17)) dX11_voice_5 pa_X9_hasParty (Nat.le_refl _) rfl (Nat.le_of_ble_eq_true rfl) ml_X11_99 im_X9_hasParty se_X9_hasParty rfl rfl rfl (Ev.mono V ?_)
  rintro v sh1 h1 ⟨rfl, Rh1, x2, rfl, V⟩
  show Rn G (d + 1) 0 0 mX11_voice 8 [(0, .inr (.inr (some 0))), (1, .inl a1), (2, .inl a2), (3, .inl a3)] [.inl x2] SH h1 (QI Q)
  refine rn_if_eq (tgt := 20) dX11_voice_8 (by decide) (fun c3 => ?_) (fun c3 => ?_)
  · replace V := V.1 c3
    refine rn_aload_n dX11_voice_20 rfl rfl ?_
    refine rn_iconst (v := 1) dX11_voice_21 (by decide) ?_
    refine rn_cV (M' := mX11_refuse) (n := 1) (av := [.inl 1]) (S := []) (rc := 0) (rs := 0) (mc := 0) (ms := 0) (a := 0) (ci := 10) (r := (RX11, TX11, 12)) dX11_voice_22 pa_X11_refuse (Nat.le_refl _) rfl (Nat.le_of_ble_eq_true rfl) ml_X11_87 im_X11_refuse se_X11_refuse rfl rfl rfl (Ev.mono V ?_)
    rintro v sh1 h4 ⟨rfl, Rh4, x5, rfl, V⟩
    show Rn G (d + 1) 0 0 mX11_voice 25 [(0, .inr (.inr (some 0))), (1, .inl a1), (2, .inl a2), (3, .inl a3)] [.inl x5] SH h4 (QI Q)
    exact rn_iret dX11_voice_25 rfl ⟨rfl, Rh4, _, rfl, V⟩
  · replace V := V.2 c3
    refine rn_iload_n dX11_voice_11 rfl rfl ?_
    refine rn_iconst (v := 0) dX11_voice_12 (by decide) ?_
    refine rn_iconst (v := 3) dX11_voice_13 (by decide) ?_
    refine rn_cS (M' := mX11_within) (n := 3) (av := [.inl a2, .inl 0, .inl 3]) (S := []) (rc := 0) (rs := 0) (mc := 0) (ms := 0) dX11_voice_14 pa_X11_within (Nat.le_refl _) rfl (Nat.le_of_ble_eq_true rfl) ml_X11_83 ss_X11_within rfl (Ev.mono V ?_)
    rintro v sh1 h6 ⟨rfl, Rh6, x7, rfl, V⟩
    show Rn G (d + 1) 0 0 mX11_voice 17 [(0, .inr (.inr (some 0))), (1, .inl a1), (2, .inl a2), (3, .inl a3)] [.inl x7] SH h6 (QI Q)
    refine rn_if_ne (tgt := 26) dX11_voice_17 (by decide) (fun c8 => ?_) (fun c8 => ?_)
    · replace V := V.1 c8
      refine rn_aload_n dX11_voice_26 rfl rfl ?_
      refine rn_get (v := .inr (.inr (some 83))) dX11_voice_27 fl_X11_64 rfl rfl (congrArg (fun z => (Sum.inr (Sum.inr z) : MV)) (rf_0_9 Rh6)) ?_
      refine rn_aload_n dX11_voice_30 rfl rfl ?_
      refine rn_get (v := .inr (.inr (some 1))) dX11_voice_31 fl_X11_10 rfl rfl (congrArg (fun z => (Sum.inr (Sum.inr z) : MV)) (rf_0_0 Rh6)) ?_
      refine rn_get (v := .inr (.inr (some 2))) dX11_voice_34 fl_X11_102 rfl rfl (congrArg (fun z => (Sum.inr (Sum.inr z) : MV)) (rf_1_1 Rh6)) ?_
      refine rn_iload_n dX11_voice_37 rfl rfl ?_
      obtain ⟨g0, V⟩ := V
      refine rn_iald (k := (Int32.toNatClampNeg a1)) dX11_voice_38 rfl rfl g0 ?_
      refine rn_iload_n dX11_voice_39 rfl rfl ?_
      refine rn_aload_n dX11_voice_40 rfl rfl ?_
      refine rn_get (v := .inr (.inr (some 1))) dX11_voice_41 fl_X11_10 rfl rfl (congrArg (fun z => (Sum.inr (Sum.inr z) : MV)) (rf_0_0 Rh6)) ?_
      refine rn_get (v := .inr (.inr (some 3))) dX11_voice_44 fl_X11_105 rfl rfl (congrArg (fun z => (Sum.inr (Sum.inr z) : MV)) (rf_1_2 Rh6)) ?_
      refine rn_iload_n dX11_voice_47 rfl rfl ?_
      obtain ⟨g0, V⟩ := V
      refine rn_iald (k := (Int32.toNatClampNeg a1)) dX11_voice_48 rfl rfl g0 ?_
      refine rn_iload_n dX11_voice_49 rfl rfl ?_
      refine rn_iload_n dX11_voice_50 rfl rfl ?_
      refine rn_cV (M' := mX0_answer) (n := 5) (av := [.inl (h6.1 2 (Int32.toNatClampNeg a1)), .inl a1, .inl (h6.1 3 (Int32.toNatClampNeg a1)), .inl a2, .inl a3]) (S := []) (rc := 0) (rs := 0) (mc := 0) (ms := 0) (a := 83) (ci := 0) (r := (RX0, TX0, 5)) dX11_voice_51 pa_X0_answer (Nat.le_refl _) rfl (Nat.le_of_ble_eq_true rfl) ml_X11_319 im_X0_answer se_X0_answer rfl rfl rfl (Ev.mono V ?_)
      rintro v sh1 h9 ⟨rfl, Rh9, x10, rfl, V⟩
      show Rn G (d + 1) 0 0 mX11_voice 54 [(0, .inr (.inr (some 0))), (1, .inl a1), (2, .inl a2), (3, .inl a3)] [.inl x10] SH h9 (QI Q)
      exact rn_iret dX11_voice_54 rfl ⟨rfl, Rh9, _, rfl, V⟩
    · replace V := V.2 c8
      refine rn_aload_n dX11_voice_20 rfl rfl ?_
      refine rn_iconst (v := 1) dX11_voice_21 (by decide) ?_
      refine rn_cV (M' := mX11_refuse) (n := 1) (av := [.inl 1]) (S := []) (rc := 0) (rs := 0) (mc := 0) (ms := 0) (a := 0) (ci := 10) (r := (RX11, TX11, 12)) dX11_voice_22 pa_X11_refuse (Nat.le_refl _) rfl (Nat.le_of_ble_eq_true rfl) ml_X11_87 im_X11_refuse se_X11_refuse rfl rfl rfl (Ev.mono V ?_)
      rintro v sh1 h11 ⟨rfl, Rh11, x12, rfl, V⟩
      show Rn G (d + 1) 0 0 mX11_voice 25 [(0, .inr (.inr (some 0))), (1, .inl a1), (2, .inl a2), (3, .inl a3)] [.inl x12] SH h11 (QI Q)
      exact rn_iret dX11_voice_25 rfl ⟨rfl, Rh11, _, rfl, V⟩
set_option maxRecDepth 100000 in
set_option maxHeartbeats 4000000 in
theorem vc_X11_trace {G : GT} {d : Nat} {a1 : Int32}  {h : Hp} {Q : Int32 → Hp → Prop} (hR : RF h) (V : EvI G d mX11_within [.inl a1, .inl 0, .inl (h.1 83 1 - 1)] h (fun x2 h1 => ((x2 = 0 → EvI G d mX11_refuse [.inr (.inr (some 0)), .inl 2] h1 (fun x5 h4 => Q x5 h4)) ∧ (¬ x2 = 0 → vp_in a1 40 ∧ Q (h1.1 84 (Int32.toNatClampNeg a1)) h1)))) : EvI G (d + 1) mX11_trace [.inr (.inr (some 0)), .inl a1] h Q := by
  refine Ev.of rfl (fun _ => Nat.le_of_ble_eq_true rfl) ?_
  show Rn G (d + 1) 0 0 mX11_trace 0 [(0, .inr (.inr (some 0))), (1, .inl a1)] [] SH h (QI Q)
  refine rn_iload_n dX11_trace_0 rfl rfl ?_
  refine rn_iconst (v := 0) dX11_trace_1 (by decide) ?_
  refine rn_aload_n dX11_trace_2 rfl rfl ?_
  refine rn_get (v := .inr (.inr (some 83))) dX11_trace_3 fl_X11_64 rfl rfl (congrArg (fun z => (Sum.inr (Sum.inr z) : MV)) (rf_0_9 hR)) ?_
  refine rn_get (v := .inl (h.1 83 1)) dX11_trace_6 fl_X11_323 rfl rfl rfl ?_
  refine rn_iconst (v := 1) dX11_trace_9 (by decide) ?_
  refine rn_isub dX11_trace_10 ?_
  refine rn_cS (M' := mX11_within) (n := 3) (av := [.inl a1, .inl 0, .inl (h.1 83 1 - 1)]) (S := []) (rc := 0) (rs := 0) (mc := 0) (ms := 0) dX11_trace_11 pa_X11_within (Nat.le_refl _) rfl (Nat.le_of_ble_eq_true rfl) ml_X11_83 ss_X11_within rfl (Ev.mono V ?_)
  rintro v sh1 h1 ⟨rfl, Rh1, x2, rfl, V⟩
  show Rn G (d + 1) 0 0 mX11_trace 14 [(0, .inr (.inr (some 0))), (1, .inl a1)] [.inl x2] SH h1 (QI Q)
  refine rn_if_eq (tgt := 29) dX11_trace_14 (by decide) (fun c3 => ?_) (fun c3 => ?_)
  · replace V := V.1 c3
    refine rn_aload_n dX11_trace_29 rfl rfl ?_
    refine rn_iconst (v := 2) dX11_trace_30 (by decide) ?_
    refine rn_cV (M' := mX11_refuse) (n := 1) (av := [.inl 2]) (S := []) (rc := 0) (rs := 0) (mc := 0) (ms := 0) (a := 0) (ci := 10) (r := (RX11, TX11, 12)) dX11_trace_31 pa_X11_refuse (Nat.le_refl _) rfl (Nat.le_of_ble_eq_true rfl) ml_X11_87 im_X11_refuse se_X11_refuse rfl rfl rfl (Ev.mono V ?_)
    rintro v sh1 h4 ⟨rfl, Rh4, x5, rfl, V⟩
    show Rn G (d + 1) 0 0 mX11_trace 34 [(0, .inr (.inr (some 0))), (1, .inl a1)] [.inl x5] SH h4 (QI Q)
    exact rn_iret dX11_trace_34 rfl ⟨rfl, Rh4, _, rfl, V⟩
  · replace V := V.2 c3
    refine rn_aload_n dX11_trace_17 rfl rfl ?_
    refine rn_get (v := .inr (.inr (some 83))) dX11_trace_18 fl_X11_64 rfl rfl (congrArg (fun z => (Sum.inr (Sum.inr z) : MV)) (rf_0_9 Rh1)) ?_
    refine rn_get (v := .inr (.inr (some 84))) dX11_trace_21 fl_X11_326 rfl rfl (congrArg (fun z => (Sum.inr (Sum.inr z) : MV)) (rf_83_0 Rh1)) ?_
    refine rn_iload_n dX11_trace_24 rfl rfl ?_
    obtain ⟨g0, V⟩ := V
    refine rn_iald (k := (Int32.toNatClampNeg a1)) dX11_trace_25 rfl rfl g0 ?_
    refine rn_goto (tgt := 34) dX11_trace_26 (by decide) ?_
    exact rn_iret dX11_trace_34 rfl ⟨rfl, Rh1, _, rfl, V⟩
set_option maxRecDepth 100000 in
set_option maxHeartbeats 4000000 in
theorem vc_X11_sheet {G : GT} {d : Nat} {a1 : Int32} {a2 : Int32} {a3 : Int32}  {h : Hp} {Q : Int32 → Hp → Prop} (hR : RF h) (V : EvI G d mX8_has [.inr (.inr (some 85)), .inl a1] h (fun x2 h1 => ((x2 = 0 → EvI G d mX11_refuse [.inr (.inr (some 0)), .inl 1] h1 (fun x5 h4 => Q x5 h4)) ∧ (¬ x2 = 0 → ((a2 = 0 → ((a2 = 0 → ((a2 = 0 → ((¬ a2 = 0 → EvV G d mX8_lay [.inr (.inr (some 85)), .inl a1, .inl a2, .inl a3] h1 (fun h10 => Q 1 h10)) ∧ (a2 = 0 → EvV G d mX8_lay [.inr (.inr (some 85)), .inl a1, .inl a2, .inl 0] h1 (fun h11 => Q 1 h11)))) ∧ (¬ a2 = 0 → ((a3 ≤ 40 → ((¬ a2 = 0 → EvV G d mX8_lay [.inr (.inr (some 85)), .inl a1, .inl a2, .inl a3] h1 (fun h14 => Q 1 h14)) ∧ (a2 = 0 → EvV G d mX8_lay [.inr (.inr (some 85)), .inl a1, .inl a2, .inl 0] h1 (fun h15 => Q 1 h15)))) ∧ (¬ a3 ≤ 40 → EvI G d mX11_refuse [.inr (.inr (some 0)), .inl 1] h1 (fun x17 h16 => Q x17 h16)))))) ∧ (¬ a2 = 0 → ((0 ≤ a3 → ((a2 = 0 → ((¬ a2 = 0 → EvV G d mX8_lay [.inr (.inr (some 85)), .inl a1, .inl a2, .inl a3] h1 (fun h21 => Q 1 h21)) ∧ (a2 = 0 → EvV G d mX8_lay [.inr (.inr (some 85)), .inl a1, .inl a2, .inl 0] h1 (fun h22 => Q 1 h22)))) ∧ (¬ a2 = 0 → ((a3 ≤ 40 → ((¬ a2 = 0 → EvV G d mX8_lay [.inr (.inr (some 85)), .inl a1, .inl a2, .inl a3] h1 (fun h25 => Q 1 h25)) ∧ (a2 = 0 → EvV G d mX8_lay [.inr (.inr (some 85)), .inl a1, .inl a2, .inl 0] h1 (fun h26 => Q 1 h26)))) ∧ (¬ a3 ≤ 40 → EvI G d mX11_refuse [.inr (.inr (some 0)), .inl 1] h1 (fun x28 h27 => Q x28 h27)))))) ∧ (¬ 0 ≤ a3 → EvI G d mX11_refuse [.inr (.inr (some 0)), .inl 3] h1 (fun x30 h29 => Q x30 h29)))))) ∧ (¬ a2 = 0 → ((a2 = 8 → ((a2 = 0 → ((a2 = 0 → ((¬ a2 = 0 → EvV G d mX8_lay [.inr (.inr (some 85)), .inl a1, .inl a2, .inl a3] h1 (fun h35 => Q 1 h35)) ∧ (a2 = 0 → EvV G d mX8_lay [.inr (.inr (some 85)), .inl a1, .inl a2, .inl 0] h1 (fun h36 => Q 1 h36)))) ∧ (¬ a2 = 0 → ((a3 ≤ 40 → ((¬ a2 = 0 → EvV G d mX8_lay [.inr (.inr (some 85)), .inl a1, .inl a2, .inl a3] h1 (fun h39 => Q 1 h39)) ∧ (a2 = 0 → EvV G d mX8_lay [.inr (.inr (some 85)), .inl a1, .inl a2, .inl 0] h1 (fun h40 => Q 1 h40)))) ∧ (¬ a3 ≤ 40 → EvI G d mX11_refuse [.inr (.inr (some 0)), .inl 1] h1 (fun x42 h41 => Q x42 h41)))))) ∧ (¬ a2 = 0 → ((0 ≤ a3 → ((a2 = 0 → ((¬ a2 = 0 → EvV G d mX8_lay [.inr (.inr (some 85)), .inl a1, .inl a2, .inl a3] h1 (fun h46 => Q 1 h46)) ∧ (a2 = 0 → EvV G d mX8_lay [.inr (.inr (some 85)), .inl a1, .inl a2, .inl 0] h1 (fun h47 => Q 1 h47)))) ∧ (¬ a2 = 0 → ((a3 ≤ 40 → ((¬ a2 = 0 → EvV G d mX8_lay [.inr (.inr (some 85)), .inl a1, .inl a2, .inl a3] h1 (fun h50 => Q 1 h50)) ∧ (a2 = 0 → EvV G d mX8_lay [.inr (.inr (some 85)), .inl a1, .inl a2, .inl 0] h1 (fun h51 => Q 1 h51)))) ∧ (¬ a3 ≤ 40 → EvI G d mX11_refuse [.inr (.inr (some 0)), .inl 1] h1 (fun x53 h52 => Q x53 h52)))))) ∧ (¬ 0 ≤ a3 → EvI G d mX11_refuse [.inr (.inr (some 0)), .inl 3] h1 (fun x55 h54 => Q x55 h54)))))) ∧ (¬ a2 = 8 → ((a2 = 16 → ((a2 = 0 → ((a2 = 0 → ((¬ a2 = 0 → EvV G d mX8_lay [.inr (.inr (some 85)), .inl a1, .inl a2, .inl a3] h1 (fun h60 => Q 1 h60)) ∧ (a2 = 0 → EvV G d mX8_lay [.inr (.inr (some 85)), .inl a1, .inl a2, .inl 0] h1 (fun h61 => Q 1 h61)))) ∧ (¬ a2 = 0 → ((a3 ≤ 40 → ((¬ a2 = 0 → EvV G d mX8_lay [.inr (.inr (some 85)), .inl a1, .inl a2, .inl a3] h1 (fun h64 => Q 1 h64)) ∧ (a2 = 0 → EvV G d mX8_lay [.inr (.inr (some 85)), .inl a1, .inl a2, .inl 0] h1 (fun h65 => Q 1 h65)))) ∧ (¬ a3 ≤ 40 → EvI G d mX11_refuse [.inr (.inr (some 0)), .inl 1] h1 (fun x67 h66 => Q x67 h66)))))) ∧ (¬ a2 = 0 → ((0 ≤ a3 → ((a2 = 0 → ((¬ a2 = 0 → EvV G d mX8_lay [.inr (.inr (some 85)), .inl a1, .inl a2, .inl a3] h1 (fun h71 => Q 1 h71)) ∧ (a2 = 0 → EvV G d mX8_lay [.inr (.inr (some 85)), .inl a1, .inl a2, .inl 0] h1 (fun h72 => Q 1 h72)))) ∧ (¬ a2 = 0 → ((a3 ≤ 40 → ((¬ a2 = 0 → EvV G d mX8_lay [.inr (.inr (some 85)), .inl a1, .inl a2, .inl a3] h1 (fun h75 => Q 1 h75)) ∧ (a2 = 0 → EvV G d mX8_lay [.inr (.inr (some 85)), .inl a1, .inl a2, .inl 0] h1 (fun h76 => Q 1 h76)))) ∧ (¬ a3 ≤ 40 → EvI G d mX11_refuse [.inr (.inr (some 0)), .inl 1] h1 (fun x78 h77 => Q x78 h77)))))) ∧ (¬ 0 ≤ a3 → EvI G d mX11_refuse [.inr (.inr (some 0)), .inl 3] h1 (fun x80 h79 => Q x80 h79)))))) ∧ (¬ a2 = 16 → ((a2 = 32 → ((a2 = 0 → ((a2 = 0 → ((¬ a2 = 0 → EvV G d mX8_lay [.inr (.inr (some 85)), .inl a1, .inl a2, .inl a3] h1 (fun h85 => Q 1 h85)) ∧ (a2 = 0 → EvV G d mX8_lay [.inr (.inr (some 85)), .inl a1, .inl a2, .inl 0] h1 (fun h86 => Q 1 h86)))) ∧ (¬ a2 = 0 → ((a3 ≤ 40 → ((¬ a2 = 0 → EvV G d mX8_lay [.inr (.inr (some 85)), .inl a1, .inl a2, .inl a3] h1 (fun h89 => Q 1 h89)) ∧ (a2 = 0 → EvV G d mX8_lay [.inr (.inr (some 85)), .inl a1, .inl a2, .inl 0] h1 (fun h90 => Q 1 h90)))) ∧ (¬ a3 ≤ 40 → EvI G d mX11_refuse [.inr (.inr (some 0)), .inl 1] h1 (fun x92 h91 => Q x92 h91)))))) ∧ (¬ a2 = 0 → ((0 ≤ a3 → ((a2 = 0 → ((¬ a2 = 0 → EvV G d mX8_lay [.inr (.inr (some 85)), .inl a1, .inl a2, .inl a3] h1 (fun h96 => Q 1 h96)) ∧ (a2 = 0 → EvV G d mX8_lay [.inr (.inr (some 85)), .inl a1, .inl a2, .inl 0] h1 (fun h97 => Q 1 h97)))) ∧ (¬ a2 = 0 → ((a3 ≤ 40 → ((¬ a2 = 0 → EvV G d mX8_lay [.inr (.inr (some 85)), .inl a1, .inl a2, .inl a3] h1 (fun h100 => Q 1 h100)) ∧ (a2 = 0 → EvV G d mX8_lay [.inr (.inr (some 85)), .inl a1, .inl a2, .inl 0] h1 (fun h101 => Q 1 h101)))) ∧ (¬ a3 ≤ 40 → EvI G d mX11_refuse [.inr (.inr (some 0)), .inl 1] h1 (fun x103 h102 => Q x103 h102)))))) ∧ (¬ 0 ≤ a3 → EvI G d mX11_refuse [.inr (.inr (some 0)), .inl 3] h1 (fun x105 h104 => Q x105 h104)))))) ∧ (¬ a2 = 32 → EvI G d mX11_refuse [.inr (.inr (some 0)), .inl 1] h1 (fun x107 h106 => Q x107 h106))))))))))))) : EvI G (d + 1) mX11_sheet [.inr (.inr (some 0)), .inl a1, .inl a2, .inl a3] h Q := by
  refine Ev.of rfl (fun _ => Nat.le_of_ble_eq_true rfl) ?_
  show Rn G (d + 1) 0 0 mX11_sheet 0 [(0, .inr (.inr (some 0))), (1, .inl a1), (2, .inl a2), (3, .inl a3)] [] SH h (QI Q)
  refine rn_aload_n dX11_sheet_0 rfl rfl ?_
  refine rn_get (v := .inr (.inr (some 85))) dX11_sheet_1 fl_X11_71 rfl rfl (congrArg (fun z => (Sum.inr (Sum.inr z) : MV)) (rf_0_10 hR)) ?_
  refine rn_iload_n dX11_sheet_4 rfl rfl ?_
  refine rn_cV (M' := mX8_has) (n := 1) (av := [.inl a1]) (S := []) (rc := 0) (rs := 0) (mc := 0) (ms := 0) (a := 85) (ci := 7) (r := (RX8, TX8, 3)) dX11_sheet_5 pa_X8_has (Nat.le_refl _) rfl (Nat.le_of_ble_eq_true rfl) ml_X11_299 im_X8_has se_X8_has rfl rfl rfl (Ev.mono V ?_)
  rintro v sh1 h1 ⟨rfl, Rh1, x2, rfl, V⟩
  show Rn G (d + 1) 0 0 mX11_sheet 8 [(0, .inr (.inr (some 0))), (1, .inl a1), (2, .inl a2), (3, .inl a3)] [.inl x2] SH h1 (QI Q)
  refine rn_if_eq (tgt := 33) dX11_sheet_8 (by decide) (fun c3 => ?_) (fun c3 => ?_)
  · replace V := V.1 c3
    refine rn_aload_n dX11_sheet_33 rfl rfl ?_
    refine rn_iconst (v := 1) dX11_sheet_34 (by decide) ?_
    refine rn_cV (M' := mX11_refuse) (n := 1) (av := [.inl 1]) (S := []) (rc := 0) (rs := 0) (mc := 0) (ms := 0) (a := 0) (ci := 10) (r := (RX11, TX11, 12)) dX11_sheet_35 pa_X11_refuse (Nat.le_refl _) rfl (Nat.le_of_ble_eq_true rfl) ml_X11_87 im_X11_refuse se_X11_refuse rfl rfl rfl (Ev.mono V ?_)
    rintro v sh1 h4 ⟨rfl, Rh4, x5, rfl, V⟩
    show Rn G (d + 1) 0 0 mX11_sheet 38 [(0, .inr (.inr (some 0))), (1, .inl a1), (2, .inl a2), (3, .inl a3)] [.inl x5] SH h4 (QI Q)
    exact rn_iret dX11_sheet_38 rfl ⟨rfl, Rh4, _, rfl, V⟩
  · replace V := V.2 c3
    refine rn_iload_n dX11_sheet_11 rfl rfl ?_
    refine rn_if_eq (tgt := 39) dX11_sheet_12 (by decide) (fun c6 => ?_) (fun c6 => ?_)
    · replace V := V.1 c6
      refine rn_iload_n dX11_sheet_39 rfl rfl ?_
      refine rn_if_eq (tgt := 53) dX11_sheet_40 (by decide) (fun c7 => ?_) (fun c7 => ?_)
      · replace V := V.1 c7
        refine rn_iload_n dX11_sheet_53 rfl rfl ?_
        refine rn_if_eq (tgt := 69) dX11_sheet_54 (by decide) (fun c8 => ?_) (fun c8 => ?_)
        · replace V := V.1 c8
          refine rn_aload_n dX11_sheet_69 rfl rfl ?_
          refine rn_get (v := .inr (.inr (some 85))) dX11_sheet_70 fl_X11_71 rfl rfl (congrArg (fun z => (Sum.inr (Sum.inr z) : MV)) (rf_0_10 Rh1)) ?_
          refine rn_iload_n dX11_sheet_73 rfl rfl ?_
          refine rn_iload_n dX11_sheet_74 rfl rfl ?_
          refine rn_iload_n dX11_sheet_75 rfl rfl ?_
          refine rn_if_ne (tgt := 83) dX11_sheet_76 (by decide) (fun c9 => ?_) (fun c9 => ?_)
          · replace V := V.1 c9
            refine rn_iload_n dX11_sheet_83 rfl rfl ?_
            refine rn_cV (M' := mX8_lay) (n := 3) (av := [.inl a1, .inl a2, .inl a3]) (S := []) (rc := 0) (rs := 0) (mc := 0) (ms := 0) (a := 85) (ci := 7) (r := (RX8, TX8, 3)) dX11_sheet_84 pa_X8_lay (Nat.le_refl _) rfl (Nat.le_of_ble_eq_true rfl) ml_X11_329 im_X8_lay se_X8_lay rfl rfl rfl (Ev.mono V ?_)
            rintro v sh1 h10 ⟨rfl, Rh10, rfl, V⟩
            show Rn G (d + 1) 0 0 mX11_sheet 87 [(0, .inr (.inr (some 0))), (1, .inl a1), (2, .inl a2), (3, .inl a3)] [] SH h10 (QI Q)
            refine rn_iconst (v := 1) dX11_sheet_87 (by decide) ?_
            exact rn_iret dX11_sheet_88 rfl ⟨rfl, Rh10, _, rfl, V⟩
          · replace V := V.2 c9
            refine rn_iconst (v := 0) dX11_sheet_79 (by decide) ?_
            refine rn_goto (tgt := 84) dX11_sheet_80 (by decide) ?_
            refine rn_cV (M' := mX8_lay) (n := 3) (av := [.inl a1, .inl a2, .inl 0]) (S := []) (rc := 0) (rs := 0) (mc := 0) (ms := 0) (a := 85) (ci := 7) (r := (RX8, TX8, 3)) dX11_sheet_84 pa_X8_lay (Nat.le_refl _) rfl (Nat.le_of_ble_eq_true rfl) ml_X11_329 im_X8_lay se_X8_lay rfl rfl rfl (Ev.mono V ?_)
            rintro v sh1 h11 ⟨rfl, Rh11, rfl, V⟩
            show Rn G (d + 1) 0 0 mX11_sheet 87 [(0, .inr (.inr (some 0))), (1, .inl a1), (2, .inl a2), (3, .inl a3)] [] SH h11 (QI Q)
            refine rn_iconst (v := 1) dX11_sheet_87 (by decide) ?_
            exact rn_iret dX11_sheet_88 rfl ⟨rfl, Rh11, _, rfl, V⟩
        · replace V := V.2 c8
          refine rn_iload_n dX11_sheet_57 rfl rfl ?_
          refine rn_bipush (v := 40) dX11_sheet_58 (by decide) ?_
          refine rn_icmp_le (tgt := 69) dX11_sheet_60 (by decide) (fun c12 => ?_) (fun c12 => ?_)
          · replace V := V.1 c12
            refine rn_aload_n dX11_sheet_69 rfl rfl ?_
            refine rn_get (v := .inr (.inr (some 85))) dX11_sheet_70 fl_X11_71 rfl rfl (congrArg (fun z => (Sum.inr (Sum.inr z) : MV)) (rf_0_10 Rh1)) ?_
            refine rn_iload_n dX11_sheet_73 rfl rfl ?_
            refine rn_iload_n dX11_sheet_74 rfl rfl ?_
            refine rn_iload_n dX11_sheet_75 rfl rfl ?_
            refine rn_if_ne (tgt := 83) dX11_sheet_76 (by decide) (fun c13 => ?_) (fun c13 => ?_)
            · replace V := V.1 c13
              refine rn_iload_n dX11_sheet_83 rfl rfl ?_
              refine rn_cV (M' := mX8_lay) (n := 3) (av := [.inl a1, .inl a2, .inl a3]) (S := []) (rc := 0) (rs := 0) (mc := 0) (ms := 0) (a := 85) (ci := 7) (r := (RX8, TX8, 3)) dX11_sheet_84 pa_X8_lay (Nat.le_refl _) rfl (Nat.le_of_ble_eq_true rfl) ml_X11_329 im_X8_lay se_X8_lay rfl rfl rfl (Ev.mono V ?_)
              rintro v sh1 h14 ⟨rfl, Rh14, rfl, V⟩
              show Rn G (d + 1) 0 0 mX11_sheet 87 [(0, .inr (.inr (some 0))), (1, .inl a1), (2, .inl a2), (3, .inl a3)] [] SH h14 (QI Q)
              refine rn_iconst (v := 1) dX11_sheet_87 (by decide) ?_
              exact rn_iret dX11_sheet_88 rfl ⟨rfl, Rh14, _, rfl, V⟩
            · replace V := V.2 c13
              refine rn_iconst (v := 0) dX11_sheet_79 (by decide) ?_
              refine rn_goto (tgt := 84) dX11_sheet_80 (by decide) ?_
              refine rn_cV (M' := mX8_lay) (n := 3) (av := [.inl a1, .inl a2, .inl 0]) (S := []) (rc := 0) (rs := 0) (mc := 0) (ms := 0) (a := 85) (ci := 7) (r := (RX8, TX8, 3)) dX11_sheet_84 pa_X8_lay (Nat.le_refl _) rfl (Nat.le_of_ble_eq_true rfl) ml_X11_329 im_X8_lay se_X8_lay rfl rfl rfl (Ev.mono V ?_)
              rintro v sh1 h15 ⟨rfl, Rh15, rfl, V⟩
              show Rn G (d + 1) 0 0 mX11_sheet 87 [(0, .inr (.inr (some 0))), (1, .inl a1), (2, .inl a2), (3, .inl a3)] [] SH h15 (QI Q)
              refine rn_iconst (v := 1) dX11_sheet_87 (by decide) ?_
              exact rn_iret dX11_sheet_88 rfl ⟨rfl, Rh15, _, rfl, V⟩
          · replace V := V.2 c12
            refine rn_aload_n dX11_sheet_63 rfl rfl ?_
            refine rn_iconst (v := 1) dX11_sheet_64 (by decide) ?_
            refine rn_cV (M' := mX11_refuse) (n := 1) (av := [.inl 1]) (S := []) (rc := 0) (rs := 0) (mc := 0) (ms := 0) (a := 0) (ci := 10) (r := (RX11, TX11, 12)) dX11_sheet_65 pa_X11_refuse (Nat.le_refl _) rfl (Nat.le_of_ble_eq_true rfl) ml_X11_87 im_X11_refuse se_X11_refuse rfl rfl rfl (Ev.mono V ?_)
            rintro v sh1 h16 ⟨rfl, Rh16, x17, rfl, V⟩
            show Rn G (d + 1) 0 0 mX11_sheet 68 [(0, .inr (.inr (some 0))), (1, .inl a1), (2, .inl a2), (3, .inl a3)] [.inl x17] SH h16 (QI Q)
            exact rn_iret dX11_sheet_68 rfl ⟨rfl, Rh16, _, rfl, V⟩
      · replace V := V.2 c7
        refine rn_iload_n dX11_sheet_43 rfl rfl ?_
        refine rn_if_ge (tgt := 53) dX11_sheet_44 (by decide) (fun c18 => ?_) (fun c18 => ?_)
        · replace V := V.1 c18
          refine rn_iload_n dX11_sheet_53 rfl rfl ?_
          refine rn_if_eq (tgt := 69) dX11_sheet_54 (by decide) (fun c19 => ?_) (fun c19 => ?_)
          · replace V := V.1 c19
            refine rn_aload_n dX11_sheet_69 rfl rfl ?_
            refine rn_get (v := .inr (.inr (some 85))) dX11_sheet_70 fl_X11_71 rfl rfl (congrArg (fun z => (Sum.inr (Sum.inr z) : MV)) (rf_0_10 Rh1)) ?_
            refine rn_iload_n dX11_sheet_73 rfl rfl ?_
            refine rn_iload_n dX11_sheet_74 rfl rfl ?_
            refine rn_iload_n dX11_sheet_75 rfl rfl ?_
            refine rn_if_ne (tgt := 83) dX11_sheet_76 (by decide) (fun c20 => ?_) (fun c20 => ?_)
            · replace V := V.1 c20
              refine rn_iload_n dX11_sheet_83 rfl rfl ?_
              refine rn_cV (M' := mX8_lay) (n := 3) (av := [.inl a1, .inl a2, .inl a3]) (S := []) (rc := 0) (rs := 0) (mc := 0) (ms := 0) (a := 85) (ci := 7) (r := (RX8, TX8, 3)) dX11_sheet_84 pa_X8_lay (Nat.le_refl _) rfl (Nat.le_of_ble_eq_true rfl) ml_X11_329 im_X8_lay se_X8_lay rfl rfl rfl (Ev.mono V ?_)
              rintro v sh1 h21 ⟨rfl, Rh21, rfl, V⟩
              show Rn G (d + 1) 0 0 mX11_sheet 87 [(0, .inr (.inr (some 0))), (1, .inl a1), (2, .inl a2), (3, .inl a3)] [] SH h21 (QI Q)
              refine rn_iconst (v := 1) dX11_sheet_87 (by decide) ?_
              exact rn_iret dX11_sheet_88 rfl ⟨rfl, Rh21, _, rfl, V⟩
            · replace V := V.2 c20
              refine rn_iconst (v := 0) dX11_sheet_79 (by decide) ?_
              refine rn_goto (tgt := 84) dX11_sheet_80 (by decide) ?_
              refine rn_cV (M' := mX8_lay) (n := 3) (av := [.inl a1, .inl a2, .inl 0]) (S := []) (rc := 0) (rs := 0) (mc := 0) (ms := 0) (a := 85) (ci := 7) (r := (RX8, TX8, 3)) dX11_sheet_84 pa_X8_lay (Nat.le_refl _) rfl (Nat.le_of_ble_eq_true rfl) ml_X11_329 im_X8_lay se_X8_lay rfl rfl rfl (Ev.mono V ?_)
              rintro v sh1 h22 ⟨rfl, Rh22, rfl, V⟩
              show Rn G (d + 1) 0 0 mX11_sheet 87 [(0, .inr (.inr (some 0))), (1, .inl a1), (2, .inl a2), (3, .inl a3)] [] SH h22 (QI Q)
              refine rn_iconst (v := 1) dX11_sheet_87 (by decide) ?_
              exact rn_iret dX11_sheet_88 rfl ⟨rfl, Rh22, _, rfl, V⟩
          · replace V := V.2 c19
            refine rn_iload_n dX11_sheet_57 rfl rfl ?_
            refine rn_bipush (v := 40) dX11_sheet_58 (by decide) ?_
            refine rn_icmp_le (tgt := 69) dX11_sheet_60 (by decide) (fun c23 => ?_) (fun c23 => ?_)
            · replace V := V.1 c23
              refine rn_aload_n dX11_sheet_69 rfl rfl ?_
              refine rn_get (v := .inr (.inr (some 85))) dX11_sheet_70 fl_X11_71 rfl rfl (congrArg (fun z => (Sum.inr (Sum.inr z) : MV)) (rf_0_10 Rh1)) ?_
              refine rn_iload_n dX11_sheet_73 rfl rfl ?_
              refine rn_iload_n dX11_sheet_74 rfl rfl ?_
              refine rn_iload_n dX11_sheet_75 rfl rfl ?_
              refine rn_if_ne (tgt := 83) dX11_sheet_76 (by decide) (fun c24 => ?_) (fun c24 => ?_)
              · replace V := V.1 c24
                refine rn_iload_n dX11_sheet_83 rfl rfl ?_
                refine rn_cV (M' := mX8_lay) (n := 3) (av := [.inl a1, .inl a2, .inl a3]) (S := []) (rc := 0) (rs := 0) (mc := 0) (ms := 0) (a := 85) (ci := 7) (r := (RX8, TX8, 3)) dX11_sheet_84 pa_X8_lay (Nat.le_refl _) rfl (Nat.le_of_ble_eq_true rfl) ml_X11_329 im_X8_lay se_X8_lay rfl rfl rfl (Ev.mono V ?_)
                rintro v sh1 h25 ⟨rfl, Rh25, rfl, V⟩
                show Rn G (d + 1) 0 0 mX11_sheet 87 [(0, .inr (.inr (some 0))), (1, .inl a1), (2, .inl a2), (3, .inl a3)] [] SH h25 (QI Q)
                refine rn_iconst (v := 1) dX11_sheet_87 (by decide) ?_
                exact rn_iret dX11_sheet_88 rfl ⟨rfl, Rh25, _, rfl, V⟩
              · replace V := V.2 c24
                refine rn_iconst (v := 0) dX11_sheet_79 (by decide) ?_
                refine rn_goto (tgt := 84) dX11_sheet_80 (by decide) ?_
                refine rn_cV (M' := mX8_lay) (n := 3) (av := [.inl a1, .inl a2, .inl 0]) (S := []) (rc := 0) (rs := 0) (mc := 0) (ms := 0) (a := 85) (ci := 7) (r := (RX8, TX8, 3)) dX11_sheet_84 pa_X8_lay (Nat.le_refl _) rfl (Nat.le_of_ble_eq_true rfl) ml_X11_329 im_X8_lay se_X8_lay rfl rfl rfl (Ev.mono V ?_)
                rintro v sh1 h26 ⟨rfl, Rh26, rfl, V⟩
                show Rn G (d + 1) 0 0 mX11_sheet 87 [(0, .inr (.inr (some 0))), (1, .inl a1), (2, .inl a2), (3, .inl a3)] [] SH h26 (QI Q)
                refine rn_iconst (v := 1) dX11_sheet_87 (by decide) ?_
                exact rn_iret dX11_sheet_88 rfl ⟨rfl, Rh26, _, rfl, V⟩
            · replace V := V.2 c23
              refine rn_aload_n dX11_sheet_63 rfl rfl ?_
              refine rn_iconst (v := 1) dX11_sheet_64 (by decide) ?_
              refine rn_cV (M' := mX11_refuse) (n := 1) (av := [.inl 1]) (S := []) (rc := 0) (rs := 0) (mc := 0) (ms := 0) (a := 0) (ci := 10) (r := (RX11, TX11, 12)) dX11_sheet_65 pa_X11_refuse (Nat.le_refl _) rfl (Nat.le_of_ble_eq_true rfl) ml_X11_87 im_X11_refuse se_X11_refuse rfl rfl rfl (Ev.mono V ?_)
              rintro v sh1 h27 ⟨rfl, Rh27, x28, rfl, V⟩
              show Rn G (d + 1) 0 0 mX11_sheet 68 [(0, .inr (.inr (some 0))), (1, .inl a1), (2, .inl a2), (3, .inl a3)] [.inl x28] SH h27 (QI Q)
              exact rn_iret dX11_sheet_68 rfl ⟨rfl, Rh27, _, rfl, V⟩
        · replace V := V.2 c18
          refine rn_aload_n dX11_sheet_47 rfl rfl ?_
          refine rn_iconst (v := 3) dX11_sheet_48 (by decide) ?_
          refine rn_cV (M' := mX11_refuse) (n := 1) (av := [.inl 3]) (S := []) (rc := 0) (rs := 0) (mc := 0) (ms := 0) (a := 0) (ci := 10) (r := (RX11, TX11, 12)) dX11_sheet_49 pa_X11_refuse (Nat.le_refl _) rfl (Nat.le_of_ble_eq_true rfl) ml_X11_87 im_X11_refuse se_X11_refuse rfl rfl rfl (Ev.mono V ?_)
          rintro v sh1 h29 ⟨rfl, Rh29, x30, rfl, V⟩
          show Rn G (d + 1) 0 0 mX11_sheet 52 [(0, .inr (.inr (some 0))), (1, .inl a1), (2, .inl a2), (3, .inl a3)] [.inl x30] SH h29 (QI Q)
          exact rn_iret dX11_sheet_52 rfl ⟨rfl, Rh29, _, rfl, V⟩
    · replace V := V.2 c6
      refine rn_iload_n dX11_sheet_15 rfl rfl ?_
      refine rn_bipush (v := 8) dX11_sheet_16 (by decide) ?_
      refine rn_icmp_eq (tgt := 39) dX11_sheet_18 (by decide) (fun c31 => ?_) (fun c31 => ?_)
      · replace V := V.1 c31
        refine rn_iload_n dX11_sheet_39 rfl rfl ?_
        refine rn_if_eq (tgt := 53) dX11_sheet_40 (by decide) (fun c32 => ?_) (fun c32 => ?_)
        · replace V := V.1 c32
          refine rn_iload_n dX11_sheet_53 rfl rfl ?_
          refine rn_if_eq (tgt := 69) dX11_sheet_54 (by decide) (fun c33 => ?_) (fun c33 => ?_)
          · replace V := V.1 c33
            refine rn_aload_n dX11_sheet_69 rfl rfl ?_
            refine rn_get (v := .inr (.inr (some 85))) dX11_sheet_70 fl_X11_71 rfl rfl (congrArg (fun z => (Sum.inr (Sum.inr z) : MV)) (rf_0_10 Rh1)) ?_
            refine rn_iload_n dX11_sheet_73 rfl rfl ?_
            refine rn_iload_n dX11_sheet_74 rfl rfl ?_
            refine rn_iload_n dX11_sheet_75 rfl rfl ?_
            refine rn_if_ne (tgt := 83) dX11_sheet_76 (by decide) (fun c34 => ?_) (fun c34 => ?_)
            · replace V := V.1 c34
              refine rn_iload_n dX11_sheet_83 rfl rfl ?_
              refine rn_cV (M' := mX8_lay) (n := 3) (av := [.inl a1, .inl a2, .inl a3]) (S := []) (rc := 0) (rs := 0) (mc := 0) (ms := 0) (a := 85) (ci := 7) (r := (RX8, TX8, 3)) dX11_sheet_84 pa_X8_lay (Nat.le_refl _) rfl (Nat.le_of_ble_eq_true rfl) ml_X11_329 im_X8_lay se_X8_lay rfl rfl rfl (Ev.mono V ?_)
              rintro v sh1 h35 ⟨rfl, Rh35, rfl, V⟩
              show Rn G (d + 1) 0 0 mX11_sheet 87 [(0, .inr (.inr (some 0))), (1, .inl a1), (2, .inl a2), (3, .inl a3)] [] SH h35 (QI Q)
              refine rn_iconst (v := 1) dX11_sheet_87 (by decide) ?_
              exact rn_iret dX11_sheet_88 rfl ⟨rfl, Rh35, _, rfl, V⟩
            · replace V := V.2 c34
              refine rn_iconst (v := 0) dX11_sheet_79 (by decide) ?_
              refine rn_goto (tgt := 84) dX11_sheet_80 (by decide) ?_
              refine rn_cV (M' := mX8_lay) (n := 3) (av := [.inl a1, .inl a2, .inl 0]) (S := []) (rc := 0) (rs := 0) (mc := 0) (ms := 0) (a := 85) (ci := 7) (r := (RX8, TX8, 3)) dX11_sheet_84 pa_X8_lay (Nat.le_refl _) rfl (Nat.le_of_ble_eq_true rfl) ml_X11_329 im_X8_lay se_X8_lay rfl rfl rfl (Ev.mono V ?_)
              rintro v sh1 h36 ⟨rfl, Rh36, rfl, V⟩
              show Rn G (d + 1) 0 0 mX11_sheet 87 [(0, .inr (.inr (some 0))), (1, .inl a1), (2, .inl a2), (3, .inl a3)] [] SH h36 (QI Q)
              refine rn_iconst (v := 1) dX11_sheet_87 (by decide) ?_
              exact rn_iret dX11_sheet_88 rfl ⟨rfl, Rh36, _, rfl, V⟩
          · replace V := V.2 c33
            refine rn_iload_n dX11_sheet_57 rfl rfl ?_
            refine rn_bipush (v := 40) dX11_sheet_58 (by decide) ?_
            refine rn_icmp_le (tgt := 69) dX11_sheet_60 (by decide) (fun c37 => ?_) (fun c37 => ?_)
            · replace V := V.1 c37
              refine rn_aload_n dX11_sheet_69 rfl rfl ?_
              refine rn_get (v := .inr (.inr (some 85))) dX11_sheet_70 fl_X11_71 rfl rfl (congrArg (fun z => (Sum.inr (Sum.inr z) : MV)) (rf_0_10 Rh1)) ?_
              refine rn_iload_n dX11_sheet_73 rfl rfl ?_
              refine rn_iload_n dX11_sheet_74 rfl rfl ?_
              refine rn_iload_n dX11_sheet_75 rfl rfl ?_
              refine rn_if_ne (tgt := 83) dX11_sheet_76 (by decide) (fun c38 => ?_) (fun c38 => ?_)
              · replace V := V.1 c38
                refine rn_iload_n dX11_sheet_83 rfl rfl ?_
                refine rn_cV (M' := mX8_lay) (n := 3) (av := [.inl a1, .inl a2, .inl a3]) (S := []) (rc := 0) (rs := 0) (mc := 0) (ms := 0) (a := 85) (ci := 7) (r := (RX8, TX8, 3)) dX11_sheet_84 pa_X8_lay (Nat.le_refl _) rfl (Nat.le_of_ble_eq_true rfl) ml_X11_329 im_X8_lay se_X8_lay rfl rfl rfl (Ev.mono V ?_)
                rintro v sh1 h39 ⟨rfl, Rh39, rfl, V⟩
                show Rn G (d + 1) 0 0 mX11_sheet 87 [(0, .inr (.inr (some 0))), (1, .inl a1), (2, .inl a2), (3, .inl a3)] [] SH h39 (QI Q)
                refine rn_iconst (v := 1) dX11_sheet_87 (by decide) ?_
                exact rn_iret dX11_sheet_88 rfl ⟨rfl, Rh39, _, rfl, V⟩
              · replace V := V.2 c38
                refine rn_iconst (v := 0) dX11_sheet_79 (by decide) ?_
                refine rn_goto (tgt := 84) dX11_sheet_80 (by decide) ?_
                refine rn_cV (M' := mX8_lay) (n := 3) (av := [.inl a1, .inl a2, .inl 0]) (S := []) (rc := 0) (rs := 0) (mc := 0) (ms := 0) (a := 85) (ci := 7) (r := (RX8, TX8, 3)) dX11_sheet_84 pa_X8_lay (Nat.le_refl _) rfl (Nat.le_of_ble_eq_true rfl) ml_X11_329 im_X8_lay se_X8_lay rfl rfl rfl (Ev.mono V ?_)
                rintro v sh1 h40 ⟨rfl, Rh40, rfl, V⟩
                show Rn G (d + 1) 0 0 mX11_sheet 87 [(0, .inr (.inr (some 0))), (1, .inl a1), (2, .inl a2), (3, .inl a3)] [] SH h40 (QI Q)
                refine rn_iconst (v := 1) dX11_sheet_87 (by decide) ?_
                exact rn_iret dX11_sheet_88 rfl ⟨rfl, Rh40, _, rfl, V⟩
            · replace V := V.2 c37
              refine rn_aload_n dX11_sheet_63 rfl rfl ?_
              refine rn_iconst (v := 1) dX11_sheet_64 (by decide) ?_
              refine rn_cV (M' := mX11_refuse) (n := 1) (av := [.inl 1]) (S := []) (rc := 0) (rs := 0) (mc := 0) (ms := 0) (a := 0) (ci := 10) (r := (RX11, TX11, 12)) dX11_sheet_65 pa_X11_refuse (Nat.le_refl _) rfl (Nat.le_of_ble_eq_true rfl) ml_X11_87 im_X11_refuse se_X11_refuse rfl rfl rfl (Ev.mono V ?_)
              rintro v sh1 h41 ⟨rfl, Rh41, x42, rfl, V⟩
              show Rn G (d + 1) 0 0 mX11_sheet 68 [(0, .inr (.inr (some 0))), (1, .inl a1), (2, .inl a2), (3, .inl a3)] [.inl x42] SH h41 (QI Q)
              exact rn_iret dX11_sheet_68 rfl ⟨rfl, Rh41, _, rfl, V⟩
        · replace V := V.2 c32
          refine rn_iload_n dX11_sheet_43 rfl rfl ?_
          refine rn_if_ge (tgt := 53) dX11_sheet_44 (by decide) (fun c43 => ?_) (fun c43 => ?_)
          · replace V := V.1 c43
            refine rn_iload_n dX11_sheet_53 rfl rfl ?_
            refine rn_if_eq (tgt := 69) dX11_sheet_54 (by decide) (fun c44 => ?_) (fun c44 => ?_)
            · replace V := V.1 c44
              refine rn_aload_n dX11_sheet_69 rfl rfl ?_
              refine rn_get (v := .inr (.inr (some 85))) dX11_sheet_70 fl_X11_71 rfl rfl (congrArg (fun z => (Sum.inr (Sum.inr z) : MV)) (rf_0_10 Rh1)) ?_
              refine rn_iload_n dX11_sheet_73 rfl rfl ?_
              refine rn_iload_n dX11_sheet_74 rfl rfl ?_
              refine rn_iload_n dX11_sheet_75 rfl rfl ?_
              refine rn_if_ne (tgt := 83) dX11_sheet_76 (by decide) (fun c45 => ?_) (fun c45 => ?_)
              · replace V := V.1 c45
                refine rn_iload_n dX11_sheet_83 rfl rfl ?_
                refine rn_cV (M' := mX8_lay) (n := 3) (av := [.inl a1, .inl a2, .inl a3]) (S := []) (rc := 0) (rs := 0) (mc := 0) (ms := 0) (a := 85) (ci := 7) (r := (RX8, TX8, 3)) dX11_sheet_84 pa_X8_lay (Nat.le_refl _) rfl (Nat.le_of_ble_eq_true rfl) ml_X11_329 im_X8_lay se_X8_lay rfl rfl rfl (Ev.mono V ?_)
                rintro v sh1 h46 ⟨rfl, Rh46, rfl, V⟩
                show Rn G (d + 1) 0 0 mX11_sheet 87 [(0, .inr (.inr (some 0))), (1, .inl a1), (2, .inl a2), (3, .inl a3)] [] SH h46 (QI Q)
                refine rn_iconst (v := 1) dX11_sheet_87 (by decide) ?_
                exact rn_iret dX11_sheet_88 rfl ⟨rfl, Rh46, _, rfl, V⟩
              · replace V := V.2 c45
                refine rn_iconst (v := 0) dX11_sheet_79 (by decide) ?_
                refine rn_goto (tgt := 84) dX11_sheet_80 (by decide) ?_
                refine rn_cV (M' := mX8_lay) (n := 3) (av := [.inl a1, .inl a2, .inl 0]) (S := []) (rc := 0) (rs := 0) (mc := 0) (ms := 0) (a := 85) (ci := 7) (r := (RX8, TX8, 3)) dX11_sheet_84 pa_X8_lay (Nat.le_refl _) rfl (Nat.le_of_ble_eq_true rfl) ml_X11_329 im_X8_lay se_X8_lay rfl rfl rfl (Ev.mono V ?_)
                rintro v sh1 h47 ⟨rfl, Rh47, rfl, V⟩
                show Rn G (d + 1) 0 0 mX11_sheet 87 [(0, .inr (.inr (some 0))), (1, .inl a1), (2, .inl a2), (3, .inl a3)] [] SH h47 (QI Q)
                refine rn_iconst (v := 1) dX11_sheet_87 (by decide) ?_
                exact rn_iret dX11_sheet_88 rfl ⟨rfl, Rh47, _, rfl, V⟩
            · replace V := V.2 c44
              refine rn_iload_n dX11_sheet_57 rfl rfl ?_
              refine rn_bipush (v := 40) dX11_sheet_58 (by decide) ?_
              refine rn_icmp_le (tgt := 69) dX11_sheet_60 (by decide) (fun c48 => ?_) (fun c48 => ?_)
              · replace V := V.1 c48
                refine rn_aload_n dX11_sheet_69 rfl rfl ?_
                refine rn_get (v := .inr (.inr (some 85))) dX11_sheet_70 fl_X11_71 rfl rfl (congrArg (fun z => (Sum.inr (Sum.inr z) : MV)) (rf_0_10 Rh1)) ?_
                refine rn_iload_n dX11_sheet_73 rfl rfl ?_
                refine rn_iload_n dX11_sheet_74 rfl rfl ?_
                refine rn_iload_n dX11_sheet_75 rfl rfl ?_
                refine rn_if_ne (tgt := 83) dX11_sheet_76 (by decide) (fun c49 => ?_) (fun c49 => ?_)
                · replace V := V.1 c49
                  refine rn_iload_n dX11_sheet_83 rfl rfl ?_
                  refine rn_cV (M' := mX8_lay) (n := 3) (av := [.inl a1, .inl a2, .inl a3]) (S := []) (rc := 0) (rs := 0) (mc := 0) (ms := 0) (a := 85) (ci := 7) (r := (RX8, TX8, 3)) dX11_sheet_84 pa_X8_lay (Nat.le_refl _) rfl (Nat.le_of_ble_eq_true rfl) ml_X11_329 im_X8_lay se_X8_lay rfl rfl rfl (Ev.mono V ?_)
                  rintro v sh1 h50 ⟨rfl, Rh50, rfl, V⟩
                  show Rn G (d + 1) 0 0 mX11_sheet 87 [(0, .inr (.inr (some 0))), (1, .inl a1), (2, .inl a2), (3, .inl a3)] [] SH h50 (QI Q)
                  refine rn_iconst (v := 1) dX11_sheet_87 (by decide) ?_
                  exact rn_iret dX11_sheet_88 rfl ⟨rfl, Rh50, _, rfl, V⟩
                · replace V := V.2 c49
                  refine rn_iconst (v := 0) dX11_sheet_79 (by decide) ?_
                  refine rn_goto (tgt := 84) dX11_sheet_80 (by decide) ?_
                  refine rn_cV (M' := mX8_lay) (n := 3) (av := [.inl a1, .inl a2, .inl 0]) (S := []) (rc := 0) (rs := 0) (mc := 0) (ms := 0) (a := 85) (ci := 7) (r := (RX8, TX8, 3)) dX11_sheet_84 pa_X8_lay (Nat.le_refl _) rfl (Nat.le_of_ble_eq_true rfl) ml_X11_329 im_X8_lay se_X8_lay rfl rfl rfl (Ev.mono V ?_)
                  rintro v sh1 h51 ⟨rfl, Rh51, rfl, V⟩
                  show Rn G (d + 1) 0 0 mX11_sheet 87 [(0, .inr (.inr (some 0))), (1, .inl a1), (2, .inl a2), (3, .inl a3)] [] SH h51 (QI Q)
                  refine rn_iconst (v := 1) dX11_sheet_87 (by decide) ?_
                  exact rn_iret dX11_sheet_88 rfl ⟨rfl, Rh51, _, rfl, V⟩
              · replace V := V.2 c48
                refine rn_aload_n dX11_sheet_63 rfl rfl ?_
                refine rn_iconst (v := 1) dX11_sheet_64 (by decide) ?_
                refine rn_cV (M' := mX11_refuse) (n := 1) (av := [.inl 1]) (S := []) (rc := 0) (rs := 0) (mc := 0) (ms := 0) (a := 0) (ci := 10) (r := (RX11, TX11, 12)) dX11_sheet_65 pa_X11_refuse (Nat.le_refl _) rfl (Nat.le_of_ble_eq_true rfl) ml_X11_87 im_X11_refuse se_X11_refuse rfl rfl rfl (Ev.mono V ?_)
                rintro v sh1 h52 ⟨rfl, Rh52, x53, rfl, V⟩
                show Rn G (d + 1) 0 0 mX11_sheet 68 [(0, .inr (.inr (some 0))), (1, .inl a1), (2, .inl a2), (3, .inl a3)] [.inl x53] SH h52 (QI Q)
                exact rn_iret dX11_sheet_68 rfl ⟨rfl, Rh52, _, rfl, V⟩
          · replace V := V.2 c43
            refine rn_aload_n dX11_sheet_47 rfl rfl ?_
            refine rn_iconst (v := 3) dX11_sheet_48 (by decide) ?_
            refine rn_cV (M' := mX11_refuse) (n := 1) (av := [.inl 3]) (S := []) (rc := 0) (rs := 0) (mc := 0) (ms := 0) (a := 0) (ci := 10) (r := (RX11, TX11, 12)) dX11_sheet_49 pa_X11_refuse (Nat.le_refl _) rfl (Nat.le_of_ble_eq_true rfl) ml_X11_87 im_X11_refuse se_X11_refuse rfl rfl rfl (Ev.mono V ?_)
            rintro v sh1 h54 ⟨rfl, Rh54, x55, rfl, V⟩
            show Rn G (d + 1) 0 0 mX11_sheet 52 [(0, .inr (.inr (some 0))), (1, .inl a1), (2, .inl a2), (3, .inl a3)] [.inl x55] SH h54 (QI Q)
            exact rn_iret dX11_sheet_52 rfl ⟨rfl, Rh54, _, rfl, V⟩
      · replace V := V.2 c31
        refine rn_iload_n dX11_sheet_21 rfl rfl ?_
        refine rn_bipush (v := 16) dX11_sheet_22 (by decide) ?_
        refine rn_icmp_eq (tgt := 39) dX11_sheet_24 (by decide) (fun c56 => ?_) (fun c56 => ?_)
        · replace V := V.1 c56
          refine rn_iload_n dX11_sheet_39 rfl rfl ?_
          refine rn_if_eq (tgt := 53) dX11_sheet_40 (by decide) (fun c57 => ?_) (fun c57 => ?_)
          · replace V := V.1 c57
            refine rn_iload_n dX11_sheet_53 rfl rfl ?_
            refine rn_if_eq (tgt := 69) dX11_sheet_54 (by decide) (fun c58 => ?_) (fun c58 => ?_)
            · replace V := V.1 c58
              refine rn_aload_n dX11_sheet_69 rfl rfl ?_
              refine rn_get (v := .inr (.inr (some 85))) dX11_sheet_70 fl_X11_71 rfl rfl (congrArg (fun z => (Sum.inr (Sum.inr z) : MV)) (rf_0_10 Rh1)) ?_
              refine rn_iload_n dX11_sheet_73 rfl rfl ?_
              refine rn_iload_n dX11_sheet_74 rfl rfl ?_
              refine rn_iload_n dX11_sheet_75 rfl rfl ?_
              refine rn_if_ne (tgt := 83) dX11_sheet_76 (by decide) (fun c59 => ?_) (fun c59 => ?_)
              · replace V := V.1 c59
                refine rn_iload_n dX11_sheet_83 rfl rfl ?_
                refine rn_cV (M' := mX8_lay) (n := 3) (av := [.inl a1, .inl a2, .inl a3]) (S := []) (rc := 0) (rs := 0) (mc := 0) (ms := 0) (a := 85) (ci := 7) (r := (RX8, TX8, 3)) dX11_sheet_84 pa_X8_lay (Nat.le_refl _) rfl (Nat.le_of_ble_eq_true rfl) ml_X11_329 im_X8_lay se_X8_lay rfl rfl rfl (Ev.mono V ?_)
                rintro v sh1 h60 ⟨rfl, Rh60, rfl, V⟩
                show Rn G (d + 1) 0 0 mX11_sheet 87 [(0, .inr (.inr (some 0))), (1, .inl a1), (2, .inl a2), (3, .inl a3)] [] SH h60 (QI Q)
                refine rn_iconst (v := 1) dX11_sheet_87 (by decide) ?_
                exact rn_iret dX11_sheet_88 rfl ⟨rfl, Rh60, _, rfl, V⟩
              · replace V := V.2 c59
                refine rn_iconst (v := 0) dX11_sheet_79 (by decide) ?_
                refine rn_goto (tgt := 84) dX11_sheet_80 (by decide) ?_
                refine rn_cV (M' := mX8_lay) (n := 3) (av := [.inl a1, .inl a2, .inl 0]) (S := []) (rc := 0) (rs := 0) (mc := 0) (ms := 0) (a := 85) (ci := 7) (r := (RX8, TX8, 3)) dX11_sheet_84 pa_X8_lay (Nat.le_refl _) rfl (Nat.le_of_ble_eq_true rfl) ml_X11_329 im_X8_lay se_X8_lay rfl rfl rfl (Ev.mono V ?_)
                rintro v sh1 h61 ⟨rfl, Rh61, rfl, V⟩
                show Rn G (d + 1) 0 0 mX11_sheet 87 [(0, .inr (.inr (some 0))), (1, .inl a1), (2, .inl a2), (3, .inl a3)] [] SH h61 (QI Q)
                refine rn_iconst (v := 1) dX11_sheet_87 (by decide) ?_
                exact rn_iret dX11_sheet_88 rfl ⟨rfl, Rh61, _, rfl, V⟩
            · replace V := V.2 c58
              refine rn_iload_n dX11_sheet_57 rfl rfl ?_
              refine rn_bipush (v := 40) dX11_sheet_58 (by decide) ?_
              refine rn_icmp_le (tgt := 69) dX11_sheet_60 (by decide) (fun c62 => ?_) (fun c62 => ?_)
              · replace V := V.1 c62
                refine rn_aload_n dX11_sheet_69 rfl rfl ?_
                refine rn_get (v := .inr (.inr (some 85))) dX11_sheet_70 fl_X11_71 rfl rfl (congrArg (fun z => (Sum.inr (Sum.inr z) : MV)) (rf_0_10 Rh1)) ?_
                refine rn_iload_n dX11_sheet_73 rfl rfl ?_
                refine rn_iload_n dX11_sheet_74 rfl rfl ?_
                refine rn_iload_n dX11_sheet_75 rfl rfl ?_
                refine rn_if_ne (tgt := 83) dX11_sheet_76 (by decide) (fun c63 => ?_) (fun c63 => ?_)
                · replace V := V.1 c63
                  refine rn_iload_n dX11_sheet_83 rfl rfl ?_
                  refine rn_cV (M' := mX8_lay) (n := 3) (av := [.inl a1, .inl a2, .inl a3]) (S := []) (rc := 0) (rs := 0) (mc := 0) (ms := 0) (a := 85) (ci := 7) (r := (RX8, TX8, 3)) dX11_sheet_84 pa_X8_lay (Nat.le_refl _) rfl (Nat.le_of_ble_eq_true rfl) ml_X11_329 im_X8_lay se_X8_lay rfl rfl rfl (Ev.mono V ?_)
                  rintro v sh1 h64 ⟨rfl, Rh64, rfl, V⟩
                  show Rn G (d + 1) 0 0 mX11_sheet 87 [(0, .inr (.inr (some 0))), (1, .inl a1), (2, .inl a2), (3, .inl a3)] [] SH h64 (QI Q)
                  refine rn_iconst (v := 1) dX11_sheet_87 (by decide) ?_
                  exact rn_iret dX11_sheet_88 rfl ⟨rfl, Rh64, _, rfl, V⟩
                · replace V := V.2 c63
                  refine rn_iconst (v := 0) dX11_sheet_79 (by decide) ?_
                  refine rn_goto (tgt := 84) dX11_sheet_80 (by decide) ?_
                  refine rn_cV (M' := mX8_lay) (n := 3) (av := [.inl a1, .inl a2, .inl 0]) (S := []) (rc := 0) (rs := 0) (mc := 0) (ms := 0) (a := 85) (ci := 7) (r := (RX8, TX8, 3)) dX11_sheet_84 pa_X8_lay (Nat.le_refl _) rfl (Nat.le_of_ble_eq_true rfl) ml_X11_329 im_X8_lay se_X8_lay rfl rfl rfl (Ev.mono V ?_)
                  rintro v sh1 h65 ⟨rfl, Rh65, rfl, V⟩
                  show Rn G (d + 1) 0 0 mX11_sheet 87 [(0, .inr (.inr (some 0))), (1, .inl a1), (2, .inl a2), (3, .inl a3)] [] SH h65 (QI Q)
                  refine rn_iconst (v := 1) dX11_sheet_87 (by decide) ?_
                  exact rn_iret dX11_sheet_88 rfl ⟨rfl, Rh65, _, rfl, V⟩
              · replace V := V.2 c62
                refine rn_aload_n dX11_sheet_63 rfl rfl ?_
                refine rn_iconst (v := 1) dX11_sheet_64 (by decide) ?_
                refine rn_cV (M' := mX11_refuse) (n := 1) (av := [.inl 1]) (S := []) (rc := 0) (rs := 0) (mc := 0) (ms := 0) (a := 0) (ci := 10) (r := (RX11, TX11, 12)) dX11_sheet_65 pa_X11_refuse (Nat.le_refl _) rfl (Nat.le_of_ble_eq_true rfl) ml_X11_87 im_X11_refuse se_X11_refuse rfl rfl rfl (Ev.mono V ?_)
                rintro v sh1 h66 ⟨rfl, Rh66, x67, rfl, V⟩
                show Rn G (d + 1) 0 0 mX11_sheet 68 [(0, .inr (.inr (some 0))), (1, .inl a1), (2, .inl a2), (3, .inl a3)] [.inl x67] SH h66 (QI Q)
                exact rn_iret dX11_sheet_68 rfl ⟨rfl, Rh66, _, rfl, V⟩
          · replace V := V.2 c57
            refine rn_iload_n dX11_sheet_43 rfl rfl ?_
            refine rn_if_ge (tgt := 53) dX11_sheet_44 (by decide) (fun c68 => ?_) (fun c68 => ?_)
            · replace V := V.1 c68
              refine rn_iload_n dX11_sheet_53 rfl rfl ?_
              refine rn_if_eq (tgt := 69) dX11_sheet_54 (by decide) (fun c69 => ?_) (fun c69 => ?_)
              · replace V := V.1 c69
                refine rn_aload_n dX11_sheet_69 rfl rfl ?_
                refine rn_get (v := .inr (.inr (some 85))) dX11_sheet_70 fl_X11_71 rfl rfl (congrArg (fun z => (Sum.inr (Sum.inr z) : MV)) (rf_0_10 Rh1)) ?_
                refine rn_iload_n dX11_sheet_73 rfl rfl ?_
                refine rn_iload_n dX11_sheet_74 rfl rfl ?_
                refine rn_iload_n dX11_sheet_75 rfl rfl ?_
                refine rn_if_ne (tgt := 83) dX11_sheet_76 (by decide) (fun c70 => ?_) (fun c70 => ?_)
                · replace V := V.1 c70
                  refine rn_iload_n dX11_sheet_83 rfl rfl ?_
                  refine rn_cV (M' := mX8_lay) (n := 3) (av := [.inl a1, .inl a2, .inl a3]) (S := []) (rc := 0) (rs := 0) (mc := 0) (ms := 0) (a := 85) (ci := 7) (r := (RX8, TX8, 3)) dX11_sheet_84 pa_X8_lay (Nat.le_refl _) rfl (Nat.le_of_ble_eq_true rfl) ml_X11_329 im_X8_lay se_X8_lay rfl rfl rfl (Ev.mono V ?_)
                  rintro v sh1 h71 ⟨rfl, Rh71, rfl, V⟩
                  show Rn G (d + 1) 0 0 mX11_sheet 87 [(0, .inr (.inr (some 0))), (1, .inl a1), (2, .inl a2), (3, .inl a3)] [] SH h71 (QI Q)
                  refine rn_iconst (v := 1) dX11_sheet_87 (by decide) ?_
                  exact rn_iret dX11_sheet_88 rfl ⟨rfl, Rh71, _, rfl, V⟩
                · replace V := V.2 c70
                  refine rn_iconst (v := 0) dX11_sheet_79 (by decide) ?_
                  refine rn_goto (tgt := 84) dX11_sheet_80 (by decide) ?_
                  refine rn_cV (M' := mX8_lay) (n := 3) (av := [.inl a1, .inl a2, .inl 0]) (S := []) (rc := 0) (rs := 0) (mc := 0) (ms := 0) (a := 85) (ci := 7) (r := (RX8, TX8, 3)) dX11_sheet_84 pa_X8_lay (Nat.le_refl _) rfl (Nat.le_of_ble_eq_true rfl) ml_X11_329 im_X8_lay se_X8_lay rfl rfl rfl (Ev.mono V ?_)
                  rintro v sh1 h72 ⟨rfl, Rh72, rfl, V⟩
                  show Rn G (d + 1) 0 0 mX11_sheet 87 [(0, .inr (.inr (some 0))), (1, .inl a1), (2, .inl a2), (3, .inl a3)] [] SH h72 (QI Q)
                  refine rn_iconst (v := 1) dX11_sheet_87 (by decide) ?_
                  exact rn_iret dX11_sheet_88 rfl ⟨rfl, Rh72, _, rfl, V⟩
              · replace V := V.2 c69
                refine rn_iload_n dX11_sheet_57 rfl rfl ?_
                refine rn_bipush (v := 40) dX11_sheet_58 (by decide) ?_
                refine rn_icmp_le (tgt := 69) dX11_sheet_60 (by decide) (fun c73 => ?_) (fun c73 => ?_)
                · replace V := V.1 c73
                  refine rn_aload_n dX11_sheet_69 rfl rfl ?_
                  refine rn_get (v := .inr (.inr (some 85))) dX11_sheet_70 fl_X11_71 rfl rfl (congrArg (fun z => (Sum.inr (Sum.inr z) : MV)) (rf_0_10 Rh1)) ?_
                  refine rn_iload_n dX11_sheet_73 rfl rfl ?_
                  refine rn_iload_n dX11_sheet_74 rfl rfl ?_
                  refine rn_iload_n dX11_sheet_75 rfl rfl ?_
                  refine rn_if_ne (tgt := 83) dX11_sheet_76 (by decide) (fun c74 => ?_) (fun c74 => ?_)
                  · replace V := V.1 c74
                    refine rn_iload_n dX11_sheet_83 rfl rfl ?_
                    refine rn_cV (M' := mX8_lay) (n := 3) (av := [.inl a1, .inl a2, .inl a3]) (S := []) (rc := 0) (rs := 0) (mc := 0) (ms := 0) (a := 85) (ci := 7) (r := (RX8, TX8, 3)) dX11_sheet_84 pa_X8_lay (Nat.le_refl _) rfl (Nat.le_of_ble_eq_true rfl) ml_X11_329 im_X8_lay se_X8_lay rfl rfl rfl (Ev.mono V ?_)
                    rintro v sh1 h75 ⟨rfl, Rh75, rfl, V⟩
                    show Rn G (d + 1) 0 0 mX11_sheet 87 [(0, .inr (.inr (some 0))), (1, .inl a1), (2, .inl a2), (3, .inl a3)] [] SH h75 (QI Q)
                    refine rn_iconst (v := 1) dX11_sheet_87 (by decide) ?_
                    exact rn_iret dX11_sheet_88 rfl ⟨rfl, Rh75, _, rfl, V⟩
                  · replace V := V.2 c74
                    refine rn_iconst (v := 0) dX11_sheet_79 (by decide) ?_
                    refine rn_goto (tgt := 84) dX11_sheet_80 (by decide) ?_
                    refine rn_cV (M' := mX8_lay) (n := 3) (av := [.inl a1, .inl a2, .inl 0]) (S := []) (rc := 0) (rs := 0) (mc := 0) (ms := 0) (a := 85) (ci := 7) (r := (RX8, TX8, 3)) dX11_sheet_84 pa_X8_lay (Nat.le_refl _) rfl (Nat.le_of_ble_eq_true rfl) ml_X11_329 im_X8_lay se_X8_lay rfl rfl rfl (Ev.mono V ?_)
                    rintro v sh1 h76 ⟨rfl, Rh76, rfl, V⟩
                    show Rn G (d + 1) 0 0 mX11_sheet 87 [(0, .inr (.inr (some 0))), (1, .inl a1), (2, .inl a2), (3, .inl a3)] [] SH h76 (QI Q)
                    refine rn_iconst (v := 1) dX11_sheet_87 (by decide) ?_
                    exact rn_iret dX11_sheet_88 rfl ⟨rfl, Rh76, _, rfl, V⟩
                · replace V := V.2 c73
                  refine rn_aload_n dX11_sheet_63 rfl rfl ?_
                  refine rn_iconst (v := 1) dX11_sheet_64 (by decide) ?_
                  refine rn_cV (M' := mX11_refuse) (n := 1) (av := [.inl 1]) (S := []) (rc := 0) (rs := 0) (mc := 0) (ms := 0) (a := 0) (ci := 10) (r := (RX11, TX11, 12)) dX11_sheet_65 pa_X11_refuse (Nat.le_refl _) rfl (Nat.le_of_ble_eq_true rfl) ml_X11_87 im_X11_refuse se_X11_refuse rfl rfl rfl (Ev.mono V ?_)
                  rintro v sh1 h77 ⟨rfl, Rh77, x78, rfl, V⟩
                  show Rn G (d + 1) 0 0 mX11_sheet 68 [(0, .inr (.inr (some 0))), (1, .inl a1), (2, .inl a2), (3, .inl a3)] [.inl x78] SH h77 (QI Q)
                  exact rn_iret dX11_sheet_68 rfl ⟨rfl, Rh77, _, rfl, V⟩
            · replace V := V.2 c68
              refine rn_aload_n dX11_sheet_47 rfl rfl ?_
              refine rn_iconst (v := 3) dX11_sheet_48 (by decide) ?_
              refine rn_cV (M' := mX11_refuse) (n := 1) (av := [.inl 3]) (S := []) (rc := 0) (rs := 0) (mc := 0) (ms := 0) (a := 0) (ci := 10) (r := (RX11, TX11, 12)) dX11_sheet_49 pa_X11_refuse (Nat.le_refl _) rfl (Nat.le_of_ble_eq_true rfl) ml_X11_87 im_X11_refuse se_X11_refuse rfl rfl rfl (Ev.mono V ?_)
              rintro v sh1 h79 ⟨rfl, Rh79, x80, rfl, V⟩
              show Rn G (d + 1) 0 0 mX11_sheet 52 [(0, .inr (.inr (some 0))), (1, .inl a1), (2, .inl a2), (3, .inl a3)] [.inl x80] SH h79 (QI Q)
              exact rn_iret dX11_sheet_52 rfl ⟨rfl, Rh79, _, rfl, V⟩
        · replace V := V.2 c56
          refine rn_iload_n dX11_sheet_27 rfl rfl ?_
          refine rn_bipush (v := 32) dX11_sheet_28 (by decide) ?_
          refine rn_icmp_eq (tgt := 39) dX11_sheet_30 (by decide) (fun c81 => ?_) (fun c81 => ?_)
          · replace V := V.1 c81
            refine rn_iload_n dX11_sheet_39 rfl rfl ?_
            refine rn_if_eq (tgt := 53) dX11_sheet_40 (by decide) (fun c82 => ?_) (fun c82 => ?_)
            · replace V := V.1 c82
              refine rn_iload_n dX11_sheet_53 rfl rfl ?_
              refine rn_if_eq (tgt := 69) dX11_sheet_54 (by decide) (fun c83 => ?_) (fun c83 => ?_)
              · replace V := V.1 c83
                refine rn_aload_n dX11_sheet_69 rfl rfl ?_
                refine rn_get (v := .inr (.inr (some 85))) dX11_sheet_70 fl_X11_71 rfl rfl (congrArg (fun z => (Sum.inr (Sum.inr z) : MV)) (rf_0_10 Rh1)) ?_
                refine rn_iload_n dX11_sheet_73 rfl rfl ?_
                refine rn_iload_n dX11_sheet_74 rfl rfl ?_
                refine rn_iload_n dX11_sheet_75 rfl rfl ?_
                refine rn_if_ne (tgt := 83) dX11_sheet_76 (by decide) (fun c84 => ?_) (fun c84 => ?_)
                · replace V := V.1 c84
                  refine rn_iload_n dX11_sheet_83 rfl rfl ?_
                  refine rn_cV (M' := mX8_lay) (n := 3) (av := [.inl a1, .inl a2, .inl a3]) (S := []) (rc := 0) (rs := 0) (mc := 0) (ms := 0) (a := 85) (ci := 7) (r := (RX8, TX8, 3)) dX11_sheet_84 pa_X8_lay (Nat.le_refl _) rfl (Nat.le_of_ble_eq_true rfl) ml_X11_329 im_X8_lay se_X8_lay rfl rfl rfl (Ev.mono V ?_)
                  rintro v sh1 h85 ⟨rfl, Rh85, rfl, V⟩
                  show Rn G (d + 1) 0 0 mX11_sheet 87 [(0, .inr (.inr (some 0))), (1, .inl a1), (2, .inl a2), (3, .inl a3)] [] SH h85 (QI Q)
                  refine rn_iconst (v := 1) dX11_sheet_87 (by decide) ?_
                  exact rn_iret dX11_sheet_88 rfl ⟨rfl, Rh85, _, rfl, V⟩
                · replace V := V.2 c84
                  refine rn_iconst (v := 0) dX11_sheet_79 (by decide) ?_
                  refine rn_goto (tgt := 84) dX11_sheet_80 (by decide) ?_
                  refine rn_cV (M' := mX8_lay) (n := 3) (av := [.inl a1, .inl a2, .inl 0]) (S := []) (rc := 0) (rs := 0) (mc := 0) (ms := 0) (a := 85) (ci := 7) (r := (RX8, TX8, 3)) dX11_sheet_84 pa_X8_lay (Nat.le_refl _) rfl (Nat.le_of_ble_eq_true rfl) ml_X11_329 im_X8_lay se_X8_lay rfl rfl rfl (Ev.mono V ?_)
                  rintro v sh1 h86 ⟨rfl, Rh86, rfl, V⟩
                  show Rn G (d + 1) 0 0 mX11_sheet 87 [(0, .inr (.inr (some 0))), (1, .inl a1), (2, .inl a2), (3, .inl a3)] [] SH h86 (QI Q)
                  refine rn_iconst (v := 1) dX11_sheet_87 (by decide) ?_
                  exact rn_iret dX11_sheet_88 rfl ⟨rfl, Rh86, _, rfl, V⟩
              · replace V := V.2 c83
                refine rn_iload_n dX11_sheet_57 rfl rfl ?_
                refine rn_bipush (v := 40) dX11_sheet_58 (by decide) ?_
                refine rn_icmp_le (tgt := 69) dX11_sheet_60 (by decide) (fun c87 => ?_) (fun c87 => ?_)
                · replace V := V.1 c87
                  refine rn_aload_n dX11_sheet_69 rfl rfl ?_
                  refine rn_get (v := .inr (.inr (some 85))) dX11_sheet_70 fl_X11_71 rfl rfl (congrArg (fun z => (Sum.inr (Sum.inr z) : MV)) (rf_0_10 Rh1)) ?_
                  refine rn_iload_n dX11_sheet_73 rfl rfl ?_
                  refine rn_iload_n dX11_sheet_74 rfl rfl ?_
                  refine rn_iload_n dX11_sheet_75 rfl rfl ?_
                  refine rn_if_ne (tgt := 83) dX11_sheet_76 (by decide) (fun c88 => ?_) (fun c88 => ?_)
                  · replace V := V.1 c88
                    refine rn_iload_n dX11_sheet_83 rfl rfl ?_
                    refine rn_cV (M' := mX8_lay) (n := 3) (av := [.inl a1, .inl a2, .inl a3]) (S := []) (rc := 0) (rs := 0) (mc := 0) (ms := 0) (a := 85) (ci := 7) (r := (RX8, TX8, 3)) dX11_sheet_84 pa_X8_lay (Nat.le_refl _) rfl (Nat.le_of_ble_eq_true rfl) ml_X11_329 im_X8_lay se_X8_lay rfl rfl rfl (Ev.mono V ?_)
                    rintro v sh1 h89 ⟨rfl, Rh89, rfl, V⟩
                    show Rn G (d + 1) 0 0 mX11_sheet 87 [(0, .inr (.inr (some 0))), (1, .inl a1), (2, .inl a2), (3, .inl a3)] [] SH h89 (QI Q)
                    refine rn_iconst (v := 1) dX11_sheet_87 (by decide) ?_
                    exact rn_iret dX11_sheet_88 rfl ⟨rfl, Rh89, _, rfl, V⟩
                  · replace V := V.2 c88
                    refine rn_iconst (v := 0) dX11_sheet_79 (by decide) ?_
                    refine rn_goto (tgt := 84) dX11_sheet_80 (by decide) ?_
                    refine rn_cV (M' := mX8_lay) (n := 3) (av := [.inl a1, .inl a2, .inl 0]) (S := []) (rc := 0) (rs := 0) (mc := 0) (ms := 0) (a := 85) (ci := 7) (r := (RX8, TX8, 3)) dX11_sheet_84 pa_X8_lay (Nat.le_refl _) rfl (Nat.le_of_ble_eq_true rfl) ml_X11_329 im_X8_lay se_X8_lay rfl rfl rfl (Ev.mono V ?_)
                    rintro v sh1 h90 ⟨rfl, Rh90, rfl, V⟩
                    show Rn G (d + 1) 0 0 mX11_sheet 87 [(0, .inr (.inr (some 0))), (1, .inl a1), (2, .inl a2), (3, .inl a3)] [] SH h90 (QI Q)
                    refine rn_iconst (v := 1) dX11_sheet_87 (by decide) ?_
                    exact rn_iret dX11_sheet_88 rfl ⟨rfl, Rh90, _, rfl, V⟩
                · replace V := V.2 c87
                  refine rn_aload_n dX11_sheet_63 rfl rfl ?_
                  refine rn_iconst (v := 1) dX11_sheet_64 (by decide) ?_
                  refine rn_cV (M' := mX11_refuse) (n := 1) (av := [.inl 1]) (S := []) (rc := 0) (rs := 0) (mc := 0) (ms := 0) (a := 0) (ci := 10) (r := (RX11, TX11, 12)) dX11_sheet_65 pa_X11_refuse (Nat.le_refl _) rfl (Nat.le_of_ble_eq_true rfl) ml_X11_87 im_X11_refuse se_X11_refuse rfl rfl rfl (Ev.mono V ?_)
                  rintro v sh1 h91 ⟨rfl, Rh91, x92, rfl, V⟩
                  show Rn G (d + 1) 0 0 mX11_sheet 68 [(0, .inr (.inr (some 0))), (1, .inl a1), (2, .inl a2), (3, .inl a3)] [.inl x92] SH h91 (QI Q)
                  exact rn_iret dX11_sheet_68 rfl ⟨rfl, Rh91, _, rfl, V⟩
            · replace V := V.2 c82
              refine rn_iload_n dX11_sheet_43 rfl rfl ?_
              refine rn_if_ge (tgt := 53) dX11_sheet_44 (by decide) (fun c93 => ?_) (fun c93 => ?_)
              · replace V := V.1 c93
                refine rn_iload_n dX11_sheet_53 rfl rfl ?_
                refine rn_if_eq (tgt := 69) dX11_sheet_54 (by decide) (fun c94 => ?_) (fun c94 => ?_)
                · replace V := V.1 c94
                  refine rn_aload_n dX11_sheet_69 rfl rfl ?_
                  refine rn_get (v := .inr (.inr (some 85))) dX11_sheet_70 fl_X11_71 rfl rfl (congrArg (fun z => (Sum.inr (Sum.inr z) : MV)) (rf_0_10 Rh1)) ?_
                  refine rn_iload_n dX11_sheet_73 rfl rfl ?_
                  refine rn_iload_n dX11_sheet_74 rfl rfl ?_
                  refine rn_iload_n dX11_sheet_75 rfl rfl ?_
                  refine rn_if_ne (tgt := 83) dX11_sheet_76 (by decide) (fun c95 => ?_) (fun c95 => ?_)
                  · replace V := V.1 c95
                    refine rn_iload_n dX11_sheet_83 rfl rfl ?_
                    refine rn_cV (M' := mX8_lay) (n := 3) (av := [.inl a1, .inl a2, .inl a3]) (S := []) (rc := 0) (rs := 0) (mc := 0) (ms := 0) (a := 85) (ci := 7) (r := (RX8, TX8, 3)) dX11_sheet_84 pa_X8_lay (Nat.le_refl _) rfl (Nat.le_of_ble_eq_true rfl) ml_X11_329 im_X8_lay se_X8_lay rfl rfl rfl (Ev.mono V ?_)
                    rintro v sh1 h96 ⟨rfl, Rh96, rfl, V⟩
                    show Rn G (d + 1) 0 0 mX11_sheet 87 [(0, .inr (.inr (some 0))), (1, .inl a1), (2, .inl a2), (3, .inl a3)] [] SH h96 (QI Q)
                    refine rn_iconst (v := 1) dX11_sheet_87 (by decide) ?_
                    exact rn_iret dX11_sheet_88 rfl ⟨rfl, Rh96, _, rfl, V⟩
                  · replace V := V.2 c95
                    refine rn_iconst (v := 0) dX11_sheet_79 (by decide) ?_
                    refine rn_goto (tgt := 84) dX11_sheet_80 (by decide) ?_
                    refine rn_cV (M' := mX8_lay) (n := 3) (av := [.inl a1, .inl a2, .inl 0]) (S := []) (rc := 0) (rs := 0) (mc := 0) (ms := 0) (a := 85) (ci := 7) (r := (RX8, TX8, 3)) dX11_sheet_84 pa_X8_lay (Nat.le_refl _) rfl (Nat.le_of_ble_eq_true rfl) ml_X11_329 im_X8_lay se_X8_lay rfl rfl rfl (Ev.mono V ?_)
                    rintro v sh1 h97 ⟨rfl, Rh97, rfl, V⟩
                    show Rn G (d + 1) 0 0 mX11_sheet 87 [(0, .inr (.inr (some 0))), (1, .inl a1), (2, .inl a2), (3, .inl a3)] [] SH h97 (QI Q)
                    refine rn_iconst (v := 1) dX11_sheet_87 (by decide) ?_
                    exact rn_iret dX11_sheet_88 rfl ⟨rfl, Rh97, _, rfl, V⟩
                · replace V := V.2 c94
                  refine rn_iload_n dX11_sheet_57 rfl rfl ?_
                  refine rn_bipush (v := 40) dX11_sheet_58 (by decide) ?_
                  refine rn_icmp_le (tgt := 69) dX11_sheet_60 (by decide) (fun c98 => ?_) (fun c98 => ?_)
                  · replace V := V.1 c98
                    refine rn_aload_n dX11_sheet_69 rfl rfl ?_
                    refine rn_get (v := .inr (.inr (some 85))) dX11_sheet_70 fl_X11_71 rfl rfl (congrArg (fun z => (Sum.inr (Sum.inr z) : MV)) (rf_0_10 Rh1)) ?_
                    refine rn_iload_n dX11_sheet_73 rfl rfl ?_
                    refine rn_iload_n dX11_sheet_74 rfl rfl ?_
                    refine rn_iload_n dX11_sheet_75 rfl rfl ?_
                    refine rn_if_ne (tgt := 83) dX11_sheet_76 (by decide) (fun c99 => ?_) (fun c99 => ?_)
                    · replace V := V.1 c99
                      refine rn_iload_n dX11_sheet_83 rfl rfl ?_
                      refine rn_cV (M' := mX8_lay) (n := 3) (av := [.inl a1, .inl a2, .inl a3]) (S := []) (rc := 0) (rs := 0) (mc := 0) (ms := 0) (a := 85) (ci := 7) (r := (RX8, TX8, 3)) dX11_sheet_84 pa_X8_lay (Nat.le_refl _) rfl (Nat.le_of_ble_eq_true rfl) ml_X11_329 im_X8_lay se_X8_lay rfl rfl rfl (Ev.mono V ?_)
                      rintro v sh1 h100 ⟨rfl, Rh100, rfl, V⟩
                      show Rn G (d + 1) 0 0 mX11_sheet 87 [(0, .inr (.inr (some 0))), (1, .inl a1), (2, .inl a2), (3, .inl a3)] [] SH h100 (QI Q)
                      refine rn_iconst (v := 1) dX11_sheet_87 (by decide) ?_
                      exact rn_iret dX11_sheet_88 rfl ⟨rfl, Rh100, _, rfl, V⟩
                    · replace V := V.2 c99
                      refine rn_iconst (v := 0) dX11_sheet_79 (by decide) ?_
                      refine rn_goto (tgt := 84) dX11_sheet_80 (by decide) ?_
                      refine rn_cV (M' := mX8_lay) (n := 3) (av := [.inl a1, .inl a2, .inl 0]) (S := []) (rc := 0) (rs := 0) (mc := 0) (ms := 0) (a := 85) (ci := 7) (r := (RX8, TX8, 3)) dX11_sheet_84 pa_X8_lay (Nat.le_refl _) rfl (Nat.le_of_ble_eq_true rfl) ml_X11_329 im_X8_lay se_X8_lay rfl rfl rfl (Ev.mono V ?_)
                      rintro v sh1 h101 ⟨rfl, Rh101, rfl, V⟩
                      show Rn G (d + 1) 0 0 mX11_sheet 87 [(0, .inr (.inr (some 0))), (1, .inl a1), (2, .inl a2), (3, .inl a3)] [] SH h101 (QI Q)
                      refine rn_iconst (v := 1) dX11_sheet_87 (by decide) ?_
                      exact rn_iret dX11_sheet_88 rfl ⟨rfl, Rh101, _, rfl, V⟩
                  · replace V := V.2 c98
                    refine rn_aload_n dX11_sheet_63 rfl rfl ?_
                    refine rn_iconst (v := 1) dX11_sheet_64 (by decide) ?_
                    refine rn_cV (M' := mX11_refuse) (n := 1) (av := [.inl 1]) (S := []) (rc := 0) (rs := 0) (mc := 0) (ms := 0) (a := 0) (ci := 10) (r := (RX11, TX11, 12)) dX11_sheet_65 pa_X11_refuse (Nat.le_refl _) rfl (Nat.le_of_ble_eq_true rfl) ml_X11_87 im_X11_refuse se_X11_refuse rfl rfl rfl (Ev.mono V ?_)
                    rintro v sh1 h102 ⟨rfl, Rh102, x103, rfl, V⟩
                    show Rn G (d + 1) 0 0 mX11_sheet 68 [(0, .inr (.inr (some 0))), (1, .inl a1), (2, .inl a2), (3, .inl a3)] [.inl x103] SH h102 (QI Q)
                    exact rn_iret dX11_sheet_68 rfl ⟨rfl, Rh102, _, rfl, V⟩
              · replace V := V.2 c93
                refine rn_aload_n dX11_sheet_47 rfl rfl ?_
                refine rn_iconst (v := 3) dX11_sheet_48 (by decide) ?_
                refine rn_cV (M' := mX11_refuse) (n := 1) (av := [.inl 3]) (S := []) (rc := 0) (rs := 0) (mc := 0) (ms := 0) (a := 0) (ci := 10) (r := (RX11, TX11, 12)) dX11_sheet_49 pa_X11_refuse (Nat.le_refl _) rfl (Nat.le_of_ble_eq_true rfl) ml_X11_87 im_X11_refuse se_X11_refuse rfl rfl rfl (Ev.mono V ?_)
                rintro v sh1 h104 ⟨rfl, Rh104, x105, rfl, V⟩
                show Rn G (d + 1) 0 0 mX11_sheet 52 [(0, .inr (.inr (some 0))), (1, .inl a1), (2, .inl a2), (3, .inl a3)] [.inl x105] SH h104 (QI Q)
                exact rn_iret dX11_sheet_52 rfl ⟨rfl, Rh104, _, rfl, V⟩
          · replace V := V.2 c81
            refine rn_aload_n dX11_sheet_33 rfl rfl ?_
            refine rn_iconst (v := 1) dX11_sheet_34 (by decide) ?_
            refine rn_cV (M' := mX11_refuse) (n := 1) (av := [.inl 1]) (S := []) (rc := 0) (rs := 0) (mc := 0) (ms := 0) (a := 0) (ci := 10) (r := (RX11, TX11, 12)) dX11_sheet_35 pa_X11_refuse (Nat.le_refl _) rfl (Nat.le_of_ble_eq_true rfl) ml_X11_87 im_X11_refuse se_X11_refuse rfl rfl rfl (Ev.mono V ?_)
            rintro v sh1 h106 ⟨rfl, Rh106, x107, rfl, V⟩
            show Rn G (d + 1) 0 0 mX11_sheet 38 [(0, .inr (.inr (some 0))), (1, .inl a1), (2, .inl a2), (3, .inl a3)] [.inl x107] SH h106 (QI Q)
            exact rn_iret dX11_sheet_38 rfl ⟨rfl, Rh106, _, rfl, V⟩
set_option maxRecDepth 100000 in
set_option maxHeartbeats 4000000 in
theorem vc_X11_put {G : GT} {d : Nat} {a1 : Int32} {a2 : Int32} {a3 : Int32}  {h : Hp} {Q : Int32 → Hp → Prop} (hR : RF h) (V : EvI G d mX8_has [.inr (.inr (some 85)), .inl a1] h (fun x2 h1 => ((¬ x2 = 0 → EvI G d mX8_isMissing [.inr (.inr (some 85)), .inl a1] h1 (fun x5 h4 => ((x5 = 0 → vp_in a1 4 ∧ EvI G d mX11_within [.inl a2, .inl 0, .inl (h4.1 87 (Int32.toNatClampNeg a1) - 1)] h4 (fun x8 h7 => ((¬ x8 = 0 → vp_in a1 4 ∧ ∃ r10 : Nat, h7.2.2 88 (Int32.toNatClampNeg a1) = some r10 ∧ SH[r10]? = some (.inr (0, 40)) ∧ vp_in a1 4 ∧ EvI G d mX8_cutTo [.inr (.inr (some 85)), .inl (h7.1 86 (Int32.toNatClampNeg a1)), .inl a3] h7 (fun x12 h11 => vp_in a2 40 ∧ Q 1 (sI h11 r10 (Int32.toNatClampNeg a2) x12))) ∧ (x8 = 0 → EvI G d mX11_refuse [.inr (.inr (some 0)), .inl 1] h7 (fun x14 h13 => Q x14 h13))))) ∧ (¬ x5 = 0 → EvI G d mX11_refuse [.inr (.inr (some 0)), .inl 2] h4 (fun x16 h15 => Q x16 h15))))) ∧ (x2 = 0 → EvI G d mX11_refuse [.inr (.inr (some 0)), .inl 1] h1 (fun x18 h17 => Q x18 h17))))) : EvI G (d + 1) mX11_put [.inr (.inr (some 0)), .inl a1, .inl a2, .inl a3] h Q := by
  refine Ev.of rfl (fun _ => Nat.le_of_ble_eq_true rfl) ?_
  show Rn G (d + 1) 0 0 mX11_put 0 [(0, .inr (.inr (some 0))), (1, .inl a1), (2, .inl a2), (3, .inl a3)] [] SH h (QI Q)
  refine rn_aload_n dX11_put_0 rfl rfl ?_
  refine rn_get (v := .inr (.inr (some 85))) dX11_put_1 fl_X11_71 rfl rfl (congrArg (fun z => (Sum.inr (Sum.inr z) : MV)) (rf_0_10 hR)) ?_
  refine rn_iload_n dX11_put_4 rfl rfl ?_
  refine rn_cV (M' := mX8_has) (n := 1) (av := [.inl a1]) (S := []) (rc := 0) (rs := 0) (mc := 0) (ms := 0) (a := 85) (ci := 7) (r := (RX8, TX8, 3)) dX11_put_5 pa_X8_has (Nat.le_refl _) rfl (Nat.le_of_ble_eq_true rfl) ml_X11_299 im_X8_has se_X8_has rfl rfl rfl (Ev.mono V ?_)
  rintro v sh1 h1 ⟨rfl, Rh1, x2, rfl, V⟩
  show Rn G (d + 1) 0 0 mX11_put 8 [(0, .inr (.inr (some 0))), (1, .inl a1), (2, .inl a2), (3, .inl a3)] [.inl x2] SH h1 (QI Q)
  refine rn_if_ne (tgt := 17) dX11_put_8 (by decide) (fun c3 => ?_) (fun c3 => ?_)
  · replace V := V.1 c3
    refine rn_aload_n dX11_put_17 rfl rfl ?_
    refine rn_get (v := .inr (.inr (some 85))) dX11_put_18 fl_X11_71 rfl rfl (congrArg (fun z => (Sum.inr (Sum.inr z) : MV)) (rf_0_10 Rh1)) ?_
    refine rn_iload_n dX11_put_21 rfl rfl ?_
    refine rn_cV (M' := mX8_isMissing) (n := 1) (av := [.inl a1]) (S := []) (rc := 0) (rs := 0) (mc := 0) (ms := 0) (a := 85) (ci := 7) (r := (RX8, TX8, 3)) dX11_put_22 pa_X8_isMissing (Nat.le_refl _) rfl (Nat.le_of_ble_eq_true rfl) ml_X11_302 im_X8_isMissing se_X8_isMissing rfl rfl rfl (Ev.mono V ?_)
    rintro v sh1 h4 ⟨rfl, Rh4, x5, rfl, V⟩
    show Rn G (d + 1) 0 0 mX11_put 25 [(0, .inr (.inr (some 0))), (1, .inl a1), (2, .inl a2), (3, .inl a3)] [.inl x5] SH h4 (QI Q)
    refine rn_if_eq (tgt := 34) dX11_put_25 (by decide) (fun c6 => ?_) (fun c6 => ?_)
    · replace V := V.1 c6
      refine rn_iload_n dX11_put_34 rfl rfl ?_
      refine rn_iconst (v := 0) dX11_put_35 (by decide) ?_
      refine rn_aload_n dX11_put_36 rfl rfl ?_
      refine rn_get (v := .inr (.inr (some 85))) dX11_put_37 fl_X11_71 rfl rfl (congrArg (fun z => (Sum.inr (Sum.inr z) : MV)) (rf_0_10 Rh4)) ?_
      refine rn_get (v := .inr (.inr (some 87))) dX11_put_40 fl_X11_309 rfl rfl (congrArg (fun z => (Sum.inr (Sum.inr z) : MV)) (rf_85_1 Rh4)) ?_
      refine rn_iload_n dX11_put_43 rfl rfl ?_
      obtain ⟨g0, V⟩ := V
      refine rn_iald (k := (Int32.toNatClampNeg a1)) dX11_put_44 rfl rfl g0 ?_
      refine rn_iconst (v := 1) dX11_put_45 (by decide) ?_
      refine rn_isub dX11_put_46 ?_
      refine rn_cS (M' := mX11_within) (n := 3) (av := [.inl a2, .inl 0, .inl (h4.1 87 (Int32.toNatClampNeg a1) - 1)]) (S := []) (rc := 0) (rs := 0) (mc := 0) (ms := 0) dX11_put_47 pa_X11_within (Nat.le_refl _) rfl (Nat.le_of_ble_eq_true rfl) ml_X11_83 ss_X11_within rfl (Ev.mono V ?_)
      rintro v sh1 h7 ⟨rfl, Rh7, x8, rfl, V⟩
      show Rn G (d + 1) 0 0 mX11_put 50 [(0, .inr (.inr (some 0))), (1, .inl a1), (2, .inl a2), (3, .inl a3)] [.inl x8] SH h7 (QI Q)
      refine rn_if_ne (tgt := 59) dX11_put_50 (by decide) (fun c9 => ?_) (fun c9 => ?_)
      · replace V := V.1 c9
        refine rn_aload_n dX11_put_59 rfl rfl ?_
        refine rn_get (v := .inr (.inr (some 85))) dX11_put_60 fl_X11_71 rfl rfl (congrArg (fun z => (Sum.inr (Sum.inr z) : MV)) (rf_0_10 Rh7)) ?_
        refine rn_get (v := .inr (.inr (some 88))) dX11_put_63 fl_X11_305 rfl rfl (congrArg (fun z => (Sum.inr (Sum.inr z) : MV)) (rf_85_2 Rh7)) ?_
        refine rn_iload_n dX11_put_66 rfl rfl ?_
        obtain ⟨g0, V⟩ := V
        obtain ⟨r10, g, hr10, V⟩ := V
        refine rn_aald3 (k := (Int32.toNatClampNeg a1)) dX11_put_67 rfl rfl g0 g ?_
        refine rn_iload_n dX11_put_68 rfl rfl ?_
        refine rn_aload_n dX11_put_69 rfl rfl ?_
        refine rn_get (v := .inr (.inr (some 85))) dX11_put_70 fl_X11_71 rfl rfl (congrArg (fun z => (Sum.inr (Sum.inr z) : MV)) (rf_0_10 Rh7)) ?_
        refine rn_aload_n dX11_put_73 rfl rfl ?_
        refine rn_get (v := .inr (.inr (some 85))) dX11_put_74 fl_X11_71 rfl rfl (congrArg (fun z => (Sum.inr (Sum.inr z) : MV)) (rf_0_10 Rh7)) ?_
        refine rn_get (v := .inr (.inr (some 86))) dX11_put_77 fl_X11_333 rfl rfl (congrArg (fun z => (Sum.inr (Sum.inr z) : MV)) (rf_85_0 Rh7)) ?_
        refine rn_iload_n dX11_put_80 rfl rfl ?_
        obtain ⟨g0, V⟩ := V
        refine rn_iald (k := (Int32.toNatClampNeg a1)) dX11_put_81 rfl rfl g0 ?_
        refine rn_iload_n dX11_put_82 rfl rfl ?_
        refine rn_cV (M' := mX8_cutTo) (n := 2) (av := [.inl (h7.1 86 (Int32.toNatClampNeg a1)), .inl a3]) (S := [.inl a2, .inr (.inr (some r10))]) (rc := 0) (rs := 0) (mc := 0) (ms := 0) (a := 85) (ci := 7) (r := (RX8, TX8, 3)) dX11_put_83 pa_X8_cutTo (Nat.le_refl _) rfl (Nat.le_of_ble_eq_true rfl) ml_X11_336 im_X8_cutTo se_X8_cutTo rfl rfl rfl (Ev.mono V ?_)
        rintro v sh1 h11 ⟨rfl, Rh11, x12, rfl, V⟩
        show Rn G (d + 1) 0 0 mX11_put 86 [(0, .inr (.inr (some 0))), (1, .inl a1), (2, .inl a2), (3, .inl a3)] [.inl x12, .inl a2, .inr (.inr (some r10))] SH h11 (QI Q)
        obtain ⟨g0, V⟩ := V
        refine rn_iast (k := (Int32.toNatClampNeg a2)) dX11_put_86 hr10 rfl g0 ?_
        refine rn_iconst (v := 1) dX11_put_87 (by decide) ?_
        exact rn_iret dX11_put_88 rfl ⟨rfl, Rh11, _, rfl, V⟩
      · replace V := V.2 c9
        refine rn_aload_n dX11_put_53 rfl rfl ?_
        refine rn_iconst (v := 1) dX11_put_54 (by decide) ?_
        refine rn_cV (M' := mX11_refuse) (n := 1) (av := [.inl 1]) (S := []) (rc := 0) (rs := 0) (mc := 0) (ms := 0) (a := 0) (ci := 10) (r := (RX11, TX11, 12)) dX11_put_55 pa_X11_refuse (Nat.le_refl _) rfl (Nat.le_of_ble_eq_true rfl) ml_X11_87 im_X11_refuse se_X11_refuse rfl rfl rfl (Ev.mono V ?_)
        rintro v sh1 h13 ⟨rfl, Rh13, x14, rfl, V⟩
        show Rn G (d + 1) 0 0 mX11_put 58 [(0, .inr (.inr (some 0))), (1, .inl a1), (2, .inl a2), (3, .inl a3)] [.inl x14] SH h13 (QI Q)
        exact rn_iret dX11_put_58 rfl ⟨rfl, Rh13, _, rfl, V⟩
    · replace V := V.2 c6
      refine rn_aload_n dX11_put_28 rfl rfl ?_
      refine rn_iconst (v := 2) dX11_put_29 (by decide) ?_
      refine rn_cV (M' := mX11_refuse) (n := 1) (av := [.inl 2]) (S := []) (rc := 0) (rs := 0) (mc := 0) (ms := 0) (a := 0) (ci := 10) (r := (RX11, TX11, 12)) dX11_put_30 pa_X11_refuse (Nat.le_refl _) rfl (Nat.le_of_ble_eq_true rfl) ml_X11_87 im_X11_refuse se_X11_refuse rfl rfl rfl (Ev.mono V ?_)
      rintro v sh1 h15 ⟨rfl, Rh15, x16, rfl, V⟩
      show Rn G (d + 1) 0 0 mX11_put 33 [(0, .inr (.inr (some 0))), (1, .inl a1), (2, .inl a2), (3, .inl a3)] [.inl x16] SH h15 (QI Q)
      exact rn_iret dX11_put_33 rfl ⟨rfl, Rh15, _, rfl, V⟩
  · replace V := V.2 c3
    refine rn_aload_n dX11_put_11 rfl rfl ?_
    refine rn_iconst (v := 1) dX11_put_12 (by decide) ?_
    refine rn_cV (M' := mX11_refuse) (n := 1) (av := [.inl 1]) (S := []) (rc := 0) (rs := 0) (mc := 0) (ms := 0) (a := 0) (ci := 10) (r := (RX11, TX11, 12)) dX11_put_13 pa_X11_refuse (Nat.le_refl _) rfl (Nat.le_of_ble_eq_true rfl) ml_X11_87 im_X11_refuse se_X11_refuse rfl rfl rfl (Ev.mono V ?_)
    rintro v sh1 h17 ⟨rfl, Rh17, x18, rfl, V⟩
    show Rn G (d + 1) 0 0 mX11_put 16 [(0, .inr (.inr (some 0))), (1, .inl a1), (2, .inl a2), (3, .inl a3)] [.inl x18] SH h17 (QI Q)
    exact rn_iret dX11_put_16 rfl ⟨rfl, Rh17, _, rfl, V⟩
set_option maxRecDepth 100000 in
set_option maxHeartbeats 4000000 in
theorem vc_X11_move {G : GT} {d : Nat} {a1 : Int32} {a2 : Int32} {a3 : Int32} {a4 : Int32} {a5 : Int32}  {h : Hp} {Q : Int32 → Hp → Prop} (hR : RF h) (V : EvI G d mX8_has [.inr (.inr (some 85)), .inl a1] h (fun x2 h1 => ((x2 = 0 → EvI G d mX11_refuse [.inr (.inr (some 0)), .inl 1] h1 (fun x5 h4 => Q x5 h4)) ∧ (¬ x2 = 0 → EvI G d mX8_has [.inr (.inr (some 85)), .inl a3] h1 (fun x7 h6 => ((¬ x7 = 0 → EvI G d mX8_isMissing [.inr (.inr (some 85)), .inl a1] h6 (fun x10 h9 => ((¬ x10 = 0 → EvI G d mX11_refuse [.inr (.inr (some 0)), .inl 2] h9 (fun x13 h12 => Q x13 h12)) ∧ (x10 = 0 → EvI G d mX8_isMissing [.inr (.inr (some 85)), .inl a3] h9 (fun x15 h14 => ((x15 = 0 → vp_in a1 4 ∧ vp_in a3 4 ∧ ((h14.1 86 (Int32.toNatClampNeg a1) = h14.1 86 (Int32.toNatClampNeg a3) → EvI G d mX8_stand [.inr (.inr (some 85)), .inl a1, .inl a2, .inl a5] h14 (fun x19 h18 => ((x19 = 0 → EvI G d mX11_refuse [.inr (.inr (some 0)), .inl 1] h18 (fun x22 h21 => Q x22 h21)) ∧ (¬ x19 = 0 → EvI G d mX8_stand [.inr (.inr (some 85)), .inl a3, .inl a4, .inl a5] h18 (fun x24 h23 => ((¬ x24 = 0 → vp_in a1 4 ∧ ∃ r26 : Nat, h23.2.2 88 (Int32.toNatClampNeg a1) = some r26 ∧ SH[r26]? = some (.inr (0, 40)) ∧ vp_in a3 4 ∧ ∃ r27 : Nat, h23.2.2 88 (Int32.toNatClampNeg a3) = some r27 ∧ SH[r27]? = some (.inr (0, 40)) ∧ ¬ a2 < 0 ∧ ¬ a4 < 0 ∧ ¬ a5 < 0 ∧ Int32.toNatClampNeg a2 + Int32.toNatClampNeg a5 ≤ 40 ∧ Int32.toNatClampNeg a4 + Int32.toNatClampNeg a5 ≤ 40 ∧ Q a5 (cpI h23 r26 (Int32.toNatClampNeg a2) r27 (Int32.toNatClampNeg a4) (Int32.toNatClampNeg a5))) ∧ (x24 = 0 → EvI G d mX11_refuse [.inr (.inr (some 0)), .inl 1] h23 (fun x29 h28 => Q x29 h28)))))))) ∧ (¬ h14.1 86 (Int32.toNatClampNeg a1) = h14.1 86 (Int32.toNatClampNeg a3) → EvI G d mX11_refuse [.inr (.inr (some 0)), .inl 5] h14 (fun x31 h30 => Q x31 h30)))) ∧ (¬ x15 = 0 → EvI G d mX11_refuse [.inr (.inr (some 0)), .inl 2] h14 (fun x33 h32 => Q x33 h32)))))))) ∧ (x7 = 0 → EvI G d mX11_refuse [.inr (.inr (some 0)), .inl 1] h6 (fun x35 h34 => Q x35 h34)))))))) : EvI G (d + 1) mX11_move [.inr (.inr (some 0)), .inl a1, .inl a2, .inl a3, .inl a4, .inl a5] h Q := by
  refine Ev.of rfl (fun _ => Nat.le_of_ble_eq_true rfl) ?_
  show Rn G (d + 1) 0 0 mX11_move 0 [(0, .inr (.inr (some 0))), (1, .inl a1), (2, .inl a2), (3, .inl a3), (4, .inl a4), (5, .inl a5)] [] SH h (QI Q)
  refine rn_aload_n dX11_move_0 rfl rfl ?_
  refine rn_get (v := .inr (.inr (some 85))) dX11_move_1 fl_X11_71 rfl rfl (congrArg (fun z => (Sum.inr (Sum.inr z) : MV)) (rf_0_10 hR)) ?_
  refine rn_iload_n dX11_move_4 rfl rfl ?_
  refine rn_cV (M' := mX8_has) (n := 1) (av := [.inl a1]) (S := []) (rc := 0) (rs := 0) (mc := 0) (ms := 0) (a := 85) (ci := 7) (r := (RX8, TX8, 3)) dX11_move_5 pa_X8_has (Nat.le_refl _) rfl (Nat.le_of_ble_eq_true rfl) ml_X11_299 im_X8_has se_X8_has rfl rfl rfl (Ev.mono V ?_)
  rintro v sh1 h1 ⟨rfl, Rh1, x2, rfl, V⟩
  show Rn G (d + 1) 0 0 mX11_move 8 [(0, .inr (.inr (some 0))), (1, .inl a1), (2, .inl a2), (3, .inl a3), (4, .inl a4), (5, .inl a5)] [.inl x2] SH h1 (QI Q)
  refine rn_if_eq (tgt := 22) dX11_move_8 (by decide) (fun c3 => ?_) (fun c3 => ?_)
  · replace V := V.1 c3
    refine rn_aload_n dX11_move_22 rfl rfl ?_
    refine rn_iconst (v := 1) dX11_move_23 (by decide) ?_
    refine rn_cV (M' := mX11_refuse) (n := 1) (av := [.inl 1]) (S := []) (rc := 0) (rs := 0) (mc := 0) (ms := 0) (a := 0) (ci := 10) (r := (RX11, TX11, 12)) dX11_move_24 pa_X11_refuse (Nat.le_refl _) rfl (Nat.le_of_ble_eq_true rfl) ml_X11_87 im_X11_refuse se_X11_refuse rfl rfl rfl (Ev.mono V ?_)
    rintro v sh1 h4 ⟨rfl, Rh4, x5, rfl, V⟩
    show Rn G (d + 1) 0 0 mX11_move 27 [(0, .inr (.inr (some 0))), (1, .inl a1), (2, .inl a2), (3, .inl a3), (4, .inl a4), (5, .inl a5)] [.inl x5] SH h4 (QI Q)
    exact rn_iret dX11_move_27 rfl ⟨rfl, Rh4, _, rfl, V⟩
  · replace V := V.2 c3
    refine rn_aload_n dX11_move_11 rfl rfl ?_
    refine rn_get (v := .inr (.inr (some 85))) dX11_move_12 fl_X11_71 rfl rfl (congrArg (fun z => (Sum.inr (Sum.inr z) : MV)) (rf_0_10 Rh1)) ?_
    refine rn_iload_n dX11_move_15 rfl rfl ?_
    refine rn_cV (M' := mX8_has) (n := 1) (av := [.inl a3]) (S := []) (rc := 0) (rs := 0) (mc := 0) (ms := 0) (a := 85) (ci := 7) (r := (RX8, TX8, 3)) dX11_move_16 pa_X8_has (Nat.le_refl _) rfl (Nat.le_of_ble_eq_true rfl) ml_X11_299 im_X8_has se_X8_has rfl rfl rfl (Ev.mono V ?_)
    rintro v sh1 h6 ⟨rfl, Rh6, x7, rfl, V⟩
    show Rn G (d + 1) 0 0 mX11_move 19 [(0, .inr (.inr (some 0))), (1, .inl a1), (2, .inl a2), (3, .inl a3), (4, .inl a4), (5, .inl a5)] [.inl x7] SH h6 (QI Q)
    refine rn_if_ne (tgt := 28) dX11_move_19 (by decide) (fun c8 => ?_) (fun c8 => ?_)
    · replace V := V.1 c8
      refine rn_aload_n dX11_move_28 rfl rfl ?_
      refine rn_get (v := .inr (.inr (some 85))) dX11_move_29 fl_X11_71 rfl rfl (congrArg (fun z => (Sum.inr (Sum.inr z) : MV)) (rf_0_10 Rh6)) ?_
      refine rn_iload_n dX11_move_32 rfl rfl ?_
      refine rn_cV (M' := mX8_isMissing) (n := 1) (av := [.inl a1]) (S := []) (rc := 0) (rs := 0) (mc := 0) (ms := 0) (a := 85) (ci := 7) (r := (RX8, TX8, 3)) dX11_move_33 pa_X8_isMissing (Nat.le_refl _) rfl (Nat.le_of_ble_eq_true rfl) ml_X11_302 im_X8_isMissing se_X8_isMissing rfl rfl rfl (Ev.mono V ?_)
      rintro v sh1 h9 ⟨rfl, Rh9, x10, rfl, V⟩
      show Rn G (d + 1) 0 0 mX11_move 36 [(0, .inr (.inr (some 0))), (1, .inl a1), (2, .inl a2), (3, .inl a3), (4, .inl a4), (5, .inl a5)] [.inl x10] SH h9 (QI Q)
      refine rn_if_ne (tgt := 50) dX11_move_36 (by decide) (fun c11 => ?_) (fun c11 => ?_)
      · replace V := V.1 c11
        refine rn_aload_n dX11_move_50 rfl rfl ?_
        refine rn_iconst (v := 2) dX11_move_51 (by decide) ?_
        refine rn_cV (M' := mX11_refuse) (n := 1) (av := [.inl 2]) (S := []) (rc := 0) (rs := 0) (mc := 0) (ms := 0) (a := 0) (ci := 10) (r := (RX11, TX11, 12)) dX11_move_52 pa_X11_refuse (Nat.le_refl _) rfl (Nat.le_of_ble_eq_true rfl) ml_X11_87 im_X11_refuse se_X11_refuse rfl rfl rfl (Ev.mono V ?_)
        rintro v sh1 h12 ⟨rfl, Rh12, x13, rfl, V⟩
        show Rn G (d + 1) 0 0 mX11_move 55 [(0, .inr (.inr (some 0))), (1, .inl a1), (2, .inl a2), (3, .inl a3), (4, .inl a4), (5, .inl a5)] [.inl x13] SH h12 (QI Q)
        exact rn_iret dX11_move_55 rfl ⟨rfl, Rh12, _, rfl, V⟩
      · replace V := V.2 c11
        refine rn_aload_n dX11_move_39 rfl rfl ?_
        refine rn_get (v := .inr (.inr (some 85))) dX11_move_40 fl_X11_71 rfl rfl (congrArg (fun z => (Sum.inr (Sum.inr z) : MV)) (rf_0_10 Rh9)) ?_
        refine rn_iload_n dX11_move_43 rfl rfl ?_
        refine rn_cV (M' := mX8_isMissing) (n := 1) (av := [.inl a3]) (S := []) (rc := 0) (rs := 0) (mc := 0) (ms := 0) (a := 85) (ci := 7) (r := (RX8, TX8, 3)) dX11_move_44 pa_X8_isMissing (Nat.le_refl _) rfl (Nat.le_of_ble_eq_true rfl) ml_X11_302 im_X8_isMissing se_X8_isMissing rfl rfl rfl (Ev.mono V ?_)
        rintro v sh1 h14 ⟨rfl, Rh14, x15, rfl, V⟩
        show Rn G (d + 1) 0 0 mX11_move 47 [(0, .inr (.inr (some 0))), (1, .inl a1), (2, .inl a2), (3, .inl a3), (4, .inl a4), (5, .inl a5)] [.inl x15] SH h14 (QI Q)
        refine rn_if_eq (tgt := 56) dX11_move_47 (by decide) (fun c16 => ?_) (fun c16 => ?_)
        · replace V := V.1 c16
          refine rn_aload_n dX11_move_56 rfl rfl ?_
          refine rn_get (v := .inr (.inr (some 85))) dX11_move_57 fl_X11_71 rfl rfl (congrArg (fun z => (Sum.inr (Sum.inr z) : MV)) (rf_0_10 Rh14)) ?_
          refine rn_get (v := .inr (.inr (some 86))) dX11_move_60 fl_X11_333 rfl rfl (congrArg (fun z => (Sum.inr (Sum.inr z) : MV)) (rf_85_0 Rh14)) ?_
          refine rn_iload_n dX11_move_63 rfl rfl ?_
          obtain ⟨g0, V⟩ := V
          refine rn_iald (k := (Int32.toNatClampNeg a1)) dX11_move_64 rfl rfl g0 ?_
          refine rn_aload_n dX11_move_65 rfl rfl ?_
          refine rn_get (v := .inr (.inr (some 85))) dX11_move_66 fl_X11_71 rfl rfl (congrArg (fun z => (Sum.inr (Sum.inr z) : MV)) (rf_0_10 Rh14)) ?_
          refine rn_get (v := .inr (.inr (some 86))) dX11_move_69 fl_X11_333 rfl rfl (congrArg (fun z => (Sum.inr (Sum.inr z) : MV)) (rf_85_0 Rh14)) ?_
          refine rn_iload_n dX11_move_72 rfl rfl ?_
          obtain ⟨g0, V⟩ := V
          refine rn_iald (k := (Int32.toNatClampNeg a3)) dX11_move_73 rfl rfl g0 ?_
          refine rn_icmp_eq (tgt := 83) dX11_move_74 (by decide) (fun c17 => ?_) (fun c17 => ?_)
          · replace V := V.1 c17
            refine rn_aload_n dX11_move_83 rfl rfl ?_
            refine rn_get (v := .inr (.inr (some 85))) dX11_move_84 fl_X11_71 rfl rfl (congrArg (fun z => (Sum.inr (Sum.inr z) : MV)) (rf_0_10 Rh14)) ?_
            refine rn_iload_n dX11_move_87 rfl rfl ?_
            refine rn_iload_n dX11_move_88 rfl rfl ?_
            refine rn_iload dX11_move_89 rfl ?_
            refine rn_cV (M' := mX8_stand) (n := 3) (av := [.inl a1, .inl a2, .inl a5]) (S := []) (rc := 0) (rs := 0) (mc := 0) (ms := 0) (a := 85) (ci := 7) (r := (RX8, TX8, 3)) dX11_move_91 pa_X8_stand (Nat.le_refl _) rfl (Nat.le_of_ble_eq_true rfl) ml_X11_339 im_X8_stand se_X8_stand rfl rfl rfl (Ev.mono V ?_)
            rintro v sh1 h18 ⟨rfl, Rh18, x19, rfl, V⟩
            show Rn G (d + 1) 0 0 mX11_move 94 [(0, .inr (.inr (some 0))), (1, .inl a1), (2, .inl a2), (3, .inl a3), (4, .inl a4), (5, .inl a5)] [.inl x19] SH h18 (QI Q)
            refine rn_if_eq (tgt := 112) dX11_move_94 (by decide) (fun c20 => ?_) (fun c20 => ?_)
            · replace V := V.1 c20
              refine rn_aload_n dX11_move_112 rfl rfl ?_
              refine rn_iconst (v := 1) dX11_move_113 (by decide) ?_
              refine rn_cV (M' := mX11_refuse) (n := 1) (av := [.inl 1]) (S := []) (rc := 0) (rs := 0) (mc := 0) (ms := 0) (a := 0) (ci := 10) (r := (RX11, TX11, 12)) dX11_move_114 pa_X11_refuse (Nat.le_refl _) rfl (Nat.le_of_ble_eq_true rfl) ml_X11_87 im_X11_refuse se_X11_refuse rfl rfl rfl (Ev.mono V ?_)
              rintro v sh1 h21 ⟨rfl, Rh21, x22, rfl, V⟩
              show Rn G (d + 1) 0 0 mX11_move 117 [(0, .inr (.inr (some 0))), (1, .inl a1), (2, .inl a2), (3, .inl a3), (4, .inl a4), (5, .inl a5)] [.inl x22] SH h21 (QI Q)
              exact rn_iret dX11_move_117 rfl ⟨rfl, Rh21, _, rfl, V⟩
            · replace V := V.2 c20
              refine rn_aload_n dX11_move_97 rfl rfl ?_
              refine rn_get (v := .inr (.inr (some 85))) dX11_move_98 fl_X11_71 rfl rfl (congrArg (fun z => (Sum.inr (Sum.inr z) : MV)) (rf_0_10 Rh18)) ?_
              refine rn_iload_n dX11_move_101 rfl rfl ?_
              refine rn_iload dX11_move_102 rfl ?_
              refine rn_iload dX11_move_104 rfl ?_
              refine rn_cV (M' := mX8_stand) (n := 3) (av := [.inl a3, .inl a4, .inl a5]) (S := []) (rc := 0) (rs := 0) (mc := 0) (ms := 0) (a := 85) (ci := 7) (r := (RX8, TX8, 3)) dX11_move_106 pa_X8_stand (Nat.le_refl _) rfl (Nat.le_of_ble_eq_true rfl) ml_X11_339 im_X8_stand se_X8_stand rfl rfl rfl (Ev.mono V ?_)
              rintro v sh1 h23 ⟨rfl, Rh23, x24, rfl, V⟩
              show Rn G (d + 1) 0 0 mX11_move 109 [(0, .inr (.inr (some 0))), (1, .inl a1), (2, .inl a2), (3, .inl a3), (4, .inl a4), (5, .inl a5)] [.inl x24] SH h23 (QI Q)
              refine rn_if_ne (tgt := 118) dX11_move_109 (by decide) (fun c25 => ?_) (fun c25 => ?_)
              · replace V := V.1 c25
                refine rn_aload_n dX11_move_118 rfl rfl ?_
                refine rn_get (v := .inr (.inr (some 85))) dX11_move_119 fl_X11_71 rfl rfl (congrArg (fun z => (Sum.inr (Sum.inr z) : MV)) (rf_0_10 Rh23)) ?_
                refine rn_get (v := .inr (.inr (some 88))) dX11_move_122 fl_X11_305 rfl rfl (congrArg (fun z => (Sum.inr (Sum.inr z) : MV)) (rf_85_2 Rh23)) ?_
                refine rn_iload_n dX11_move_125 rfl rfl ?_
                obtain ⟨g0, V⟩ := V
                obtain ⟨r26, g, hr26, V⟩ := V
                refine rn_aald3 (k := (Int32.toNatClampNeg a1)) dX11_move_126 rfl rfl g0 g ?_
                refine rn_iload_n dX11_move_127 rfl rfl ?_
                refine rn_aload_n dX11_move_128 rfl rfl ?_
                refine rn_get (v := .inr (.inr (some 85))) dX11_move_129 fl_X11_71 rfl rfl (congrArg (fun z => (Sum.inr (Sum.inr z) : MV)) (rf_0_10 Rh23)) ?_
                refine rn_get (v := .inr (.inr (some 88))) dX11_move_132 fl_X11_305 rfl rfl (congrArg (fun z => (Sum.inr (Sum.inr z) : MV)) (rf_85_2 Rh23)) ?_
                refine rn_iload_n dX11_move_135 rfl rfl ?_
                obtain ⟨g0, V⟩ := V
                obtain ⟨r27, g, hr27, V⟩ := V
                refine rn_aald3 (k := (Int32.toNatClampNeg a3)) dX11_move_136 rfl rfl g0 g ?_
                refine rn_iload dX11_move_137 rfl ?_
                refine rn_iload dX11_move_139 rfl ?_
                obtain ⟨g1, g2, g3, g4, g5, V⟩ := V
                refine rn_copy (sp' := Int32.toNatClampNeg a2) (dp' := Int32.toNatClampNeg a4) (n' := Int32.toNatClampNeg a5) dX11_move_141 cp_X11_342 hr26 hr27 rfl rfl rfl g1 g2 g3 g4 g5 (Nat.le_of_ble_eq_true rfl) ?_
                refine rn_iload dX11_move_144 rfl ?_
                exact rn_iret dX11_move_146 rfl ⟨rfl, Rh23, _, rfl, V⟩
              · replace V := V.2 c25
                refine rn_aload_n dX11_move_112 rfl rfl ?_
                refine rn_iconst (v := 1) dX11_move_113 (by decide) ?_
                refine rn_cV (M' := mX11_refuse) (n := 1) (av := [.inl 1]) (S := []) (rc := 0) (rs := 0) (mc := 0) (ms := 0) (a := 0) (ci := 10) (r := (RX11, TX11, 12)) dX11_move_114 pa_X11_refuse (Nat.le_refl _) rfl (Nat.le_of_ble_eq_true rfl) ml_X11_87 im_X11_refuse se_X11_refuse rfl rfl rfl (Ev.mono V ?_)
                rintro v sh1 h28 ⟨rfl, Rh28, x29, rfl, V⟩
                show Rn G (d + 1) 0 0 mX11_move 117 [(0, .inr (.inr (some 0))), (1, .inl a1), (2, .inl a2), (3, .inl a3), (4, .inl a4), (5, .inl a5)] [.inl x29] SH h28 (QI Q)
                exact rn_iret dX11_move_117 rfl ⟨rfl, Rh28, _, rfl, V⟩
          · replace V := V.2 c17
            refine rn_aload_n dX11_move_77 rfl rfl ?_
            refine rn_iconst (v := 5) dX11_move_78 (by decide) ?_
            refine rn_cV (M' := mX11_refuse) (n := 1) (av := [.inl 5]) (S := []) (rc := 0) (rs := 0) (mc := 0) (ms := 0) (a := 0) (ci := 10) (r := (RX11, TX11, 12)) dX11_move_79 pa_X11_refuse (Nat.le_refl _) rfl (Nat.le_of_ble_eq_true rfl) ml_X11_87 im_X11_refuse se_X11_refuse rfl rfl rfl (Ev.mono V ?_)
            rintro v sh1 h30 ⟨rfl, Rh30, x31, rfl, V⟩
            show Rn G (d + 1) 0 0 mX11_move 82 [(0, .inr (.inr (some 0))), (1, .inl a1), (2, .inl a2), (3, .inl a3), (4, .inl a4), (5, .inl a5)] [.inl x31] SH h30 (QI Q)
            exact rn_iret dX11_move_82 rfl ⟨rfl, Rh30, _, rfl, V⟩
        · replace V := V.2 c16
          refine rn_aload_n dX11_move_50 rfl rfl ?_
          refine rn_iconst (v := 2) dX11_move_51 (by decide) ?_
          refine rn_cV (M' := mX11_refuse) (n := 1) (av := [.inl 2]) (S := []) (rc := 0) (rs := 0) (mc := 0) (ms := 0) (a := 0) (ci := 10) (r := (RX11, TX11, 12)) dX11_move_52 pa_X11_refuse (Nat.le_refl _) rfl (Nat.le_of_ble_eq_true rfl) ml_X11_87 im_X11_refuse se_X11_refuse rfl rfl rfl (Ev.mono V ?_)
          rintro v sh1 h32 ⟨rfl, Rh32, x33, rfl, V⟩
          show Rn G (d + 1) 0 0 mX11_move 55 [(0, .inr (.inr (some 0))), (1, .inl a1), (2, .inl a2), (3, .inl a3), (4, .inl a4), (5, .inl a5)] [.inl x33] SH h32 (QI Q)
          exact rn_iret dX11_move_55 rfl ⟨rfl, Rh32, _, rfl, V⟩
    · replace V := V.2 c8
      refine rn_aload_n dX11_move_22 rfl rfl ?_
      refine rn_iconst (v := 1) dX11_move_23 (by decide) ?_
      refine rn_cV (M' := mX11_refuse) (n := 1) (av := [.inl 1]) (S := []) (rc := 0) (rs := 0) (mc := 0) (ms := 0) (a := 0) (ci := 10) (r := (RX11, TX11, 12)) dX11_move_24 pa_X11_refuse (Nat.le_refl _) rfl (Nat.le_of_ble_eq_true rfl) ml_X11_87 im_X11_refuse se_X11_refuse rfl rfl rfl (Ev.mono V ?_)
      rintro v sh1 h34 ⟨rfl, Rh34, x35, rfl, V⟩
      show Rn G (d + 1) 0 0 mX11_move 27 [(0, .inr (.inr (some 0))), (1, .inl a1), (2, .inl a2), (3, .inl a3), (4, .inl a4), (5, .inl a5)] [.inl x35] SH h34 (QI Q)
      exact rn_iret dX11_move_27 rfl ⟨rfl, Rh34, _, rfl, V⟩
def Rg_X11_judge_68 (G : GT) (d : Nat) (l1 : Int32) (l2 : Int32) (l3 : Int32) (h : Hp) (Q : Int32 → Hp → Prop) : Prop := Rn G (d + 1) 0 0 mX11_judge 68 [(0, .inr (.inr (some 0))), (1, .inl l1), (2, .inl l2), (3, .inl l3)] [] SH h (QI Q)
set_option maxRecDepth 100000 in
set_option maxHeartbeats 4000000 in
theorem vc_X11_judge_68 {G : GT} {d : Nat} {l1 : Int32} {l2 : Int32} {l3 : Int32}  {h : Hp} {Q : Int32 → Hp → Prop} (hR : RF h) (V : ((l2 ≤ l3 → Q l2 h) ∧ (¬ l2 ≤ l3 → vp_in l1 4 ∧ ∃ r13 : Nat, h.2.2 88 (Int32.toNatClampNeg l1) = some r13 ∧ SH[r13]? = some (.inr (0, 40)) ∧ vp_in l3 40 ∧ EvI G d mX9_hasWord [.inr (.inr (some 1)), .inl (h.1 r13 (Int32.toNatClampNeg l3))] h (fun x15 h14 => ((x15 = 0 → Q l3 h14) ∧ (¬ x15 = 0 → EvI G d mX9_maySay [.inr (.inr (some 1)), .inr (.inr (some 41)), .inl (h.1 r13 (Int32.toNatClampNeg l3))] h14 (fun x18 h17 => ((¬ x18 = 0 → EvV G d mX9_begin [.inr (.inr (some 1)), .inr (.inr (some 41)), .inl (h.1 r13 (Int32.toNatClampNeg l3))] h17 (fun h20 => EvI G d mX9_tillEnd [.inr (.inr (some 1)), .inr (.inr (some 41))] h20 (fun x22 h21 => EvV G d mX9_pass [.inr (.inr (some 1)), .inr (.inr (some 41)), .inl x22] h21 (fun h23 => vp_in (h.1 r13 (Int32.toNatClampNeg l3)) 12 ∧ ((h23.1 44 (Int32.toNatClampNeg (h.1 r13 (Int32.toNatClampNeg l3))) = 1 → Rg_X11_judge_68 G d l1 l2 (l3 + 1) h23 Q) ∧ (¬ h23.1 44 (Int32.toNatClampNeg (h.1 r13 (Int32.toNatClampNeg l3))) = 1 → Q l3 h23)))))) ∧ (x18 = 0 → Q l3 h17))))))))) : Rg_X11_judge_68 G d l1 l2 l3 h Q := by
  show Rn G (d + 1) 0 0 mX11_judge 68 [(0, .inr (.inr (some 0))), (1, .inl l1), (2, .inl l2), (3, .inl l3)] [] SH h (QI Q)
  refine rn_iload_n dX11_judge_68 rfl rfl ?_
  refine rn_iload_n dX11_judge_69 rfl rfl ?_
  refine rn_icmp_ge (tgt := 173) dX11_judge_70 (by decide) (fun c12 => ?_) (fun c12 => ?_)
  · replace V := V.1 c12
    refine rn_iload_n dX11_judge_173 rfl rfl ?_
    exact rn_iret dX11_judge_174 rfl ⟨rfl, hR, _, rfl, V⟩
  · replace V := V.2 c12
    refine rn_aload_n dX11_judge_73 rfl rfl ?_
    refine rn_get (v := .inr (.inr (some 85))) dX11_judge_74 fl_X11_71 rfl rfl (congrArg (fun z => (Sum.inr (Sum.inr z) : MV)) (rf_0_10 hR)) ?_
    refine rn_get (v := .inr (.inr (some 88))) dX11_judge_77 fl_X11_305 rfl rfl (congrArg (fun z => (Sum.inr (Sum.inr z) : MV)) (rf_85_2 hR)) ?_
    refine rn_iload_n dX11_judge_80 rfl rfl ?_
    obtain ⟨g0, V⟩ := V
    obtain ⟨r13, g, hr13, V⟩ := V
    refine rn_aald3 (k := (Int32.toNatClampNeg l1)) dX11_judge_81 rfl rfl g0 g ?_
    refine rn_iload_n dX11_judge_82 rfl rfl ?_
    obtain ⟨g0, V⟩ := V
    refine rn_iald (k := (Int32.toNatClampNeg l3)) dX11_judge_83 hr13 rfl g0 ?_
    refine rn_istore (L' := [(4, .inl (h.1 r13 (Int32.toNatClampNeg l3))), (0, .inr (.inr (some 0))), (1, .inl l1), (2, .inl l2), (3, .inl l3)]) dX11_judge_84 (Nat.le_of_ble_eq_true rfl) rfl ?_
    refine rn_aload_n dX11_judge_86 rfl rfl ?_
    refine rn_get (v := .inr (.inr (some 1))) dX11_judge_87 fl_X11_10 rfl rfl (congrArg (fun z => (Sum.inr (Sum.inr z) : MV)) (rf_0_0 hR)) ?_
    refine rn_iload dX11_judge_90 rfl ?_
    refine rn_cV (M' := mX9_hasWord) (n := 1) (av := [.inl (h.1 r13 (Int32.toNatClampNeg l3))]) (S := []) (rc := 0) (rs := 0) (mc := 0) (ms := 0) (a := 1) (ci := 8) (r := (RX9, TX9, 17)) dX11_judge_92 pa_X9_hasWord (Nat.le_refl _) rfl (Nat.le_of_ble_eq_true rfl) ml_X11_142 im_X9_hasWord se_X9_hasWord rfl rfl rfl (Ev.mono V ?_)
    rintro v sh1 h14 ⟨rfl, Rh14, x15, rfl, V⟩
    show Rn G (d + 1) 0 0 mX11_judge 95 [(4, .inl (h.1 r13 (Int32.toNatClampNeg l3))), (0, .inr (.inr (some 0))), (1, .inl l1), (2, .inl l2), (3, .inl l3)] [.inl x15] SH h14 (QI Q)
    refine rn_if_eq (tgt := 114) dX11_judge_95 (by decide) (fun c16 => ?_) (fun c16 => ?_)
    · replace V := V.1 c16
      refine rn_iload_n dX11_judge_114 rfl rfl ?_
      exact rn_iret dX11_judge_115 rfl ⟨rfl, Rh14, _, rfl, V⟩
    · replace V := V.2 c16
      refine rn_aload_n dX11_judge_98 rfl rfl ?_
      refine rn_get (v := .inr (.inr (some 1))) dX11_judge_99 fl_X11_10 rfl rfl (congrArg (fun z => (Sum.inr (Sum.inr z) : MV)) (rf_0_0 Rh14)) ?_
      refine rn_aload_n dX11_judge_102 rfl rfl ?_
      refine rn_get (v := .inr (.inr (some 41))) dX11_judge_103 fl_X11_22 rfl rfl (congrArg (fun z => (Sum.inr (Sum.inr z) : MV)) (rf_0_3 Rh14)) ?_
      refine rn_iload dX11_judge_106 rfl ?_
      refine rn_cV (M' := mX9_maySay) (n := 2) (av := [.inr (.inr (some 41)), .inl (h.1 r13 (Int32.toNatClampNeg l3))]) (S := []) (rc := 0) (rs := 0) (mc := 0) (ms := 0) (a := 1) (ci := 8) (r := (RX9, TX9, 17)) dX11_judge_108 pa_X9_maySay (Nat.le_refl _) rfl (Nat.le_of_ble_eq_true rfl) ml_X11_185 im_X9_maySay se_X9_maySay rfl rfl rfl (Ev.mono V ?_)
      rintro v sh1 h17 ⟨rfl, Rh17, x18, rfl, V⟩
      show Rn G (d + 1) 0 0 mX11_judge 111 [(4, .inl (h.1 r13 (Int32.toNatClampNeg l3))), (0, .inr (.inr (some 0))), (1, .inl l1), (2, .inl l2), (3, .inl l3)] [.inl x18] SH h17 (QI Q)
      refine rn_if_ne (tgt := 116) dX11_judge_111 (by decide) (fun c19 => ?_) (fun c19 => ?_)
      · replace V := V.1 c19
        refine rn_aload_n dX11_judge_116 rfl rfl ?_
        refine rn_get (v := .inr (.inr (some 1))) dX11_judge_117 fl_X11_10 rfl rfl (congrArg (fun z => (Sum.inr (Sum.inr z) : MV)) (rf_0_0 Rh17)) ?_
        refine rn_aload_n dX11_judge_120 rfl rfl ?_
        refine rn_get (v := .inr (.inr (some 41))) dX11_judge_121 fl_X11_22 rfl rfl (congrArg (fun z => (Sum.inr (Sum.inr z) : MV)) (rf_0_3 Rh17)) ?_
        refine rn_iload dX11_judge_124 rfl ?_
        refine rn_cV (M' := mX9_begin) (n := 2) (av := [.inr (.inr (some 41)), .inl (h.1 r13 (Int32.toNatClampNeg l3))]) (S := []) (rc := 0) (rs := 0) (mc := 0) (ms := 0) (a := 1) (ci := 8) (r := (RX9, TX9, 17)) dX11_judge_126 pa_X9_begin (Nat.le_refl _) rfl (Nat.le_of_ble_eq_true rfl) ml_X11_189 im_X9_begin se_X9_begin rfl rfl rfl (Ev.mono V ?_)
        rintro v sh1 h20 ⟨rfl, Rh20, rfl, V⟩
        show Rn G (d + 1) 0 0 mX11_judge 129 [(4, .inl (h.1 r13 (Int32.toNatClampNeg l3))), (0, .inr (.inr (some 0))), (1, .inl l1), (2, .inl l2), (3, .inl l3)] [] SH h20 (QI Q)
        refine rn_aload_n dX11_judge_129 rfl rfl ?_
        refine rn_get (v := .inr (.inr (some 1))) dX11_judge_130 fl_X11_10 rfl rfl (congrArg (fun z => (Sum.inr (Sum.inr z) : MV)) (rf_0_0 Rh20)) ?_
        refine rn_aload_n dX11_judge_133 rfl rfl ?_
        refine rn_get (v := .inr (.inr (some 41))) dX11_judge_134 fl_X11_22 rfl rfl (congrArg (fun z => (Sum.inr (Sum.inr z) : MV)) (rf_0_3 Rh20)) ?_
        refine rn_aload_n dX11_judge_137 rfl rfl ?_
        refine rn_get (v := .inr (.inr (some 1))) dX11_judge_138 fl_X11_10 rfl rfl (congrArg (fun z => (Sum.inr (Sum.inr z) : MV)) (rf_0_0 Rh20)) ?_
        refine rn_aload_n dX11_judge_141 rfl rfl ?_
        refine rn_get (v := .inr (.inr (some 41))) dX11_judge_142 fl_X11_22 rfl rfl (congrArg (fun z => (Sum.inr (Sum.inr z) : MV)) (rf_0_3 Rh20)) ?_
        refine rn_cV (M' := mX9_tillEnd) (n := 1) (av := [.inr (.inr (some 41))]) (S := [.inr (.inr (some 41)), .inr (.inr (some 1))]) (rc := 0) (rs := 0) (mc := 0) (ms := 0) (a := 1) (ci := 8) (r := (RX9, TX9, 17)) dX11_judge_145 pa_X9_tillEnd (Nat.le_refl _) rfl (Nat.le_of_ble_eq_true rfl) ml_X11_348 im_X9_tillEnd se_X9_tillEnd rfl rfl rfl (Ev.mono V ?_)
        rintro v sh1 h21 ⟨rfl, Rh21, x22, rfl, V⟩
        show Rn G (d + 1) 0 0 mX11_judge 148 [(4, .inl (h.1 r13 (Int32.toNatClampNeg l3))), (0, .inr (.inr (some 0))), (1, .inl l1), (2, .inl l2), (3, .inl l3)] [.inl x22, .inr (.inr (some 41)), .inr (.inr (some 1))] SH h21 (QI Q)
        refine rn_cV (M' := mX9_pass) (n := 2) (av := [.inr (.inr (some 41)), .inl x22]) (S := []) (rc := 0) (rs := 0) (mc := 0) (ms := 0) (a := 1) (ci := 8) (r := (RX9, TX9, 17)) dX11_judge_148 pa_X9_pass (Nat.le_refl _) rfl (Nat.le_of_ble_eq_true rfl) ml_X11_201 im_X9_pass se_X9_pass rfl rfl rfl (Ev.mono V ?_)
        rintro v sh1 h23 ⟨rfl, Rh23, rfl, V⟩
        show Rn G (d + 1) 0 0 mX11_judge 151 [(4, .inl (h.1 r13 (Int32.toNatClampNeg l3))), (0, .inr (.inr (some 0))), (1, .inl l1), (2, .inl l2), (3, .inl l3)] [] SH h23 (QI Q)
        refine rn_aload_n dX11_judge_151 rfl rfl ?_
        refine rn_get (v := .inr (.inr (some 41))) dX11_judge_152 fl_X11_22 rfl rfl (congrArg (fun z => (Sum.inr (Sum.inr z) : MV)) (rf_0_3 Rh23)) ?_
        refine rn_get (v := .inr (.inr (some 44))) dX11_judge_155 fl_X11_157 rfl rfl (congrArg (fun z => (Sum.inr (Sum.inr z) : MV)) (rf_41_2 Rh23)) ?_
        refine rn_iload dX11_judge_158 rfl ?_
        obtain ⟨g0, V⟩ := V
        refine rn_iald (k := (Int32.toNatClampNeg (h.1 r13 (Int32.toNatClampNeg l3)))) dX11_judge_160 rfl rfl g0 ?_
        refine rn_iconst (v := 1) dX11_judge_161 (by decide) ?_
        refine rn_icmp_eq (tgt := 167) dX11_judge_162 (by decide) (fun c24 => ?_) (fun c24 => ?_)
        · replace V := V.1 c24
          refine rn_iinc (L' := [(3, .inl (l3 + 1)), (4, .inl (h.1 r13 (Int32.toNatClampNeg l3))), (0, .inr (.inr (some 0))), (1, .inl l1), (2, .inl l2)]) dX11_judge_167 rfl (v := (l3 + 1)) rfl (Nat.le_of_ble_eq_true rfl) rfl ?_
          refine rn_goto (tgt := 68) dX11_judge_170 (by decide) ?_
          refine rn_sub [2, 3, 4, 0] (L' := [(0, .inr (.inr (some 0))), (1, .inl l1), (2, .inl l2), (3, .inl (l3 + 1))]) rfl ?_
          exact V
        · replace V := V.2 c24
          refine rn_iload_n dX11_judge_165 rfl rfl ?_
          exact rn_iret dX11_judge_166 rfl ⟨rfl, Rh23, _, rfl, V⟩
      · replace V := V.2 c19
        refine rn_iload_n dX11_judge_114 rfl rfl ?_
        exact rn_iret dX11_judge_115 rfl ⟨rfl, Rh17, _, rfl, V⟩
set_option maxRecDepth 100000 in
set_option maxHeartbeats 4000000 in
theorem vc_X11_judge {G : GT} {d : Nat} {a1 : Int32}  {h : Hp} {Q : Int32 → Hp → Prop} (hR : RF h) (V : EvI G d mX8_has [.inr (.inr (some 85)), .inl a1] h (fun x2 h1 => ((¬ x2 = 0 → EvI G d mX8_isMissing [.inr (.inr (some 85)), .inl a1] h1 (fun x5 h4 => ((x5 = 0 → EvV G d mX2_copy [.inr (.inr (some 41)), .inr (.inr (some 9))] h4 (fun h7 => vp_in a1 4 ∧ Rg_X11_judge_68 G d a1 (h7.1 87 (Int32.toNatClampNeg a1)) 0 (sI h7 41 5 0) Q)) ∧ (¬ x5 = 0 → EvI G d mX11_refuse [.inr (.inr (some 0)), .inl 2] h4 (fun x9 h8 => Q x9 h8))))) ∧ (x2 = 0 → EvI G d mX11_refuse [.inr (.inr (some 0)), .inl 1] h1 (fun x11 h10 => Q x11 h10))))) : EvI G (d + 1) mX11_judge [.inr (.inr (some 0)), .inl a1] h Q := by
  refine Ev.of rfl (fun _ => Nat.le_of_ble_eq_true rfl) ?_
  show Rn G (d + 1) 0 0 mX11_judge 0 [(0, .inr (.inr (some 0))), (1, .inl a1)] [] SH h (QI Q)
  refine rn_aload_n dX11_judge_0 rfl rfl ?_
  refine rn_get (v := .inr (.inr (some 85))) dX11_judge_1 fl_X11_71 rfl rfl (congrArg (fun z => (Sum.inr (Sum.inr z) : MV)) (rf_0_10 hR)) ?_
  refine rn_iload_n dX11_judge_4 rfl rfl ?_
  refine rn_cV (M' := mX8_has) (n := 1) (av := [.inl a1]) (S := []) (rc := 0) (rs := 0) (mc := 0) (ms := 0) (a := 85) (ci := 7) (r := (RX8, TX8, 3)) dX11_judge_5 pa_X8_has (Nat.le_refl _) rfl (Nat.le_of_ble_eq_true rfl) ml_X11_299 im_X8_has se_X8_has rfl rfl rfl (Ev.mono V ?_)
  rintro v sh1 h1 ⟨rfl, Rh1, x2, rfl, V⟩
  show Rn G (d + 1) 0 0 mX11_judge 8 [(0, .inr (.inr (some 0))), (1, .inl a1)] [.inl x2] SH h1 (QI Q)
  refine rn_if_ne (tgt := 17) dX11_judge_8 (by decide) (fun c3 => ?_) (fun c3 => ?_)
  · replace V := V.1 c3
    refine rn_aload_n dX11_judge_17 rfl rfl ?_
    refine rn_get (v := .inr (.inr (some 85))) dX11_judge_18 fl_X11_71 rfl rfl (congrArg (fun z => (Sum.inr (Sum.inr z) : MV)) (rf_0_10 Rh1)) ?_
    refine rn_iload_n dX11_judge_21 rfl rfl ?_
    refine rn_cV (M' := mX8_isMissing) (n := 1) (av := [.inl a1]) (S := []) (rc := 0) (rs := 0) (mc := 0) (ms := 0) (a := 85) (ci := 7) (r := (RX8, TX8, 3)) dX11_judge_22 pa_X8_isMissing (Nat.le_refl _) rfl (Nat.le_of_ble_eq_true rfl) ml_X11_302 im_X8_isMissing se_X8_isMissing rfl rfl rfl (Ev.mono V ?_)
    rintro v sh1 h4 ⟨rfl, Rh4, x5, rfl, V⟩
    show Rn G (d + 1) 0 0 mX11_judge 25 [(0, .inr (.inr (some 0))), (1, .inl a1)] [.inl x5] SH h4 (QI Q)
    refine rn_if_eq (tgt := 34) dX11_judge_25 (by decide) (fun c6 => ?_) (fun c6 => ?_)
    · replace V := V.1 c6
      refine rn_aload_n dX11_judge_34 rfl rfl ?_
      refine rn_get (v := .inr (.inr (some 41))) dX11_judge_35 fl_X11_22 rfl rfl (congrArg (fun z => (Sum.inr (Sum.inr z) : MV)) (rf_0_3 Rh4)) ?_
      refine rn_aload_n dX11_judge_38 rfl rfl ?_
      refine rn_get (v := .inr (.inr (some 1))) dX11_judge_39 fl_X11_10 rfl rfl (congrArg (fun z => (Sum.inr (Sum.inr z) : MV)) (rf_0_0 Rh4)) ?_
      refine rn_get (v := .inr (.inr (some 9))) dX11_judge_42 fl_X11_111 rfl rfl (congrArg (fun z => (Sum.inr (Sum.inr z) : MV)) (rf_1_9 Rh4)) ?_
      refine rn_cV (M' := mX2_copy) (n := 1) (av := [.inr (.inr (some 9))]) (S := []) (rc := 0) (rs := 0) (mc := 0) (ms := 0) (a := 41) (ci := 2) (r := (RX2, TX2, 8)) dX11_judge_45 pa_X2_copy (Nat.le_refl _) rfl (Nat.le_of_ble_eq_true rfl) ml_X11_210 im_X2_copy se_X2_copy rfl rfl rfl (Ev.mono V ?_)
      rintro v sh1 h7 ⟨rfl, Rh7, rfl, V⟩
      show Rn G (d + 1) 0 0 mX11_judge 48 [(0, .inr (.inr (some 0))), (1, .inl a1)] [] SH h7 (QI Q)
      refine rn_aload_n dX11_judge_48 rfl rfl ?_
      refine rn_get (v := .inr (.inr (some 41))) dX11_judge_49 fl_X11_22 rfl rfl (congrArg (fun z => (Sum.inr (Sum.inr z) : MV)) (rf_0_3 Rh7)) ?_
      refine rn_iconst (v := 0) dX11_judge_52 (by decide) ?_
      refine rn_putI dX11_judge_53 fl_X11_182 rfl rfl (Or.inl rfl) rfl rfl ?_
      refine rn_aload_n dX11_judge_56 rfl rfl ?_
      refine rn_get (v := .inr (.inr (some 85))) dX11_judge_57 fl_X11_71 rfl rfl (congrArg (fun z => (Sum.inr (Sum.inr z) : MV)) (rf_0_10 Rh7)) ?_
      refine rn_get (v := .inr (.inr (some 87))) dX11_judge_60 fl_X11_309 rfl rfl (congrArg (fun z => (Sum.inr (Sum.inr z) : MV)) (rf_85_1 Rh7)) ?_
      refine rn_iload_n dX11_judge_63 rfl rfl ?_
      obtain ⟨g0, V⟩ := V
      refine rn_iald (k := (Int32.toNatClampNeg a1)) dX11_judge_64 rfl rfl g0 ?_
      refine rn_istore_n (L' := [(2, .inl (h7.1 87 (Int32.toNatClampNeg a1))), (0, .inr (.inr (some 0))), (1, .inl a1)]) dX11_judge_65 rfl (Nat.le_of_ble_eq_true rfl) rfl ?_
      refine rn_iconst (v := 0) dX11_judge_66 (by decide) ?_
      refine rn_istore_n (L' := [(3, .inl 0), (2, .inl (h7.1 87 (Int32.toNatClampNeg a1))), (0, .inr (.inr (some 0))), (1, .inl a1)]) dX11_judge_67 rfl (Nat.le_of_ble_eq_true rfl) rfl ?_
      refine rn_sub [2, 3, 1, 0] (L' := [(0, .inr (.inr (some 0))), (1, .inl a1), (2, .inl (h7.1 87 (Int32.toNatClampNeg a1))), (3, .inl 0)]) rfl ?_
      exact V
    · replace V := V.2 c6
      refine rn_aload_n dX11_judge_28 rfl rfl ?_
      refine rn_iconst (v := 2) dX11_judge_29 (by decide) ?_
      refine rn_cV (M' := mX11_refuse) (n := 1) (av := [.inl 2]) (S := []) (rc := 0) (rs := 0) (mc := 0) (ms := 0) (a := 0) (ci := 10) (r := (RX11, TX11, 12)) dX11_judge_30 pa_X11_refuse (Nat.le_refl _) rfl (Nat.le_of_ble_eq_true rfl) ml_X11_87 im_X11_refuse se_X11_refuse rfl rfl rfl (Ev.mono V ?_)
      rintro v sh1 h8 ⟨rfl, Rh8, x9, rfl, V⟩
      show Rn G (d + 1) 0 0 mX11_judge 33 [(0, .inr (.inr (some 0))), (1, .inl a1)] [.inl x9] SH h8 (QI Q)
      exact rn_iret dX11_judge_33 rfl ⟨rfl, Rh8, _, rfl, V⟩
  · replace V := V.2 c3
    refine rn_aload_n dX11_judge_11 rfl rfl ?_
    refine rn_iconst (v := 1) dX11_judge_12 (by decide) ?_
    refine rn_cV (M' := mX11_refuse) (n := 1) (av := [.inl 1]) (S := []) (rc := 0) (rs := 0) (mc := 0) (ms := 0) (a := 0) (ci := 10) (r := (RX11, TX11, 12)) dX11_judge_13 pa_X11_refuse (Nat.le_refl _) rfl (Nat.le_of_ble_eq_true rfl) ml_X11_87 im_X11_refuse se_X11_refuse rfl rfl rfl (Ev.mono V ?_)
    rintro v sh1 h10 ⟨rfl, Rh10, x11, rfl, V⟩
    show Rn G (d + 1) 0 0 mX11_judge 16 [(0, .inr (.inr (some 0))), (1, .inl a1)] [.inl x11] SH h10 (QI Q)
    exact rn_iret dX11_judge_16 rfl ⟨rfl, Rh10, _, rfl, V⟩
set_option maxRecDepth 100000 in
set_option maxHeartbeats 4000000 in
theorem vc_X11_image {G : GT} {d : Nat}   {h : Hp} {Q : Int32 → Hp → Prop} (hR : RF h) (V : EvV G d mX9_copy [.inr (.inr (some 21)), .inr (.inr (some 1))] h (fun h1 => Q (h1.1 0 2 + 1) (sI h1 0 2 (h1.1 0 2 + 1)))) : EvI G (d + 1) mX11_image [.inr (.inr (some 0))] h Q := by
  refine Ev.of rfl (fun _ => Nat.le_of_ble_eq_true rfl) ?_
  show Rn G (d + 1) 0 0 mX11_image 0 [(0, .inr (.inr (some 0)))] [] SH h (QI Q)
  refine rn_aload_n dX11_image_0 rfl rfl ?_
  refine rn_get (v := .inr (.inr (some 21))) dX11_image_1 fl_X11_16 rfl rfl (congrArg (fun z => (Sum.inr (Sum.inr z) : MV)) (rf_0_1 hR)) ?_
  refine rn_aload_n dX11_image_4 rfl rfl ?_
  refine rn_get (v := .inr (.inr (some 1))) dX11_image_5 fl_X11_10 rfl rfl (congrArg (fun z => (Sum.inr (Sum.inr z) : MV)) (rf_0_0 hR)) ?_
  refine rn_cV (M' := mX9_copy) (n := 1) (av := [.inr (.inr (some 1))]) (S := []) (rc := 0) (rs := 0) (mc := 0) (ms := 0) (a := 21) (ci := 8) (r := (RX9, TX9, 17)) dX11_image_8 pa_X9_copy (Nat.le_refl _) rfl (Nat.le_of_ble_eq_true rfl) ml_X11_351 im_X9_copy se_X9_copy rfl rfl rfl (Ev.mono V ?_)
  rintro v sh1 h1 ⟨rfl, Rh1, rfl, V⟩
  show Rn G (d + 1) 0 0 mX11_image 11 [(0, .inr (.inr (some 0)))] [] SH h1 (QI Q)
  refine rn_aload_n dX11_image_11 rfl rfl ?_
  refine rn_dup dX11_image_12 rfl ?_
  refine rn_get (v := .inl (h1.1 0 2)) dX11_image_13 fl_X11_354 rfl rfl rfl ?_
  refine rn_iconst (v := 1) dX11_image_16 (by decide) ?_
  refine rn_iadd dX11_image_17 ?_
  refine rn_putI dX11_image_18 fl_X11_354 rfl rfl (Or.inl rfl) rfl rfl ?_
  refine rn_aload_n dX11_image_21 rfl rfl ?_
  refine rn_get (v := .inl (h1.1 0 2 + 1)) dX11_image_22 fl_X11_354 rfl rfl rfl ?_
  exact rn_iret dX11_image_25 rfl ⟨rfl, Rh1, _, rfl, V⟩
set_option maxRecDepth 100000 in
set_option maxHeartbeats 4000000 in
theorem vc_X11_restore {G : GT} {d : Nat}   {h : Hp} {Q : Int32 → Hp → Prop} (hR : RF h) (V : ((¬ h.1 0 2 = 0 → EvV G d mX9_copy [.inr (.inr (some 1)), .inr (.inr (some 21))] h (fun h2 => Q (h2.1 9 3) h2)) ∧ (h.1 0 2 = 0 → EvI G d mX11_refuse [.inr (.inr (some 0)), .inl 2] h (fun x4 h3 => Q x4 h3)))) : EvI G (d + 1) mX11_restore [.inr (.inr (some 0))] h Q := by
  refine Ev.of rfl (fun _ => Nat.le_of_ble_eq_true rfl) ?_
  show Rn G (d + 1) 0 0 mX11_restore 0 [(0, .inr (.inr (some 0)))] [] SH h (QI Q)
  refine rn_aload_n dX11_restore_0 rfl rfl ?_
  refine rn_get (v := .inl (h.1 0 2)) dX11_restore_1 fl_X11_354 rfl rfl rfl ?_
  refine rn_if_ne (tgt := 13) dX11_restore_4 (by decide) (fun c1 => ?_) (fun c1 => ?_)
  · replace V := V.1 c1
    refine rn_aload_n dX11_restore_13 rfl rfl ?_
    refine rn_get (v := .inr (.inr (some 1))) dX11_restore_14 fl_X11_10 rfl rfl (congrArg (fun z => (Sum.inr (Sum.inr z) : MV)) (rf_0_0 hR)) ?_
    refine rn_aload_n dX11_restore_17 rfl rfl ?_
    refine rn_get (v := .inr (.inr (some 21))) dX11_restore_18 fl_X11_16 rfl rfl (congrArg (fun z => (Sum.inr (Sum.inr z) : MV)) (rf_0_1 hR)) ?_
    refine rn_cV (M' := mX9_copy) (n := 1) (av := [.inr (.inr (some 21))]) (S := []) (rc := 0) (rs := 0) (mc := 0) (ms := 0) (a := 1) (ci := 8) (r := (RX9, TX9, 17)) dX11_restore_21 pa_X9_copy (Nat.le_refl _) rfl (Nat.le_of_ble_eq_true rfl) ml_X11_351 im_X9_copy se_X9_copy rfl rfl rfl (Ev.mono V ?_)
    rintro v sh1 h2 ⟨rfl, Rh2, rfl, V⟩
    show Rn G (d + 1) 0 0 mX11_restore 24 [(0, .inr (.inr (some 0)))] [] SH h2 (QI Q)
    refine rn_aload_n dX11_restore_24 rfl rfl ?_
    refine rn_get (v := .inr (.inr (some 1))) dX11_restore_25 fl_X11_10 rfl rfl (congrArg (fun z => (Sum.inr (Sum.inr z) : MV)) (rf_0_0 Rh2)) ?_
    refine rn_get (v := .inr (.inr (some 9))) dX11_restore_28 fl_X11_111 rfl rfl (congrArg (fun z => (Sum.inr (Sum.inr z) : MV)) (rf_1_9 Rh2)) ?_
    refine rn_get (v := .inl (h2.1 9 3)) dX11_restore_31 fl_X11_197 rfl rfl rfl ?_
    exact rn_iret dX11_restore_34 rfl ⟨rfl, Rh2, _, rfl, V⟩
  · replace V := V.2 c1
    refine rn_aload_n dX11_restore_7 rfl rfl ?_
    refine rn_iconst (v := 2) dX11_restore_8 (by decide) ?_
    refine rn_cV (M' := mX11_refuse) (n := 1) (av := [.inl 2]) (S := []) (rc := 0) (rs := 0) (mc := 0) (ms := 0) (a := 0) (ci := 10) (r := (RX11, TX11, 12)) dX11_restore_9 pa_X11_refuse (Nat.le_refl _) rfl (Nat.le_of_ble_eq_true rfl) ml_X11_87 im_X11_refuse se_X11_refuse rfl rfl rfl (Ev.mono V ?_)
    rintro v sh1 h3 ⟨rfl, Rh3, x4, rfl, V⟩
    show Rn G (d + 1) 0 0 mX11_restore 12 [(0, .inr (.inr (some 0)))] [.inl x4] SH h3 (QI Q)
    exact rn_iret dX11_restore_12 rfl ⟨rfl, Rh3, _, rfl, V⟩
set_option maxRecDepth 100000 in
set_option maxHeartbeats 4000000 in
theorem vc_X11_tell {G : GT} {d : Nat} {a1 : Int32}  {h : Hp} {Q : Int32 → Hp → Prop} (hR : RF h) (V : ((h.1 1 15 < 20 → vp_in (h.1 1 15) 20 ∧ Q (h.1 1 15 + 1) (sI (sI h 20 (Int32.toNatClampNeg (h.1 1 15)) a1) 1 15 (h.1 1 15 + 1))) ∧ (¬ h.1 1 15 < 20 → EvI G d mX11_refuse [.inr (.inr (some 0)), .inl 4] h (fun x3 h2 => Q x3 h2)))) : EvI G (d + 1) mX11_tell [.inr (.inr (some 0)), .inl a1] h Q := by
  refine Ev.of rfl (fun _ => Nat.le_of_ble_eq_true rfl) ?_
  show Rn G (d + 1) 0 0 mX11_tell 0 [(0, .inr (.inr (some 0))), (1, .inl a1)] [] SH h (QI Q)
  refine rn_aload_n dX11_tell_0 rfl rfl ?_
  refine rn_get (v := .inr (.inr (some 1))) dX11_tell_1 fl_X11_10 rfl rfl (congrArg (fun z => (Sum.inr (Sum.inr z) : MV)) (rf_0_0 hR)) ?_
  refine rn_get (v := .inl (h.1 1 15)) dX11_tell_4 fl_X11_357 rfl rfl rfl ?_
  refine rn_bipush (v := 20) dX11_tell_7 (by decide) ?_
  refine rn_icmp_lt (tgt := 18) dX11_tell_9 (by decide) (fun c1 => ?_) (fun c1 => ?_)
  · replace V := V.1 c1
    refine rn_aload_n dX11_tell_18 rfl rfl ?_
    refine rn_get (v := .inr (.inr (some 1))) dX11_tell_19 fl_X11_10 rfl rfl (congrArg (fun z => (Sum.inr (Sum.inr z) : MV)) (rf_0_0 hR)) ?_
    refine rn_get (v := .inr (.inr (some 20))) dX11_tell_22 fl_X11_360 rfl rfl (congrArg (fun z => (Sum.inr (Sum.inr z) : MV)) (rf_1_14 hR)) ?_
    refine rn_aload_n dX11_tell_25 rfl rfl ?_
    refine rn_get (v := .inr (.inr (some 1))) dX11_tell_26 fl_X11_10 rfl rfl (congrArg (fun z => (Sum.inr (Sum.inr z) : MV)) (rf_0_0 hR)) ?_
    refine rn_get (v := .inl (h.1 1 15)) dX11_tell_29 fl_X11_357 rfl rfl rfl ?_
    refine rn_iload_n dX11_tell_32 rfl rfl ?_
    obtain ⟨g0, V⟩ := V
    refine rn_iast (k := (Int32.toNatClampNeg (h.1 1 15))) dX11_tell_33 rfl rfl g0 ?_
    refine rn_aload_n dX11_tell_34 rfl rfl ?_
    refine rn_get (v := .inr (.inr (some 1))) dX11_tell_35 fl_X11_10 rfl rfl (congrArg (fun z => (Sum.inr (Sum.inr z) : MV)) (rf_0_0 hR)) ?_
    refine rn_dup dX11_tell_38 rfl ?_
    refine rn_get (v := .inl (h.1 1 15)) dX11_tell_39 fl_X11_357 rfl rfl rfl ?_
    refine rn_iconst (v := 1) dX11_tell_42 (by decide) ?_
    refine rn_iadd dX11_tell_43 ?_
    refine rn_putI dX11_tell_44 fl_X11_357 rfl rfl (Or.inl rfl) rfl rfl ?_
    refine rn_aload_n dX11_tell_47 rfl rfl ?_
    refine rn_get (v := .inr (.inr (some 1))) dX11_tell_48 fl_X11_10 rfl rfl (congrArg (fun z => (Sum.inr (Sum.inr z) : MV)) (rf_0_0 hR)) ?_
    refine rn_get (v := .inl (h.1 1 15 + 1)) dX11_tell_51 fl_X11_357 rfl rfl rfl ?_
    exact rn_iret dX11_tell_54 rfl ⟨rfl, hR, _, rfl, V⟩
  · replace V := V.2 c1
    refine rn_aload_n dX11_tell_12 rfl rfl ?_
    refine rn_iconst (v := 4) dX11_tell_13 (by decide) ?_
    refine rn_cV (M' := mX11_refuse) (n := 1) (av := [.inl 4]) (S := []) (rc := 0) (rs := 0) (mc := 0) (ms := 0) (a := 0) (ci := 10) (r := (RX11, TX11, 12)) dX11_tell_14 pa_X11_refuse (Nat.le_refl _) rfl (Nat.le_of_ble_eq_true rfl) ml_X11_87 im_X11_refuse se_X11_refuse rfl rfl rfl (Ev.mono V ?_)
    rintro v sh1 h2 ⟨rfl, Rh2, x3, rfl, V⟩
    show Rn G (d + 1) 0 0 mX11_tell 17 [(0, .inr (.inr (some 0))), (1, .inl a1)] [.inl x3] SH h2 (QI Q)
    exact rn_iret dX11_tell_17 rfl ⟨rfl, Rh2, _, rfl, V⟩
set_option maxRecDepth 100000 in
set_option maxHeartbeats 4000000 in
theorem vc_X11_check {G : GT} {d : Nat}   {h : Hp} {Q : Int32 → Hp → Prop} (hR : RF h) (V : EvI G d mX11_firstUnlike [.inr (.inr (some 0)), .inr (.inr (some 20)), .inl (h.1 1 15)] h (fun x2 h1 => ((¬ x2 = (-1) → Q (1 + x2) (sI h1 1 15 0)) ∧ (x2 = (-1) → Q 0 (sI h1 1 15 0))))) : EvI G (d + 1) mX11_check [.inr (.inr (some 0))] h Q := by
  refine Ev.of rfl (fun _ => Nat.le_of_ble_eq_true rfl) ?_
  show Rn G (d + 1) 0 0 mX11_check 0 [(0, .inr (.inr (some 0)))] [] SH h (QI Q)
  refine rn_aload_n dX11_check_0 rfl rfl ?_
  refine rn_aload_n dX11_check_1 rfl rfl ?_
  refine rn_get (v := .inr (.inr (some 1))) dX11_check_2 fl_X11_10 rfl rfl (congrArg (fun z => (Sum.inr (Sum.inr z) : MV)) (rf_0_0 hR)) ?_
  refine rn_get (v := .inr (.inr (some 20))) dX11_check_5 fl_X11_360 rfl rfl (congrArg (fun z => (Sum.inr (Sum.inr z) : MV)) (rf_1_14 hR)) ?_
  refine rn_aload_n dX11_check_8 rfl rfl ?_
  refine rn_get (v := .inr (.inr (some 1))) dX11_check_9 fl_X11_10 rfl rfl (congrArg (fun z => (Sum.inr (Sum.inr z) : MV)) (rf_0_0 hR)) ?_
  refine rn_get (v := .inl (h.1 1 15)) dX11_check_12 fl_X11_357 rfl rfl rfl ?_
  refine rn_cV (M' := mX11_firstUnlike) (n := 2) (av := [.inr (.inr (some 20)), .inl (h.1 1 15)]) (S := []) (rc := 0) (rs := 0) (mc := 0) (ms := 0) (a := 0) (ci := 10) (r := (RX11, TX11, 12)) dX11_check_15 pa_X11_firstUnlike (Nat.le_refl _) rfl (Nat.le_of_ble_eq_true rfl) ml_X11_312 im_X11_firstUnlike se_X11_firstUnlike rfl rfl rfl (Ev.mono V ?_)
  rintro v sh1 h1 ⟨rfl, Rh1, x2, rfl, V⟩
  show Rn G (d + 1) 0 0 mX11_check 18 [(0, .inr (.inr (some 0)))] [.inl x2] SH h1 (QI Q)
  refine rn_istore_n (L' := [(1, .inl x2), (0, .inr (.inr (some 0)))]) dX11_check_18 rfl (Nat.le_of_ble_eq_true rfl) rfl ?_
  refine rn_aload_n dX11_check_19 rfl rfl ?_
  refine rn_get (v := .inr (.inr (some 1))) dX11_check_20 fl_X11_10 rfl rfl (congrArg (fun z => (Sum.inr (Sum.inr z) : MV)) (rf_0_0 Rh1)) ?_
  refine rn_iconst (v := 0) dX11_check_23 (by decide) ?_
  refine rn_putI dX11_check_24 fl_X11_357 rfl rfl (Or.inl rfl) rfl rfl ?_
  refine rn_iload_n dX11_check_27 rfl rfl ?_
  refine rn_iconst (v := (-1)) dX11_check_28 (by decide) ?_
  refine rn_icmp_ne (tgt := 36) dX11_check_29 (by decide) (fun c3 => ?_) (fun c3 => ?_)
  · replace V := V.1 c3
    refine rn_iconst (v := 1) dX11_check_36 (by decide) ?_
    refine rn_iload_n dX11_check_37 rfl rfl ?_
    refine rn_iadd dX11_check_38 ?_
    exact rn_iret dX11_check_39 rfl ⟨rfl, Rh1, _, rfl, V⟩
  · replace V := V.2 c3
    refine rn_iconst (v := 0) dX11_check_32 (by decide) ?_
    refine rn_goto (tgt := 39) dX11_check_33 (by decide) ?_
    exact rn_iret dX11_check_39 rfl ⟨rfl, Rh1, _, rfl, V⟩
set_option maxRecDepth 100000 in
set_option maxHeartbeats 4000000 in
theorem vc_X11_count {G : GT} {d : Nat} {a1 : Int32}  {h : Hp} {Q : Int32 → Hp → Prop} (hR : RF h) (V : ((((a1).toInt = 0 + (0 : Nat) → Q (h.1 1 0) h) ∧ ((a1).toInt = 0 + (1 : Nat) → Q (h.1 1 4) h) ∧ ((a1).toInt = 0 + (2 : Nat) → Q (h.1 9 3) h) ∧ ((a1).toInt = 0 + (3 : Nat) → Q (h.1 9 4) h) ∧ ((a1).toInt = 0 + (4 : Nat) → Q (h.1 9 5) h) ∧ ((a1).toInt = 0 + (5 : Nat) → Q (h.1 9 6) h) ∧ ((a1).toInt = 0 + (6 : Nat) → Q (h.1 9 7) h) ∧ ((a1).toInt = 0 + (7 : Nat) → EvI G d mX9_sets [.inr (.inr (some 1))] h (fun x4 h3 => EvI G d mX9_waterOf [.inr (.inr (some 1)), .inl (x4 - 1)] h3 (fun x6 h5 => Q x6 h5))) ∧ ((a1).toInt = 0 + (8 : Nat) → Q (h.1 1 13) h) ∧ ((a1).toInt = 0 + (9 : Nat) → Q (h.1 1 15) h) ∧ ((a1).toInt = 0 + (10 : Nat) → Q (h.1 83 1) h) ∧ ((a1).toInt = 0 + (11 : Nat) → Q (h.1 1 16) h)) ∧ ((a1).toInt < 0 ∨ 11 < (a1).toInt → EvI G d mX11_refuse [.inr (.inr (some 0)), .inl 1] h (fun x8 h7 => Q x8 h7)))) : EvI G (d + 1) mX11_count [.inr (.inr (some 0)), .inl a1] h Q := by
  refine Ev.of rfl (fun _ => Nat.le_of_ble_eq_true rfl) ?_
  show Rn G (d + 1) 0 0 mX11_count 0 [(0, .inr (.inr (some 0))), (1, .inl a1)] [] SH h (QI Q)
  refine rn_iload_n dX11_count_0 rfl rfl ?_
  refine rn_tsw (td := 184) [64, 72, 80, 91, 102, 113, 124, 135, 152, 160, 168, 176] dX11_count_1 (by decide) (by decide +kernel) (by decide) (fun i2 hi c1 => ?_) (fun c1 => ?_)
  · replace V := V.1
    match i2, hi, c1 with
    | 0, _, c1 =>
      replace V := V.1 c1
      show Rn G (d + 1) 0 0 mX11_count 64 [(0, .inr (.inr (some 0))), (1, .inl a1)] [] SH h (QI Q)
      refine rn_aload_n dX11_count_64 rfl rfl ?_
      refine rn_get (v := .inr (.inr (some 1))) dX11_count_65 fl_X11_10 rfl rfl (congrArg (fun z => (Sum.inr (Sum.inr z) : MV)) (rf_0_0 hR)) ?_
      refine rn_get (v := .inl (h.1 1 0)) dX11_count_68 fl_X11_91 rfl rfl rfl ?_
      exact rn_iret dX11_count_71 rfl ⟨rfl, hR, _, rfl, V⟩
    | 1, _, c1 =>
      replace V := V.2.1 c1
      show Rn G (d + 1) 0 0 mX11_count 72 [(0, .inr (.inr (some 0))), (1, .inl a1)] [] SH h (QI Q)
      refine rn_aload_n dX11_count_72 rfl rfl ?_
      refine rn_get (v := .inr (.inr (some 1))) dX11_count_73 fl_X11_10 rfl rfl (congrArg (fun z => (Sum.inr (Sum.inr z) : MV)) (rf_0_0 hR)) ?_
      refine rn_get (v := .inl (h.1 1 4)) dX11_count_76 fl_X11_135 rfl rfl rfl ?_
      exact rn_iret dX11_count_79 rfl ⟨rfl, hR, _, rfl, V⟩
    | 2, _, c1 =>
      replace V := V.2.2.1 c1
      show Rn G (d + 1) 0 0 mX11_count 80 [(0, .inr (.inr (some 0))), (1, .inl a1)] [] SH h (QI Q)
      refine rn_aload_n dX11_count_80 rfl rfl ?_
      refine rn_get (v := .inr (.inr (some 1))) dX11_count_81 fl_X11_10 rfl rfl (congrArg (fun z => (Sum.inr (Sum.inr z) : MV)) (rf_0_0 hR)) ?_
      refine rn_get (v := .inr (.inr (some 9))) dX11_count_84 fl_X11_111 rfl rfl (congrArg (fun z => (Sum.inr (Sum.inr z) : MV)) (rf_1_9 hR)) ?_
      refine rn_get (v := .inl (h.1 9 3)) dX11_count_87 fl_X11_197 rfl rfl rfl ?_
      exact rn_iret dX11_count_90 rfl ⟨rfl, hR, _, rfl, V⟩
    | 3, _, c1 =>
      replace V := V.2.2.2.1 c1
      show Rn G (d + 1) 0 0 mX11_count 91 [(0, .inr (.inr (some 0))), (1, .inl a1)] [] SH h (QI Q)
      refine rn_aload_n dX11_count_91 rfl rfl ?_
      refine rn_get (v := .inr (.inr (some 1))) dX11_count_92 fl_X11_10 rfl rfl (congrArg (fun z => (Sum.inr (Sum.inr z) : MV)) (rf_0_0 hR)) ?_
      refine rn_get (v := .inr (.inr (some 9))) dX11_count_95 fl_X11_111 rfl rfl (congrArg (fun z => (Sum.inr (Sum.inr z) : MV)) (rf_1_9 hR)) ?_
      refine rn_get (v := .inl (h.1 9 4)) dX11_count_98 fl_X11_204 rfl rfl rfl ?_
      exact rn_iret dX11_count_101 rfl ⟨rfl, hR, _, rfl, V⟩
    | 4, _, c1 =>
      replace V := V.2.2.2.2.1 c1
      show Rn G (d + 1) 0 0 mX11_count 102 [(0, .inr (.inr (some 0))), (1, .inl a1)] [] SH h (QI Q)
      refine rn_aload_n dX11_count_102 rfl rfl ?_
      refine rn_get (v := .inr (.inr (some 1))) dX11_count_103 fl_X11_10 rfl rfl (congrArg (fun z => (Sum.inr (Sum.inr z) : MV)) (rf_0_0 hR)) ?_
      refine rn_get (v := .inr (.inr (some 9))) dX11_count_106 fl_X11_111 rfl rfl (congrArg (fun z => (Sum.inr (Sum.inr z) : MV)) (rf_1_9 hR)) ?_
      refine rn_get (v := .inl (h.1 9 5)) dX11_count_109 fl_X11_182 rfl rfl rfl ?_
      exact rn_iret dX11_count_112 rfl ⟨rfl, hR, _, rfl, V⟩
    | 5, _, c1 =>
      replace V := V.2.2.2.2.2.1 c1
      show Rn G (d + 1) 0 0 mX11_count 113 [(0, .inr (.inr (some 0))), (1, .inl a1)] [] SH h (QI Q)
      refine rn_aload_n dX11_count_113 rfl rfl ?_
      refine rn_get (v := .inr (.inr (some 1))) dX11_count_114 fl_X11_10 rfl rfl (congrArg (fun z => (Sum.inr (Sum.inr z) : MV)) (rf_0_0 hR)) ?_
      refine rn_get (v := .inr (.inr (some 9))) dX11_count_117 fl_X11_111 rfl rfl (congrArg (fun z => (Sum.inr (Sum.inr z) : MV)) (rf_1_9 hR)) ?_
      refine rn_get (v := .inl (h.1 9 6)) dX11_count_120 fl_X11_160 rfl rfl rfl ?_
      exact rn_iret dX11_count_123 rfl ⟨rfl, hR, _, rfl, V⟩
    | 6, _, c1 =>
      replace V := V.2.2.2.2.2.2.1 c1
      show Rn G (d + 1) 0 0 mX11_count 124 [(0, .inr (.inr (some 0))), (1, .inl a1)] [] SH h (QI Q)
      refine rn_aload_n dX11_count_124 rfl rfl ?_
      refine rn_get (v := .inr (.inr (some 1))) dX11_count_125 fl_X11_10 rfl rfl (congrArg (fun z => (Sum.inr (Sum.inr z) : MV)) (rf_0_0 hR)) ?_
      refine rn_get (v := .inr (.inr (some 9))) dX11_count_128 fl_X11_111 rfl rfl (congrArg (fun z => (Sum.inr (Sum.inr z) : MV)) (rf_1_9 hR)) ?_
      refine rn_get (v := .inl (h.1 9 7)) dX11_count_131 fl_X11_363 rfl rfl rfl ?_
      exact rn_iret dX11_count_134 rfl ⟨rfl, hR, _, rfl, V⟩
    | 7, _, c1 =>
      replace V := V.2.2.2.2.2.2.2.1 c1
      show Rn G (d + 1) 0 0 mX11_count 135 [(0, .inr (.inr (some 0))), (1, .inl a1)] [] SH h (QI Q)
      refine rn_aload_n dX11_count_135 rfl rfl ?_
      refine rn_get (v := .inr (.inr (some 1))) dX11_count_136 fl_X11_10 rfl rfl (congrArg (fun z => (Sum.inr (Sum.inr z) : MV)) (rf_0_0 hR)) ?_
      refine rn_aload_n dX11_count_139 rfl rfl ?_
      refine rn_get (v := .inr (.inr (some 1))) dX11_count_140 fl_X11_10 rfl rfl (congrArg (fun z => (Sum.inr (Sum.inr z) : MV)) (rf_0_0 hR)) ?_
      refine rn_cV (M' := mX9_sets) (n := 0) (av := []) (S := [.inr (.inr (some 1))]) (rc := 0) (rs := 0) (mc := 0) (ms := 0) (a := 1) (ci := 8) (r := (RX9, TX9, 17)) dX11_count_143 pa_X9_sets (Nat.le_refl _) rfl (Nat.le_of_ble_eq_true rfl) ml_X11_246 im_X9_sets se_X9_sets rfl rfl rfl (Ev.mono V ?_)
      rintro v sh1 h3 ⟨rfl, Rh3, x4, rfl, V⟩
      show Rn G (d + 1) 0 0 mX11_count 146 [(0, .inr (.inr (some 0))), (1, .inl a1)] [.inl x4, .inr (.inr (some 1))] SH h3 (QI Q)
      refine rn_iconst (v := 1) dX11_count_146 (by decide) ?_
      refine rn_isub dX11_count_147 ?_
      refine rn_cV (M' := mX9_waterOf) (n := 1) (av := [.inl (x4 - 1)]) (S := []) (rc := 0) (rs := 0) (mc := 0) (ms := 0) (a := 1) (ci := 8) (r := (RX9, TX9, 17)) dX11_count_148 pa_X9_waterOf (Nat.le_refl _) rfl (Nat.le_of_ble_eq_true rfl) ml_X11_366 im_X9_waterOf se_X9_waterOf rfl rfl rfl (Ev.mono V ?_)
      rintro v sh1 h5 ⟨rfl, Rh5, x6, rfl, V⟩
      show Rn G (d + 1) 0 0 mX11_count 151 [(0, .inr (.inr (some 0))), (1, .inl a1)] [.inl x6] SH h5 (QI Q)
      exact rn_iret dX11_count_151 rfl ⟨rfl, Rh5, _, rfl, V⟩
    | 8, _, c1 =>
      replace V := V.2.2.2.2.2.2.2.2.1 c1
      show Rn G (d + 1) 0 0 mX11_count 152 [(0, .inr (.inr (some 0))), (1, .inl a1)] [] SH h (QI Q)
      refine rn_aload_n dX11_count_152 rfl rfl ?_
      refine rn_get (v := .inr (.inr (some 1))) dX11_count_153 fl_X11_10 rfl rfl (congrArg (fun z => (Sum.inr (Sum.inr z) : MV)) (rf_0_0 hR)) ?_
      refine rn_get (v := .inl (h.1 1 13)) dX11_count_156 fl_X11_214 rfl rfl rfl ?_
      exact rn_iret dX11_count_159 rfl ⟨rfl, hR, _, rfl, V⟩
    | 9, _, c1 =>
      replace V := V.2.2.2.2.2.2.2.2.2.1 c1
      show Rn G (d + 1) 0 0 mX11_count 160 [(0, .inr (.inr (some 0))), (1, .inl a1)] [] SH h (QI Q)
      refine rn_aload_n dX11_count_160 rfl rfl ?_
      refine rn_get (v := .inr (.inr (some 1))) dX11_count_161 fl_X11_10 rfl rfl (congrArg (fun z => (Sum.inr (Sum.inr z) : MV)) (rf_0_0 hR)) ?_
      refine rn_get (v := .inl (h.1 1 15)) dX11_count_164 fl_X11_357 rfl rfl rfl ?_
      exact rn_iret dX11_count_167 rfl ⟨rfl, hR, _, rfl, V⟩
    | 10, _, c1 =>
      replace V := V.2.2.2.2.2.2.2.2.2.2.1 c1
      show Rn G (d + 1) 0 0 mX11_count 168 [(0, .inr (.inr (some 0))), (1, .inl a1)] [] SH h (QI Q)
      refine rn_aload_n dX11_count_168 rfl rfl ?_
      refine rn_get (v := .inr (.inr (some 83))) dX11_count_169 fl_X11_64 rfl rfl (congrArg (fun z => (Sum.inr (Sum.inr z) : MV)) (rf_0_9 hR)) ?_
      refine rn_get (v := .inl (h.1 83 1)) dX11_count_172 fl_X11_323 rfl rfl rfl ?_
      exact rn_iret dX11_count_175 rfl ⟨rfl, hR, _, rfl, V⟩
    | 11, _, c1 =>
      replace V := V.2.2.2.2.2.2.2.2.2.2.2 c1
      show Rn G (d + 1) 0 0 mX11_count 176 [(0, .inr (.inr (some 0))), (1, .inl a1)] [] SH h (QI Q)
      refine rn_aload_n dX11_count_176 rfl rfl ?_
      refine rn_get (v := .inr (.inr (some 1))) dX11_count_177 fl_X11_10 rfl rfl (congrArg (fun z => (Sum.inr (Sum.inr z) : MV)) (rf_0_0 hR)) ?_
      refine rn_get (v := .inl (h.1 1 16)) dX11_count_180 fl_X11_316 rfl rfl rfl ?_
      exact rn_iret dX11_count_183 rfl ⟨rfl, hR, _, rfl, V⟩
    | n + 12, hi, _ => exact absurd hi (by simp)
  · replace V := V.2 c1
    refine rn_aload_n dX11_count_184 rfl rfl ?_
    refine rn_iconst (v := 1) dX11_count_185 (by decide) ?_
    refine rn_cV (M' := mX11_refuse) (n := 1) (av := [.inl 1]) (S := []) (rc := 0) (rs := 0) (mc := 0) (ms := 0) (a := 0) (ci := 10) (r := (RX11, TX11, 12)) dX11_count_186 pa_X11_refuse (Nat.le_refl _) rfl (Nat.le_of_ble_eq_true rfl) ml_X11_87 im_X11_refuse se_X11_refuse rfl rfl rfl (Ev.mono V ?_)
    rintro v sh1 h7 ⟨rfl, Rh7, x8, rfl, V⟩
    show Rn G (d + 1) 0 0 mX11_count 189 [(0, .inr (.inr (some 0))), (1, .inl a1)] [.inl x8] SH h7 (QI Q)
    exact rn_iret dX11_count_189 rfl ⟨rfl, Rh7, _, rfl, V⟩
set_option maxRecDepth 100000 in
set_option maxHeartbeats 4000000 in
theorem vc_X11_told {G : GT} {d : Nat} {a1 : Int32}  {h : Hp} {Q : Int32 → Hp → Prop} (hR : RF h) (V : EvI G d mX11_within [.inl a1, .inl 1, .inl 5] h (fun x2 h1 => ((x2 = 0 → EvI G d mX11_refuse [.inr (.inr (some 0)), .inl 1] h1 (fun x5 h4 => Q x5 h4)) ∧ (¬ x2 = 0 → vp_in a1 6 ∧ Q (h1.1 93 (Int32.toNatClampNeg a1)) h1)))) : EvI G (d + 1) mX11_told [.inr (.inr (some 0)), .inl a1] h Q := by
  refine Ev.of rfl (fun _ => Nat.le_of_ble_eq_true rfl) ?_
  show Rn G (d + 1) 0 0 mX11_told 0 [(0, .inr (.inr (some 0))), (1, .inl a1)] [] SH h (QI Q)
  refine rn_iload_n dX11_told_0 rfl rfl ?_
  refine rn_iconst (v := 1) dX11_told_1 (by decide) ?_
  refine rn_iconst (v := 5) dX11_told_2 (by decide) ?_
  refine rn_cS (M' := mX11_within) (n := 3) (av := [.inl a1, .inl 1, .inl 5]) (S := []) (rc := 0) (rs := 0) (mc := 0) (ms := 0) dX11_told_3 pa_X11_within (Nat.le_refl _) rfl (Nat.le_of_ble_eq_true rfl) ml_X11_83 ss_X11_within rfl (Ev.mono V ?_)
  rintro v sh1 h1 ⟨rfl, Rh1, x2, rfl, V⟩
  show Rn G (d + 1) 0 0 mX11_told 6 [(0, .inr (.inr (some 0))), (1, .inl a1)] [.inl x2] SH h1 (QI Q)
  refine rn_if_eq (tgt := 18) dX11_told_6 (by decide) (fun c3 => ?_) (fun c3 => ?_)
  · replace V := V.1 c3
    refine rn_aload_n dX11_told_18 rfl rfl ?_
    refine rn_iconst (v := 1) dX11_told_19 (by decide) ?_
    refine rn_cV (M' := mX11_refuse) (n := 1) (av := [.inl 1]) (S := []) (rc := 0) (rs := 0) (mc := 0) (ms := 0) (a := 0) (ci := 10) (r := (RX11, TX11, 12)) dX11_told_20 pa_X11_refuse (Nat.le_refl _) rfl (Nat.le_of_ble_eq_true rfl) ml_X11_87 im_X11_refuse se_X11_refuse rfl rfl rfl (Ev.mono V ?_)
    rintro v sh1 h4 ⟨rfl, Rh4, x5, rfl, V⟩
    show Rn G (d + 1) 0 0 mX11_told 23 [(0, .inr (.inr (some 0))), (1, .inl a1)] [.inl x5] SH h4 (QI Q)
    exact rn_iret dX11_told_23 rfl ⟨rfl, Rh4, _, rfl, V⟩
  · replace V := V.2 c3
    refine rn_aload_n dX11_told_9 rfl rfl ?_
    refine rn_get (v := .inr (.inr (some 93))) dX11_told_10 fl_X11_75 rfl rfl (congrArg (fun z => (Sum.inr (Sum.inr z) : MV)) (rf_0_11 Rh1)) ?_
    refine rn_iload_n dX11_told_13 rfl rfl ?_
    obtain ⟨g0, V⟩ := V
    refine rn_iald (k := (Int32.toNatClampNeg a1)) dX11_told_14 rfl rfl g0 ?_
    refine rn_goto (tgt := 23) dX11_told_15 (by decide) ?_
    exact rn_iret dX11_told_23 rfl ⟨rfl, Rh1, _, rfl, V⟩
set_option maxRecDepth 100000 in
set_option maxHeartbeats 4000000 in
theorem vc_X11_refuse {G : GT} {d : Nat} {a1 : Int32}  {h : Hp} {Q : Int32 → Hp → Prop} (hR : RF h) (V : EvI G d mX11_within [.inl a1, .inl 0, .inl (6 - 1)] h (fun x2 h1 => ((x2 = 0 → Q ((-1000000000) - a1) h1) ∧ (¬ x2 = 0 → vp_in a1 6 ∧ vp_in a1 6 ∧ Q ((-1000000000) - a1) (sI h1 93 (Int32.toNatClampNeg a1) (h1.1 93 (Int32.toNatClampNeg a1) + 1)))))) : EvI G (d + 1) mX11_refuse [.inr (.inr (some 0)), .inl a1] h Q := by
  refine Ev.of rfl (fun _ => Nat.le_of_ble_eq_true rfl) ?_
  show Rn G (d + 1) 0 0 mX11_refuse 0 [(0, .inr (.inr (some 0))), (1, .inl a1)] [] SH h (QI Q)
  refine rn_iload_n dX11_refuse_0 rfl rfl ?_
  refine rn_iconst (v := 0) dX11_refuse_1 (by decide) ?_
  refine rn_aload_n dX11_refuse_2 rfl rfl ?_
  refine rn_get (v := .inr (.inr (some 93))) dX11_refuse_3 fl_X11_75 rfl rfl (congrArg (fun z => (Sum.inr (Sum.inr z) : MV)) (rf_0_11 hR)) ?_
  refine rn_alen (v := 6) dX11_refuse_6 rfl (by decide) (by decide) ?_
  refine rn_iconst (v := 1) dX11_refuse_7 (by decide) ?_
  refine rn_isub dX11_refuse_8 ?_
  refine rn_cS (M' := mX11_within) (n := 3) (av := [.inl a1, .inl 0, .inl (6 - 1)]) (S := []) (rc := 0) (rs := 0) (mc := 0) (ms := 0) dX11_refuse_9 pa_X11_within (Nat.le_refl _) rfl (Nat.le_of_ble_eq_true rfl) ml_X11_83 ss_X11_within rfl (Ev.mono V ?_)
  rintro v sh1 h1 ⟨rfl, Rh1, x2, rfl, V⟩
  show Rn G (d + 1) 0 0 mX11_refuse 12 [(0, .inr (.inr (some 0))), (1, .inl a1)] [.inl x2] SH h1 (QI Q)
  refine rn_if_eq (tgt := 25) dX11_refuse_12 (by decide) (fun c3 => ?_) (fun c3 => ?_)
  · replace V := V.1 c3
    refine rn_ldcw (v := (-1000000000)) dX11_refuse_25 cw_X11_369 ?_
    refine rn_iload_n dX11_refuse_28 rfl rfl ?_
    refine rn_isub dX11_refuse_29 ?_
    exact rn_iret dX11_refuse_30 rfl ⟨rfl, Rh1, _, rfl, V⟩
  · replace V := V.2 c3
    refine rn_aload_n dX11_refuse_15 rfl rfl ?_
    refine rn_get (v := .inr (.inr (some 93))) dX11_refuse_16 fl_X11_75 rfl rfl (congrArg (fun z => (Sum.inr (Sum.inr z) : MV)) (rf_0_11 Rh1)) ?_
    refine rn_iload_n dX11_refuse_19 rfl rfl ?_
    refine rn_dup2 dX11_refuse_20 rfl rfl ?_
    obtain ⟨g0, V⟩ := V
    refine rn_iald (k := (Int32.toNatClampNeg a1)) dX11_refuse_21 rfl rfl g0 ?_
    refine rn_iconst (v := 1) dX11_refuse_22 (by decide) ?_
    refine rn_iadd dX11_refuse_23 ?_
    obtain ⟨g0, V⟩ := V
    refine rn_iast (k := (Int32.toNatClampNeg a1)) dX11_refuse_24 rfl rfl g0 ?_
    refine rn_ldcw (v := (-1000000000)) dX11_refuse_25 cw_X11_369 ?_
    refine rn_iload_n dX11_refuse_28 rfl rfl ?_
    refine rn_isub dX11_refuse_29 ?_
    exact rn_iret dX11_refuse_30 rfl ⟨rfl, Rh1, _, rfl, V⟩
set_option maxRecDepth 100000 in
set_option maxHeartbeats 4000000 in
theorem vc_X11_within {G : GT} {d : Nat} {a0 : Int32} {a1 : Int32} {a2 : Int32}  {h : Hp} {Q : Int32 → Hp → Prop} (hR : RF h) (V : ((a0 < a1 → Q 0 h) ∧ (¬ a0 < a1 → ((a2 < a0 → Q 0 h) ∧ (¬ a2 < a0 → Q 1 h))))) : EvI G (d + 1) mX11_within [.inl a0, .inl a1, .inl a2] h Q := by
  refine Ev.of rfl (fun _ => Nat.le_of_ble_eq_true rfl) ?_
  show Rn G (d + 1) 0 0 mX11_within 0 [(0, .inl a0), (1, .inl a1), (2, .inl a2)] [] SH h (QI Q)
  refine rn_iload_n dX11_within_0 rfl rfl ?_
  refine rn_iload_n dX11_within_1 rfl rfl ?_
  refine rn_icmp_lt (tgt := 14) dX11_within_2 (by decide) (fun c1 => ?_) (fun c1 => ?_)
  · replace V := V.1 c1
    refine rn_iconst (v := 0) dX11_within_14 (by decide) ?_
    exact rn_zret dX11_within_15 rfl (by decide) ⟨rfl, hR, _, rfl, V⟩
  · replace V := V.2 c1
    refine rn_iload_n dX11_within_5 rfl rfl ?_
    refine rn_iload_n dX11_within_6 rfl rfl ?_
    refine rn_icmp_gt (tgt := 14) dX11_within_7 (by decide) (fun c2 => ?_) (fun c2 => ?_)
    · replace V := V.1 c2
      refine rn_iconst (v := 0) dX11_within_14 (by decide) ?_
      exact rn_zret dX11_within_15 rfl (by decide) ⟨rfl, hR, _, rfl, V⟩
    · replace V := V.2 c2
      refine rn_iconst (v := 1) dX11_within_10 (by decide) ?_
      refine rn_goto (tgt := 15) dX11_within_11 (by decide) ?_
      exact rn_zret dX11_within_15 rfl (by decide) ⟨rfl, hR, _, rfl, V⟩
set_option maxRecDepth 100000 in
set_option maxHeartbeats 4000000 in
theorem vc_X11_isKm {G : GT} {d : Nat} {a0 : Int32}  {h : Hp} {Q : Int32 → Hp → Prop} (hR : RF h) (V : EvI G d mX11_within [.inl a0, .inl 0, .inl 69] h (fun x2 h1 => (narrow .boolean (.int x2) = .int x2 ∧ Q x2 h1))) : EvI G (d + 1) mX11_isKm [.inl a0] h Q := by
  refine Ev.of rfl (fun _ => Nat.le_of_ble_eq_true rfl) ?_
  show Rn G (d + 1) 0 0 mX11_isKm 0 [(0, .inl a0)] [] SH h (QI Q)
  refine rn_iload_n dX11_isKm_0 rfl rfl ?_
  refine rn_iconst (v := 0) dX11_isKm_1 (by decide) ?_
  refine rn_bipush (v := 69) dX11_isKm_2 (by decide) ?_
  refine rn_cS (M' := mX11_within) (n := 3) (av := [.inl a0, .inl 0, .inl 69]) (S := []) (rc := 0) (rs := 0) (mc := 0) (ms := 0) dX11_isKm_4 pa_X11_within (Nat.le_refl _) rfl (Nat.le_of_ble_eq_true rfl) ml_X11_83 ss_X11_within rfl (Ev.mono V ?_)
  rintro v sh1 h1 ⟨rfl, Rh1, x2, rfl, V⟩
  show Rn G (d + 1) 0 0 mX11_isKm 7 [(0, .inl a0)] [.inl x2] SH h1 (QI Q)
  exact rn_zret dX11_isKm_7 rfl V.1 ⟨rfl, Rh1, _, rfl, V.2⟩
set_option maxRecDepth 100000 in
set_option maxHeartbeats 4000000 in
theorem vc_X11_areTwo {G : GT} {d : Nat} {a1 : Int32} {a2 : Int32}  {h : Hp} {Q : Int32 → Hp → Prop} (hR : RF h) (V : EvI G d mX9_hasParty [.inr (.inr (some 1)), .inl a1] h (fun x2 h1 => ((x2 = 0 → Q 0 h1) ∧ (¬ x2 = 0 → EvI G d mX9_hasParty [.inr (.inr (some 1)), .inl a2] h1 (fun x5 h4 => ((x5 = 0 → Q 0 h4) ∧ (¬ x5 = 0 → ((a1 = a2 → Q 0 h4) ∧ (¬ a1 = a2 → Q 1 h4))))))))) : EvI G (d + 1) mX11_areTwo [.inr (.inr (some 0)), .inl a1, .inl a2] h Q := by
  refine Ev.of rfl (fun _ => Nat.le_of_ble_eq_true rfl) ?_
  show Rn G (d + 1) 0 0 mX11_areTwo 0 [(0, .inr (.inr (some 0))), (1, .inl a1), (2, .inl a2)] [] SH h (QI Q)
  refine rn_aload_n dX11_areTwo_0 rfl rfl ?_
  refine rn_get (v := .inr (.inr (some 1))) dX11_areTwo_1 fl_X11_10 rfl rfl (congrArg (fun z => (Sum.inr (Sum.inr z) : MV)) (rf_0_0 hR)) ?_
  refine rn_iload_n dX11_areTwo_4 rfl rfl ?_
  refine rn_cV (M' := mX9_hasParty) (n := 1) (av := [.inl a1]) (S := []) (rc := 0) (rs := 0) (mc := 0) (ms := 0) (a := 1) (ci := 8) (r := (RX9, TX9, 17)) dX11_areTwo_5 pa_X9_hasParty (Nat.le_refl _) rfl (Nat.le_of_ble_eq_true rfl) ml_X11_99 im_X9_hasParty se_X9_hasParty rfl rfl rfl (Ev.mono V ?_)
  rintro v sh1 h1 ⟨rfl, Rh1, x2, rfl, V⟩
  show Rn G (d + 1) 0 0 mX11_areTwo 8 [(0, .inr (.inr (some 0))), (1, .inl a1), (2, .inl a2)] [.inl x2] SH h1 (QI Q)
  refine rn_if_eq (tgt := 31) dX11_areTwo_8 (by decide) (fun c3 => ?_) (fun c3 => ?_)
  · replace V := V.1 c3
    refine rn_iconst (v := 0) dX11_areTwo_31 (by decide) ?_
    exact rn_zret dX11_areTwo_32 rfl (by decide) ⟨rfl, Rh1, _, rfl, V⟩
  · replace V := V.2 c3
    refine rn_aload_n dX11_areTwo_11 rfl rfl ?_
    refine rn_get (v := .inr (.inr (some 1))) dX11_areTwo_12 fl_X11_10 rfl rfl (congrArg (fun z => (Sum.inr (Sum.inr z) : MV)) (rf_0_0 Rh1)) ?_
    refine rn_iload_n dX11_areTwo_15 rfl rfl ?_
    refine rn_cV (M' := mX9_hasParty) (n := 1) (av := [.inl a2]) (S := []) (rc := 0) (rs := 0) (mc := 0) (ms := 0) (a := 1) (ci := 8) (r := (RX9, TX9, 17)) dX11_areTwo_16 pa_X9_hasParty (Nat.le_refl _) rfl (Nat.le_of_ble_eq_true rfl) ml_X11_99 im_X9_hasParty se_X9_hasParty rfl rfl rfl (Ev.mono V ?_)
    rintro v sh1 h4 ⟨rfl, Rh4, x5, rfl, V⟩
    show Rn G (d + 1) 0 0 mX11_areTwo 19 [(0, .inr (.inr (some 0))), (1, .inl a1), (2, .inl a2)] [.inl x5] SH h4 (QI Q)
    refine rn_if_eq (tgt := 31) dX11_areTwo_19 (by decide) (fun c6 => ?_) (fun c6 => ?_)
    · replace V := V.1 c6
      refine rn_iconst (v := 0) dX11_areTwo_31 (by decide) ?_
      exact rn_zret dX11_areTwo_32 rfl (by decide) ⟨rfl, Rh4, _, rfl, V⟩
    · replace V := V.2 c6
      refine rn_iload_n dX11_areTwo_22 rfl rfl ?_
      refine rn_iload_n dX11_areTwo_23 rfl rfl ?_
      refine rn_icmp_eq (tgt := 31) dX11_areTwo_24 (by decide) (fun c7 => ?_) (fun c7 => ?_)
      · replace V := V.1 c7
        refine rn_iconst (v := 0) dX11_areTwo_31 (by decide) ?_
        exact rn_zret dX11_areTwo_32 rfl (by decide) ⟨rfl, Rh4, _, rfl, V⟩
      · replace V := V.2 c7
        refine rn_iconst (v := 1) dX11_areTwo_27 (by decide) ?_
        refine rn_goto (tgt := 32) dX11_areTwo_28 (by decide) ?_
        exact rn_zret dX11_areTwo_32 rfl (by decide) ⟨rfl, Rh4, _, rfl, V⟩
def Rg_X11_firstUnlike_16 (G : GT) (d : Nat) (l1 : Nat) (l1n : Nat) (l2 : Int32) (l3 : Int32) (h : Hp) (Q : Int32 → Hp → Prop) : Prop := Rn G (d + 1) 0 0 mX11_firstUnlike 16 [(0, .inr (.inr (some 0))), (1, .inr (.inr (some l1))), (2, .inl l2), (3, .inl l3)] [] SH h (QI Q)
set_option maxRecDepth 100000 in
set_option maxHeartbeats 4000000 in
theorem vc_X11_firstUnlike_16 {G : GT} {d : Nat} {l1 : Nat} {l1n : Nat} {l2 : Int32} {l3 : Int32} (hl1 : SH[l1]? = some (.inr (0, l1n))) {h : Hp} {Q : Int32 → Hp → Prop} (hR : RF h) (V : ((l2 ≤ l3 → Q (-1) h) ∧ (¬ l2 ≤ l3 → (((Int32.ofNat l1n) ≤ l3 → Q (-1) h) ∧ (¬ (Int32.ofNat l1n) ≤ l3 → EvV G d mX9_pass [.inr (.inr (some 1)), .inr (.inr (some 41)), .inl 1] h (fun h4 => vp_in l3 l1n ∧ ((h4.1 41 4 = h4.1 l1 (Int32.toNatClampNeg l3) → Rg_X11_firstUnlike_16 G d l1 l1n l2 (l3 + 1) h4 Q) ∧ (¬ h4.1 41 4 = h4.1 l1 (Int32.toNatClampNeg l3) → Q l3 h4)))))))) : Rg_X11_firstUnlike_16 G d l1 l1n l2 l3 h Q := by
  show Rn G (d + 1) 0 0 mX11_firstUnlike 16 [(0, .inr (.inr (some 0))), (1, .inr (.inr (some l1))), (2, .inl l2), (3, .inl l3)] [] SH h (QI Q)
  refine rn_iload_n dX11_firstUnlike_16 rfl rfl ?_
  refine rn_iload_n dX11_firstUnlike_17 rfl rfl ?_
  refine rn_icmp_ge (tgt := 60) dX11_firstUnlike_18 (by decide) (fun c2 => ?_) (fun c2 => ?_)
  · replace V := V.1 c2
    refine rn_iconst (v := (-1)) dX11_firstUnlike_60 (by decide) ?_
    exact rn_iret dX11_firstUnlike_61 rfl ⟨rfl, hR, _, rfl, V⟩
  · replace V := V.2 c2
    refine rn_iload_n dX11_firstUnlike_21 rfl rfl ?_
    refine rn_aload_n dX11_firstUnlike_22 rfl rfl ?_
    refine rn_alen (v := (Int32.ofNat l1n)) dX11_firstUnlike_23 hl1 (by decide) rfl ?_
    refine rn_icmp_ge (tgt := 60) dX11_firstUnlike_24 (by decide) (fun c3 => ?_) (fun c3 => ?_)
    · replace V := V.1 c3
      refine rn_iconst (v := (-1)) dX11_firstUnlike_60 (by decide) ?_
      exact rn_iret dX11_firstUnlike_61 rfl ⟨rfl, hR, _, rfl, V⟩
    · replace V := V.2 c3
      refine rn_aload_n dX11_firstUnlike_27 rfl rfl ?_
      refine rn_get (v := .inr (.inr (some 1))) dX11_firstUnlike_28 fl_X11_10 rfl rfl (congrArg (fun z => (Sum.inr (Sum.inr z) : MV)) (rf_0_0 hR)) ?_
      refine rn_aload_n dX11_firstUnlike_31 rfl rfl ?_
      refine rn_get (v := .inr (.inr (some 41))) dX11_firstUnlike_32 fl_X11_22 rfl rfl (congrArg (fun z => (Sum.inr (Sum.inr z) : MV)) (rf_0_3 hR)) ?_
      refine rn_iconst (v := 1) dX11_firstUnlike_35 (by decide) ?_
      refine rn_cV (M' := mX9_pass) (n := 2) (av := [.inr (.inr (some 41)), .inl 1]) (S := []) (rc := 0) (rs := 0) (mc := 0) (ms := 0) (a := 1) (ci := 8) (r := (RX9, TX9, 17)) dX11_firstUnlike_36 pa_X9_pass (Nat.le_refl _) rfl (Nat.le_of_ble_eq_true rfl) ml_X11_201 im_X9_pass se_X9_pass rfl rfl rfl (Ev.mono V ?_)
      rintro v sh1 h4 ⟨rfl, Rh4, rfl, V⟩
      show Rn G (d + 1) 0 0 mX11_firstUnlike 39 [(0, .inr (.inr (some 0))), (1, .inr (.inr (some l1))), (2, .inl l2), (3, .inl l3)] [] SH h4 (QI Q)
      refine rn_aload_n dX11_firstUnlike_39 rfl rfl ?_
      refine rn_get (v := .inr (.inr (some 41))) dX11_firstUnlike_40 fl_X11_22 rfl rfl (congrArg (fun z => (Sum.inr (Sum.inr z) : MV)) (rf_0_3 Rh4)) ?_
      refine rn_get (v := .inl (h4.1 41 4)) dX11_firstUnlike_43 fl_X11_204 rfl rfl rfl ?_
      refine rn_aload_n dX11_firstUnlike_46 rfl rfl ?_
      refine rn_iload_n dX11_firstUnlike_47 rfl rfl ?_
      obtain ⟨g0, V⟩ := V
      refine rn_iald (k := (Int32.toNatClampNeg l3)) dX11_firstUnlike_48 hl1 rfl g0 ?_
      refine rn_icmp_eq (tgt := 54) dX11_firstUnlike_49 (by decide) (fun c5 => ?_) (fun c5 => ?_)
      · replace V := V.1 c5
        refine rn_iinc (L' := [(3, .inl (l3 + 1)), (0, .inr (.inr (some 0))), (1, .inr (.inr (some l1))), (2, .inl l2)]) dX11_firstUnlike_54 rfl (v := (l3 + 1)) rfl (Nat.le_of_ble_eq_true rfl) rfl ?_
        refine rn_goto (tgt := 16) dX11_firstUnlike_57 (by decide) ?_
        refine rn_sub [1, 2, 3, 0] (L' := [(0, .inr (.inr (some 0))), (1, .inr (.inr (some l1))), (2, .inl l2), (3, .inl (l3 + 1))]) rfl ?_
        exact V
      · replace V := V.2 c5
        refine rn_iload_n dX11_firstUnlike_52 rfl rfl ?_
        exact rn_iret dX11_firstUnlike_53 rfl ⟨rfl, Rh4, _, rfl, V⟩
set_option maxRecDepth 100000 in
set_option maxHeartbeats 4000000 in
theorem vc_X11_firstUnlike {G : GT} {d : Nat} {a1 : Nat} {a1n : Nat} {a2 : Int32} (ha1 : SH[a1]? = some (.inr (0, a1n))) {h : Hp} {Q : Int32 → Hp → Prop} (hR : RF h) (V : EvV G d mX2_copy [.inr (.inr (some 41)), .inr (.inr (some 9))] h (fun h1 => Rg_X11_firstUnlike_16 G d a1 a1n a2 0 h1 Q)) : EvI G (d + 1) mX11_firstUnlike [.inr (.inr (some 0)), .inr (.inr (some a1)), .inl a2] h Q := by
  refine Ev.of rfl (fun _ => Nat.le_of_ble_eq_true rfl) ?_
  show Rn G (d + 1) 0 0 mX11_firstUnlike 0 [(0, .inr (.inr (some 0))), (1, .inr (.inr (some a1))), (2, .inl a2)] [] SH h (QI Q)
  refine rn_aload_n dX11_firstUnlike_0 rfl rfl ?_
  refine rn_get (v := .inr (.inr (some 41))) dX11_firstUnlike_1 fl_X11_22 rfl rfl (congrArg (fun z => (Sum.inr (Sum.inr z) : MV)) (rf_0_3 hR)) ?_
  refine rn_aload_n dX11_firstUnlike_4 rfl rfl ?_
  refine rn_get (v := .inr (.inr (some 1))) dX11_firstUnlike_5 fl_X11_10 rfl rfl (congrArg (fun z => (Sum.inr (Sum.inr z) : MV)) (rf_0_0 hR)) ?_
  refine rn_get (v := .inr (.inr (some 9))) dX11_firstUnlike_8 fl_X11_111 rfl rfl (congrArg (fun z => (Sum.inr (Sum.inr z) : MV)) (rf_1_9 hR)) ?_
  refine rn_cV (M' := mX2_copy) (n := 1) (av := [.inr (.inr (some 9))]) (S := []) (rc := 0) (rs := 0) (mc := 0) (ms := 0) (a := 41) (ci := 2) (r := (RX2, TX2, 8)) dX11_firstUnlike_11 pa_X2_copy (Nat.le_refl _) rfl (Nat.le_of_ble_eq_true rfl) ml_X11_210 im_X2_copy se_X2_copy rfl rfl rfl (Ev.mono V ?_)
  rintro v sh1 h1 ⟨rfl, Rh1, rfl, V⟩
  show Rn G (d + 1) 0 0 mX11_firstUnlike 14 [(0, .inr (.inr (some 0))), (1, .inr (.inr (some a1))), (2, .inl a2)] [] SH h1 (QI Q)
  refine rn_iconst (v := 0) dX11_firstUnlike_14 (by decide) ?_
  refine rn_istore_n (L' := [(3, .inl 0), (0, .inr (.inr (some 0))), (1, .inr (.inr (some a1))), (2, .inl a2)]) dX11_firstUnlike_15 rfl (Nat.le_of_ble_eq_true rfl) rfl ?_
  refine rn_sub [1, 2, 3, 0] (L' := [(0, .inr (.inr (some 0))), (1, .inr (.inr (some a1))), (2, .inl a2), (3, .inl 0)]) rfl ?_
  exact V
set_option maxRecDepth 100000 in
set_option maxHeartbeats 4000000 in
theorem vc_X11_held {G : GT} {d : Nat} {a0 : Int32} {a1 : Int32} {a2 : Int32}  {h : Hp} {Q : Int32 → Hp → Prop} (hR : RF h) (V : Q (if a1 < (if a0 < a2 then a0 else a2) then (if a0 < a2 then a0 else a2) else a1) h) : EvI G (d + 1) mX11_held [.inl a0, .inl a1, .inl a2] h Q := by
  refine Ev.of rfl (fun _ => Nat.le_of_ble_eq_true rfl) ?_
  show Rn G (d + 1) 0 0 mX11_held 0 [(0, .inl a0), (1, .inl a1), (2, .inl a2)] [] SH h (QI Q)
  refine rn_iload_n dX11_held_0 rfl rfl ?_
  refine rn_iload_n dX11_held_1 rfl rfl ?_
  refine rn_iload_n dX11_held_2 rfl rfl ?_
  refine rn_mmin dX11_held_3 ml_X11_163 (Nat.le_of_ble_eq_true rfl) ?_
  refine rn_mmax dX11_held_6 ml_X11_370 (Nat.le_of_ble_eq_true rfl) ?_
  exact rn_iret dX11_held_9 rfl ⟨rfl, hR, _, rfl, V⟩
set_option maxRecDepth 100000 in
set_option maxHeartbeats 4000000 in
theorem vc_X11_quotient {G : GT} {d : Nat} {a0 : Int32} {a1 : Int32}  {h : Hp} {Q : Int32 → Hp → Prop} (hR : RF h) (V : ((¬ a1 = 0 → ¬ a1 = 0 ∧ Q (a0 / a1) h) ∧ (a1 = 0 → Q 0 h))) : EvI G (d + 1) mX11_quotient [.inl a0, .inl a1] h Q := by
  refine Ev.of rfl (fun _ => Nat.le_of_ble_eq_true rfl) ?_
  show Rn G (d + 1) 0 0 mX11_quotient 0 [(0, .inl a0), (1, .inl a1)] [] SH h (QI Q)
  refine rn_iload_n dX11_quotient_0 rfl rfl ?_
  refine rn_if_ne (tgt := 8) dX11_quotient_1 (by decide) (fun c1 => ?_) (fun c1 => ?_)
  · replace V := V.1 c1
    refine rn_iload_n dX11_quotient_8 rfl rfl ?_
    refine rn_iload_n dX11_quotient_9 rfl rfl ?_
    obtain ⟨g, V⟩ := V
    refine rn_idiv dX11_quotient_10 g ?_
    exact rn_iret dX11_quotient_11 rfl ⟨rfl, hR, _, rfl, V⟩
  · replace V := V.2 c1
    refine rn_iconst (v := 0) dX11_quotient_4 (by decide) ?_
    refine rn_goto (tgt := 11) dX11_quotient_5 (by decide) ?_
    exact rn_iret dX11_quotient_11 rfl ⟨rfl, hR, _, rfl, V⟩
def Rg_X11_common_9 (G : GT) (d : Nat) (l4 : Int64) (l6 : Int64) (l8 : Int32) (h : Hp) (Q : Int64 → Hp → Prop) : Prop := Rn G (d + 1) 0 0 mX11_common 9 [(4, .inr (.inl l4)), (6, .inr (.inl l6)), (8, .inl l8)] [] SH h (QL Q)
set_option maxRecDepth 100000 in
set_option maxHeartbeats 4000000 in
theorem vc_X11_common_9 {G : GT} {d : Nat} {l4 : Int64} {l6 : Int64} {l8 : Int32}  {h : Hp} {Q : Int64 → Hp → Prop} (hR : RF h) (V : ((200 ≤ l8 → Q l4 h) ∧ (¬ 200 ≤ l8 → (((lg_cmp l6 0) = 0 → Q l4 h) ∧ (¬ (lg_cmp l6 0) = 0 → ¬ l6 = 0 ∧ Rg_X11_common_9 G d l6 (l4 - l4 / l6 * l6) (l8 + 1) h Q))))) : Rg_X11_common_9 G d l4 l6 l8 h Q := by
  show Rn G (d + 1) 0 0 mX11_common 9 [(4, .inr (.inl l4)), (6, .inr (.inl l6)), (8, .inl l8)] [] SH h (QL Q)
  refine rn_iload dX11_common_9 rfl ?_
  refine rn_sipush (v := 200) dX11_common_11 (by decide) ?_
  refine rn_icmp_ge (tgt := 45) dX11_common_14 (by decide) (fun c1 => ?_) (fun c1 => ?_)
  · replace V := V.1 c1
    refine rn_lload dX11_common_45 rfl ?_
    exact rn_lret dX11_common_47 rfl ⟨rfl, hR, _, rfl, V⟩
  · replace V := V.2 c1
    refine rn_lload dX11_common_17 rfl ?_
    refine rn_lconst (v := 0) dX11_common_19 rfl ?_
    refine rn_lcmp dX11_common_20 ?_
    refine rn_if_eq (tgt := 45) dX11_common_21 (by decide) (fun c2 => ?_) (fun c2 => ?_)
    · replace V := V.1 c2
      refine rn_lload dX11_common_45 rfl ?_
      exact rn_lret dX11_common_47 rfl ⟨rfl, hR, _, rfl, V⟩
    · replace V := V.2 c2
      refine rn_lload dX11_common_24 rfl ?_
      refine rn_lload dX11_common_26 rfl ?_
      obtain ⟨g, V⟩ := V
      refine rn_lrem dX11_common_28 g ?_
      refine rn_lstore (L' := [(9, .inr (.inl (l4 - l4 / l6 * l6))), (4, .inr (.inl l4)), (6, .inr (.inl l6)), (8, .inl l8)]) dX11_common_29 (Nat.le_of_ble_eq_true rfl) rfl ?_
      refine rn_lload dX11_common_31 rfl ?_
      refine rn_lstore (L' := [(4, .inr (.inl l6)), (9, .inr (.inl (l4 - l4 / l6 * l6))), (6, .inr (.inl l6)), (8, .inl l8)]) dX11_common_33 (Nat.le_of_ble_eq_true rfl) rfl ?_
      refine rn_lload dX11_common_35 rfl ?_
      refine rn_lstore (L' := [(6, .inr (.inl (l4 - l4 / l6 * l6))), (4, .inr (.inl l6)), (9, .inr (.inl (l4 - l4 / l6 * l6))), (8, .inl l8)]) dX11_common_37 (Nat.le_of_ble_eq_true rfl) rfl ?_
      refine rn_iinc (L' := [(8, .inl (l8 + 1)), (6, .inr (.inl (l4 - l4 / l6 * l6))), (4, .inr (.inl l6)), (9, .inr (.inl (l4 - l4 / l6 * l6)))]) dX11_common_39 rfl (v := (l8 + 1)) rfl (Nat.le_of_ble_eq_true rfl) rfl ?_
      refine rn_goto (tgt := 9) dX11_common_42 (by decide) ?_
      refine rn_sub [2, 1, 0] (L' := [(4, .inr (.inl l6)), (6, .inr (.inl (l4 - l4 / l6 * l6))), (8, .inl (l8 + 1))]) rfl ?_
      exact V
set_option maxRecDepth 100000 in
set_option maxHeartbeats 4000000 in
theorem vc_X11_common {G : GT} {d : Nat} {a0 : Int64} {a1 : Int64}  {h : Hp} {Q : Int64 → Hp → Prop} (hR : RF h) (V : Rg_X11_common_9 G d a0 a1 0 h Q) : EvL G (d + 1) mX11_common [.inr (.inl a0), .inr (.inl a1)] h Q := by
  refine Ev.of rfl (fun _ => Nat.le_of_ble_eq_true rfl) ?_
  show Rn G (d + 1) 0 0 mX11_common 0 [(0, .inr (.inl a0)), (2, .inr (.inl a1))] [] SH h (QL Q)
  refine rn_lload_n dX11_common_0 rfl rfl ?_
  refine rn_lstore (L' := [(4, .inr (.inl a0)), (0, .inr (.inl a0)), (2, .inr (.inl a1))]) dX11_common_1 (Nat.le_of_ble_eq_true rfl) rfl ?_
  refine rn_lload_n dX11_common_3 rfl rfl ?_
  refine rn_lstore (L' := [(6, .inr (.inl a1)), (4, .inr (.inl a0)), (0, .inr (.inl a0)), (2, .inr (.inl a1))]) dX11_common_4 (Nat.le_of_ble_eq_true rfl) rfl ?_
  refine rn_iconst (v := 0) dX11_common_6 (by decide) ?_
  refine rn_istore (L' := [(8, .inl 0), (6, .inr (.inl a1)), (4, .inr (.inl a0)), (0, .inr (.inl a0)), (2, .inr (.inl a1))]) dX11_common_7 (Nat.le_of_ble_eq_true rfl) rfl ?_
  refine rn_sub [2, 1, 0] (L' := [(4, .inr (.inl a0)), (6, .inr (.inl a1)), (8, .inl 0)]) rfl ?_
  exact V
set_option maxRecDepth 100000 in
set_option maxHeartbeats 4000000 in
theorem vc_X11_partOf {G : GT} {d : Nat} {a0 : Int64} {a1 : Int64} {a2 : Int32}  {h : Hp} {Q : Int64 → Hp → Prop} (hR : RF h) (V : EvL G d mX11_common [.inr (.inl (if 0 < a0 then a0 else -a0)), .inr (.inl a1)] h (fun x2 h1 => ((¬ a2 = 0 → ((¬ (lg_cmp x2 0) = 0 → ¬ x2 = 0 ∧ Q (a1 / x2) h1) ∧ ((lg_cmp x2 0) = 0 → Q a1 h1))) ∧ (a2 = 0 → ((¬ (lg_cmp x2 0) = 0 → ¬ x2 = 0 ∧ Q (a0 / x2) h1) ∧ ((lg_cmp x2 0) = 0 → Q a0 h1)))))) : EvL G (d + 1) mX11_partOf [.inr (.inl a0), .inr (.inl a1), .inl a2] h Q := by
  refine Ev.of rfl (fun _ => Nat.le_of_ble_eq_true rfl) ?_
  show Rn G (d + 1) 0 0 mX11_partOf 0 [(0, .inr (.inl a0)), (2, .inr (.inl a1)), (4, .inl a2)] [] SH h (QL Q)
  refine rn_lload_n dX11_partOf_0 rfl rfl ?_
  refine rn_mabs dX11_partOf_1 ml_X11_373 (Nat.le_of_ble_eq_true rfl) ?_
  refine rn_lload_n dX11_partOf_4 rfl rfl ?_
  refine rn_cS (M' := mX11_common) (n := 2) (av := [.inr (.inl (if 0 < a0 then a0 else -a0)), .inr (.inl a1)]) (S := []) (rc := 0) (rs := 0) (mc := 0) (ms := 0) dX11_partOf_5 pa_X11_common (Nat.le_refl _) rfl (Nat.le_of_ble_eq_true rfl) ml_X11_377 ss_X11_common rfl (Ev.mono V ?_)
  rintro v sh1 h1 ⟨rfl, Rh1, x2, rfl, V⟩
  show Rn G (d + 1) 0 0 mX11_partOf 8 [(0, .inr (.inl a0)), (2, .inr (.inl a1)), (4, .inl a2)] [.inr (.inl x2)] SH h1 (QL Q)
  refine rn_lstore (L' := [(5, .inr (.inl x2)), (0, .inr (.inl a0)), (2, .inr (.inl a1)), (4, .inl a2)]) dX11_partOf_8 (Nat.le_of_ble_eq_true rfl) rfl ?_
  refine rn_iload dX11_partOf_10 rfl ?_
  refine rn_if_ne (tgt := 19) dX11_partOf_12 (by decide) (fun c3 => ?_) (fun c3 => ?_)
  · replace V := V.1 c3
    refine rn_lload_n dX11_partOf_19 rfl rfl ?_
    refine rn_lstore (L' := [(7, .inr (.inl a1)), (5, .inr (.inl x2)), (0, .inr (.inl a0)), (2, .inr (.inl a1)), (4, .inl a2)]) dX11_partOf_20 (Nat.le_of_ble_eq_true rfl) rfl ?_
    refine rn_lload dX11_partOf_22 rfl ?_
    refine rn_lconst (v := 0) dX11_partOf_24 rfl ?_
    refine rn_lcmp dX11_partOf_25 ?_
    refine rn_if_ne (tgt := 34) dX11_partOf_26 (by decide) (fun c4 => ?_) (fun c4 => ?_)
    · replace V := V.1 c4
      refine rn_lload dX11_partOf_34 rfl ?_
      refine rn_lload dX11_partOf_36 rfl ?_
      obtain ⟨g, V⟩ := V
      refine rn_ldiv dX11_partOf_38 g ?_
      exact rn_lret dX11_partOf_39 rfl ⟨rfl, Rh1, _, rfl, V⟩
    · replace V := V.2 c4
      refine rn_lload dX11_partOf_29 rfl ?_
      refine rn_goto (tgt := 39) dX11_partOf_31 (by decide) ?_
      exact rn_lret dX11_partOf_39 rfl ⟨rfl, Rh1, _, rfl, V⟩
  · replace V := V.2 c3
    refine rn_lload_n dX11_partOf_15 rfl rfl ?_
    refine rn_goto (tgt := 20) dX11_partOf_16 (by decide) ?_
    refine rn_lstore (L' := [(7, .inr (.inl a0)), (5, .inr (.inl x2)), (0, .inr (.inl a0)), (2, .inr (.inl a1)), (4, .inl a2)]) dX11_partOf_20 (Nat.le_of_ble_eq_true rfl) rfl ?_
    refine rn_lload dX11_partOf_22 rfl ?_
    refine rn_lconst (v := 0) dX11_partOf_24 rfl ?_
    refine rn_lcmp dX11_partOf_25 ?_
    refine rn_if_ne (tgt := 34) dX11_partOf_26 (by decide) (fun c5 => ?_) (fun c5 => ?_)
    · replace V := V.1 c5
      refine rn_lload dX11_partOf_34 rfl ?_
      refine rn_lload dX11_partOf_36 rfl ?_
      obtain ⟨g, V⟩ := V
      refine rn_ldiv dX11_partOf_38 g ?_
      exact rn_lret dX11_partOf_39 rfl ⟨rfl, Rh1, _, rfl, V⟩
    · replace V := V.2 c5
      refine rn_lload dX11_partOf_29 rfl ?_
      refine rn_goto (tgt := 39) dX11_partOf_31 (by decide) ?_
      exact rn_lret dX11_partOf_39 rfl ⟨rfl, Rh1, _, rfl, V⟩
