set_option maxRecDepth 100000 in
set_option maxHeartbeats 4000000 in
theorem vc_X5_find {G : GT} {d : Nat} {a2 : Int32}  {h : Hp} {Q : Hp → Prop} (hR : RF h) (V : EvI G d mX5_leastOf [.inl a2] (sI (sI (sI h 49 1 0) 49 2 0) 49 3 0) (fun x2 h1 => EvI G d mX9_hasParty [.inr (.inr (some 1)), .inl x2] h1 (fun x4 h3 => ((¬ x4 = 0 → vp_in x2 4 ∧ EvI G d mX9_waterOf [.inr (.inr (some 1)), .inl a2] (sI h3 49 7 (h3.1 11 (Int32.toNatClampNeg x2))) (fun x7 h6 => EvI G d mX9_runs [.inr (.inr (some 1)), .inl x2] h6 (fun x9 h8 => EvI G d mX11_quotient [.inl x7, .inl x9] h8 (fun x11 h10 => EvV G d mX5_gather [.inr (.inr (some 49)), .inr (.inr (some 1)), .inl a2] (sI h10 49 8 x11) (fun h12 => EvV G d mX5_lengthen [.inr (.inr (some 49)), .inr (.inr (some 1)), .inl 0, .inl 0, .inl 0, .inl 0] h12 (fun h13 => Q h13)))))) ∧ (x4 = 0 → Q h3))))) : EvV G (d + 1) mX5_find [.inr (.inr (some 49)), .inr (.inr (some 1)), .inl a2] h Q := by
  refine Ev.of rfl (fun _ => Nat.le_of_ble_eq_true rfl) ?_
  show Rn G (d + 1) 0 0 mX5_find 0 [(0, .inr (.inr (some 49))), (1, .inr (.inr (some 1))), (2, .inl a2)] [] SH h (QV Q)
  refine rn_aload_n dX5_find_0 rfl rfl ?_
  refine rn_iconst (v := 0) dX5_find_1 (by decide) ?_
  refine rn_putI dX5_find_2 fl_X5_21 rfl rfl (Or.inl rfl) rfl rfl ?_
  refine rn_aload_n dX5_find_5 rfl rfl ?_
  refine rn_iconst (v := 0) dX5_find_6 (by decide) ?_
  refine rn_putI dX5_find_7 fl_X5_25 rfl rfl (Or.inl rfl) rfl rfl ?_
  refine rn_aload_n dX5_find_10 rfl rfl ?_
  refine rn_iconst (v := 0) dX5_find_11 (by decide) ?_
  refine rn_putI dX5_find_12 fl_X5_28 rfl rfl (Or.inl rfl) rfl rfl ?_
  refine rn_iload_n dX5_find_15 rfl rfl ?_
  refine rn_cS (M' := mX5_leastOf) (n := 1) (av := [.inl a2]) (S := []) (rc := 0) (rs := 0) (mc := 0) (ms := 0) dX5_find_16 pa_X5_leastOf (Nat.le_refl _) rfl (Nat.le_of_ble_eq_true rfl) ml_X5_31 ss_X5_leastOf rfl (Ev.mono V ?_)
  rintro v sh1 h1 ⟨rfl, Rh1, x2, rfl, V⟩
  show Rn G (d + 1) 0 0 mX5_find 19 [(0, .inr (.inr (some 49))), (1, .inr (.inr (some 1))), (2, .inl a2)] [.inl x2] SH h1 (QV Q)
  refine rn_istore_n (L' := [(3, .inl x2), (0, .inr (.inr (some 49))), (1, .inr (.inr (some 1))), (2, .inl a2)]) dX5_find_19 rfl (Nat.le_of_ble_eq_true rfl) rfl ?_
  refine rn_aload_n dX5_find_20 rfl rfl ?_
  refine rn_iload_n dX5_find_21 rfl rfl ?_
  refine rn_cV (M' := mX9_hasParty) (n := 1) (av := [.inl x2]) (S := []) (rc := 0) (rs := 0) (mc := 0) (ms := 0) (a := 1) (ci := 8) (r := (RX9, TX9, 17)) dX5_find_22 pa_X9_hasParty (Nat.le_refl _) rfl (Nat.le_of_ble_eq_true rfl) ml_X5_35 im_X9_hasParty se_X9_hasParty rfl rfl rfl (Ev.mono V ?_)
  rintro v sh1 h3 ⟨rfl, Rh3, x4, rfl, V⟩
  show Rn G (d + 1) 0 0 mX5_find 25 [(3, .inl x2), (0, .inr (.inr (some 49))), (1, .inr (.inr (some 1))), (2, .inl a2)] [.inl x4] SH h3 (QV Q)
  refine rn_if_ne (tgt := 29) dX5_find_25 (by decide) (fun c5 => ?_) (fun c5 => ?_)
  · replace V := V.1 c5
    refine rn_aload_n dX5_find_29 rfl rfl ?_
    refine rn_aload_n dX5_find_30 rfl rfl ?_
    refine rn_get (v := .inr (.inr (some 9))) dX5_find_31 fl_X5_41 rfl rfl (congrArg (fun z => (Sum.inr (Sum.inr z) : MV)) (rf_1_9 Rh3)) ?_
    refine rn_get (v := .inr (.inr (some 11))) dX5_find_34 fl_X5_45 rfl rfl (congrArg (fun z => (Sum.inr (Sum.inr z) : MV)) (rf_9_1 Rh3)) ?_
    refine rn_iload_n dX5_find_37 rfl rfl ?_
    obtain ⟨g0, V⟩ := V
    refine rn_iald (k := (Int32.toNatClampNeg x2)) dX5_find_38 rfl rfl g0 ?_
    refine rn_putI dX5_find_39 fl_X5_50 rfl rfl (Or.inl rfl) rfl rfl ?_
    refine rn_aload_n dX5_find_42 rfl rfl ?_
    refine rn_aload_n dX5_find_43 rfl rfl ?_
    refine rn_iload_n dX5_find_44 rfl rfl ?_
    refine rn_cV (M' := mX9_waterOf) (n := 1) (av := [.inl a2]) (S := [.inr (.inr (some 49))]) (rc := 0) (rs := 0) (mc := 0) (ms := 0) (a := 1) (ci := 8) (r := (RX9, TX9, 17)) dX5_find_45 pa_X9_waterOf (Nat.le_refl _) rfl (Nat.le_of_ble_eq_true rfl) ml_X5_52 im_X9_waterOf se_X9_waterOf rfl rfl rfl (Ev.mono V ?_)
    rintro v sh1 h6 ⟨rfl, Rh6, x7, rfl, V⟩
    show Rn G (d + 1) 0 0 mX5_find 48 [(3, .inl x2), (0, .inr (.inr (some 49))), (1, .inr (.inr (some 1))), (2, .inl a2)] [.inl x7, .inr (.inr (some 49))] SH h6 (QV Q)
    refine rn_aload_n dX5_find_48 rfl rfl ?_
    refine rn_iload_n dX5_find_49 rfl rfl ?_
    refine rn_cV (M' := mX9_runs) (n := 1) (av := [.inl x2]) (S := [.inl x7, .inr (.inr (some 49))]) (rc := 0) (rs := 0) (mc := 0) (ms := 0) (a := 1) (ci := 8) (r := (RX9, TX9, 17)) dX5_find_50 pa_X9_runs (Nat.le_refl _) rfl (Nat.le_of_ble_eq_true rfl) ml_X5_55 im_X9_runs se_X9_runs rfl rfl rfl (Ev.mono V ?_)
    rintro v sh1 h8 ⟨rfl, Rh8, x9, rfl, V⟩
    show Rn G (d + 1) 0 0 mX5_find 53 [(3, .inl x2), (0, .inr (.inr (some 49))), (1, .inr (.inr (some 1))), (2, .inl a2)] [.inl x9, .inl x7, .inr (.inr (some 49))] SH h8 (QV Q)
    refine rn_cSN (M' := mX11_quotient) (n := 2) (av := [.inl x7, .inl x9]) (S := [.inr (.inr (some 49))]) (rc := 0) (rs := 0) (mc := 0) (ms := 0) dX5_find_53 pa_X11_quotient (Nat.le_refl _) rfl (Nat.le_of_ble_eq_true rfl) ml_X5_58 ss_X11_quotient rfl (Ev.mono V ?_)
    rintro v sh1 h10 ⟨rfl, Rh10, x11, rfl, V⟩
    show Rn G (d + 1) 0 0 mX5_find 56 [(3, .inl x2), (0, .inr (.inr (some 49))), (1, .inr (.inr (some 1))), (2, .inl a2)] [.inl x11, .inr (.inr (some 49))] SH h10 (QV Q)
    refine rn_putI dX5_find_56 fl_X5_62 rfl rfl (Or.inl rfl) rfl rfl ?_
    refine rn_aload_n dX5_find_59 rfl rfl ?_
    refine rn_aload_n dX5_find_60 rfl rfl ?_
    refine rn_iload_n dX5_find_61 rfl rfl ?_
    refine rn_cV (M' := mX5_gather) (n := 2) (av := [.inr (.inr (some 1)), .inl a2]) (S := []) (rc := 0) (rs := 0) (mc := 0) (ms := 0) (a := 49) (ci := 4) (r := (RX5, TX5, 9)) dX5_find_62 pa_X5_gather (Nat.le_refl _) rfl (Nat.le_of_ble_eq_true rfl) ml_X5_65 im_X5_gather se_X5_gather rfl rfl rfl (Ev.mono V ?_)
    rintro v sh1 h12 ⟨rfl, Rh12, rfl, V⟩
    show Rn G (d + 1) 0 0 mX5_find 65 [(3, .inl x2), (0, .inr (.inr (some 49))), (1, .inr (.inr (some 1))), (2, .inl a2)] [] SH h12 (QV Q)
    refine rn_aload_n dX5_find_65 rfl rfl ?_
    refine rn_aload_n dX5_find_66 rfl rfl ?_
    refine rn_iconst (v := 0) dX5_find_67 (by decide) ?_
    refine rn_iconst (v := 0) dX5_find_68 (by decide) ?_
    refine rn_iconst (v := 0) dX5_find_69 (by decide) ?_
    refine rn_iconst (v := 0) dX5_find_70 (by decide) ?_
    refine rn_cV (M' := mX5_lengthen) (n := 5) (av := [.inr (.inr (some 1)), .inl 0, .inl 0, .inl 0, .inl 0]) (S := []) (rc := 0) (rs := 0) (mc := 0) (ms := 0) (a := 49) (ci := 4) (r := (RX5, TX5, 9)) dX5_find_71 pa_X5_lengthen (Nat.le_refl _) rfl (Nat.le_of_ble_eq_true rfl) ml_X5_69 im_X5_lengthen se_X5_lengthen rfl rfl rfl (Ev.mono V ?_)
    rintro v sh1 h13 ⟨rfl, Rh13, rfl, V⟩
    show Rn G (d + 1) 0 0 mX5_find 74 [(3, .inl x2), (0, .inr (.inr (some 49))), (1, .inr (.inr (some 1))), (2, .inl a2)] [] SH h13 (QV Q)
    exact rn_vret dX5_find_74 rfl ⟨rfl, Rh13, rfl, V⟩
  · replace V := V.2 c5
    exact rn_vret dX5_find_28 rfl ⟨rfl, Rh3, rfl, V⟩
def Rg_X5_leastOf_2 (G : GT) (d : Nat) (l0 : Int32) (l1 : Int32) (h : Hp) (Q : Int32 → Hp → Prop) : Prop := Rn G (d + 1) 0 0 mX5_leastOf 2 [(0, .inl l0), (1, .inl l1)] [] SH h (QI Q)
set_option maxRecDepth 100000 in
set_option maxHeartbeats 4000000 in
theorem vc_X5_leastOf_2 {G : GT} {d : Nat} {l0 : Int32} {l1 : Int32}  {h : Hp} {Q : Int32 → Hp → Prop} (hR : RF h) (V : ((4 ≤ l1 → Q l1 h) ∧ (¬ 4 ≤ l1 → ((¬ ((l0 >>> (l1 &&& 31)) &&& 1) = 0 → Q l1 h) ∧ (((l0 >>> (l1 &&& 31)) &&& 1) = 0 → Rg_X5_leastOf_2 G d l0 (l1 + 1) h Q))))) : Rg_X5_leastOf_2 G d l0 l1 h Q := by
  show Rn G (d + 1) 0 0 mX5_leastOf 2 [(0, .inl l0), (1, .inl l1)] [] SH h (QI Q)
  refine rn_iload_n dX5_leastOf_2 rfl rfl ?_
  refine rn_iconst (v := 4) dX5_leastOf_3 (by decide) ?_
  refine rn_icmp_ge (tgt := 21) dX5_leastOf_4 (by decide) (fun c1 => ?_) (fun c1 => ?_)
  · replace V := V.1 c1
    refine rn_iload_n dX5_leastOf_21 rfl rfl ?_
    exact rn_iret dX5_leastOf_22 rfl ⟨rfl, hR, _, rfl, V⟩
  · replace V := V.2 c1
    refine rn_iload_n dX5_leastOf_7 rfl rfl ?_
    refine rn_iload_n dX5_leastOf_8 rfl rfl ?_
    refine rn_ishr dX5_leastOf_9 ?_
    refine rn_iconst (v := 1) dX5_leastOf_10 (by decide) ?_
    refine rn_iand dX5_leastOf_11 ?_
    refine rn_if_ne (tgt := 21) dX5_leastOf_12 (by decide) (fun c2 => ?_) (fun c2 => ?_)
    · replace V := V.1 c2
      refine rn_iload_n dX5_leastOf_21 rfl rfl ?_
      exact rn_iret dX5_leastOf_22 rfl ⟨rfl, hR, _, rfl, V⟩
    · replace V := V.2 c2
      refine rn_iinc (L' := [(1, .inl (l1 + 1)), (0, .inl l0)]) dX5_leastOf_15 rfl (v := (l1 + 1)) rfl (Nat.le_of_ble_eq_true rfl) rfl ?_
      refine rn_goto (tgt := 2) dX5_leastOf_18 (by decide) ?_
      refine rn_sub [1, 0] (L' := [(0, .inl l0), (1, .inl (l1 + 1))]) rfl ?_
      exact V
set_option maxRecDepth 100000 in
set_option maxHeartbeats 4000000 in
theorem vc_X5_leastOf {G : GT} {d : Nat} {a0 : Int32}  {h : Hp} {Q : Int32 → Hp → Prop} (hR : RF h) (V : Rg_X5_leastOf_2 G d a0 0 h Q) : EvI G (d + 1) mX5_leastOf [.inl a0] h Q := by
  refine Ev.of rfl (fun _ => Nat.le_of_ble_eq_true rfl) ?_
  show Rn G (d + 1) 0 0 mX5_leastOf 0 [(0, .inl a0)] [] SH h (QI Q)
  refine rn_iconst (v := 0) dX5_leastOf_0 (by decide) ?_
  refine rn_istore_n (L' := [(1, .inl 0), (0, .inl a0)]) dX5_leastOf_1 rfl (Nat.le_of_ble_eq_true rfl) rfl ?_
  refine rn_sub [1, 0] (L' := [(0, .inl a0), (1, .inl 0)]) rfl ?_
  exact V
def Rg_X5_gather_7 (G : GT) (d : Nat) (l2 : Int32) (l3 : Int32) (h : Hp) (Q : Hp → Prop) : Prop := Rn G (d + 1) 0 0 mX5_gather 7 [(0, .inr (.inr (some 49))), (1, .inr (.inr (some 1))), (2, .inl l2), (3, .inl l3)] [] SH h (QV Q)
set_option maxRecDepth 100000 in
set_option maxHeartbeats 4000000 in
theorem vc_X5_gather_7 {G : GT} {d : Nat} {l2 : Int32} {l3 : Int32}  {h : Hp} {Q : Hp → Prop} (hR : RF h) (V : ((h.1 1 4 ≤ l3 → Q h) ∧ (¬ h.1 1 4 ≤ l3 → ((12 ≤ l3 → Q h) ∧ (¬ 12 ≤ l3 → ((5 ≤ h.1 49 5 → Q h) ∧ (¬ 5 ≤ h.1 49 5 → vp_in l3 12 ∧ ((¬ ((l2 >>> ((h.1 5 (Int32.toNatClampNeg l3)) &&& 31)) &&& 1) = 1 → Rg_X5_gather_7 G d l2 (l3 + 1) h Q) ∧ (((l2 >>> ((h.1 5 (Int32.toNatClampNeg l3)) &&& 31)) &&& 1) = 1 → vp_in l3 12 ∧ ((¬ h.1 12 (Int32.toNatClampNeg l3) = 0 → Rg_X5_gather_7 G d l2 (l3 + 1) h Q) ∧ (h.1 12 (Int32.toNatClampNeg l3) = 0 → vp_in (h.1 49 5) 5 ∧ Rg_X5_gather_7 G d l2 (l3 + 1) (sI (sI h 51 (Int32.toNatClampNeg (h.1 49 5)) l3) 49 5 (h.1 49 5 + 1)) Q))))))))))) : Rg_X5_gather_7 G d l2 l3 h Q := by
  show Rn G (d + 1) 0 0 mX5_gather 7 [(0, .inr (.inr (some 49))), (1, .inr (.inr (some 1))), (2, .inl l2), (3, .inl l3)] [] SH h (QV Q)
  refine rn_iload_n dX5_gather_7 rfl rfl ?_
  refine rn_aload_n dX5_gather_8 rfl rfl ?_
  refine rn_get (v := .inl (h.1 1 4)) dX5_gather_9 fl_X5_76 rfl rfl rfl ?_
  refine rn_icmp_ge (tgt := 81) dX5_gather_12 (by decide) (fun c1 => ?_) (fun c1 => ?_)
  · replace V := V.1 c1
    exact rn_vret dX5_gather_81 rfl ⟨rfl, hR, rfl, V⟩
  · replace V := V.2 c1
    refine rn_iload_n dX5_gather_15 rfl rfl ?_
    refine rn_bipush (v := 12) dX5_gather_16 (by decide) ?_
    refine rn_icmp_ge (tgt := 81) dX5_gather_18 (by decide) (fun c2 => ?_) (fun c2 => ?_)
    · replace V := V.1 c2
      exact rn_vret dX5_gather_81 rfl ⟨rfl, hR, rfl, V⟩
    · replace V := V.2 c2
      refine rn_aload_n dX5_gather_21 rfl rfl ?_
      refine rn_get (v := .inl (h.1 49 5)) dX5_gather_22 fl_X5_73 rfl rfl rfl ?_
      refine rn_iconst (v := 5) dX5_gather_25 (by decide) ?_
      refine rn_icmp_ge (tgt := 81) dX5_gather_26 (by decide) (fun c3 => ?_) (fun c3 => ?_)
      · replace V := V.1 c3
        exact rn_vret dX5_gather_81 rfl ⟨rfl, hR, rfl, V⟩
      · replace V := V.2 c3
        refine rn_iload_n dX5_gather_29 rfl rfl ?_
        refine rn_aload_n dX5_gather_30 rfl rfl ?_
        refine rn_get (v := .inr (.inr (some 5))) dX5_gather_31 fl_X5_79 rfl rfl (congrArg (fun z => (Sum.inr (Sum.inr z) : MV)) (rf_1_5 hR)) ?_
        refine rn_iload_n dX5_gather_34 rfl rfl ?_
        obtain ⟨g0, V⟩ := V
        refine rn_iald (k := (Int32.toNatClampNeg l3)) dX5_gather_35 rfl rfl g0 ?_
        refine rn_ishr dX5_gather_36 ?_
        refine rn_iconst (v := 1) dX5_gather_37 (by decide) ?_
        refine rn_iand dX5_gather_38 ?_
        refine rn_iconst (v := 1) dX5_gather_39 (by decide) ?_
        refine rn_icmp_ne (tgt := 75) dX5_gather_40 (by decide) (fun c4 => ?_) (fun c4 => ?_)
        · replace V := V.1 c4
          refine rn_iinc (L' := [(3, .inl (l3 + 1)), (0, .inr (.inr (some 49))), (1, .inr (.inr (some 1))), (2, .inl l2)]) dX5_gather_75 rfl (v := (l3 + 1)) rfl (Nat.le_of_ble_eq_true rfl) rfl ?_
          refine rn_goto (tgt := 7) dX5_gather_78 (by decide) ?_
          refine rn_sub [1, 2, 3, 0] (L' := [(0, .inr (.inr (some 49))), (1, .inr (.inr (some 1))), (2, .inl l2), (3, .inl (l3 + 1))]) rfl ?_
          exact V
        · replace V := V.2 c4
          refine rn_aload_n dX5_gather_43 rfl rfl ?_
          refine rn_get (v := .inr (.inr (some 9))) dX5_gather_44 fl_X5_41 rfl rfl (congrArg (fun z => (Sum.inr (Sum.inr z) : MV)) (rf_1_9 hR)) ?_
          refine rn_get (v := .inr (.inr (some 12))) dX5_gather_47 fl_X5_82 rfl rfl (congrArg (fun z => (Sum.inr (Sum.inr z) : MV)) (rf_9_2 hR)) ?_
          refine rn_iload_n dX5_gather_50 rfl rfl ?_
          obtain ⟨g0, V⟩ := V
          refine rn_iald (k := (Int32.toNatClampNeg l3)) dX5_gather_51 rfl rfl g0 ?_
          refine rn_if_ne (tgt := 75) dX5_gather_52 (by decide) (fun c5 => ?_) (fun c5 => ?_)
          · replace V := V.1 c5
            refine rn_iinc (L' := [(3, .inl (l3 + 1)), (0, .inr (.inr (some 49))), (1, .inr (.inr (some 1))), (2, .inl l2)]) dX5_gather_75 rfl (v := (l3 + 1)) rfl (Nat.le_of_ble_eq_true rfl) rfl ?_
            refine rn_goto (tgt := 7) dX5_gather_78 (by decide) ?_
            refine rn_sub [1, 2, 3, 0] (L' := [(0, .inr (.inr (some 49))), (1, .inr (.inr (some 1))), (2, .inl l2), (3, .inl (l3 + 1))]) rfl ?_
            exact V
          · replace V := V.2 c5
            refine rn_aload_n dX5_gather_55 rfl rfl ?_
            refine rn_get (v := .inr (.inr (some 51))) dX5_gather_56 fl_X5_15 rfl rfl (congrArg (fun z => (Sum.inr (Sum.inr z) : MV)) (rf_49_4 hR)) ?_
            refine rn_aload_n dX5_gather_59 rfl rfl ?_
            refine rn_get (v := .inl (h.1 49 5)) dX5_gather_60 fl_X5_73 rfl rfl rfl ?_
            refine rn_iload_n dX5_gather_63 rfl rfl ?_
            obtain ⟨g0, V⟩ := V
            refine rn_iast (k := (Int32.toNatClampNeg (h.1 49 5))) dX5_gather_64 rfl rfl g0 ?_
            refine rn_aload_n dX5_gather_65 rfl rfl ?_
            refine rn_dup dX5_gather_66 rfl ?_
            refine rn_get (v := .inl (h.1 49 5)) dX5_gather_67 fl_X5_73 rfl rfl rfl ?_
            refine rn_iconst (v := 1) dX5_gather_70 (by decide) ?_
            refine rn_iadd dX5_gather_71 ?_
            refine rn_putI dX5_gather_72 fl_X5_73 rfl rfl (Or.inl rfl) rfl rfl ?_
            refine rn_iinc (L' := [(3, .inl (l3 + 1)), (0, .inr (.inr (some 49))), (1, .inr (.inr (some 1))), (2, .inl l2)]) dX5_gather_75 rfl (v := (l3 + 1)) rfl (Nat.le_of_ble_eq_true rfl) rfl ?_
            refine rn_goto (tgt := 7) dX5_gather_78 (by decide) ?_
            refine rn_sub [1, 2, 3, 0] (L' := [(0, .inr (.inr (some 49))), (1, .inr (.inr (some 1))), (2, .inl l2), (3, .inl (l3 + 1))]) rfl ?_
            exact V
set_option maxRecDepth 100000 in
set_option maxHeartbeats 4000000 in
theorem vc_X5_gather {G : GT} {d : Nat} {a2 : Int32}  {h : Hp} {Q : Hp → Prop} (hR : RF h) (V : Rg_X5_gather_7 G d a2 0 (sI h 49 5 0) Q) : EvV G (d + 1) mX5_gather [.inr (.inr (some 49)), .inr (.inr (some 1)), .inl a2] h Q := by
  refine Ev.of rfl (fun _ => Nat.le_of_ble_eq_true rfl) ?_
  show Rn G (d + 1) 0 0 mX5_gather 0 [(0, .inr (.inr (some 49))), (1, .inr (.inr (some 1))), (2, .inl a2)] [] SH h (QV Q)
  refine rn_aload_n dX5_gather_0 rfl rfl ?_
  refine rn_iconst (v := 0) dX5_gather_1 (by decide) ?_
  refine rn_putI dX5_gather_2 fl_X5_73 rfl rfl (Or.inl rfl) rfl rfl ?_
  refine rn_iconst (v := 0) dX5_gather_5 (by decide) ?_
  refine rn_istore_n (L' := [(3, .inl 0), (0, .inr (.inr (some 49))), (1, .inr (.inr (some 1))), (2, .inl a2)]) dX5_gather_6 rfl (Nat.le_of_ble_eq_true rfl) rfl ?_
  refine rn_sub [1, 2, 3, 0] (L' := [(0, .inr (.inr (some 49))), (1, .inr (.inr (some 1))), (2, .inl a2), (3, .inl 0)]) rfl ?_
  exact V
def Rg_X5_lengthen_3 (G : GT) (d : Nat) (l2 : Int32) (l3 : Int32) (l4 : Int32) (l5 : Int32) (l6 : Int32) (h : Hp) (Q : Hp → Prop) : Prop := Rn G (d + 1) 0 0 mX5_lengthen 3 [(0, .inr (.inr (some 49))), (1, .inr (.inr (some 1))), (2, .inl l2), (3, .inl l3), (4, .inl l4), (5, .inl l5), (6, .inl l6)] [] SH h (QV Q)
set_option maxRecDepth 100000 in
set_option maxHeartbeats 4000000 in
theorem vc_X5_lengthen_3 {G : GT} {d : Nat} {l2 : Int32} {l3 : Int32} {l4 : Int32} {l5 : Int32} {l6 : Int32}  {h : Hp} {Q : Hp → Prop} (hR : RF h) (V : ((h.1 49 5 ≤ l6 → Q h) ∧ (¬ h.1 49 5 ≤ l6 → ((5 ≤ l6 → Q h) ∧ (¬ 5 ≤ l6 → ((5 ≤ l2 → Q h) ∧ (¬ 5 ≤ l2 → vp_in l6 5 ∧ EvI G d mX5_mayCome [.inr (.inr (some 1)), .inl (h.1 51 (Int32.toNatClampNeg l6)), .inl l3] h (fun x5 h4 => ((x5 = 0 → Rg_X5_lengthen_3 G d l2 l3 l4 l5 (l6 + 1) h4 Q) ∧ (¬ x5 = 0 → vp_in l6 5 ∧ EvV G d mX5_append [.inr (.inr (some 49)), .inr (.inr (some 1)), .inl (h4.1 51 (Int32.toNatClampNeg l6)), .inl l2, .inl l3, .inl l4, .inl l5] h4 (fun h7 => Rg_X5_lengthen_3 G d l2 l3 l4 l5 (l6 + 1) h7 Q))))))))))) : Rg_X5_lengthen_3 G d l2 l3 l4 l5 l6 h Q := by
  show Rn G (d + 1) 0 0 mX5_lengthen 3 [(0, .inr (.inr (some 49))), (1, .inr (.inr (some 1))), (2, .inl l2), (3, .inl l3), (4, .inl l4), (5, .inl l5), (6, .inl l6)] [] SH h (QV Q)
  refine rn_iload dX5_lengthen_3 rfl ?_
  refine rn_aload_n dX5_lengthen_5 rfl rfl ?_
  refine rn_get (v := .inl (h.1 49 5)) dX5_lengthen_6 fl_X5_73 rfl rfl rfl ?_
  refine rn_icmp_ge (tgt := 62) dX5_lengthen_9 (by decide) (fun c1 => ?_) (fun c1 => ?_)
  · replace V := V.1 c1
    exact rn_vret dX5_lengthen_62 rfl ⟨rfl, hR, rfl, V⟩
  · replace V := V.2 c1
    refine rn_iload dX5_lengthen_12 rfl ?_
    refine rn_iconst (v := 5) dX5_lengthen_14 (by decide) ?_
    refine rn_icmp_ge (tgt := 62) dX5_lengthen_15 (by decide) (fun c2 => ?_) (fun c2 => ?_)
    · replace V := V.1 c2
      exact rn_vret dX5_lengthen_62 rfl ⟨rfl, hR, rfl, V⟩
    · replace V := V.2 c2
      refine rn_iload_n dX5_lengthen_18 rfl rfl ?_
      refine rn_iconst (v := 5) dX5_lengthen_19 (by decide) ?_
      refine rn_icmp_ge (tgt := 62) dX5_lengthen_20 (by decide) (fun c3 => ?_) (fun c3 => ?_)
      · replace V := V.1 c3
        exact rn_vret dX5_lengthen_62 rfl ⟨rfl, hR, rfl, V⟩
      · replace V := V.2 c3
        refine rn_aload_n dX5_lengthen_23 rfl rfl ?_
        refine rn_aload_n dX5_lengthen_24 rfl rfl ?_
        refine rn_get (v := .inr (.inr (some 51))) dX5_lengthen_25 fl_X5_15 rfl rfl (congrArg (fun z => (Sum.inr (Sum.inr z) : MV)) (rf_49_4 hR)) ?_
        refine rn_iload dX5_lengthen_28 rfl ?_
        obtain ⟨g0, V⟩ := V
        refine rn_iald (k := (Int32.toNatClampNeg l6)) dX5_lengthen_30 rfl rfl g0 ?_
        refine rn_iload_n dX5_lengthen_31 rfl rfl ?_
        refine rn_cS (M' := mX5_mayCome) (n := 3) (av := [.inr (.inr (some 1)), .inl (h.1 51 (Int32.toNatClampNeg l6)), .inl l3]) (S := []) (rc := 0) (rs := 0) (mc := 0) (ms := 0) dX5_lengthen_32 pa_X5_mayCome (Nat.le_refl _) rfl (Nat.le_of_ble_eq_true rfl) ml_X5_85 ss_X5_mayCome rfl (Ev.mono V ?_)
        rintro v sh1 h4 ⟨rfl, Rh4, x5, rfl, V⟩
        show Rn G (d + 1) 0 0 mX5_lengthen 35 [(0, .inr (.inr (some 49))), (1, .inr (.inr (some 1))), (2, .inl l2), (3, .inl l3), (4, .inl l4), (5, .inl l5), (6, .inl l6)] [.inl x5] SH h4 (QV Q)
        refine rn_if_eq (tgt := 56) dX5_lengthen_35 (by decide) (fun c6 => ?_) (fun c6 => ?_)
        · replace V := V.1 c6
          refine rn_iinc (L' := [(6, .inl (l6 + 1)), (0, .inr (.inr (some 49))), (1, .inr (.inr (some 1))), (2, .inl l2), (3, .inl l3), (4, .inl l4), (5, .inl l5)]) dX5_lengthen_56 rfl (v := (l6 + 1)) rfl (Nat.le_of_ble_eq_true rfl) rfl ?_
          refine rn_goto (tgt := 3) dX5_lengthen_59 (by decide) ?_
          refine rn_sub [1, 2, 3, 4, 5, 6, 0] (L' := [(0, .inr (.inr (some 49))), (1, .inr (.inr (some 1))), (2, .inl l2), (3, .inl l3), (4, .inl l4), (5, .inl l5), (6, .inl (l6 + 1))]) rfl ?_
          exact V
        · replace V := V.2 c6
          refine rn_aload_n dX5_lengthen_38 rfl rfl ?_
          refine rn_aload_n dX5_lengthen_39 rfl rfl ?_
          refine rn_aload_n dX5_lengthen_40 rfl rfl ?_
          refine rn_get (v := .inr (.inr (some 51))) dX5_lengthen_41 fl_X5_15 rfl rfl (congrArg (fun z => (Sum.inr (Sum.inr z) : MV)) (rf_49_4 Rh4)) ?_
          refine rn_iload dX5_lengthen_44 rfl ?_
          obtain ⟨g0, V⟩ := V
          refine rn_iald (k := (Int32.toNatClampNeg l6)) dX5_lengthen_46 rfl rfl g0 ?_
          refine rn_iload_n dX5_lengthen_47 rfl rfl ?_
          refine rn_iload_n dX5_lengthen_48 rfl rfl ?_
          refine rn_iload dX5_lengthen_49 rfl ?_
          refine rn_iload dX5_lengthen_51 rfl ?_
          refine rn_cV (M' := mX5_append) (n := 6) (av := [.inr (.inr (some 1)), .inl (h4.1 51 (Int32.toNatClampNeg l6)), .inl l2, .inl l3, .inl l4, .inl l5]) (S := []) (rc := 0) (rs := 0) (mc := 0) (ms := 0) (a := 49) (ci := 4) (r := (RX5, TX5, 9)) dX5_lengthen_53 pa_X5_append (Nat.le_refl _) rfl (Nat.le_of_ble_eq_true rfl) ml_X5_89 im_X5_append se_X5_append rfl rfl rfl (Ev.mono V ?_)
          rintro v sh1 h7 ⟨rfl, Rh7, rfl, V⟩
          show Rn G (d + 1) 0 0 mX5_lengthen 56 [(0, .inr (.inr (some 49))), (1, .inr (.inr (some 1))), (2, .inl l2), (3, .inl l3), (4, .inl l4), (5, .inl l5), (6, .inl l6)] [] SH h7 (QV Q)
          refine rn_iinc (L' := [(6, .inl (l6 + 1)), (0, .inr (.inr (some 49))), (1, .inr (.inr (some 1))), (2, .inl l2), (3, .inl l3), (4, .inl l4), (5, .inl l5)]) dX5_lengthen_56 rfl (v := (l6 + 1)) rfl (Nat.le_of_ble_eq_true rfl) rfl ?_
          refine rn_goto (tgt := 3) dX5_lengthen_59 (by decide) ?_
          refine rn_sub [1, 2, 3, 4, 5, 6, 0] (L' := [(0, .inr (.inr (some 49))), (1, .inr (.inr (some 1))), (2, .inl l2), (3, .inl l3), (4, .inl l4), (5, .inl l5), (6, .inl (l6 + 1))]) rfl ?_
          exact V
set_option maxRecDepth 100000 in
set_option maxHeartbeats 4000000 in
theorem vc_X5_lengthen {G : GT} {d : Nat} {a2 : Int32} {a3 : Int32} {a4 : Int32} {a5 : Int32}  {h : Hp} {Q : Hp → Prop} (hR : RF h) (V : Rg_X5_lengthen_3 G d a2 a3 a4 a5 0 h Q) : EvV G (d + 1) mX5_lengthen [.inr (.inr (some 49)), .inr (.inr (some 1)), .inl a2, .inl a3, .inl a4, .inl a5] h Q := by
  refine Ev.of rfl (fun _ => Nat.le_of_ble_eq_true rfl) ?_
  show Rn G (d + 1) 0 0 mX5_lengthen 0 [(0, .inr (.inr (some 49))), (1, .inr (.inr (some 1))), (2, .inl a2), (3, .inl a3), (4, .inl a4), (5, .inl a5)] [] SH h (QV Q)
  refine rn_iconst (v := 0) dX5_lengthen_0 (by decide) ?_
  refine rn_istore (L' := [(6, .inl 0), (0, .inr (.inr (some 49))), (1, .inr (.inr (some 1))), (2, .inl a2), (3, .inl a3), (4, .inl a4), (5, .inl a5)]) dX5_lengthen_1 (Nat.le_of_ble_eq_true rfl) rfl ?_
  refine rn_sub [1, 2, 3, 4, 5, 6, 0] (L' := [(0, .inr (.inr (some 49))), (1, .inr (.inr (some 1))), (2, .inl a2), (3, .inl a3), (4, .inl a4), (5, .inl a5), (6, .inl 0)]) rfl ?_
  exact V
set_option maxRecDepth 100000 in
set_option maxHeartbeats 4000000 in
theorem vc_X5_append {G : GT} {d : Nat} {a2 : Int32} {a3 : Int32} {a4 : Int32} {a5 : Int32} {a6 : Int32}  {h : Hp} {Q : Hp → Prop} (hR : RF h) (V : EvI G d mX9_hasWord [.inr (.inr (some 1)), .inl a2] h (fun x2 h1 => ((x2 = 0 → Q h1) ∧ (¬ x2 = 0 → EvI G d mX11_within [.inl a3, .inl 0, .inl 4] h1 (fun x5 h4 => ((¬ x5 = 0 → vp_in a2 12 ∧ (((a5 + h4.1 6 (Int32.toNatClampNeg a2)) ≤ h4.1 49 8 → vp_in a2 12 ∧ vp_in a2 12 ∧ EvI G d mX9_earBy [.inr (.inr (some 1)), .inl (h4.1 7 (Int32.toNatClampNeg a2)), .inl (h4.1 6 (Int32.toNatClampNeg a2)), .inl (h4.1 49 7 + a6)] h4 (fun x9 h8 => vp_in a3 5 ∧ EvV G d mX5_keepIfBetter [.inr (.inr (some 49)), .inl (a3 + 1), .inl (a5 + h4.1 6 (Int32.toNatClampNeg a2)), .inl (a6 + x9)] (sI h8 52 (Int32.toNatClampNeg a3) a2) (fun h10 => EvV G d mX5_lengthen [.inr (.inr (some 49)), .inr (.inr (some 1)), .inl (a3 + 1), .inl (a4 ||| (1 <<< (a2 &&& 31))), .inl (a5 + h4.1 6 (Int32.toNatClampNeg a2)), .inl (a6 + x9)] h10 (fun h11 => Q h11)))) ∧ (¬ (a5 + h4.1 6 (Int32.toNatClampNeg a2)) ≤ h4.1 49 8 → Q h4))) ∧ (x5 = 0 → Q h4))))))) : EvV G (d + 1) mX5_append [.inr (.inr (some 49)), .inr (.inr (some 1)), .inl a2, .inl a3, .inl a4, .inl a5, .inl a6] h Q := by
  refine Ev.of rfl (fun _ => Nat.le_of_ble_eq_true rfl) ?_
  show Rn G (d + 1) 0 0 mX5_append 0 [(0, .inr (.inr (some 49))), (1, .inr (.inr (some 1))), (2, .inl a2), (3, .inl a3), (4, .inl a4), (5, .inl a5), (6, .inl a6)] [] SH h (QV Q)
  refine rn_aload_n dX5_append_0 rfl rfl ?_
  refine rn_iload_n dX5_append_1 rfl rfl ?_
  refine rn_cV (M' := mX9_hasWord) (n := 1) (av := [.inl a2]) (S := []) (rc := 0) (rs := 0) (mc := 0) (ms := 0) (a := 1) (ci := 8) (r := (RX9, TX9, 17)) dX5_append_2 pa_X9_hasWord (Nat.le_refl _) rfl (Nat.le_of_ble_eq_true rfl) ml_X5_93 im_X9_hasWord se_X9_hasWord rfl rfl rfl (Ev.mono V ?_)
  rintro v sh1 h1 ⟨rfl, Rh1, x2, rfl, V⟩
  show Rn G (d + 1) 0 0 mX5_append 5 [(0, .inr (.inr (some 49))), (1, .inr (.inr (some 1))), (2, .inl a2), (3, .inl a3), (4, .inl a4), (5, .inl a5), (6, .inl a6)] [.inl x2] SH h1 (QV Q)
  refine rn_if_eq (tgt := 17) dX5_append_5 (by decide) (fun c3 => ?_) (fun c3 => ?_)
  · replace V := V.1 c3
    exact rn_vret dX5_append_17 rfl ⟨rfl, Rh1, rfl, V⟩
  · replace V := V.2 c3
    refine rn_iload_n dX5_append_8 rfl rfl ?_
    refine rn_iconst (v := 0) dX5_append_9 (by decide) ?_
    refine rn_iconst (v := 4) dX5_append_10 (by decide) ?_
    refine rn_cSN (M' := mX11_within) (n := 3) (av := [.inl a3, .inl 0, .inl 4]) (S := []) (rc := 0) (rs := 0) (mc := 0) (ms := 0) dX5_append_11 pa_X11_within (Nat.le_refl _) rfl (Nat.le_of_ble_eq_true rfl) ml_X5_96 ss_X11_within rfl (Ev.mono V ?_)
    rintro v sh1 h4 ⟨rfl, Rh4, x5, rfl, V⟩
    show Rn G (d + 1) 0 0 mX5_append 14 [(0, .inr (.inr (some 49))), (1, .inr (.inr (some 1))), (2, .inl a2), (3, .inl a3), (4, .inl a4), (5, .inl a5), (6, .inl a6)] [.inl x5] SH h4 (QV Q)
    refine rn_if_ne (tgt := 18) dX5_append_14 (by decide) (fun c6 => ?_) (fun c6 => ?_)
    · replace V := V.1 c6
      refine rn_iload dX5_append_18 rfl ?_
      refine rn_aload_n dX5_append_20 rfl rfl ?_
      refine rn_get (v := .inr (.inr (some 6))) dX5_append_21 fl_X5_100 rfl rfl (congrArg (fun z => (Sum.inr (Sum.inr z) : MV)) (rf_1_6 Rh4)) ?_
      refine rn_iload_n dX5_append_24 rfl rfl ?_
      obtain ⟨g0, V⟩ := V
      refine rn_iald (k := (Int32.toNatClampNeg a2)) dX5_append_25 rfl rfl g0 ?_
      refine rn_iadd dX5_append_26 ?_
      refine rn_istore (L' := [(7, .inl (a5 + h4.1 6 (Int32.toNatClampNeg a2))), (0, .inr (.inr (some 49))), (1, .inr (.inr (some 1))), (2, .inl a2), (3, .inl a3), (4, .inl a4), (5, .inl a5), (6, .inl a6)]) dX5_append_27 (Nat.le_of_ble_eq_true rfl) rfl ?_
      refine rn_iload dX5_append_29 rfl ?_
      refine rn_aload_n dX5_append_31 rfl rfl ?_
      refine rn_get (v := .inl (h4.1 49 8)) dX5_append_32 fl_X5_62 rfl rfl rfl ?_
      refine rn_icmp_le (tgt := 39) dX5_append_35 (by decide) (fun c7 => ?_) (fun c7 => ?_)
      · replace V := V.1 c7
        refine rn_iload dX5_append_39 rfl ?_
        refine rn_aload_n dX5_append_41 rfl rfl ?_
        refine rn_aload_n dX5_append_42 rfl rfl ?_
        refine rn_get (v := .inr (.inr (some 7))) dX5_append_43 fl_X5_103 rfl rfl (congrArg (fun z => (Sum.inr (Sum.inr z) : MV)) (rf_1_7 Rh4)) ?_
        refine rn_iload_n dX5_append_46 rfl rfl ?_
        obtain ⟨g0, V⟩ := V
        refine rn_iald (k := (Int32.toNatClampNeg a2)) dX5_append_47 rfl rfl g0 ?_
        refine rn_aload_n dX5_append_48 rfl rfl ?_
        refine rn_get (v := .inr (.inr (some 6))) dX5_append_49 fl_X5_100 rfl rfl (congrArg (fun z => (Sum.inr (Sum.inr z) : MV)) (rf_1_6 Rh4)) ?_
        refine rn_iload_n dX5_append_52 rfl rfl ?_
        obtain ⟨g0, V⟩ := V
        refine rn_iald (k := (Int32.toNatClampNeg a2)) dX5_append_53 rfl rfl g0 ?_
        refine rn_aload_n dX5_append_54 rfl rfl ?_
        refine rn_get (v := .inl (h4.1 49 7)) dX5_append_55 fl_X5_50 rfl rfl rfl ?_
        refine rn_iload dX5_append_58 rfl ?_
        refine rn_iadd dX5_append_60 ?_
        refine rn_cV (M' := mX9_earBy) (n := 3) (av := [.inl (h4.1 7 (Int32.toNatClampNeg a2)), .inl (h4.1 6 (Int32.toNatClampNeg a2)), .inl (h4.1 49 7 + a6)]) (S := [.inl a6]) (rc := 0) (rs := 0) (mc := 0) (ms := 0) (a := 1) (ci := 8) (r := (RX9, TX9, 17)) dX5_append_61 pa_X9_earBy (Nat.le_refl _) rfl (Nat.le_of_ble_eq_true rfl) ml_X5_106 im_X9_earBy se_X9_earBy rfl rfl rfl (Ev.mono V ?_)
        rintro v sh1 h8 ⟨rfl, Rh8, x9, rfl, V⟩
        show Rn G (d + 1) 0 0 mX5_append 64 [(7, .inl (a5 + h4.1 6 (Int32.toNatClampNeg a2))), (0, .inr (.inr (some 49))), (1, .inr (.inr (some 1))), (2, .inl a2), (3, .inl a3), (4, .inl a4), (5, .inl a5), (6, .inl a6)] [.inl x9, .inl a6] SH h8 (QV Q)
        refine rn_iadd dX5_append_64 ?_
        refine rn_istore (L' := [(8, .inl (a6 + x9)), (7, .inl (a5 + h4.1 6 (Int32.toNatClampNeg a2))), (0, .inr (.inr (some 49))), (1, .inr (.inr (some 1))), (2, .inl a2), (3, .inl a3), (4, .inl a4), (5, .inl a5), (6, .inl a6)]) dX5_append_65 (Nat.le_of_ble_eq_true rfl) rfl ?_
        refine rn_aload_n dX5_append_67 rfl rfl ?_
        refine rn_get (v := .inr (.inr (some 52))) dX5_append_68 fl_X5_18 rfl rfl (congrArg (fun z => (Sum.inr (Sum.inr z) : MV)) (rf_49_6 Rh8)) ?_
        refine rn_iload_n dX5_append_71 rfl rfl ?_
        refine rn_iload_n dX5_append_72 rfl rfl ?_
        obtain ⟨g0, V⟩ := V
        refine rn_iast (k := (Int32.toNatClampNeg a3)) dX5_append_73 rfl rfl g0 ?_
        refine rn_aload_n dX5_append_74 rfl rfl ?_
        refine rn_iload_n dX5_append_75 rfl rfl ?_
        refine rn_iconst (v := 1) dX5_append_76 (by decide) ?_
        refine rn_iadd dX5_append_77 ?_
        refine rn_iload dX5_append_78 rfl ?_
        refine rn_iload dX5_append_80 rfl ?_
        refine rn_cV (M' := mX5_keepIfBetter) (n := 3) (av := [.inl (a3 + 1), .inl (a5 + h4.1 6 (Int32.toNatClampNeg a2)), .inl (a6 + x9)]) (S := []) (rc := 0) (rs := 0) (mc := 0) (ms := 0) (a := 49) (ci := 4) (r := (RX5, TX5, 9)) dX5_append_82 pa_X5_keepIfBetter (Nat.le_refl _) rfl (Nat.le_of_ble_eq_true rfl) ml_X5_110 im_X5_keepIfBetter se_X5_keepIfBetter rfl rfl rfl (Ev.mono V ?_)
        rintro v sh1 h10 ⟨rfl, Rh10, rfl, V⟩
        show Rn G (d + 1) 0 0 mX5_append 85 [(8, .inl (a6 + x9)), (7, .inl (a5 + h4.1 6 (Int32.toNatClampNeg a2))), (0, .inr (.inr (some 49))), (1, .inr (.inr (some 1))), (2, .inl a2), (3, .inl a3), (4, .inl a4), (5, .inl a5), (6, .inl a6)] [] SH h10 (QV Q)
        refine rn_aload_n dX5_append_85 rfl rfl ?_
        refine rn_aload_n dX5_append_86 rfl rfl ?_
        refine rn_iload_n dX5_append_87 rfl rfl ?_
        refine rn_iconst (v := 1) dX5_append_88 (by decide) ?_
        refine rn_iadd dX5_append_89 ?_
        refine rn_iload dX5_append_90 rfl ?_
        refine rn_iconst (v := 1) dX5_append_92 (by decide) ?_
        refine rn_iload_n dX5_append_93 rfl rfl ?_
        refine rn_ishl dX5_append_94 ?_
        refine rn_ior dX5_append_95 ?_
        refine rn_iload dX5_append_96 rfl ?_
        refine rn_iload dX5_append_98 rfl ?_
        refine rn_cV (M' := mX5_lengthen) (n := 5) (av := [.inr (.inr (some 1)), .inl (a3 + 1), .inl (a4 ||| (1 <<< (a2 &&& 31))), .inl (a5 + h4.1 6 (Int32.toNatClampNeg a2)), .inl (a6 + x9)]) (S := []) (rc := 0) (rs := 0) (mc := 0) (ms := 0) (a := 49) (ci := 4) (r := (RX5, TX5, 9)) dX5_append_100 pa_X5_lengthen (Nat.le_refl _) rfl (Nat.le_of_ble_eq_true rfl) ml_X5_69 im_X5_lengthen se_X5_lengthen rfl rfl rfl (Ev.mono V ?_)
        rintro v sh1 h11 ⟨rfl, Rh11, rfl, V⟩
        show Rn G (d + 1) 0 0 mX5_append 103 [(8, .inl (a6 + x9)), (7, .inl (a5 + h4.1 6 (Int32.toNatClampNeg a2))), (0, .inr (.inr (some 49))), (1, .inr (.inr (some 1))), (2, .inl a2), (3, .inl a3), (4, .inl a4), (5, .inl a5), (6, .inl a6)] [] SH h11 (QV Q)
        exact rn_vret dX5_append_103 rfl ⟨rfl, Rh11, rfl, V⟩
      · replace V := V.2 c7
        exact rn_vret dX5_append_38 rfl ⟨rfl, Rh4, rfl, V⟩
    · replace V := V.2 c6
      exact rn_vret dX5_append_17 rfl ⟨rfl, Rh4, rfl, V⟩
set_option maxRecDepth 100000 in
set_option maxHeartbeats 4000000 in
theorem vc_X5_mayCome {G : GT} {d : Nat} {a1 : Int32} {a2 : Int32}  {h : Hp} {Q : Int32 → Hp → Prop} (hR : RF h) (V : EvI G d mX9_hasWord [.inr (.inr (some 1)), .inl a1] h (fun x2 h1 => ((x2 = 0 → Q 0 h1) ∧ (¬ x2 = 0 → ((¬ ((a2 >>> (a1 &&& 31)) &&& 1) = 1 → EvI G d mX9_isFree [.inr (.inr (some 1)), .inr (.inr (some 9)), .inl a1] h1 (fun x6 h5 => ((¬ x6 = 0 → Q 1 h5) ∧ (x6 = 0 → vp_in a1 12 ∧ ((¬ ((a2 >>> ((h5.1 8 (Int32.toNatClampNeg a1)) &&& 31)) &&& 1) = 1 → Q 0 h5) ∧ (((a2 >>> ((h5.1 8 (Int32.toNatClampNeg a1)) &&& 31)) &&& 1) = 1 → Q 1 h5)))))) ∧ (((a2 >>> (a1 &&& 31)) &&& 1) = 1 → Q 0 h1)))))) : EvI G (d + 1) mX5_mayCome [.inr (.inr (some 1)), .inl a1, .inl a2] h Q := by
  refine Ev.of rfl (fun _ => Nat.le_of_ble_eq_true rfl) ?_
  show Rn G (d + 1) 0 0 mX5_mayCome 0 [(0, .inr (.inr (some 1))), (1, .inl a1), (2, .inl a2)] [] SH h (QI Q)
  refine rn_aload_n dX5_mayCome_0 rfl rfl ?_
  refine rn_iload_n dX5_mayCome_1 rfl rfl ?_
  refine rn_cV (M' := mX9_hasWord) (n := 1) (av := [.inl a1]) (S := []) (rc := 0) (rs := 0) (mc := 0) (ms := 0) (a := 1) (ci := 8) (r := (RX9, TX9, 17)) dX5_mayCome_2 pa_X9_hasWord (Nat.le_refl _) rfl (Nat.le_of_ble_eq_true rfl) ml_X5_93 im_X9_hasWord se_X9_hasWord rfl rfl rfl (Ev.mono V ?_)
  rintro v sh1 h1 ⟨rfl, Rh1, x2, rfl, V⟩
  show Rn G (d + 1) 0 0 mX5_mayCome 5 [(0, .inr (.inr (some 1))), (1, .inl a1), (2, .inl a2)] [.inl x2] SH h1 (QI Q)
  refine rn_if_eq (tgt := 17) dX5_mayCome_5 (by decide) (fun c3 => ?_) (fun c3 => ?_)
  · replace V := V.1 c3
    refine rn_iconst (v := 0) dX5_mayCome_17 (by decide) ?_
    exact rn_zret dX5_mayCome_18 rfl (by decide) ⟨rfl, Rh1, _, rfl, V⟩
  · replace V := V.2 c3
    refine rn_iload_n dX5_mayCome_8 rfl rfl ?_
    refine rn_iload_n dX5_mayCome_9 rfl rfl ?_
    refine rn_ishr dX5_mayCome_10 ?_
    refine rn_iconst (v := 1) dX5_mayCome_11 (by decide) ?_
    refine rn_iand dX5_mayCome_12 ?_
    refine rn_iconst (v := 1) dX5_mayCome_13 (by decide) ?_
    refine rn_icmp_ne (tgt := 19) dX5_mayCome_14 (by decide) (fun c4 => ?_) (fun c4 => ?_)
    · replace V := V.1 c4
      refine rn_aload_n dX5_mayCome_19 rfl rfl ?_
      refine rn_aload_n dX5_mayCome_20 rfl rfl ?_
      refine rn_get (v := .inr (.inr (some 9))) dX5_mayCome_21 fl_X5_41 rfl rfl (congrArg (fun z => (Sum.inr (Sum.inr z) : MV)) (rf_1_9 Rh1)) ?_
      refine rn_iload_n dX5_mayCome_24 rfl rfl ?_
      refine rn_cV (M' := mX9_isFree) (n := 2) (av := [.inr (.inr (some 9)), .inl a1]) (S := []) (rc := 0) (rs := 0) (mc := 0) (ms := 0) (a := 1) (ci := 8) (r := (RX9, TX9, 17)) dX5_mayCome_25 pa_X9_isFree (Nat.le_refl _) rfl (Nat.le_of_ble_eq_true rfl) ml_X5_114 im_X9_isFree se_X9_isFree rfl rfl rfl (Ev.mono V ?_)
      rintro v sh1 h5 ⟨rfl, Rh5, x6, rfl, V⟩
      show Rn G (d + 1) 0 0 mX5_mayCome 28 [(0, .inr (.inr (some 1))), (1, .inl a1), (2, .inl a2)] [.inl x6] SH h5 (QI Q)
      refine rn_if_ne (tgt := 45) dX5_mayCome_28 (by decide) (fun c7 => ?_) (fun c7 => ?_)
      · replace V := V.1 c7
        refine rn_iconst (v := 1) dX5_mayCome_45 (by decide) ?_
        refine rn_goto (tgt := 50) dX5_mayCome_46 (by decide) ?_
        exact rn_zret dX5_mayCome_50 rfl (by decide) ⟨rfl, Rh5, _, rfl, V⟩
      · replace V := V.2 c7
        refine rn_iload_n dX5_mayCome_31 rfl rfl ?_
        refine rn_aload_n dX5_mayCome_32 rfl rfl ?_
        refine rn_get (v := .inr (.inr (some 8))) dX5_mayCome_33 fl_X5_118 rfl rfl (congrArg (fun z => (Sum.inr (Sum.inr z) : MV)) (rf_1_8 Rh5)) ?_
        refine rn_iload_n dX5_mayCome_36 rfl rfl ?_
        obtain ⟨g0, V⟩ := V
        refine rn_iald (k := (Int32.toNatClampNeg a1)) dX5_mayCome_37 rfl rfl g0 ?_
        refine rn_ishr dX5_mayCome_38 ?_
        refine rn_iconst (v := 1) dX5_mayCome_39 (by decide) ?_
        refine rn_iand dX5_mayCome_40 ?_
        refine rn_iconst (v := 1) dX5_mayCome_41 (by decide) ?_
        refine rn_icmp_ne (tgt := 49) dX5_mayCome_42 (by decide) (fun c8 => ?_) (fun c8 => ?_)
        · replace V := V.1 c8
          refine rn_iconst (v := 0) dX5_mayCome_49 (by decide) ?_
          exact rn_zret dX5_mayCome_50 rfl (by decide) ⟨rfl, Rh5, _, rfl, V⟩
        · replace V := V.2 c8
          refine rn_iconst (v := 1) dX5_mayCome_45 (by decide) ?_
          refine rn_goto (tgt := 50) dX5_mayCome_46 (by decide) ?_
          exact rn_zret dX5_mayCome_50 rfl (by decide) ⟨rfl, Rh5, _, rfl, V⟩
    · replace V := V.2 c4
      refine rn_iconst (v := 0) dX5_mayCome_17 (by decide) ?_
      exact rn_zret dX5_mayCome_18 rfl (by decide) ⟨rfl, Rh1, _, rfl, V⟩
set_option maxRecDepth 100000 in
set_option maxHeartbeats 4000000 in
theorem vc_X5_keepIfBetter {G : GT} {d : Nat} {a1 : Int32} {a2 : Int32} {a3 : Int32}  {h : Hp} {Q : Hp → Prop} (hR : RF h) (V : ((h.1 49 2 < a3 → EvI G d mX11_held [.inl a1, .inl 0, .inl 5] h (fun x3 h2 => ¬ x3 < 0 ∧ 0 + Int32.toNatClampNeg x3 ≤ 5 ∧ 0 + Int32.toNatClampNeg x3 ≤ 5 ∧ Q (sI (sI (sI (cpI h2 52 0 50 0 (Int32.toNatClampNeg x3)) 49 1 a1) 49 2 a3) 49 3 a2))) ∧ (¬ h.1 49 2 < a3 → ((¬ a3 = h.1 49 2 → Q h) ∧ (a3 = h.1 49 2 → ((h.1 49 3 ≤ a2 → Q h) ∧ (¬ h.1 49 3 ≤ a2 → EvI G d mX11_held [.inl a1, .inl 0, .inl 5] h (fun x7 h6 => ¬ x7 < 0 ∧ 0 + Int32.toNatClampNeg x7 ≤ 5 ∧ 0 + Int32.toNatClampNeg x7 ≤ 5 ∧ Q (sI (sI (sI (cpI h6 52 0 50 0 (Int32.toNatClampNeg x7)) 49 1 a1) 49 2 a3) 49 3 a2))))))))) : EvV G (d + 1) mX5_keepIfBetter [.inr (.inr (some 49)), .inl a1, .inl a2, .inl a3] h Q := by
  refine Ev.of rfl (fun _ => Nat.le_of_ble_eq_true rfl) ?_
  show Rn G (d + 1) 0 0 mX5_keepIfBetter 0 [(0, .inr (.inr (some 49))), (1, .inl a1), (2, .inl a2), (3, .inl a3)] [] SH h (QV Q)
  refine rn_iload_n dX5_keepIfBetter_0 rfl rfl ?_
  refine rn_aload_n dX5_keepIfBetter_1 rfl rfl ?_
  refine rn_get (v := .inl (h.1 49 2)) dX5_keepIfBetter_2 fl_X5_25 rfl rfl rfl ?_
  refine rn_icmp_gt (tgt := 24) dX5_keepIfBetter_5 (by decide) (fun c1 => ?_) (fun c1 => ?_)
  · replace V := V.1 c1
    refine rn_aload_n dX5_keepIfBetter_24 rfl rfl ?_
    refine rn_get (v := .inr (.inr (some 52))) dX5_keepIfBetter_25 fl_X5_18 rfl rfl (congrArg (fun z => (Sum.inr (Sum.inr z) : MV)) (rf_49_6 hR)) ?_
    refine rn_iconst (v := 0) dX5_keepIfBetter_28 (by decide) ?_
    refine rn_aload_n dX5_keepIfBetter_29 rfl rfl ?_
    refine rn_get (v := .inr (.inr (some 50))) dX5_keepIfBetter_30 fl_X5_9 rfl rfl (congrArg (fun z => (Sum.inr (Sum.inr z) : MV)) (rf_49_0 hR)) ?_
    refine rn_iconst (v := 0) dX5_keepIfBetter_33 (by decide) ?_
    refine rn_iload_n dX5_keepIfBetter_34 rfl rfl ?_
    refine rn_iconst (v := 0) dX5_keepIfBetter_35 (by decide) ?_
    refine rn_iconst (v := 5) dX5_keepIfBetter_36 (by decide) ?_
    refine rn_cSN (M' := mX11_held) (n := 3) (av := [.inl a1, .inl 0, .inl 5]) (S := [.inl 0, .inr (.inr (some 50)), .inl 0, .inr (.inr (some 52))]) (rc := 0) (rs := 0) (mc := 0) (ms := 0) dX5_keepIfBetter_37 pa_X11_held (Nat.le_refl _) rfl (Nat.le_of_ble_eq_true rfl) ml_X5_121 ss_X11_held rfl (Ev.mono V ?_)
    rintro v sh1 h2 ⟨rfl, Rh2, x3, rfl, V⟩
    show Rn G (d + 1) 0 0 mX5_keepIfBetter 40 [(0, .inr (.inr (some 49))), (1, .inl a1), (2, .inl a2), (3, .inl a3)] [.inl x3, .inl 0, .inr (.inr (some 50)), .inl 0, .inr (.inr (some 52))] SH h2 (QV Q)
    obtain ⟨g1, g2, g3, V⟩ := V
    refine rn_copy (sp' := 0) (dp' := 0) (n' := Int32.toNatClampNeg x3) dX5_keepIfBetter_40 cp_X5_124 rfl rfl (by decide) (by decide) rfl (by decide) (by decide) g1 g2 g3 (Nat.le_of_ble_eq_true rfl) ?_
    refine rn_aload_n dX5_keepIfBetter_43 rfl rfl ?_
    refine rn_iload_n dX5_keepIfBetter_44 rfl rfl ?_
    refine rn_putI dX5_keepIfBetter_45 fl_X5_21 rfl rfl (Or.inl rfl) rfl rfl ?_
    refine rn_aload_n dX5_keepIfBetter_48 rfl rfl ?_
    refine rn_iload_n dX5_keepIfBetter_49 rfl rfl ?_
    refine rn_putI dX5_keepIfBetter_50 fl_X5_25 rfl rfl (Or.inl rfl) rfl rfl ?_
    refine rn_aload_n dX5_keepIfBetter_53 rfl rfl ?_
    refine rn_iload_n dX5_keepIfBetter_54 rfl rfl ?_
    refine rn_putI dX5_keepIfBetter_55 fl_X5_28 rfl rfl (Or.inl rfl) rfl rfl ?_
    exact rn_vret dX5_keepIfBetter_58 rfl ⟨rfl, Rh2, rfl, V⟩
  · replace V := V.2 c1
    refine rn_iload_n dX5_keepIfBetter_8 rfl rfl ?_
    refine rn_aload_n dX5_keepIfBetter_9 rfl rfl ?_
    refine rn_get (v := .inl (h.1 49 2)) dX5_keepIfBetter_10 fl_X5_25 rfl rfl rfl ?_
    refine rn_icmp_ne (tgt := 58) dX5_keepIfBetter_13 (by decide) (fun c4 => ?_) (fun c4 => ?_)
    · replace V := V.1 c4
      exact rn_vret dX5_keepIfBetter_58 rfl ⟨rfl, hR, rfl, V⟩
    · replace V := V.2 c4
      refine rn_iload_n dX5_keepIfBetter_16 rfl rfl ?_
      refine rn_aload_n dX5_keepIfBetter_17 rfl rfl ?_
      refine rn_get (v := .inl (h.1 49 3)) dX5_keepIfBetter_18 fl_X5_28 rfl rfl rfl ?_
      refine rn_icmp_ge (tgt := 58) dX5_keepIfBetter_21 (by decide) (fun c5 => ?_) (fun c5 => ?_)
      · replace V := V.1 c5
        exact rn_vret dX5_keepIfBetter_58 rfl ⟨rfl, hR, rfl, V⟩
      · replace V := V.2 c5
        refine rn_aload_n dX5_keepIfBetter_24 rfl rfl ?_
        refine rn_get (v := .inr (.inr (some 52))) dX5_keepIfBetter_25 fl_X5_18 rfl rfl (congrArg (fun z => (Sum.inr (Sum.inr z) : MV)) (rf_49_6 hR)) ?_
        refine rn_iconst (v := 0) dX5_keepIfBetter_28 (by decide) ?_
        refine rn_aload_n dX5_keepIfBetter_29 rfl rfl ?_
        refine rn_get (v := .inr (.inr (some 50))) dX5_keepIfBetter_30 fl_X5_9 rfl rfl (congrArg (fun z => (Sum.inr (Sum.inr z) : MV)) (rf_49_0 hR)) ?_
        refine rn_iconst (v := 0) dX5_keepIfBetter_33 (by decide) ?_
        refine rn_iload_n dX5_keepIfBetter_34 rfl rfl ?_
        refine rn_iconst (v := 0) dX5_keepIfBetter_35 (by decide) ?_
        refine rn_iconst (v := 5) dX5_keepIfBetter_36 (by decide) ?_
        refine rn_cSN (M' := mX11_held) (n := 3) (av := [.inl a1, .inl 0, .inl 5]) (S := [.inl 0, .inr (.inr (some 50)), .inl 0, .inr (.inr (some 52))]) (rc := 0) (rs := 0) (mc := 0) (ms := 0) dX5_keepIfBetter_37 pa_X11_held (Nat.le_refl _) rfl (Nat.le_of_ble_eq_true rfl) ml_X5_121 ss_X11_held rfl (Ev.mono V ?_)
        rintro v sh1 h6 ⟨rfl, Rh6, x7, rfl, V⟩
        show Rn G (d + 1) 0 0 mX5_keepIfBetter 40 [(0, .inr (.inr (some 49))), (1, .inl a1), (2, .inl a2), (3, .inl a3)] [.inl x7, .inl 0, .inr (.inr (some 50)), .inl 0, .inr (.inr (some 52))] SH h6 (QV Q)
        obtain ⟨g1, g2, g3, V⟩ := V
        refine rn_copy (sp' := 0) (dp' := 0) (n' := Int32.toNatClampNeg x7) dX5_keepIfBetter_40 cp_X5_124 rfl rfl (by decide) (by decide) rfl (by decide) (by decide) g1 g2 g3 (Nat.le_of_ble_eq_true rfl) ?_
        refine rn_aload_n dX5_keepIfBetter_43 rfl rfl ?_
        refine rn_iload_n dX5_keepIfBetter_44 rfl rfl ?_
        refine rn_putI dX5_keepIfBetter_45 fl_X5_21 rfl rfl (Or.inl rfl) rfl rfl ?_
        refine rn_aload_n dX5_keepIfBetter_48 rfl rfl ?_
        refine rn_iload_n dX5_keepIfBetter_49 rfl rfl ?_
        refine rn_putI dX5_keepIfBetter_50 fl_X5_25 rfl rfl (Or.inl rfl) rfl rfl ?_
        refine rn_aload_n dX5_keepIfBetter_53 rfl rfl ?_
        refine rn_iload_n dX5_keepIfBetter_54 rfl rfl ?_
        refine rn_putI dX5_keepIfBetter_55 fl_X5_28 rfl rfl (Or.inl rfl) rfl rfl ?_
        exact rn_vret dX5_keepIfBetter_58 rfl ⟨rfl, Rh6, rfl, V⟩
def Rg_X3_weigh_26 (G : GT) (d : Nat) (l3 : Int32) (l4 : Int32) (h : Hp) (Q : Hp → Prop) : Prop := Rn G (d + 1) 0 0 mX3_weigh 26 [(0, .inr (.inr (some 53))), (1, .inr (.inr (some 1))), (2, .inr (.inr (some 49))), (3, .inl l3), (4, .inl l4)] [] SH h (QV Q)
def Rg_X3_weigh_80 (G : GT) (d : Nat) (l3 : Int32) (l4 : Int32) (h : Hp) (Q : Hp → Prop) : Prop := Rn G (d + 1) 0 0 mX3_weigh 80 [(0, .inr (.inr (some 53))), (3, .inl l3), (4, .inl l4)] [] SH h (QV Q)
set_option maxRecDepth 100000 in
set_option maxHeartbeats 4000000 in
theorem vc_X3_weigh_26 {G : GT} {d : Nat} {l3 : Int32} {l4 : Int32}  {h : Hp} {Q : Hp → Prop} (hR : RF h) (V : ((h.1 53 3 ≤ l4 → EvI G d mX3_factorial [.inl l3] h (fun x3 h2 => Rg_X3_weigh_80 G d l3 0 (sI h2 53 1 x3) Q)) ∧ (¬ h.1 53 3 ≤ l4 → ((16 ≤ l4 → EvI G d mX3_factorial [.inl l3] h (fun x6 h5 => Rg_X3_weigh_80 G d l3 0 (sI h5 53 1 x6) Q)) ∧ (¬ 16 ≤ l4 → EvV G d mX5_find [.inr (.inr (some 49)), .inr (.inr (some 1)), .inl l4] h (fun h7 => vp_in l4 16 ∧ Rg_X3_weigh_26 G d l3 (l4 + 1) (sI h7 55 (Int32.toNatClampNeg l4) (h7.1 49 2)) Q)))))) : Rg_X3_weigh_26 G d l3 l4 h Q := by
  show Rn G (d + 1) 0 0 mX3_weigh 26 [(0, .inr (.inr (some 53))), (1, .inr (.inr (some 1))), (2, .inr (.inr (some 49))), (3, .inl l3), (4, .inl l4)] [] SH h (QV Q)
  refine rn_iload dX3_weigh_26 rfl ?_
  refine rn_aload_n dX3_weigh_28 rfl rfl ?_
  refine rn_get (v := .inl (h.1 53 3)) dX3_weigh_29 fl_X3_30 rfl rfl rfl ?_
  refine rn_icmp_ge (tgt := 69) dX3_weigh_32 (by decide) (fun c1 => ?_) (fun c1 => ?_)
  · replace V := V.1 c1
    refine rn_aload_n dX3_weigh_69 rfl rfl ?_
    refine rn_iload_n dX3_weigh_70 rfl rfl ?_
    refine rn_cS (M' := mX3_factorial) (n := 1) (av := [.inl l3]) (S := [.inr (.inr (some 53))]) (rc := 0) (rs := 0) (mc := 0) (ms := 0) dX3_weigh_71 pa_X3_factorial (Nat.le_refl _) rfl (Nat.le_of_ble_eq_true rfl) ml_X3_42 ss_X3_factorial rfl (Ev.mono V ?_)
    rintro v sh1 h2 ⟨rfl, Rh2, x3, rfl, V⟩
    show Rn G (d + 1) 0 0 mX3_weigh 74 [(0, .inr (.inr (some 53))), (1, .inr (.inr (some 1))), (2, .inr (.inr (some 49))), (3, .inl l3), (4, .inl l4)] [.inl x3, .inr (.inr (some 53))] SH h2 (QV Q)
    refine rn_putI dX3_weigh_74 fl_X3_46 rfl rfl (Or.inl rfl) rfl rfl ?_
    refine rn_iconst (v := 0) dX3_weigh_77 (by decide) ?_
    refine rn_istore (L' := [(4, .inl 0), (0, .inr (.inr (some 53))), (1, .inr (.inr (some 1))), (2, .inr (.inr (some 49))), (3, .inl l3)]) dX3_weigh_78 (Nat.le_of_ble_eq_true rfl) rfl ?_
    refine rn_sub [1, 4, 0] (L' := [(0, .inr (.inr (some 53))), (3, .inl l3), (4, .inl 0)]) rfl ?_
    exact V
  · replace V := V.2 c1
    refine rn_iload dX3_weigh_35 rfl ?_
    refine rn_aload_n dX3_weigh_37 rfl rfl ?_
    refine rn_get (v := .inr (.inr (some 55))) dX3_weigh_38 fl_X3_15 rfl rfl (congrArg (fun z => (Sum.inr (Sum.inr z) : MV)) (rf_53_2 hR)) ?_
    refine rn_alen (v := 16) dX3_weigh_41 rfl (by decide) (by decide) ?_
    refine rn_icmp_ge (tgt := 69) dX3_weigh_42 (by decide) (fun c4 => ?_) (fun c4 => ?_)
    · replace V := V.1 c4
      refine rn_aload_n dX3_weigh_69 rfl rfl ?_
      refine rn_iload_n dX3_weigh_70 rfl rfl ?_
      refine rn_cS (M' := mX3_factorial) (n := 1) (av := [.inl l3]) (S := [.inr (.inr (some 53))]) (rc := 0) (rs := 0) (mc := 0) (ms := 0) dX3_weigh_71 pa_X3_factorial (Nat.le_refl _) rfl (Nat.le_of_ble_eq_true rfl) ml_X3_42 ss_X3_factorial rfl (Ev.mono V ?_)
      rintro v sh1 h5 ⟨rfl, Rh5, x6, rfl, V⟩
      show Rn G (d + 1) 0 0 mX3_weigh 74 [(0, .inr (.inr (some 53))), (1, .inr (.inr (some 1))), (2, .inr (.inr (some 49))), (3, .inl l3), (4, .inl l4)] [.inl x6, .inr (.inr (some 53))] SH h5 (QV Q)
      refine rn_putI dX3_weigh_74 fl_X3_46 rfl rfl (Or.inl rfl) rfl rfl ?_
      refine rn_iconst (v := 0) dX3_weigh_77 (by decide) ?_
      refine rn_istore (L' := [(4, .inl 0), (0, .inr (.inr (some 53))), (1, .inr (.inr (some 1))), (2, .inr (.inr (some 49))), (3, .inl l3)]) dX3_weigh_78 (Nat.le_of_ble_eq_true rfl) rfl ?_
      refine rn_sub [1, 4, 0] (L' := [(0, .inr (.inr (some 53))), (3, .inl l3), (4, .inl 0)]) rfl ?_
      exact V
    · replace V := V.2 c4
      refine rn_aload_n dX3_weigh_45 rfl rfl ?_
      refine rn_aload_n dX3_weigh_46 rfl rfl ?_
      refine rn_iload dX3_weigh_47 rfl ?_
      refine rn_cV (M' := mX5_find) (n := 2) (av := [.inr (.inr (some 1)), .inl l4]) (S := []) (rc := 0) (rs := 0) (mc := 0) (ms := 0) (a := 49) (ci := 4) (r := (RX5, TX5, 9)) dX3_weigh_49 pa_X5_find (Nat.le_refl _) rfl (Nat.le_of_ble_eq_true rfl) ml_X3_33 im_X5_find se_X5_find rfl rfl rfl (Ev.mono V ?_)
      rintro v sh1 h7 ⟨rfl, Rh7, rfl, V⟩
      show Rn G (d + 1) 0 0 mX3_weigh 52 [(0, .inr (.inr (some 53))), (1, .inr (.inr (some 1))), (2, .inr (.inr (some 49))), (3, .inl l3), (4, .inl l4)] [] SH h7 (QV Q)
      refine rn_aload_n dX3_weigh_52 rfl rfl ?_
      refine rn_get (v := .inr (.inr (some 55))) dX3_weigh_53 fl_X3_15 rfl rfl (congrArg (fun z => (Sum.inr (Sum.inr z) : MV)) (rf_53_2 Rh7)) ?_
      refine rn_iload dX3_weigh_56 rfl ?_
      refine rn_aload_n dX3_weigh_58 rfl rfl ?_
      refine rn_get (v := .inl (h7.1 49 2)) dX3_weigh_59 fl_X3_39 rfl rfl rfl ?_
      obtain ⟨g0, V⟩ := V
      refine rn_iast (k := (Int32.toNatClampNeg l4)) dX3_weigh_62 rfl rfl g0 ?_
      refine rn_iinc (L' := [(4, .inl (l4 + 1)), (0, .inr (.inr (some 53))), (1, .inr (.inr (some 1))), (2, .inr (.inr (some 49))), (3, .inl l3)]) dX3_weigh_63 rfl (v := (l4 + 1)) rfl (Nat.le_of_ble_eq_true rfl) rfl ?_
      refine rn_goto (tgt := 26) dX3_weigh_66 (by decide) ?_
      refine rn_sub [1, 2, 3, 4, 0] (L' := [(0, .inr (.inr (some 53))), (1, .inr (.inr (some 1))), (2, .inr (.inr (some 49))), (3, .inl l3), (4, .inl (l4 + 1))]) rfl ?_
      exact V
set_option maxRecDepth 100000 in
set_option maxHeartbeats 4000000 in
theorem vc_X3_weigh_80 {G : GT} {d : Nat} {l3 : Int32} {l4 : Int32}  {h : Hp} {Q : Hp → Prop} (hR : RF h) (V : ((l3 ≤ l4 → Q h) ∧ (¬ l3 ≤ l4 → EvI G d mX3_gainOf [.inr (.inr (some 53)), .inl l4, .inl l3] h (fun x10 h9 => vp_in l4 4 ∧ Rg_X3_weigh_80 G d l3 (l4 + 1) (sI h9 54 (Int32.toNatClampNeg l4) x10) Q)))) : Rg_X3_weigh_80 G d l3 l4 h Q := by
  show Rn G (d + 1) 0 0 mX3_weigh 80 [(0, .inr (.inr (some 53))), (3, .inl l3), (4, .inl l4)] [] SH h (QV Q)
  refine rn_iload dX3_weigh_80 rfl ?_
  refine rn_iload_n dX3_weigh_82 rfl rfl ?_
  refine rn_icmp_ge (tgt := 106) dX3_weigh_83 (by decide) (fun c8 => ?_) (fun c8 => ?_)
  · replace V := V.1 c8
    exact rn_vret dX3_weigh_106 rfl ⟨rfl, hR, rfl, V⟩
  · replace V := V.2 c8
    refine rn_aload_n dX3_weigh_86 rfl rfl ?_
    refine rn_get (v := .inr (.inr (some 54))) dX3_weigh_87 fl_X3_9 rfl rfl (congrArg (fun z => (Sum.inr (Sum.inr z) : MV)) (rf_53_0 hR)) ?_
    refine rn_iload dX3_weigh_90 rfl ?_
    refine rn_aload_n dX3_weigh_92 rfl rfl ?_
    refine rn_iload dX3_weigh_93 rfl ?_
    refine rn_iload_n dX3_weigh_95 rfl rfl ?_
    refine rn_cV (M' := mX3_gainOf) (n := 2) (av := [.inl l4, .inl l3]) (S := [.inl l4, .inr (.inr (some 54))]) (rc := 0) (rs := 0) (mc := 0) (ms := 0) (a := 53) (ci := 3) (r := (RX3, TX3, 4)) dX3_weigh_96 pa_X3_gainOf (Nat.le_refl _) rfl (Nat.le_of_ble_eq_true rfl) ml_X3_49 im_X3_gainOf se_X3_gainOf rfl rfl rfl (Ev.mono V ?_)
    rintro v sh1 h9 ⟨rfl, Rh9, x10, rfl, V⟩
    show Rn G (d + 1) 0 0 mX3_weigh 99 [(0, .inr (.inr (some 53))), (3, .inl l3), (4, .inl l4)] [.inl x10, .inl l4, .inr (.inr (some 54))] SH h9 (QV Q)
    obtain ⟨g0, V⟩ := V
    refine rn_iast (k := (Int32.toNatClampNeg l4)) dX3_weigh_99 rfl rfl g0 ?_
    refine rn_iinc (L' := [(4, .inl (l4 + 1)), (0, .inr (.inr (some 53))), (3, .inl l3)]) dX3_weigh_100 rfl (v := (l4 + 1)) rfl (Nat.le_of_ble_eq_true rfl) rfl ?_
    refine rn_goto (tgt := 80) dX3_weigh_103 (by decide) ?_
    refine rn_sub [1, 2, 0] (L' := [(0, .inr (.inr (some 53))), (3, .inl l3), (4, .inl (l4 + 1))]) rfl ?_
    exact V
set_option maxRecDepth 100000 in
set_option maxHeartbeats 4000000 in
theorem vc_X3_weigh {G : GT} {d : Nat}   {h : Hp} {Q : Hp → Prop} (hR : RF h) (V : Rg_X3_weigh_26 G d (if 4 < h.1 1 0 then 4 else h.1 1 0) 1 (sI (sI h 53 3 (1 <<< ((if 4 < h.1 1 0 then 4 else h.1 1 0) &&& 31))) 55 0 0) Q) : EvV G (d + 1) mX3_weigh [.inr (.inr (some 53)), .inr (.inr (some 1)), .inr (.inr (some 49))] h Q := by
  refine Ev.of rfl (fun _ => Nat.le_of_ble_eq_true rfl) ?_
  show Rn G (d + 1) 0 0 mX3_weigh 0 [(0, .inr (.inr (some 53))), (1, .inr (.inr (some 1))), (2, .inr (.inr (some 49)))] [] SH h (QV Q)
  refine rn_aload_n dX3_weigh_0 rfl rfl ?_
  refine rn_get (v := .inl (h.1 1 0)) dX3_weigh_1 fl_X3_18 rfl rfl rfl ?_
  refine rn_iconst (v := 4) dX3_weigh_4 (by decide) ?_
  refine rn_mmin dX3_weigh_5 ml_X3_24 (Nat.le_of_ble_eq_true rfl) ?_
  refine rn_istore_n (L' := [(3, .inl (if 4 < h.1 1 0 then 4 else h.1 1 0)), (0, .inr (.inr (some 53))), (1, .inr (.inr (some 1))), (2, .inr (.inr (some 49)))]) dX3_weigh_8 rfl (Nat.le_of_ble_eq_true rfl) rfl ?_
  refine rn_aload_n dX3_weigh_9 rfl rfl ?_
  refine rn_iconst (v := 1) dX3_weigh_10 (by decide) ?_
  refine rn_iload_n dX3_weigh_11 rfl rfl ?_
  refine rn_ishl dX3_weigh_12 ?_
  refine rn_putI dX3_weigh_13 fl_X3_30 rfl rfl (Or.inl rfl) rfl rfl ?_
  refine rn_aload_n dX3_weigh_16 rfl rfl ?_
  refine rn_get (v := .inr (.inr (some 55))) dX3_weigh_17 fl_X3_15 rfl rfl (congrArg (fun z => (Sum.inr (Sum.inr z) : MV)) (rf_53_2 hR)) ?_
  refine rn_iconst (v := 0) dX3_weigh_20 (by decide) ?_
  refine rn_iconst (v := 0) dX3_weigh_21 (by decide) ?_
  refine rn_iast (k := 0) dX3_weigh_22 rfl (by decide) (by unfold vp_in; decide) ?_
  refine rn_iconst (v := 1) dX3_weigh_23 (by decide) ?_
  refine rn_istore (L' := [(4, .inl 1), (3, .inl (if 4 < h.1 1 0 then 4 else h.1 1 0)), (0, .inr (.inr (some 53))), (1, .inr (.inr (some 1))), (2, .inr (.inr (some 49)))]) dX3_weigh_24 (Nat.le_of_ble_eq_true rfl) rfl ?_
  refine rn_sub [2, 3, 4, 1, 0] (L' := [(0, .inr (.inr (some 53))), (1, .inr (.inr (some 1))), (2, .inr (.inr (some 49))), (3, .inl (if 4 < h.1 1 0 then 4 else h.1 1 0)), (4, .inl 1)]) rfl ?_
  exact V
def Rg_X3_gainOf_10 (G : GT) (d : Nat) (l2 : Int32) (l3 : Int32) (l4 : Int32) (l5 : Int32) (h : Hp) (Q : Int32 → Hp → Prop) : Prop := Rn G (d + 1) 0 0 mX3_gainOf 10 [(0, .inr (.inr (some 53))), (2, .inl l2), (3, .inl l3), (4, .inl l4), (5, .inl l5)] [] SH h (QI Q)
set_option maxRecDepth 100000 in
set_option maxHeartbeats 4000000 in
theorem vc_X3_gainOf_10 {G : GT} {d : Nat} {l2 : Int32} {l3 : Int32} {l4 : Int32} {l5 : Int32}  {h : Hp} {Q : Int32 → Hp → Prop} (hR : RF h) (V : ((h.1 53 3 ≤ l5 → Q l4 h) ∧ (¬ h.1 53 3 ≤ l5 → ((16 ≤ l5 → Q l4 h) ∧ (¬ 16 ≤ l5 → (((l5 &&& l3) = 0 → Rg_X3_gainOf_10 G d l2 l3 l4 (l5 + 1) h Q) ∧ (¬ (l5 &&& l3) = 0 → EvI G d mJ6_bitCount_0f7a4 [.inl l5] h (fun x5 h4 => EvI G d mX3_factorial [.inl (x5 - 1)] h4 (fun x7 h6 => EvI G d mX3_factorial [.inl ((l2 - 1) - (x5 - 1))] h6 (fun x9 h8 => vp_in l5 16 ∧ vp_in (l5 ^^^ l3) 16 ∧ Rg_X3_gainOf_10 G d l2 l3 (l4 + ((x7 * x9) * (h8.1 55 (Int32.toNatClampNeg l5) - h8.1 55 (Int32.toNatClampNeg (l5 ^^^ l3))))) (l5 + 1) h8 Q)))))))))) : Rg_X3_gainOf_10 G d l2 l3 l4 l5 h Q := by
  show Rn G (d + 1) 0 0 mX3_gainOf 10 [(0, .inr (.inr (some 53))), (2, .inl l2), (3, .inl l3), (4, .inl l4), (5, .inl l5)] [] SH h (QI Q)
  refine rn_iload dX3_gainOf_10 rfl ?_
  refine rn_aload_n dX3_gainOf_12 rfl rfl ?_
  refine rn_get (v := .inl (h.1 53 3)) dX3_gainOf_13 fl_X3_30 rfl rfl rfl ?_
  refine rn_icmp_ge (tgt := 93) dX3_gainOf_16 (by decide) (fun c1 => ?_) (fun c1 => ?_)
  · replace V := V.1 c1
    refine rn_iload dX3_gainOf_93 rfl ?_
    exact rn_iret dX3_gainOf_95 rfl ⟨rfl, hR, _, rfl, V⟩
  · replace V := V.2 c1
    refine rn_iload dX3_gainOf_19 rfl ?_
    refine rn_aload_n dX3_gainOf_21 rfl rfl ?_
    refine rn_get (v := .inr (.inr (some 55))) dX3_gainOf_22 fl_X3_15 rfl rfl (congrArg (fun z => (Sum.inr (Sum.inr z) : MV)) (rf_53_2 hR)) ?_
    refine rn_alen (v := 16) dX3_gainOf_25 rfl (by decide) (by decide) ?_
    refine rn_icmp_ge (tgt := 93) dX3_gainOf_26 (by decide) (fun c2 => ?_) (fun c2 => ?_)
    · replace V := V.1 c2
      refine rn_iload dX3_gainOf_93 rfl ?_
      exact rn_iret dX3_gainOf_95 rfl ⟨rfl, hR, _, rfl, V⟩
    · replace V := V.2 c2
      refine rn_iload dX3_gainOf_29 rfl ?_
      refine rn_iload_n dX3_gainOf_31 rfl rfl ?_
      refine rn_iand dX3_gainOf_32 ?_
      refine rn_if_eq (tgt := 87) dX3_gainOf_33 (by decide) (fun c3 => ?_) (fun c3 => ?_)
      · replace V := V.1 c3
        refine rn_iinc (L' := [(5, .inl (l5 + 1)), (0, .inr (.inr (some 53))), (2, .inl l2), (3, .inl l3), (4, .inl l4)]) dX3_gainOf_87 rfl (v := (l5 + 1)) rfl (Nat.le_of_ble_eq_true rfl) rfl ?_
        refine rn_goto (tgt := 10) dX3_gainOf_90 (by decide) ?_
        refine rn_sub [1, 2, 3, 4, 0] (L' := [(0, .inr (.inr (some 53))), (2, .inl l2), (3, .inl l3), (4, .inl l4), (5, .inl (l5 + 1))]) rfl ?_
        exact V
      · replace V := V.2 c3
        refine rn_iload dX3_gainOf_36 rfl ?_
        refine rn_cS (M' := mJ6_bitCount_0f7a4) (n := 1) (av := [.inl l5]) (S := []) (rc := 0) (rs := 0) (mc := 0) (ms := 0) dX3_gainOf_38 pa_J6_bitCount_0f7a4 (Nat.le_refl _) rfl (Nat.le_of_ble_eq_true rfl) ml_X3_52 ss_J6_bitCount_0f7a4 rfl (Ev.mono V ?_)
        rintro v sh1 h4 ⟨rfl, Rh4, x5, rfl, V⟩
        show Rn G (d + 1) 0 0 mX3_gainOf 41 [(0, .inr (.inr (some 53))), (2, .inl l2), (3, .inl l3), (4, .inl l4), (5, .inl l5)] [.inl x5] SH h4 (QI Q)
        refine rn_iconst (v := 1) dX3_gainOf_41 (by decide) ?_
        refine rn_isub dX3_gainOf_42 ?_
        refine rn_istore (L' := [(6, .inl (x5 - 1)), (0, .inr (.inr (some 53))), (2, .inl l2), (3, .inl l3), (4, .inl l4), (5, .inl l5)]) dX3_gainOf_43 (Nat.le_of_ble_eq_true rfl) rfl ?_
        refine rn_iload dX3_gainOf_45 rfl ?_
        refine rn_cS (M' := mX3_factorial) (n := 1) (av := [.inl (x5 - 1)]) (S := []) (rc := 0) (rs := 0) (mc := 0) (ms := 0) dX3_gainOf_47 pa_X3_factorial (Nat.le_refl _) rfl (Nat.le_of_ble_eq_true rfl) ml_X3_42 ss_X3_factorial rfl (Ev.mono V ?_)
        rintro v sh1 h6 ⟨rfl, Rh6, x7, rfl, V⟩
        show Rn G (d + 1) 0 0 mX3_gainOf 50 [(6, .inl (x5 - 1)), (0, .inr (.inr (some 53))), (2, .inl l2), (3, .inl l3), (4, .inl l4), (5, .inl l5)] [.inl x7] SH h6 (QI Q)
        refine rn_iload_n dX3_gainOf_50 rfl rfl ?_
        refine rn_iconst (v := 1) dX3_gainOf_51 (by decide) ?_
        refine rn_isub dX3_gainOf_52 ?_
        refine rn_iload dX3_gainOf_53 rfl ?_
        refine rn_isub dX3_gainOf_55 ?_
        refine rn_cS (M' := mX3_factorial) (n := 1) (av := [.inl ((l2 - 1) - (x5 - 1))]) (S := [.inl x7]) (rc := 0) (rs := 0) (mc := 0) (ms := 0) dX3_gainOf_56 pa_X3_factorial (Nat.le_refl _) rfl (Nat.le_of_ble_eq_true rfl) ml_X3_42 ss_X3_factorial rfl (Ev.mono V ?_)
        rintro v sh1 h8 ⟨rfl, Rh8, x9, rfl, V⟩
        show Rn G (d + 1) 0 0 mX3_gainOf 59 [(6, .inl (x5 - 1)), (0, .inr (.inr (some 53))), (2, .inl l2), (3, .inl l3), (4, .inl l4), (5, .inl l5)] [.inl x9, .inl x7] SH h8 (QI Q)
        refine rn_imul dX3_gainOf_59 ?_
        refine rn_istore (L' := [(7, .inl (x7 * x9)), (6, .inl (x5 - 1)), (0, .inr (.inr (some 53))), (2, .inl l2), (3, .inl l3), (4, .inl l4), (5, .inl l5)]) dX3_gainOf_60 (Nat.le_of_ble_eq_true rfl) rfl ?_
        refine rn_iload dX3_gainOf_62 rfl ?_
        refine rn_iload dX3_gainOf_64 rfl ?_
        refine rn_aload_n dX3_gainOf_66 rfl rfl ?_
        refine rn_get (v := .inr (.inr (some 55))) dX3_gainOf_67 fl_X3_15 rfl rfl (congrArg (fun z => (Sum.inr (Sum.inr z) : MV)) (rf_53_2 Rh8)) ?_
        refine rn_iload dX3_gainOf_70 rfl ?_
        obtain ⟨g0, V⟩ := V
        refine rn_iald (k := (Int32.toNatClampNeg l5)) dX3_gainOf_72 rfl rfl g0 ?_
        refine rn_aload_n dX3_gainOf_73 rfl rfl ?_
        refine rn_get (v := .inr (.inr (some 55))) dX3_gainOf_74 fl_X3_15 rfl rfl (congrArg (fun z => (Sum.inr (Sum.inr z) : MV)) (rf_53_2 Rh8)) ?_
        refine rn_iload dX3_gainOf_77 rfl ?_
        refine rn_iload_n dX3_gainOf_79 rfl rfl ?_
        refine rn_ixor dX3_gainOf_80 ?_
        obtain ⟨g0, V⟩ := V
        refine rn_iald (k := (Int32.toNatClampNeg (l5 ^^^ l3))) dX3_gainOf_81 rfl rfl g0 ?_
        refine rn_isub dX3_gainOf_82 ?_
        refine rn_imul dX3_gainOf_83 ?_
        refine rn_iadd dX3_gainOf_84 ?_
        refine rn_istore (L' := [(4, .inl (l4 + ((x7 * x9) * (h8.1 55 (Int32.toNatClampNeg l5) - h8.1 55 (Int32.toNatClampNeg (l5 ^^^ l3)))))), (7, .inl (x7 * x9)), (6, .inl (x5 - 1)), (0, .inr (.inr (some 53))), (2, .inl l2), (3, .inl l3), (5, .inl l5)]) dX3_gainOf_85 (Nat.le_of_ble_eq_true rfl) rfl ?_
        refine rn_iinc (L' := [(5, .inl (l5 + 1)), (4, .inl (l4 + ((x7 * x9) * (h8.1 55 (Int32.toNatClampNeg l5) - h8.1 55 (Int32.toNatClampNeg (l5 ^^^ l3)))))), (7, .inl (x7 * x9)), (6, .inl (x5 - 1)), (0, .inr (.inr (some 53))), (2, .inl l2), (3, .inl l3)]) dX3_gainOf_87 rfl (v := (l5 + 1)) rfl (Nat.le_of_ble_eq_true rfl) rfl ?_
        refine rn_goto (tgt := 10) dX3_gainOf_90 (by decide) ?_
        refine rn_sub [4, 5, 6, 1, 0] (L' := [(0, .inr (.inr (some 53))), (2, .inl l2), (3, .inl l3), (4, .inl (l4 + ((x7 * x9) * (h8.1 55 (Int32.toNatClampNeg l5) - h8.1 55 (Int32.toNatClampNeg (l5 ^^^ l3)))))), (5, .inl (l5 + 1))]) rfl ?_
        exact V
set_option maxRecDepth 100000 in
set_option maxHeartbeats 4000000 in
theorem vc_X3_gainOf {G : GT} {d : Nat} {a1 : Int32} {a2 : Int32}  {h : Hp} {Q : Int32 → Hp → Prop} (hR : RF h) (V : Rg_X3_gainOf_10 G d a2 (1 <<< (a1 &&& 31)) 0 0 h Q) : EvI G (d + 1) mX3_gainOf [.inr (.inr (some 53)), .inl a1, .inl a2] h Q := by
  refine Ev.of rfl (fun _ => Nat.le_of_ble_eq_true rfl) ?_
  show Rn G (d + 1) 0 0 mX3_gainOf 0 [(0, .inr (.inr (some 53))), (1, .inl a1), (2, .inl a2)] [] SH h (QI Q)
  refine rn_iconst (v := 1) dX3_gainOf_0 (by decide) ?_
  refine rn_iload_n dX3_gainOf_1 rfl rfl ?_
  refine rn_ishl dX3_gainOf_2 ?_
  refine rn_istore_n (L' := [(3, .inl (1 <<< (a1 &&& 31))), (0, .inr (.inr (some 53))), (1, .inl a1), (2, .inl a2)]) dX3_gainOf_3 rfl (Nat.le_of_ble_eq_true rfl) rfl ?_
  refine rn_iconst (v := 0) dX3_gainOf_4 (by decide) ?_
  refine rn_istore (L' := [(4, .inl 0), (3, .inl (1 <<< (a1 &&& 31))), (0, .inr (.inr (some 53))), (1, .inl a1), (2, .inl a2)]) dX3_gainOf_5 (Nat.le_of_ble_eq_true rfl) rfl ?_
  refine rn_iconst (v := 0) dX3_gainOf_7 (by decide) ?_
  refine rn_istore (L' := [(5, .inl 0), (4, .inl 0), (3, .inl (1 <<< (a1 &&& 31))), (0, .inr (.inr (some 53))), (1, .inl a1), (2, .inl a2)]) dX3_gainOf_8 (Nat.le_of_ble_eq_true rfl) rfl ?_
  refine rn_sub [3, 5, 2, 1, 0] (L' := [(0, .inr (.inr (some 53))), (2, .inl a2), (3, .inl (1 <<< (a1 &&& 31))), (4, .inl 0), (5, .inl 0)]) rfl ?_
  exact V
def Rg_X3_leastLeaving_2 (G : GT) (d : Nat) (l1 : Int32) (h : Hp) (Q : Int32 → Hp → Prop) : Prop := Rn G (d + 1) 0 0 mX3_leastLeaving 2 [(0, .inr (.inr (some 53))), (1, .inl l1)] [] SH h (QI Q)
def Rg_X3_leastLeaving_23 (G : GT) (d : Nat) (l1 : Int32) (l2 : Int32) (l3 : Int32) (h : Hp) (Q : Int32 → Hp → Prop) : Prop := Rn G (d + 1) 0 0 mX3_leastLeaving 23 [(0, .inr (.inr (some 53))), (1, .inl l1), (2, .inl l2), (3, .inl l3)] [] SH h (QI Q)
set_option maxRecDepth 100000 in
set_option maxHeartbeats 4000000 in
theorem vc_X3_leastLeaving_2 {G : GT} {d : Nat} {l1 : Int32}  {h : Hp} {Q : Int32 → Hp → Prop} (hR : RF h) (V : ((h.1 53 3 ≤ l1 → Q 0 h) ∧ (¬ h.1 53 3 ≤ l1 → ((16 ≤ l1 → Q 0 h) ∧ (¬ 16 ≤ l1 → Rg_X3_leastLeaving_23 G d l1 0 0 h Q))))) : Rg_X3_leastLeaving_2 G d l1 h Q := by
  show Rn G (d + 1) 0 0 mX3_leastLeaving 2 [(0, .inr (.inr (some 53))), (1, .inl l1)] [] SH h (QI Q)
  refine rn_iload_n dX3_leastLeaving_2 rfl rfl ?_
  refine rn_aload_n dX3_leastLeaving_3 rfl rfl ?_
  refine rn_get (v := .inl (h.1 53 3)) dX3_leastLeaving_4 fl_X3_30 rfl rfl rfl ?_
  refine rn_icmp_ge (tgt := 72) dX3_leastLeaving_7 (by decide) (fun c1 => ?_) (fun c1 => ?_)
  · replace V := V.1 c1
    refine rn_iconst (v := 0) dX3_leastLeaving_72 (by decide) ?_
    exact rn_iret dX3_leastLeaving_73 rfl ⟨rfl, hR, _, rfl, V⟩
  · replace V := V.2 c1
    refine rn_iload_n dX3_leastLeaving_10 rfl rfl ?_
    refine rn_aload_n dX3_leastLeaving_11 rfl rfl ?_
    refine rn_get (v := .inr (.inr (some 55))) dX3_leastLeaving_12 fl_X3_15 rfl rfl (congrArg (fun z => (Sum.inr (Sum.inr z) : MV)) (rf_53_2 hR)) ?_
    refine rn_alen (v := 16) dX3_leastLeaving_15 rfl (by decide) (by decide) ?_
    refine rn_icmp_ge (tgt := 72) dX3_leastLeaving_16 (by decide) (fun c2 => ?_) (fun c2 => ?_)
    · replace V := V.1 c2
      refine rn_iconst (v := 0) dX3_leastLeaving_72 (by decide) ?_
      exact rn_iret dX3_leastLeaving_73 rfl ⟨rfl, hR, _, rfl, V⟩
    · replace V := V.2 c2
      refine rn_iconst (v := 0) dX3_leastLeaving_19 (by decide) ?_
      refine rn_istore_n (L' := [(2, .inl 0), (0, .inr (.inr (some 53))), (1, .inl l1)]) dX3_leastLeaving_20 rfl (Nat.le_of_ble_eq_true rfl) rfl ?_
      refine rn_iconst (v := 0) dX3_leastLeaving_21 (by decide) ?_
      refine rn_istore_n (L' := [(3, .inl 0), (2, .inl 0), (0, .inr (.inr (some 53))), (1, .inl l1)]) dX3_leastLeaving_22 rfl (Nat.le_of_ble_eq_true rfl) rfl ?_
      refine rn_sub [2, 3, 1, 0] (L' := [(0, .inr (.inr (some 53))), (1, .inl l1), (2, .inl 0), (3, .inl 0)]) rfl ?_
      exact V
set_option maxRecDepth 100000 in
set_option maxHeartbeats 4000000 in
theorem vc_X3_leastLeaving_23 {G : GT} {d : Nat} {l1 : Int32} {l2 : Int32} {l3 : Int32}  {h : Hp} {Q : Int32 → Hp → Prop} (hR : RF h) (V : ((4 ≤ l3 → vp_in l1 16 ∧ (((h.1 55 (Int32.toNatClampNeg l1) * h.1 53 1) ≤ l2 → Rg_X3_leastLeaving_2 G d (l1 + 1) h Q) ∧ (¬ (h.1 55 (Int32.toNatClampNeg l1) * h.1 53 1) ≤ l2 → Q l1 h))) ∧ (¬ 4 ≤ l3 → vp_in l3 4 ∧ Rg_X3_leastLeaving_23 G d l1 (l2 + (((l1 >>> (l3 &&& 31)) &&& 1) * h.1 54 (Int32.toNatClampNeg l3))) (l3 + 1) h Q))) : Rg_X3_leastLeaving_23 G d l1 l2 l3 h Q := by
  show Rn G (d + 1) 0 0 mX3_leastLeaving 23 [(0, .inr (.inr (some 53))), (1, .inl l1), (2, .inl l2), (3, .inl l3)] [] SH h (QI Q)
  refine rn_iload_n dX3_leastLeaving_23 rfl rfl ?_
  refine rn_iconst (v := 4) dX3_leastLeaving_24 (by decide) ?_
  refine rn_icmp_ge (tgt := 49) dX3_leastLeaving_25 (by decide) (fun c3 => ?_) (fun c3 => ?_)
  · replace V := V.1 c3
    refine rn_aload_n dX3_leastLeaving_49 rfl rfl ?_
    refine rn_get (v := .inr (.inr (some 55))) dX3_leastLeaving_50 fl_X3_15 rfl rfl (congrArg (fun z => (Sum.inr (Sum.inr z) : MV)) (rf_53_2 hR)) ?_
    refine rn_iload_n dX3_leastLeaving_53 rfl rfl ?_
    obtain ⟨g0, V⟩ := V
    refine rn_iald (k := (Int32.toNatClampNeg l1)) dX3_leastLeaving_54 rfl rfl g0 ?_
    refine rn_aload_n dX3_leastLeaving_55 rfl rfl ?_
    refine rn_get (v := .inl (h.1 53 1)) dX3_leastLeaving_56 fl_X3_46 rfl rfl rfl ?_
    refine rn_imul dX3_leastLeaving_59 ?_
    refine rn_iload_n dX3_leastLeaving_60 rfl rfl ?_
    refine rn_icmp_le (tgt := 66) dX3_leastLeaving_61 (by decide) (fun c4 => ?_) (fun c4 => ?_)
    · replace V := V.1 c4
      refine rn_iinc (L' := [(1, .inl (l1 + 1)), (0, .inr (.inr (some 53))), (2, .inl l2), (3, .inl l3)]) dX3_leastLeaving_66 rfl (v := (l1 + 1)) rfl (Nat.le_of_ble_eq_true rfl) rfl ?_
      refine rn_goto (tgt := 2) dX3_leastLeaving_69 (by decide) ?_
      refine rn_sub [1, 0] (L' := [(0, .inr (.inr (some 53))), (1, .inl (l1 + 1))]) rfl ?_
      exact V
    · replace V := V.2 c4
      refine rn_iload_n dX3_leastLeaving_64 rfl rfl ?_
      exact rn_iret dX3_leastLeaving_65 rfl ⟨rfl, hR, _, rfl, V⟩
  · replace V := V.2 c3
    refine rn_iload_n dX3_leastLeaving_28 rfl rfl ?_
    refine rn_iload_n dX3_leastLeaving_29 rfl rfl ?_
    refine rn_iload_n dX3_leastLeaving_30 rfl rfl ?_
    refine rn_ishr dX3_leastLeaving_31 ?_
    refine rn_iconst (v := 1) dX3_leastLeaving_32 (by decide) ?_
    refine rn_iand dX3_leastLeaving_33 ?_
    refine rn_aload_n dX3_leastLeaving_34 rfl rfl ?_
    refine rn_get (v := .inr (.inr (some 54))) dX3_leastLeaving_35 fl_X3_9 rfl rfl (congrArg (fun z => (Sum.inr (Sum.inr z) : MV)) (rf_53_0 hR)) ?_
    refine rn_iload_n dX3_leastLeaving_38 rfl rfl ?_
    obtain ⟨g0, V⟩ := V
    refine rn_iald (k := (Int32.toNatClampNeg l3)) dX3_leastLeaving_39 rfl rfl g0 ?_
    refine rn_imul dX3_leastLeaving_40 ?_
    refine rn_iadd dX3_leastLeaving_41 ?_
    refine rn_istore_n (L' := [(2, .inl (l2 + (((l1 >>> (l3 &&& 31)) &&& 1) * h.1 54 (Int32.toNatClampNeg l3)))), (0, .inr (.inr (some 53))), (1, .inl l1), (3, .inl l3)]) dX3_leastLeaving_42 rfl (Nat.le_of_ble_eq_true rfl) rfl ?_
    refine rn_iinc (L' := [(3, .inl (l3 + 1)), (2, .inl (l2 + (((l1 >>> (l3 &&& 31)) &&& 1) * h.1 54 (Int32.toNatClampNeg l3)))), (0, .inr (.inr (some 53))), (1, .inl l1)]) dX3_leastLeaving_43 rfl (v := (l3 + 1)) rfl (Nat.le_of_ble_eq_true rfl) rfl ?_
    refine rn_goto (tgt := 23) dX3_leastLeaving_46 (by decide) ?_
    refine rn_sub [2, 3, 1, 0] (L' := [(0, .inr (.inr (some 53))), (1, .inl l1), (2, .inl (l2 + (((l1 >>> (l3 &&& 31)) &&& 1) * h.1 54 (Int32.toNatClampNeg l3)))), (3, .inl (l3 + 1))]) rfl ?_
    exact V
set_option maxRecDepth 100000 in
set_option maxHeartbeats 4000000 in
theorem vc_X3_leastLeaving {G : GT} {d : Nat}   {h : Hp} {Q : Int32 → Hp → Prop} (hR : RF h) (V : Rg_X3_leastLeaving_2 G d 1 h Q) : EvI G (d + 1) mX3_leastLeaving [.inr (.inr (some 53))] h Q := by
  refine Ev.of rfl (fun _ => Nat.le_of_ble_eq_true rfl) ?_
  show Rn G (d + 1) 0 0 mX3_leastLeaving 0 [(0, .inr (.inr (some 53)))] [] SH h (QI Q)
  refine rn_iconst (v := 1) dX3_leastLeaving_0 (by decide) ?_
  refine rn_istore_n (L' := [(1, .inl 1), (0, .inr (.inr (some 53)))]) dX3_leastLeaving_1 rfl (Nat.le_of_ble_eq_true rfl) rfl ?_
  refine rn_sub [1, 0] (L' := [(0, .inr (.inr (some 53))), (1, .inl 1)]) rfl ?_
  exact V
def Rg_X3_factorial_4 (G : GT) (d : Nat) (l0 : Int32) (l1 : Int32) (l2 : Int32) (h : Hp) (Q : Int32 → Hp → Prop) : Prop := Rn G (d + 1) 0 0 mX3_factorial 4 [(0, .inl l0), (1, .inl l1), (2, .inl l2)] [] SH h (QI Q)
set_option maxRecDepth 100000 in
set_option maxHeartbeats 4000000 in
theorem vc_X3_factorial_4 {G : GT} {d : Nat} {l0 : Int32} {l1 : Int32} {l2 : Int32}  {h : Hp} {Q : Int32 → Hp → Prop} (hR : RF h) (V : ((l0 < l2 → Q l1 h) ∧ (¬ l0 < l2 → Rg_X3_factorial_4 G d l0 (l1 * l2) (l2 + 1) h Q))) : Rg_X3_factorial_4 G d l0 l1 l2 h Q := by
  show Rn G (d + 1) 0 0 mX3_factorial 4 [(0, .inl l0), (1, .inl l1), (2, .inl l2)] [] SH h (QI Q)
  refine rn_iload_n dX3_factorial_4 rfl rfl ?_
  refine rn_iload_n dX3_factorial_5 rfl rfl ?_
  refine rn_icmp_gt (tgt := 19) dX3_factorial_6 (by decide) (fun c1 => ?_) (fun c1 => ?_)
  · replace V := V.1 c1
    refine rn_iload_n dX3_factorial_19 rfl rfl ?_
    exact rn_iret dX3_factorial_20 rfl ⟨rfl, hR, _, rfl, V⟩
  · replace V := V.2 c1
    refine rn_iload_n dX3_factorial_9 rfl rfl ?_
    refine rn_iload_n dX3_factorial_10 rfl rfl ?_
    refine rn_imul dX3_factorial_11 ?_
    refine rn_istore_n (L' := [(1, .inl (l1 * l2)), (0, .inl l0), (2, .inl l2)]) dX3_factorial_12 rfl (Nat.le_of_ble_eq_true rfl) rfl ?_
    refine rn_iinc (L' := [(2, .inl (l2 + 1)), (1, .inl (l1 * l2)), (0, .inl l0)]) dX3_factorial_13 rfl (v := (l2 + 1)) rfl (Nat.le_of_ble_eq_true rfl) rfl ?_
    refine rn_goto (tgt := 4) dX3_factorial_16 (by decide) ?_
    refine rn_sub [2, 1, 0] (L' := [(0, .inl l0), (1, .inl (l1 * l2)), (2, .inl (l2 + 1))]) rfl ?_
    exact V
set_option maxRecDepth 100000 in
set_option maxHeartbeats 4000000 in
theorem vc_X3_factorial {G : GT} {d : Nat} {a0 : Int32}  {h : Hp} {Q : Int32 → Hp → Prop} (hR : RF h) (V : Rg_X3_factorial_4 G d a0 1 2 h Q) : EvI G (d + 1) mX3_factorial [.inl a0] h Q := by
  refine Ev.of rfl (fun _ => Nat.le_of_ble_eq_true rfl) ?_
  show Rn G (d + 1) 0 0 mX3_factorial 0 [(0, .inl a0)] [] SH h (QI Q)
  refine rn_iconst (v := 1) dX3_factorial_0 (by decide) ?_
  refine rn_istore_n (L' := [(1, .inl 1), (0, .inl a0)]) dX3_factorial_1 rfl (Nat.le_of_ble_eq_true rfl) rfl ?_
  refine rn_iconst (v := 2) dX3_factorial_2 (by decide) ?_
  refine rn_istore_n (L' := [(2, .inl 2), (1, .inl 1), (0, .inl a0)]) dX3_factorial_3 rfl (Nat.le_of_ble_eq_true rfl) rfl ?_
  refine rn_sub [2, 1, 0] (L' := [(0, .inl a0), (1, .inl 1), (2, .inl 2)]) rfl ?_
  exact V
set_option maxRecDepth 100000 in
set_option maxHeartbeats 4000000 in
theorem vc_X1_play {G : GT} {d : Nat} {a2 : Int32} {a3 : Int32} {a4 : Int32}  {h : Hp} {Q : Int32 → Hp → Prop} (hR : RF h) (V : EvI G d mX11_held [.inl a4, .inl 0, .inl 4] (sI (sI h 56 2 a2) 56 3 a3) (fun x2 h1 => EvV G d mX2_copy [.inr (.inr (some 58)), .inr (.inr (some 9))] (sI h1 56 4 x2) (fun h3 => EvI G d mX1_turn [.inr (.inr (some 56)), .inr (.inr (some 1)), .inl 0] (sI (sI (sI h3 58 5 0) 58 6 (-1)) 58 7 0) (fun x5 h4 => Q x5 h4)))) : EvI G (d + 1) mX1_play [.inr (.inr (some 56)), .inr (.inr (some 1)), .inl a2, .inl a3, .inl a4] h Q := by
  refine Ev.of rfl (fun _ => Nat.le_of_ble_eq_true rfl) ?_
  show Rn G (d + 1) 0 0 mX1_play 0 [(0, .inr (.inr (some 56))), (1, .inr (.inr (some 1))), (2, .inl a2), (3, .inl a3), (4, .inl a4)] [] SH h (QI Q)
  refine rn_aload_n dX1_play_0 rfl rfl ?_
  refine rn_iload_n dX1_play_1 rfl rfl ?_
  refine rn_putI dX1_play_2 fl_X1_18 rfl rfl (Or.inl rfl) rfl rfl ?_
  refine rn_aload_n dX1_play_5 rfl rfl ?_
  refine rn_iload_n dX1_play_6 rfl rfl ?_
  refine rn_putI dX1_play_7 fl_X1_22 rfl rfl (Or.inl rfl) rfl rfl ?_
  refine rn_aload_n dX1_play_10 rfl rfl ?_
  refine rn_iload dX1_play_11 rfl ?_
  refine rn_iconst (v := 0) dX1_play_13 (by decide) ?_
  refine rn_iconst (v := 4) dX1_play_14 (by decide) ?_
  refine rn_cSN (M' := mX11_held) (n := 3) (av := [.inl a4, .inl 0, .inl 4]) (S := [.inr (.inr (some 56))]) (rc := 0) (rs := 0) (mc := 0) (ms := 0) dX1_play_15 pa_X11_held (Nat.le_refl _) rfl (Nat.le_of_ble_eq_true rfl) ml_X1_25 ss_X11_held rfl (Ev.mono V ?_)
  rintro v sh1 h1 ⟨rfl, Rh1, x2, rfl, V⟩
  show Rn G (d + 1) 0 0 mX1_play 18 [(0, .inr (.inr (some 56))), (1, .inr (.inr (some 1))), (2, .inl a2), (3, .inl a3), (4, .inl a4)] [.inl x2, .inr (.inr (some 56))] SH h1 (QI Q)
  refine rn_putI dX1_play_18 fl_X1_29 rfl rfl (Or.inl rfl) rfl rfl ?_
  refine rn_aload_n dX1_play_21 rfl rfl ?_
  refine rn_get (v := .inr (.inr (some 57))) dX1_play_22 fl_X1_11 rfl rfl (congrArg (fun z => (Sum.inr (Sum.inr z) : MV)) (rf_56_1 Rh1)) ?_
  refine rn_iconst (v := 0) dX1_play_25 (by decide) ?_
  refine rn_aald2 (k := 0) dX1_play_26 rfl (by decide) (by unfold vp_in; decide) (rf_57_0 Rh1) ?_
  refine rn_astore (L' := [(5, .inr (.inr (some 58))), (0, .inr (.inr (some 56))), (1, .inr (.inr (some 1))), (2, .inl a2), (3, .inl a3), (4, .inl a4)]) dX1_play_27 (Nat.le_of_ble_eq_true rfl) rfl ?_
  refine rn_aload dX1_play_29 rfl ?_
  refine rn_aload_n dX1_play_31 rfl rfl ?_
  refine rn_get (v := .inr (.inr (some 9))) dX1_play_32 fl_X1_32 rfl rfl (congrArg (fun z => (Sum.inr (Sum.inr z) : MV)) (rf_1_9 Rh1)) ?_
  refine rn_cV (M' := mX2_copy) (n := 1) (av := [.inr (.inr (some 9))]) (S := []) (rc := 0) (rs := 0) (mc := 0) (ms := 0) (a := 58) (ci := 2) (r := (RX2, TX2, 8)) dX1_play_35 pa_X2_copy (Nat.le_refl _) rfl (Nat.le_of_ble_eq_true rfl) ml_X1_38 im_X2_copy se_X2_copy rfl rfl rfl (Ev.mono V ?_)
  rintro v sh1 h3 ⟨rfl, Rh3, rfl, V⟩
  show Rn G (d + 1) 0 0 mX1_play 38 [(5, .inr (.inr (some 58))), (0, .inr (.inr (some 56))), (1, .inr (.inr (some 1))), (2, .inl a2), (3, .inl a3), (4, .inl a4)] [] SH h3 (QI Q)
  refine rn_aload dX1_play_38 rfl ?_
  refine rn_iconst (v := 0) dX1_play_40 (by decide) ?_
  refine rn_putI dX1_play_41 fl_X1_42 rfl rfl (Or.inl rfl) rfl rfl ?_
  refine rn_aload dX1_play_44 rfl ?_
  refine rn_iconst (v := (-1)) dX1_play_46 (by decide) ?_
  refine rn_putI dX1_play_47 fl_X1_45 rfl rfl (Or.inl rfl) rfl rfl ?_
  refine rn_aload dX1_play_50 rfl ?_
  refine rn_iconst (v := 0) dX1_play_52 (by decide) ?_
  refine rn_putI dX1_play_53 fl_X1_48 rfl rfl (Or.inl rfl) rfl rfl ?_
  refine rn_aload_n dX1_play_56 rfl rfl ?_
  refine rn_aload_n dX1_play_57 rfl rfl ?_
  refine rn_iconst (v := 0) dX1_play_58 (by decide) ?_
  refine rn_cV (M' := mX1_turn) (n := 2) (av := [.inr (.inr (some 1)), .inl 0]) (S := []) (rc := 0) (rs := 0) (mc := 0) (ms := 0) (a := 56) (ci := 1) (r := (RX1, TX1, 5)) dX1_play_59 pa_X1_turn (Nat.le_refl _) rfl (Nat.le_of_ble_eq_true rfl) ml_X1_51 im_X1_turn se_X1_turn rfl rfl rfl (Ev.mono V ?_)
  rintro v sh1 h4 ⟨rfl, Rh4, x5, rfl, V⟩
  show Rn G (d + 1) 0 0 mX1_play 62 [(5, .inr (.inr (some 58))), (0, .inr (.inr (some 56))), (1, .inr (.inr (some 1))), (2, .inl a2), (3, .inl a3), (4, .inl a4)] [.inl x5] SH h4 (QI Q)
  exact rn_iret dX1_play_62 rfl ⟨rfl, Rh4, _, rfl, V⟩
def Rg_X1_turn_58 (G : GT) (d : Nat) (l2 : Int32) (l3 : Nat) (l4 : Int32) (l5 : Int32) (l6 : Int32) (l7 : Int32) (l8 : Int32) (h : Hp) (Q : Int32 → Hp → Prop) : Prop := Rn G (d + 1) 0 0 mX1_turn 58 [(0, .inr (.inr (some 56))), (1, .inr (.inr (some 1))), (2, .inl l2), (3, .inr (.inr (some l3))), (4, .inl l4), (5, .inl l5), (6, .inl l6), (7, .inl l7), (8, .inl l8)] [] SH h (QI Q)
set_option maxRecDepth 100000 in
set_option maxHeartbeats 4000000 in
theorem vc_X1_turn_58 {G : GT} {d : Nat} {l2 : Int32} {l3 : Nat} {l4 : Int32} {l5 : Int32} {l6 : Int32} {l7 : Int32} {l8 : Int32} (hl3 : SH[l3]? = some (.inl 2)) {h : Hp} {Q : Int32 → Hp → Prop} (hR : RF h) (V : ((h.1 1 4 ≤ l8 → EvI G d mX1_valueOf [.inr (.inr (some 56)), .inr (.inr (some 1)), .inl 12, .inl l2] h (fun x10 h9 => ((l5 = (-1) → ((¬ l2 = 0 → Q x10 (sI h9 56 0 (h9.1 56 0))) ∧ (l2 = 0 → Q x10 (sI h9 56 0 12)))) ∧ (¬ l5 = (-1) → EvI G d mX1_isBetter [.inl x10, .inl l6, .inl l2] h9 (fun x14 h13 => ((x14 = 0 → ((¬ l2 = 0 → Q l6 (sI h13 56 0 (h13.1 56 0))) ∧ (l2 = 0 → Q l6 (sI h13 56 0 l5)))) ∧ (¬ x14 = 0 → ((¬ l2 = 0 → Q x10 (sI h13 56 0 (h13.1 56 0))) ∧ (l2 = 0 → Q x10 (sI h13 56 0 12)))))))))) ∧ (¬ h.1 1 4 ≤ l8 → ((12 ≤ l8 → EvI G d mX1_valueOf [.inr (.inr (some 56)), .inr (.inr (some 1)), .inl 12, .inl l2] h (fun x20 h19 => ((l5 = (-1) → ((¬ l2 = 0 → Q x20 (sI h19 56 0 (h19.1 56 0))) ∧ (l2 = 0 → Q x20 (sI h19 56 0 12)))) ∧ (¬ l5 = (-1) → EvI G d mX1_isBetter [.inl x20, .inl l6, .inl l2] h19 (fun x24 h23 => ((x24 = 0 → ((¬ l2 = 0 → Q l6 (sI h23 56 0 (h23.1 56 0))) ∧ (l2 = 0 → Q l6 (sI h23 56 0 l5)))) ∧ (¬ x24 = 0 → ((¬ l2 = 0 → Q x20 (sI h23 56 0 (h23.1 56 0))) ∧ (l2 = 0 → Q x20 (sI h23 56 0 12)))))))))) ∧ (¬ 12 ≤ l8 → ((4 ≤ l7 → EvI G d mX1_valueOf [.inr (.inr (some 56)), .inr (.inr (some 1)), .inl 12, .inl l2] h (fun x30 h29 => ((l5 = (-1) → ((¬ l2 = 0 → Q x30 (sI h29 56 0 (h29.1 56 0))) ∧ (l2 = 0 → Q x30 (sI h29 56 0 12)))) ∧ (¬ l5 = (-1) → EvI G d mX1_isBetter [.inl x30, .inl l6, .inl l2] h29 (fun x34 h33 => ((x34 = 0 → ((¬ l2 = 0 → Q l6 (sI h33 56 0 (h33.1 56 0))) ∧ (l2 = 0 → Q l6 (sI h33 56 0 l5)))) ∧ (¬ x34 = 0 → ((¬ l2 = 0 → Q x30 (sI h33 56 0 (h33.1 56 0))) ∧ (l2 = 0 → Q x30 (sI h33 56 0 12)))))))))) ∧ (¬ 4 ≤ l7 → vp_in l8 12 ∧ ((¬ h.1 5 (Int32.toNatClampNeg l8) = l4 → Rg_X1_turn_58 G d l2 l3 l4 l5 l6 l7 (l8 + 1) h Q) ∧ (h.1 5 (Int32.toNatClampNeg l8) = l4 → vp_in l8 12 ∧ ((h.1 (l3 + 3) (Int32.toNatClampNeg l8) = 0 → EvI G d mX9_isFree [.inr (.inr (some 1)), .inr (.inr (some l3)), .inl l8] h (fun x41 h40 => ((x41 = 0 → Rg_X1_turn_58 G d l2 l3 l4 l5 l6 (l7 + 1) (l8 + 1) h40 Q) ∧ (¬ x41 = 0 → EvI G d mX1_valueOf [.inr (.inr (some 56)), .inr (.inr (some 1)), .inl l8, .inl l2] h40 (fun x44 h43 => ((l5 = (-1) → Rg_X1_turn_58 G d l2 l3 l4 l8 x44 (l7 + 1) (l8 + 1) h43 Q) ∧ (¬ l5 = (-1) → EvI G d mX1_isBetter [.inl x44, .inl l6, .inl l2] h43 (fun x47 h46 => ((x47 = 0 → Rg_X1_turn_58 G d l2 l3 l4 l5 l6 (l7 + 1) (l8 + 1) h46 Q) ∧ (¬ x47 = 0 → Rg_X1_turn_58 G d l2 l3 l4 l8 x44 (l7 + 1) (l8 + 1) h46 Q)))))))))) ∧ (¬ h.1 (l3 + 3) (Int32.toNatClampNeg l8) = 0 → Rg_X1_turn_58 G d l2 l3 l4 l5 l6 l7 (l8 + 1) h Q))))))))))) : Rg_X1_turn_58 G d l2 l3 l4 l5 l6 l7 l8 h Q := by
  show Rn G (d + 1) 0 0 mX1_turn 58 [(0, .inr (.inr (some 56))), (1, .inr (.inr (some 1))), (2, .inl l2), (3, .inr (.inr (some l3))), (4, .inl l4), (5, .inl l5), (6, .inl l6), (7, .inl l7), (8, .inl l8)] [] SH h (QI Q)
  refine rn_iload dX1_turn_58 rfl ?_
  refine rn_aload_n dX1_turn_60 rfl rfl ?_
  refine rn_get (v := .inl (h.1 1 4)) dX1_turn_61 fl_X1_59 rfl rfl rfl ?_
  refine rn_icmp_ge (tgt := 159) dX1_turn_64 (by decide) (fun c8 => ?_) (fun c8 => ?_)
  · replace V := V.1 c8
    refine rn_aload_n dX1_turn_159 rfl rfl ?_
    refine rn_aload_n dX1_turn_160 rfl rfl ?_
    refine rn_bipush (v := 12) dX1_turn_161 (by decide) ?_
    refine rn_iload_n dX1_turn_163 rfl rfl ?_
    refine rn_cV (M' := mX1_valueOf) (n := 3) (av := [.inr (.inr (some 1)), .inl 12, .inl l2]) (S := []) (rc := 0) (rs := 0) (mc := 0) (ms := 0) (a := 56) (ci := 1) (r := (RX1, TX1, 5)) dX1_turn_164 pa_X1_valueOf (Nat.le_refl _) rfl (Nat.le_of_ble_eq_true rfl) ml_X1_73 im_X1_valueOf se_X1_valueOf rfl rfl rfl (Ev.mono V ?_)
    rintro v sh1 h9 ⟨rfl, Rh9, x10, rfl, V⟩
    show Rn G (d + 1) 0 0 mX1_turn 167 [(0, .inr (.inr (some 56))), (1, .inr (.inr (some 1))), (2, .inl l2), (3, .inr (.inr (some l3))), (4, .inl l4), (5, .inl l5), (6, .inl l6), (7, .inl l7), (8, .inl l8)] [.inl x10] SH h9 (QI Q)
    refine rn_istore (L' := [(8, .inl x10), (0, .inr (.inr (some 56))), (1, .inr (.inr (some 1))), (2, .inl l2), (3, .inr (.inr (some l3))), (4, .inl l4), (5, .inl l5), (6, .inl l6), (7, .inl l7)]) dX1_turn_167 (Nat.le_of_ble_eq_true rfl) rfl ?_
    refine rn_iload dX1_turn_169 rfl ?_
    refine rn_iconst (v := (-1)) dX1_turn_171 (by decide) ?_
    refine rn_icmp_eq (tgt := 186) dX1_turn_172 (by decide) (fun c11 => ?_) (fun c11 => ?_)
    · replace V := V.1 c11
      refine rn_bipush (v := 12) dX1_turn_186 (by decide) ?_
      refine rn_istore (L' := [(5, .inl 12), (8, .inl x10), (0, .inr (.inr (some 56))), (1, .inr (.inr (some 1))), (2, .inl l2), (3, .inr (.inr (some l3))), (4, .inl l4), (6, .inl l6), (7, .inl l7)]) dX1_turn_188 (Nat.le_of_ble_eq_true rfl) rfl ?_
      refine rn_iload dX1_turn_190 rfl ?_
      refine rn_istore (L' := [(6, .inl x10), (5, .inl 12), (8, .inl x10), (0, .inr (.inr (some 56))), (1, .inr (.inr (some 1))), (2, .inl l2), (3, .inr (.inr (some l3))), (4, .inl l4), (7, .inl l7)]) dX1_turn_192 (Nat.le_of_ble_eq_true rfl) rfl ?_
      refine rn_aload_n dX1_turn_194 rfl rfl ?_
      refine rn_iload_n dX1_turn_195 rfl rfl ?_
      refine rn_if_ne (tgt := 204) dX1_turn_196 (by decide) (fun c12 => ?_) (fun c12 => ?_)
      · replace V := V.1 c12
        refine rn_aload_n dX1_turn_204 rfl rfl ?_
        refine rn_get (v := .inl (h9.1 56 0)) dX1_turn_205 fl_X1_81 rfl rfl rfl ?_
        refine rn_putI dX1_turn_208 fl_X1_81 rfl rfl (Or.inl rfl) rfl rfl ?_
        refine rn_iload dX1_turn_211 rfl ?_
        exact rn_iret dX1_turn_213 rfl ⟨rfl, Rh9, _, rfl, V⟩
      · replace V := V.2 c12
        refine rn_iload dX1_turn_199 rfl ?_
        refine rn_goto (tgt := 208) dX1_turn_201 (by decide) ?_
        refine rn_putI dX1_turn_208 fl_X1_81 rfl rfl (Or.inl rfl) rfl rfl ?_
        refine rn_iload dX1_turn_211 rfl ?_
        exact rn_iret dX1_turn_213 rfl ⟨rfl, Rh9, _, rfl, V⟩
    · replace V := V.2 c11
      refine rn_iload dX1_turn_175 rfl ?_
      refine rn_iload dX1_turn_177 rfl ?_
      refine rn_iload_n dX1_turn_179 rfl rfl ?_
      refine rn_cS (M' := mX1_isBetter) (n := 3) (av := [.inl x10, .inl l6, .inl l2]) (S := []) (rc := 0) (rs := 0) (mc := 0) (ms := 0) dX1_turn_180 pa_X1_isBetter (Nat.le_refl _) rfl (Nat.le_of_ble_eq_true rfl) ml_X1_77 ss_X1_isBetter rfl (Ev.mono V ?_)
      rintro v sh1 h13 ⟨rfl, Rh13, x14, rfl, V⟩
      show Rn G (d + 1) 0 0 mX1_turn 183 [(8, .inl x10), (0, .inr (.inr (some 56))), (1, .inr (.inr (some 1))), (2, .inl l2), (3, .inr (.inr (some l3))), (4, .inl l4), (5, .inl l5), (6, .inl l6), (7, .inl l7)] [.inl x14] SH h13 (QI Q)
      refine rn_if_eq (tgt := 194) dX1_turn_183 (by decide) (fun c15 => ?_) (fun c15 => ?_)
      · replace V := V.1 c15
        refine rn_aload_n dX1_turn_194 rfl rfl ?_
        refine rn_iload_n dX1_turn_195 rfl rfl ?_
        refine rn_if_ne (tgt := 204) dX1_turn_196 (by decide) (fun c16 => ?_) (fun c16 => ?_)
        · replace V := V.1 c16
          refine rn_aload_n dX1_turn_204 rfl rfl ?_
          refine rn_get (v := .inl (h13.1 56 0)) dX1_turn_205 fl_X1_81 rfl rfl rfl ?_
          refine rn_putI dX1_turn_208 fl_X1_81 rfl rfl (Or.inl rfl) rfl rfl ?_
          refine rn_iload dX1_turn_211 rfl ?_
          exact rn_iret dX1_turn_213 rfl ⟨rfl, Rh13, _, rfl, V⟩
        · replace V := V.2 c16
          refine rn_iload dX1_turn_199 rfl ?_
          refine rn_goto (tgt := 208) dX1_turn_201 (by decide) ?_
          refine rn_putI dX1_turn_208 fl_X1_81 rfl rfl (Or.inl rfl) rfl rfl ?_
          refine rn_iload dX1_turn_211 rfl ?_
          exact rn_iret dX1_turn_213 rfl ⟨rfl, Rh13, _, rfl, V⟩
      · replace V := V.2 c15
        refine rn_bipush (v := 12) dX1_turn_186 (by decide) ?_
        refine rn_istore (L' := [(5, .inl 12), (8, .inl x10), (0, .inr (.inr (some 56))), (1, .inr (.inr (some 1))), (2, .inl l2), (3, .inr (.inr (some l3))), (4, .inl l4), (6, .inl l6), (7, .inl l7)]) dX1_turn_188 (Nat.le_of_ble_eq_true rfl) rfl ?_
        refine rn_iload dX1_turn_190 rfl ?_
        refine rn_istore (L' := [(6, .inl x10), (5, .inl 12), (8, .inl x10), (0, .inr (.inr (some 56))), (1, .inr (.inr (some 1))), (2, .inl l2), (3, .inr (.inr (some l3))), (4, .inl l4), (7, .inl l7)]) dX1_turn_192 (Nat.le_of_ble_eq_true rfl) rfl ?_
        refine rn_aload_n dX1_turn_194 rfl rfl ?_
        refine rn_iload_n dX1_turn_195 rfl rfl ?_
        refine rn_if_ne (tgt := 204) dX1_turn_196 (by decide) (fun c17 => ?_) (fun c17 => ?_)
        · replace V := V.1 c17
          refine rn_aload_n dX1_turn_204 rfl rfl ?_
          refine rn_get (v := .inl (h13.1 56 0)) dX1_turn_205 fl_X1_81 rfl rfl rfl ?_
          refine rn_putI dX1_turn_208 fl_X1_81 rfl rfl (Or.inl rfl) rfl rfl ?_
          refine rn_iload dX1_turn_211 rfl ?_
          exact rn_iret dX1_turn_213 rfl ⟨rfl, Rh13, _, rfl, V⟩
        · replace V := V.2 c17
          refine rn_iload dX1_turn_199 rfl ?_
          refine rn_goto (tgt := 208) dX1_turn_201 (by decide) ?_
          refine rn_putI dX1_turn_208 fl_X1_81 rfl rfl (Or.inl rfl) rfl rfl ?_
          refine rn_iload dX1_turn_211 rfl ?_
          exact rn_iret dX1_turn_213 rfl ⟨rfl, Rh13, _, rfl, V⟩
  · replace V := V.2 c8
    refine rn_iload dX1_turn_67 rfl ?_
    refine rn_bipush (v := 12) dX1_turn_69 (by decide) ?_
    refine rn_icmp_ge (tgt := 159) dX1_turn_71 (by decide) (fun c18 => ?_) (fun c18 => ?_)
    · replace V := V.1 c18
      refine rn_aload_n dX1_turn_159 rfl rfl ?_
      refine rn_aload_n dX1_turn_160 rfl rfl ?_
      refine rn_bipush (v := 12) dX1_turn_161 (by decide) ?_
      refine rn_iload_n dX1_turn_163 rfl rfl ?_
      refine rn_cV (M' := mX1_valueOf) (n := 3) (av := [.inr (.inr (some 1)), .inl 12, .inl l2]) (S := []) (rc := 0) (rs := 0) (mc := 0) (ms := 0) (a := 56) (ci := 1) (r := (RX1, TX1, 5)) dX1_turn_164 pa_X1_valueOf (Nat.le_refl _) rfl (Nat.le_of_ble_eq_true rfl) ml_X1_73 im_X1_valueOf se_X1_valueOf rfl rfl rfl (Ev.mono V ?_)
      rintro v sh1 h19 ⟨rfl, Rh19, x20, rfl, V⟩
      show Rn G (d + 1) 0 0 mX1_turn 167 [(0, .inr (.inr (some 56))), (1, .inr (.inr (some 1))), (2, .inl l2), (3, .inr (.inr (some l3))), (4, .inl l4), (5, .inl l5), (6, .inl l6), (7, .inl l7), (8, .inl l8)] [.inl x20] SH h19 (QI Q)
      refine rn_istore (L' := [(8, .inl x20), (0, .inr (.inr (some 56))), (1, .inr (.inr (some 1))), (2, .inl l2), (3, .inr (.inr (some l3))), (4, .inl l4), (5, .inl l5), (6, .inl l6), (7, .inl l7)]) dX1_turn_167 (Nat.le_of_ble_eq_true rfl) rfl ?_
      refine rn_iload dX1_turn_169 rfl ?_
      refine rn_iconst (v := (-1)) dX1_turn_171 (by decide) ?_
      refine rn_icmp_eq (tgt := 186) dX1_turn_172 (by decide) (fun c21 => ?_) (fun c21 => ?_)
      · replace V := V.1 c21
        refine rn_bipush (v := 12) dX1_turn_186 (by decide) ?_
        refine rn_istore (L' := [(5, .inl 12), (8, .inl x20), (0, .inr (.inr (some 56))), (1, .inr (.inr (some 1))), (2, .inl l2), (3, .inr (.inr (some l3))), (4, .inl l4), (6, .inl l6), (7, .inl l7)]) dX1_turn_188 (Nat.le_of_ble_eq_true rfl) rfl ?_
        refine rn_iload dX1_turn_190 rfl ?_
        refine rn_istore (L' := [(6, .inl x20), (5, .inl 12), (8, .inl x20), (0, .inr (.inr (some 56))), (1, .inr (.inr (some 1))), (2, .inl l2), (3, .inr (.inr (some l3))), (4, .inl l4), (7, .inl l7)]) dX1_turn_192 (Nat.le_of_ble_eq_true rfl) rfl ?_
        refine rn_aload_n dX1_turn_194 rfl rfl ?_
        refine rn_iload_n dX1_turn_195 rfl rfl ?_
        refine rn_if_ne (tgt := 204) dX1_turn_196 (by decide) (fun c22 => ?_) (fun c22 => ?_)
        · replace V := V.1 c22
          refine rn_aload_n dX1_turn_204 rfl rfl ?_
          refine rn_get (v := .inl (h19.1 56 0)) dX1_turn_205 fl_X1_81 rfl rfl rfl ?_
          refine rn_putI dX1_turn_208 fl_X1_81 rfl rfl (Or.inl rfl) rfl rfl ?_
          refine rn_iload dX1_turn_211 rfl ?_
          exact rn_iret dX1_turn_213 rfl ⟨rfl, Rh19, _, rfl, V⟩
        · replace V := V.2 c22
          refine rn_iload dX1_turn_199 rfl ?_
          refine rn_goto (tgt := 208) dX1_turn_201 (by decide) ?_
          refine rn_putI dX1_turn_208 fl_X1_81 rfl rfl (Or.inl rfl) rfl rfl ?_
          refine rn_iload dX1_turn_211 rfl ?_
          exact rn_iret dX1_turn_213 rfl ⟨rfl, Rh19, _, rfl, V⟩
      · replace V := V.2 c21
        refine rn_iload dX1_turn_175 rfl ?_
        refine rn_iload dX1_turn_177 rfl ?_
        refine rn_iload_n dX1_turn_179 rfl rfl ?_
        refine rn_cS (M' := mX1_isBetter) (n := 3) (av := [.inl x20, .inl l6, .inl l2]) (S := []) (rc := 0) (rs := 0) (mc := 0) (ms := 0) dX1_turn_180 pa_X1_isBetter (Nat.le_refl _) rfl (Nat.le_of_ble_eq_true rfl) ml_X1_77 ss_X1_isBetter rfl (Ev.mono V ?_)
        rintro v sh1 h23 ⟨rfl, Rh23, x24, rfl, V⟩
        show Rn G (d + 1) 0 0 mX1_turn 183 [(8, .inl x20), (0, .inr (.inr (some 56))), (1, .inr (.inr (some 1))), (2, .inl l2), (3, .inr (.inr (some l3))), (4, .inl l4), (5, .inl l5), (6, .inl l6), (7, .inl l7)] [.inl x24] SH h23 (QI Q)
        refine rn_if_eq (tgt := 194) dX1_turn_183 (by decide) (fun c25 => ?_) (fun c25 => ?_)
        · replace V := V.1 c25
          refine rn_aload_n dX1_turn_194 rfl rfl ?_
          refine rn_iload_n dX1_turn_195 rfl rfl ?_
          refine rn_if_ne (tgt := 204) dX1_turn_196 (by decide) (fun c26 => ?_) (fun c26 => ?_)
          · replace V := V.1 c26
            refine rn_aload_n dX1_turn_204 rfl rfl ?_
            refine rn_get (v := .inl (h23.1 56 0)) dX1_turn_205 fl_X1_81 rfl rfl rfl ?_
            refine rn_putI dX1_turn_208 fl_X1_81 rfl rfl (Or.inl rfl) rfl rfl ?_
            refine rn_iload dX1_turn_211 rfl ?_
            exact rn_iret dX1_turn_213 rfl ⟨rfl, Rh23, _, rfl, V⟩
          · replace V := V.2 c26
            refine rn_iload dX1_turn_199 rfl ?_
            refine rn_goto (tgt := 208) dX1_turn_201 (by decide) ?_
            refine rn_putI dX1_turn_208 fl_X1_81 rfl rfl (Or.inl rfl) rfl rfl ?_
            refine rn_iload dX1_turn_211 rfl ?_
            exact rn_iret dX1_turn_213 rfl ⟨rfl, Rh23, _, rfl, V⟩
        · replace V := V.2 c25
          refine rn_bipush (v := 12) dX1_turn_186 (by decide) ?_
          refine rn_istore (L' := [(5, .inl 12), (8, .inl x20), (0, .inr (.inr (some 56))), (1, .inr (.inr (some 1))), (2, .inl l2), (3, .inr (.inr (some l3))), (4, .inl l4), (6, .inl l6), (7, .inl l7)]) dX1_turn_188 (Nat.le_of_ble_eq_true rfl) rfl ?_
          refine rn_iload dX1_turn_190 rfl ?_
          refine rn_istore (L' := [(6, .inl x20), (5, .inl 12), (8, .inl x20), (0, .inr (.inr (some 56))), (1, .inr (.inr (some 1))), (2, .inl l2), (3, .inr (.inr (some l3))), (4, .inl l4), (7, .inl l7)]) dX1_turn_192 (Nat.le_of_ble_eq_true rfl) rfl ?_
          refine rn_aload_n dX1_turn_194 rfl rfl ?_
          refine rn_iload_n dX1_turn_195 rfl rfl ?_
          refine rn_if_ne (tgt := 204) dX1_turn_196 (by decide) (fun c27 => ?_) (fun c27 => ?_)
          · replace V := V.1 c27
            refine rn_aload_n dX1_turn_204 rfl rfl ?_
            refine rn_get (v := .inl (h23.1 56 0)) dX1_turn_205 fl_X1_81 rfl rfl rfl ?_
            refine rn_putI dX1_turn_208 fl_X1_81 rfl rfl (Or.inl rfl) rfl rfl ?_
            refine rn_iload dX1_turn_211 rfl ?_
            exact rn_iret dX1_turn_213 rfl ⟨rfl, Rh23, _, rfl, V⟩
          · replace V := V.2 c27
            refine rn_iload dX1_turn_199 rfl ?_
            refine rn_goto (tgt := 208) dX1_turn_201 (by decide) ?_
            refine rn_putI dX1_turn_208 fl_X1_81 rfl rfl (Or.inl rfl) rfl rfl ?_
            refine rn_iload dX1_turn_211 rfl ?_
            exact rn_iret dX1_turn_213 rfl ⟨rfl, Rh23, _, rfl, V⟩
    · replace V := V.2 c18
      refine rn_iload dX1_turn_74 rfl ?_
      refine rn_iconst (v := 4) dX1_turn_76 (by decide) ?_
      refine rn_icmp_ge (tgt := 159) dX1_turn_77 (by decide) (fun c28 => ?_) (fun c28 => ?_)
      · replace V := V.1 c28
        refine rn_aload_n dX1_turn_159 rfl rfl ?_
        refine rn_aload_n dX1_turn_160 rfl rfl ?_
        refine rn_bipush (v := 12) dX1_turn_161 (by decide) ?_
        refine rn_iload_n dX1_turn_163 rfl rfl ?_
        refine rn_cV (M' := mX1_valueOf) (n := 3) (av := [.inr (.inr (some 1)), .inl 12, .inl l2]) (S := []) (rc := 0) (rs := 0) (mc := 0) (ms := 0) (a := 56) (ci := 1) (r := (RX1, TX1, 5)) dX1_turn_164 pa_X1_valueOf (Nat.le_refl _) rfl (Nat.le_of_ble_eq_true rfl) ml_X1_73 im_X1_valueOf se_X1_valueOf rfl rfl rfl (Ev.mono V ?_)
        rintro v sh1 h29 ⟨rfl, Rh29, x30, rfl, V⟩
        show Rn G (d + 1) 0 0 mX1_turn 167 [(0, .inr (.inr (some 56))), (1, .inr (.inr (some 1))), (2, .inl l2), (3, .inr (.inr (some l3))), (4, .inl l4), (5, .inl l5), (6, .inl l6), (7, .inl l7), (8, .inl l8)] [.inl x30] SH h29 (QI Q)
        refine rn_istore (L' := [(8, .inl x30), (0, .inr (.inr (some 56))), (1, .inr (.inr (some 1))), (2, .inl l2), (3, .inr (.inr (some l3))), (4, .inl l4), (5, .inl l5), (6, .inl l6), (7, .inl l7)]) dX1_turn_167 (Nat.le_of_ble_eq_true rfl) rfl ?_
        refine rn_iload dX1_turn_169 rfl ?_
        refine rn_iconst (v := (-1)) dX1_turn_171 (by decide) ?_
        refine rn_icmp_eq (tgt := 186) dX1_turn_172 (by decide) (fun c31 => ?_) (fun c31 => ?_)
        · replace V := V.1 c31
          refine rn_bipush (v := 12) dX1_turn_186 (by decide) ?_
          refine rn_istore (L' := [(5, .inl 12), (8, .inl x30), (0, .inr (.inr (some 56))), (1, .inr (.inr (some 1))), (2, .inl l2), (3, .inr (.inr (some l3))), (4, .inl l4), (6, .inl l6), (7, .inl l7)]) dX1_turn_188 (Nat.le_of_ble_eq_true rfl) rfl ?_
          refine rn_iload dX1_turn_190 rfl ?_
          refine rn_istore (L' := [(6, .inl x30), (5, .inl 12), (8, .inl x30), (0, .inr (.inr (some 56))), (1, .inr (.inr (some 1))), (2, .inl l2), (3, .inr (.inr (some l3))), (4, .inl l4), (7, .inl l7)]) dX1_turn_192 (Nat.le_of_ble_eq_true rfl) rfl ?_
          refine rn_aload_n dX1_turn_194 rfl rfl ?_
          refine rn_iload_n dX1_turn_195 rfl rfl ?_
          refine rn_if_ne (tgt := 204) dX1_turn_196 (by decide) (fun c32 => ?_) (fun c32 => ?_)
          · replace V := V.1 c32
            refine rn_aload_n dX1_turn_204 rfl rfl ?_
            refine rn_get (v := .inl (h29.1 56 0)) dX1_turn_205 fl_X1_81 rfl rfl rfl ?_
            refine rn_putI dX1_turn_208 fl_X1_81 rfl rfl (Or.inl rfl) rfl rfl ?_
            refine rn_iload dX1_turn_211 rfl ?_
            exact rn_iret dX1_turn_213 rfl ⟨rfl, Rh29, _, rfl, V⟩
          · replace V := V.2 c32
            refine rn_iload dX1_turn_199 rfl ?_
            refine rn_goto (tgt := 208) dX1_turn_201 (by decide) ?_
            refine rn_putI dX1_turn_208 fl_X1_81 rfl rfl (Or.inl rfl) rfl rfl ?_
            refine rn_iload dX1_turn_211 rfl ?_
            exact rn_iret dX1_turn_213 rfl ⟨rfl, Rh29, _, rfl, V⟩
        · replace V := V.2 c31
          refine rn_iload dX1_turn_175 rfl ?_
          refine rn_iload dX1_turn_177 rfl ?_
          refine rn_iload_n dX1_turn_179 rfl rfl ?_
          refine rn_cS (M' := mX1_isBetter) (n := 3) (av := [.inl x30, .inl l6, .inl l2]) (S := []) (rc := 0) (rs := 0) (mc := 0) (ms := 0) dX1_turn_180 pa_X1_isBetter (Nat.le_refl _) rfl (Nat.le_of_ble_eq_true rfl) ml_X1_77 ss_X1_isBetter rfl (Ev.mono V ?_)
          rintro v sh1 h33 ⟨rfl, Rh33, x34, rfl, V⟩
          show Rn G (d + 1) 0 0 mX1_turn 183 [(8, .inl x30), (0, .inr (.inr (some 56))), (1, .inr (.inr (some 1))), (2, .inl l2), (3, .inr (.inr (some l3))), (4, .inl l4), (5, .inl l5), (6, .inl l6), (7, .inl l7)] [.inl x34] SH h33 (QI Q)
          refine rn_if_eq (tgt := 194) dX1_turn_183 (by decide) (fun c35 => ?_) (fun c35 => ?_)
          · replace V := V.1 c35
            refine rn_aload_n dX1_turn_194 rfl rfl ?_
            refine rn_iload_n dX1_turn_195 rfl rfl ?_
            refine rn_if_ne (tgt := 204) dX1_turn_196 (by decide) (fun c36 => ?_) (fun c36 => ?_)
            · replace V := V.1 c36
              refine rn_aload_n dX1_turn_204 rfl rfl ?_
              refine rn_get (v := .inl (h33.1 56 0)) dX1_turn_205 fl_X1_81 rfl rfl rfl ?_
              refine rn_putI dX1_turn_208 fl_X1_81 rfl rfl (Or.inl rfl) rfl rfl ?_
              refine rn_iload dX1_turn_211 rfl ?_
              exact rn_iret dX1_turn_213 rfl ⟨rfl, Rh33, _, rfl, V⟩
            · replace V := V.2 c36
              refine rn_iload dX1_turn_199 rfl ?_
              refine rn_goto (tgt := 208) dX1_turn_201 (by decide) ?_
              refine rn_putI dX1_turn_208 fl_X1_81 rfl rfl (Or.inl rfl) rfl rfl ?_
              refine rn_iload dX1_turn_211 rfl ?_
              exact rn_iret dX1_turn_213 rfl ⟨rfl, Rh33, _, rfl, V⟩
          · replace V := V.2 c35
            refine rn_bipush (v := 12) dX1_turn_186 (by decide) ?_
            refine rn_istore (L' := [(5, .inl 12), (8, .inl x30), (0, .inr (.inr (some 56))), (1, .inr (.inr (some 1))), (2, .inl l2), (3, .inr (.inr (some l3))), (4, .inl l4), (6, .inl l6), (7, .inl l7)]) dX1_turn_188 (Nat.le_of_ble_eq_true rfl) rfl ?_
            refine rn_iload dX1_turn_190 rfl ?_
            refine rn_istore (L' := [(6, .inl x30), (5, .inl 12), (8, .inl x30), (0, .inr (.inr (some 56))), (1, .inr (.inr (some 1))), (2, .inl l2), (3, .inr (.inr (some l3))), (4, .inl l4), (7, .inl l7)]) dX1_turn_192 (Nat.le_of_ble_eq_true rfl) rfl ?_
            refine rn_aload_n dX1_turn_194 rfl rfl ?_
            refine rn_iload_n dX1_turn_195 rfl rfl ?_
            refine rn_if_ne (tgt := 204) dX1_turn_196 (by decide) (fun c37 => ?_) (fun c37 => ?_)
            · replace V := V.1 c37
              refine rn_aload_n dX1_turn_204 rfl rfl ?_
              refine rn_get (v := .inl (h33.1 56 0)) dX1_turn_205 fl_X1_81 rfl rfl rfl ?_
              refine rn_putI dX1_turn_208 fl_X1_81 rfl rfl (Or.inl rfl) rfl rfl ?_
              refine rn_iload dX1_turn_211 rfl ?_
              exact rn_iret dX1_turn_213 rfl ⟨rfl, Rh33, _, rfl, V⟩
            · replace V := V.2 c37
              refine rn_iload dX1_turn_199 rfl ?_
              refine rn_goto (tgt := 208) dX1_turn_201 (by decide) ?_
              refine rn_putI dX1_turn_208 fl_X1_81 rfl rfl (Or.inl rfl) rfl rfl ?_
              refine rn_iload dX1_turn_211 rfl ?_
              exact rn_iret dX1_turn_213 rfl ⟨rfl, Rh33, _, rfl, V⟩
      · replace V := V.2 c28
        refine rn_aload_n dX1_turn_80 rfl rfl ?_
        refine rn_get (v := .inr (.inr (some 5))) dX1_turn_81 fl_X1_62 rfl rfl (congrArg (fun z => (Sum.inr (Sum.inr z) : MV)) (rf_1_5 hR)) ?_
        refine rn_iload dX1_turn_84 rfl ?_
        obtain ⟨g0, V⟩ := V
        refine rn_iald (k := (Int32.toNatClampNeg l8)) dX1_turn_86 rfl rfl g0 ?_
        refine rn_iload dX1_turn_87 rfl ?_
        refine rn_icmp_ne (tgt := 153) dX1_turn_89 (by decide) (fun c38 => ?_) (fun c38 => ?_)
        · replace V := V.1 c38
          refine rn_iinc (L' := [(8, .inl (l8 + 1)), (0, .inr (.inr (some 56))), (1, .inr (.inr (some 1))), (2, .inl l2), (3, .inr (.inr (some l3))), (4, .inl l4), (5, .inl l5), (6, .inl l6), (7, .inl l7)]) dX1_turn_153 rfl (v := (l8 + 1)) rfl (Nat.le_of_ble_eq_true rfl) rfl ?_
          refine rn_goto (tgt := 58) dX1_turn_156 (by decide) ?_
          refine rn_sub [1, 2, 3, 4, 5, 6, 7, 8, 0] (L' := [(0, .inr (.inr (some 56))), (1, .inr (.inr (some 1))), (2, .inl l2), (3, .inr (.inr (some l3))), (4, .inl l4), (5, .inl l5), (6, .inl l6), (7, .inl l7), (8, .inl (l8 + 1))]) rfl ?_
          exact V
        · replace V := V.2 c38
          refine rn_aload_n dX1_turn_92 rfl rfl ?_
          refine rn_get (v := .inr (.inr (some (l3 + 3)))) dX1_turn_93 fl_X1_66 hl3 rfl (congrArg (fun z => (Sum.inr (Sum.inr z) : MV)) (fl_how hR hl3)) ?_
          refine rn_iload dX1_turn_96 rfl ?_
          obtain ⟨g0, V⟩ := V
          refine rn_iald (k := (Int32.toNatClampNeg l8)) dX1_turn_98 (fl_sh3 hl3) rfl g0 ?_
          refine rn_if_eq (tgt := 105) dX1_turn_99 (by decide) (fun c39 => ?_) (fun c39 => ?_)
          · replace V := V.1 c39
            refine rn_iinc (L' := [(7, .inl (l7 + 1)), (0, .inr (.inr (some 56))), (1, .inr (.inr (some 1))), (2, .inl l2), (3, .inr (.inr (some l3))), (4, .inl l4), (5, .inl l5), (6, .inl l6), (8, .inl l8)]) dX1_turn_105 rfl (v := (l7 + 1)) rfl (Nat.le_of_ble_eq_true rfl) rfl ?_
            refine rn_aload_n dX1_turn_108 rfl rfl ?_
            refine rn_aload_n dX1_turn_109 rfl rfl ?_
            refine rn_iload dX1_turn_110 rfl ?_
            refine rn_cV (M' := mX9_isFree) (n := 2) (av := [.inr (.inr (some l3)), .inl l8]) (S := []) (rc := 0) (rs := 0) (mc := 0) (ms := 0) (a := 1) (ci := 8) (r := (RX9, TX9, 17)) dX1_turn_112 pa_X9_isFree (Nat.le_refl _) rfl (Nat.le_of_ble_eq_true rfl) ml_X1_69 im_X9_isFree se_X9_isFree rfl rfl rfl (Ev.mono V ?_)
            rintro v sh1 h40 ⟨rfl, Rh40, x41, rfl, V⟩
            show Rn G (d + 1) 0 0 mX1_turn 115 [(7, .inl (l7 + 1)), (0, .inr (.inr (some 56))), (1, .inr (.inr (some 1))), (2, .inl l2), (3, .inr (.inr (some l3))), (4, .inl l4), (5, .inl l5), (6, .inl l6), (8, .inl l8)] [.inl x41] SH h40 (QI Q)
            refine rn_if_eq (tgt := 153) dX1_turn_115 (by decide) (fun c42 => ?_) (fun c42 => ?_)
            · replace V := V.1 c42
              refine rn_iinc (L' := [(8, .inl (l8 + 1)), (7, .inl (l7 + 1)), (0, .inr (.inr (some 56))), (1, .inr (.inr (some 1))), (2, .inl l2), (3, .inr (.inr (some l3))), (4, .inl l4), (5, .inl l5), (6, .inl l6)]) dX1_turn_153 rfl (v := (l8 + 1)) rfl (Nat.le_of_ble_eq_true rfl) rfl ?_
              refine rn_goto (tgt := 58) dX1_turn_156 (by decide) ?_
              refine rn_sub [2, 3, 4, 5, 6, 7, 8, 1, 0] (L' := [(0, .inr (.inr (some 56))), (1, .inr (.inr (some 1))), (2, .inl l2), (3, .inr (.inr (some l3))), (4, .inl l4), (5, .inl l5), (6, .inl l6), (7, .inl (l7 + 1)), (8, .inl (l8 + 1))]) rfl ?_
              exact V
            · replace V := V.2 c42
              refine rn_aload_n dX1_turn_118 rfl rfl ?_
              refine rn_aload_n dX1_turn_119 rfl rfl ?_
              refine rn_iload dX1_turn_120 rfl ?_
              refine rn_iload_n dX1_turn_122 rfl rfl ?_
              refine rn_cV (M' := mX1_valueOf) (n := 3) (av := [.inr (.inr (some 1)), .inl l8, .inl l2]) (S := []) (rc := 0) (rs := 0) (mc := 0) (ms := 0) (a := 56) (ci := 1) (r := (RX1, TX1, 5)) dX1_turn_123 pa_X1_valueOf (Nat.le_refl _) rfl (Nat.le_of_ble_eq_true rfl) ml_X1_73 im_X1_valueOf se_X1_valueOf rfl rfl rfl (Ev.mono V ?_)
              rintro v sh1 h43 ⟨rfl, Rh43, x44, rfl, V⟩
              show Rn G (d + 1) 0 0 mX1_turn 126 [(7, .inl (l7 + 1)), (0, .inr (.inr (some 56))), (1, .inr (.inr (some 1))), (2, .inl l2), (3, .inr (.inr (some l3))), (4, .inl l4), (5, .inl l5), (6, .inl l6), (8, .inl l8)] [.inl x44] SH h43 (QI Q)
              refine rn_istore (L' := [(9, .inl x44), (7, .inl (l7 + 1)), (0, .inr (.inr (some 56))), (1, .inr (.inr (some 1))), (2, .inl l2), (3, .inr (.inr (some l3))), (4, .inl l4), (5, .inl l5), (6, .inl l6), (8, .inl l8)]) dX1_turn_126 (Nat.le_of_ble_eq_true rfl) rfl ?_
              refine rn_iload dX1_turn_128 rfl ?_
              refine rn_iconst (v := (-1)) dX1_turn_130 (by decide) ?_
              refine rn_icmp_eq (tgt := 145) dX1_turn_131 (by decide) (fun c45 => ?_) (fun c45 => ?_)
              · replace V := V.1 c45
                refine rn_iload dX1_turn_145 rfl ?_
                refine rn_istore (L' := [(5, .inl l8), (9, .inl x44), (7, .inl (l7 + 1)), (0, .inr (.inr (some 56))), (1, .inr (.inr (some 1))), (2, .inl l2), (3, .inr (.inr (some l3))), (4, .inl l4), (6, .inl l6), (8, .inl l8)]) dX1_turn_147 (Nat.le_of_ble_eq_true rfl) rfl ?_
                refine rn_iload dX1_turn_149 rfl ?_
                refine rn_istore (L' := [(6, .inl x44), (5, .inl l8), (9, .inl x44), (7, .inl (l7 + 1)), (0, .inr (.inr (some 56))), (1, .inr (.inr (some 1))), (2, .inl l2), (3, .inr (.inr (some l3))), (4, .inl l4), (8, .inl l8)]) dX1_turn_151 (Nat.le_of_ble_eq_true rfl) rfl ?_
                refine rn_iinc (L' := [(8, .inl (l8 + 1)), (6, .inl x44), (5, .inl l8), (9, .inl x44), (7, .inl (l7 + 1)), (0, .inr (.inr (some 56))), (1, .inr (.inr (some 1))), (2, .inl l2), (3, .inr (.inr (some l3))), (4, .inl l4)]) dX1_turn_153 rfl (v := (l8 + 1)) rfl (Nat.le_of_ble_eq_true rfl) rfl ?_
                refine rn_goto (tgt := 58) dX1_turn_156 (by decide) ?_
                refine rn_sub [5, 6, 7, 8, 9, 2, 1, 4, 0] (L' := [(0, .inr (.inr (some 56))), (1, .inr (.inr (some 1))), (2, .inl l2), (3, .inr (.inr (some l3))), (4, .inl l4), (5, .inl l8), (6, .inl x44), (7, .inl (l7 + 1)), (8, .inl (l8 + 1))]) rfl ?_
                exact V
              · replace V := V.2 c45
                refine rn_iload dX1_turn_134 rfl ?_
                refine rn_iload dX1_turn_136 rfl ?_
                refine rn_iload_n dX1_turn_138 rfl rfl ?_
                refine rn_cS (M' := mX1_isBetter) (n := 3) (av := [.inl x44, .inl l6, .inl l2]) (S := []) (rc := 0) (rs := 0) (mc := 0) (ms := 0) dX1_turn_139 pa_X1_isBetter (Nat.le_refl _) rfl (Nat.le_of_ble_eq_true rfl) ml_X1_77 ss_X1_isBetter rfl (Ev.mono V ?_)
                rintro v sh1 h46 ⟨rfl, Rh46, x47, rfl, V⟩
                show Rn G (d + 1) 0 0 mX1_turn 142 [(9, .inl x44), (7, .inl (l7 + 1)), (0, .inr (.inr (some 56))), (1, .inr (.inr (some 1))), (2, .inl l2), (3, .inr (.inr (some l3))), (4, .inl l4), (5, .inl l5), (6, .inl l6), (8, .inl l8)] [.inl x47] SH h46 (QI Q)
                refine rn_if_eq (tgt := 153) dX1_turn_142 (by decide) (fun c48 => ?_) (fun c48 => ?_)
                · replace V := V.1 c48
                  refine rn_iinc (L' := [(8, .inl (l8 + 1)), (9, .inl x44), (7, .inl (l7 + 1)), (0, .inr (.inr (some 56))), (1, .inr (.inr (some 1))), (2, .inl l2), (3, .inr (.inr (some l3))), (4, .inl l4), (5, .inl l5), (6, .inl l6)]) dX1_turn_153 rfl (v := (l8 + 1)) rfl (Nat.le_of_ble_eq_true rfl) rfl ?_
                  refine rn_goto (tgt := 58) dX1_turn_156 (by decide) ?_
                  refine rn_sub [3, 4, 5, 6, 7, 8, 9, 2, 0] (L' := [(0, .inr (.inr (some 56))), (1, .inr (.inr (some 1))), (2, .inl l2), (3, .inr (.inr (some l3))), (4, .inl l4), (5, .inl l5), (6, .inl l6), (7, .inl (l7 + 1)), (8, .inl (l8 + 1))]) rfl ?_
                  exact V
                · replace V := V.2 c48
                  refine rn_iload dX1_turn_145 rfl ?_
                  refine rn_istore (L' := [(5, .inl l8), (9, .inl x44), (7, .inl (l7 + 1)), (0, .inr (.inr (some 56))), (1, .inr (.inr (some 1))), (2, .inl l2), (3, .inr (.inr (some l3))), (4, .inl l4), (6, .inl l6), (8, .inl l8)]) dX1_turn_147 (Nat.le_of_ble_eq_true rfl) rfl ?_
                  refine rn_iload dX1_turn_149 rfl ?_
                  refine rn_istore (L' := [(6, .inl x44), (5, .inl l8), (9, .inl x44), (7, .inl (l7 + 1)), (0, .inr (.inr (some 56))), (1, .inr (.inr (some 1))), (2, .inl l2), (3, .inr (.inr (some l3))), (4, .inl l4), (8, .inl l8)]) dX1_turn_151 (Nat.le_of_ble_eq_true rfl) rfl ?_
                  refine rn_iinc (L' := [(8, .inl (l8 + 1)), (6, .inl x44), (5, .inl l8), (9, .inl x44), (7, .inl (l7 + 1)), (0, .inr (.inr (some 56))), (1, .inr (.inr (some 1))), (2, .inl l2), (3, .inr (.inr (some l3))), (4, .inl l4)]) dX1_turn_153 rfl (v := (l8 + 1)) rfl (Nat.le_of_ble_eq_true rfl) rfl ?_
                  refine rn_goto (tgt := 58) dX1_turn_156 (by decide) ?_
                  refine rn_sub [5, 6, 7, 8, 9, 2, 1, 4, 0] (L' := [(0, .inr (.inr (some 56))), (1, .inr (.inr (some 1))), (2, .inl l2), (3, .inr (.inr (some l3))), (4, .inl l4), (5, .inl l8), (6, .inl x44), (7, .inl (l7 + 1)), (8, .inl (l8 + 1))]) rfl ?_
                  exact V
          · replace V := V.2 c39
            refine rn_goto (tgt := 153) dX1_turn_102 (by decide) ?_
            refine rn_iinc (L' := [(8, .inl (l8 + 1)), (0, .inr (.inr (some 56))), (1, .inr (.inr (some 1))), (2, .inl l2), (3, .inr (.inr (some l3))), (4, .inl l4), (5, .inl l5), (6, .inl l6), (7, .inl l7)]) dX1_turn_153 rfl (v := (l8 + 1)) rfl (Nat.le_of_ble_eq_true rfl) rfl ?_
            refine rn_goto (tgt := 58) dX1_turn_156 (by decide) ?_
            refine rn_sub [1, 2, 3, 4, 5, 6, 7, 8, 0] (L' := [(0, .inr (.inr (some 56))), (1, .inr (.inr (some 1))), (2, .inl l2), (3, .inr (.inr (some l3))), (4, .inl l4), (5, .inl l5), (6, .inl l6), (7, .inl l7), (8, .inl (l8 + 1))]) rfl ?_
            exact V
set_option maxRecDepth 100000 in
set_option maxHeartbeats 4000000 in
theorem vc_X1_turn {G : GT} {d : Nat} {a2 : Int32}  {h : Hp} {Q : Int32 → Hp → Prop} (hR : RF h) (V : EvI G d mX11_held [.inl a2, .inl 0, .inl 4] h (fun x2 h1 => vp_in x2 5 ∧ ∃ r3 : Nat, h1.2.2 57 (Int32.toNatClampNeg x2) = some r3 ∧ SH[r3]? = some (.inl 2) ∧ ((a2 < h1.1 56 4 → ((¬ (a2 - a2 / 2 * 2) = 0 → Rg_X1_turn_58 G d a2 r3 (h1.1 56 3) (-1) 0 0 0 h1 Q) ∧ ((a2 - a2 / 2 * 2) = 0 → Rg_X1_turn_58 G d a2 r3 (h1.1 56 2) (-1) 0 0 0 h1 Q))) ∧ (¬ a2 < h1.1 56 4 → EvI G d mX1_growth [.inr (.inr (some 56)), .inr (.inr (some 1)), .inr (.inr (some r3))] h1 (fun x7 h6 => Q x7 h6))))) : EvI G (d + 1) mX1_turn [.inr (.inr (some 56)), .inr (.inr (some 1)), .inl a2] h Q := by
  refine Ev.of rfl (fun _ => Nat.le_of_ble_eq_true rfl) ?_
  show Rn G (d + 1) 0 0 mX1_turn 0 [(0, .inr (.inr (some 56))), (1, .inr (.inr (some 1))), (2, .inl a2)] [] SH h (QI Q)
  refine rn_aload_n dX1_turn_0 rfl rfl ?_
  refine rn_get (v := .inr (.inr (some 57))) dX1_turn_1 fl_X1_11 rfl rfl (congrArg (fun z => (Sum.inr (Sum.inr z) : MV)) (rf_56_1 hR)) ?_
  refine rn_iload_n dX1_turn_4 rfl rfl ?_
  refine rn_iconst (v := 0) dX1_turn_5 (by decide) ?_
  refine rn_iconst (v := 4) dX1_turn_6 (by decide) ?_
  refine rn_cSN (M' := mX11_held) (n := 3) (av := [.inl a2, .inl 0, .inl 4]) (S := [.inr (.inr (some 57))]) (rc := 0) (rs := 0) (mc := 0) (ms := 0) dX1_turn_7 pa_X11_held (Nat.le_refl _) rfl (Nat.le_of_ble_eq_true rfl) ml_X1_25 ss_X11_held rfl (Ev.mono V ?_)
  rintro v sh1 h1 ⟨rfl, Rh1, x2, rfl, V⟩
  show Rn G (d + 1) 0 0 mX1_turn 10 [(0, .inr (.inr (some 56))), (1, .inr (.inr (some 1))), (2, .inl a2)] [.inl x2, .inr (.inr (some 57))] SH h1 (QI Q)
  obtain ⟨g0, V⟩ := V
  obtain ⟨r3, g, hr3, V⟩ := V
  refine rn_aald2 (k := (Int32.toNatClampNeg x2)) dX1_turn_10 rfl rfl g0 g ?_
  refine rn_astore_n (L' := [(3, .inr (.inr (some r3))), (0, .inr (.inr (some 56))), (1, .inr (.inr (some 1))), (2, .inl a2)]) dX1_turn_11 rfl (Nat.le_of_ble_eq_true rfl) rfl ?_
  refine rn_iload_n dX1_turn_12 rfl rfl ?_
  refine rn_aload_n dX1_turn_13 rfl rfl ?_
  refine rn_get (v := .inl (h1.1 56 4)) dX1_turn_14 fl_X1_29 rfl rfl rfl ?_
  refine rn_icmp_lt (tgt := 27) dX1_turn_17 (by decide) (fun c4 => ?_) (fun c4 => ?_)
  · replace V := V.1 c4
    refine rn_iload_n dX1_turn_27 rfl rfl ?_
    refine rn_iconst (v := 2) dX1_turn_28 (by decide) ?_
    refine rn_irem dX1_turn_29 (by decide) ?_
    refine rn_if_ne (tgt := 40) dX1_turn_30 (by decide) (fun c5 => ?_) (fun c5 => ?_)
    · replace V := V.1 c5
      refine rn_aload_n dX1_turn_40 rfl rfl ?_
      refine rn_get (v := .inl (h1.1 56 3)) dX1_turn_41 fl_X1_22 rfl rfl rfl ?_
      refine rn_istore (L' := [(4, .inl (h1.1 56 3)), (3, .inr (.inr (some r3))), (0, .inr (.inr (some 56))), (1, .inr (.inr (some 1))), (2, .inl a2)]) dX1_turn_44 (Nat.le_of_ble_eq_true rfl) rfl ?_
      refine rn_iconst (v := (-1)) dX1_turn_46 (by decide) ?_
      refine rn_istore (L' := [(5, .inl (-1)), (4, .inl (h1.1 56 3)), (3, .inr (.inr (some r3))), (0, .inr (.inr (some 56))), (1, .inr (.inr (some 1))), (2, .inl a2)]) dX1_turn_47 (Nat.le_of_ble_eq_true rfl) rfl ?_
      refine rn_iconst (v := 0) dX1_turn_49 (by decide) ?_
      refine rn_istore (L' := [(6, .inl 0), (5, .inl (-1)), (4, .inl (h1.1 56 3)), (3, .inr (.inr (some r3))), (0, .inr (.inr (some 56))), (1, .inr (.inr (some 1))), (2, .inl a2)]) dX1_turn_50 (Nat.le_of_ble_eq_true rfl) rfl ?_
      refine rn_iconst (v := 0) dX1_turn_52 (by decide) ?_
      refine rn_istore (L' := [(7, .inl 0), (6, .inl 0), (5, .inl (-1)), (4, .inl (h1.1 56 3)), (3, .inr (.inr (some r3))), (0, .inr (.inr (some 56))), (1, .inr (.inr (some 1))), (2, .inl a2)]) dX1_turn_53 (Nat.le_of_ble_eq_true rfl) rfl ?_
      refine rn_iconst (v := 0) dX1_turn_55 (by decide) ?_
      refine rn_istore (L' := [(8, .inl 0), (7, .inl 0), (6, .inl 0), (5, .inl (-1)), (4, .inl (h1.1 56 3)), (3, .inr (.inr (some r3))), (0, .inr (.inr (some 56))), (1, .inr (.inr (some 1))), (2, .inl a2)]) dX1_turn_56 (Nat.le_of_ble_eq_true rfl) rfl ?_
      refine rn_sub [6, 7, 8, 5, 4, 3, 2, 1, 0] (L' := [(0, .inr (.inr (some 56))), (1, .inr (.inr (some 1))), (2, .inl a2), (3, .inr (.inr (some r3))), (4, .inl (h1.1 56 3)), (5, .inl (-1)), (6, .inl 0), (7, .inl 0), (8, .inl 0)]) rfl ?_
      exact V
    · replace V := V.2 c5
      refine rn_aload_n dX1_turn_33 rfl rfl ?_
      refine rn_get (v := .inl (h1.1 56 2)) dX1_turn_34 fl_X1_18 rfl rfl rfl ?_
      refine rn_goto (tgt := 44) dX1_turn_37 (by decide) ?_
      refine rn_istore (L' := [(4, .inl (h1.1 56 2)), (3, .inr (.inr (some r3))), (0, .inr (.inr (some 56))), (1, .inr (.inr (some 1))), (2, .inl a2)]) dX1_turn_44 (Nat.le_of_ble_eq_true rfl) rfl ?_
      refine rn_iconst (v := (-1)) dX1_turn_46 (by decide) ?_
      refine rn_istore (L' := [(5, .inl (-1)), (4, .inl (h1.1 56 2)), (3, .inr (.inr (some r3))), (0, .inr (.inr (some 56))), (1, .inr (.inr (some 1))), (2, .inl a2)]) dX1_turn_47 (Nat.le_of_ble_eq_true rfl) rfl ?_
      refine rn_iconst (v := 0) dX1_turn_49 (by decide) ?_
      refine rn_istore (L' := [(6, .inl 0), (5, .inl (-1)), (4, .inl (h1.1 56 2)), (3, .inr (.inr (some r3))), (0, .inr (.inr (some 56))), (1, .inr (.inr (some 1))), (2, .inl a2)]) dX1_turn_50 (Nat.le_of_ble_eq_true rfl) rfl ?_
      refine rn_iconst (v := 0) dX1_turn_52 (by decide) ?_
      refine rn_istore (L' := [(7, .inl 0), (6, .inl 0), (5, .inl (-1)), (4, .inl (h1.1 56 2)), (3, .inr (.inr (some r3))), (0, .inr (.inr (some 56))), (1, .inr (.inr (some 1))), (2, .inl a2)]) dX1_turn_53 (Nat.le_of_ble_eq_true rfl) rfl ?_
      refine rn_iconst (v := 0) dX1_turn_55 (by decide) ?_
      refine rn_istore (L' := [(8, .inl 0), (7, .inl 0), (6, .inl 0), (5, .inl (-1)), (4, .inl (h1.1 56 2)), (3, .inr (.inr (some r3))), (0, .inr (.inr (some 56))), (1, .inr (.inr (some 1))), (2, .inl a2)]) dX1_turn_56 (Nat.le_of_ble_eq_true rfl) rfl ?_
      refine rn_sub [6, 7, 8, 5, 4, 3, 2, 1, 0] (L' := [(0, .inr (.inr (some 56))), (1, .inr (.inr (some 1))), (2, .inl a2), (3, .inr (.inr (some r3))), (4, .inl (h1.1 56 2)), (5, .inl (-1)), (6, .inl 0), (7, .inl 0), (8, .inl 0)]) rfl ?_
      exact V
  · replace V := V.2 c4
    refine rn_aload_n dX1_turn_20 rfl rfl ?_
    refine rn_aload_n dX1_turn_21 rfl rfl ?_
    refine rn_aload_n dX1_turn_22 rfl rfl ?_
    refine rn_cV (M' := mX1_growth) (n := 2) (av := [.inr (.inr (some 1)), .inr (.inr (some r3))]) (S := []) (rc := 0) (rs := 0) (mc := 0) (ms := 0) (a := 56) (ci := 1) (r := (RX1, TX1, 5)) dX1_turn_23 pa_X1_growth (Nat.le_refl _) rfl (Nat.le_of_ble_eq_true rfl) ml_X1_55 im_X1_growth se_X1_growth rfl rfl rfl (Ev.mono V ?_)
    rintro v sh1 h6 ⟨rfl, Rh6, x7, rfl, V⟩
    show Rn G (d + 1) 0 0 mX1_turn 26 [(3, .inr (.inr (some r3))), (0, .inr (.inr (some 56))), (1, .inr (.inr (some 1))), (2, .inl a2)] [.inl x7] SH h6 (QI Q)
    exact rn_iret dX1_turn_26 rfl ⟨rfl, Rh6, _, rfl, V⟩
set_option maxRecDepth 100000 in
set_option maxHeartbeats 4000000 in
theorem vc_X1_valueOf {G : GT} {d : Nat} {a2 : Int32} {a3 : Int32}  {h : Hp} {Q : Int32 → Hp → Prop} (hR : RF h) (V : EvI G d mX11_within [.inl a3, .inl 0, .inl 3] h (fun x2 h1 => ((¬ x2 = 0 → vp_in (a3 + 1) 5 ∧ ∃ r4 : Nat, h1.2.2 57 (Int32.toNatClampNeg (a3 + 1)) = some r4 ∧ SH[r4]? = some (.inl 2) ∧ vp_in a3 5 ∧ ∃ r5 : Nat, h1.2.2 57 (Int32.toNatClampNeg a3) = some r5 ∧ SH[r5]? = some (.inl 2) ∧ EvV G d mX2_copy [.inr (.inr (some r4)), .inr (.inr (some r5))] h1 (fun h6 => EvI G d mX9_hasWord [.inr (.inr (some 1)), .inl a2] h6 (fun x8 h7 => ((x8 = 0 → EvI G d mX1_turn [.inr (.inr (some 56)), .inr (.inr (some 1)), .inl (a3 + 1)] h7 (fun x11 h10 => Q x11 h10)) ∧ (¬ x8 = 0 → EvV G d mX9_begin [.inr (.inr (some 1)), .inr (.inr (some r4)), .inl a2] h7 (fun h12 => EvI G d mX9_tillEnd [.inr (.inr (some 1)), .inr (.inr (some r4))] h12 (fun x14 h13 => EvV G d mX9_pass [.inr (.inr (some 1)), .inr (.inr (some r4)), .inl x14] h13 (fun h15 => EvI G d mX1_turn [.inr (.inr (some 56)), .inr (.inr (some 1)), .inl (a3 + 1)] h15 (fun x17 h16 => Q x17 h16))))))))) ∧ (x2 = 0 → Q 0 h1)))) : EvI G (d + 1) mX1_valueOf [.inr (.inr (some 56)), .inr (.inr (some 1)), .inl a2, .inl a3] h Q := by
  refine Ev.of rfl (fun _ => Nat.le_of_ble_eq_true rfl) ?_
  show Rn G (d + 1) 0 0 mX1_valueOf 0 [(0, .inr (.inr (some 56))), (1, .inr (.inr (some 1))), (2, .inl a2), (3, .inl a3)] [] SH h (QI Q)
  refine rn_iload_n dX1_valueOf_0 rfl rfl ?_
  refine rn_iconst (v := 0) dX1_valueOf_1 (by decide) ?_
  refine rn_iconst (v := 3) dX1_valueOf_2 (by decide) ?_
  refine rn_cSN (M' := mX11_within) (n := 3) (av := [.inl a3, .inl 0, .inl 3]) (S := []) (rc := 0) (rs := 0) (mc := 0) (ms := 0) dX1_valueOf_3 pa_X11_within (Nat.le_refl _) rfl (Nat.le_of_ble_eq_true rfl) ml_X1_84 ss_X11_within rfl (Ev.mono V ?_)
  rintro v sh1 h1 ⟨rfl, Rh1, x2, rfl, V⟩
  show Rn G (d + 1) 0 0 mX1_valueOf 6 [(0, .inr (.inr (some 56))), (1, .inr (.inr (some 1))), (2, .inl a2), (3, .inl a3)] [.inl x2] SH h1 (QI Q)
  refine rn_if_ne (tgt := 11) dX1_valueOf_6 (by decide) (fun c3 => ?_) (fun c3 => ?_)
  · replace V := V.1 c3
    refine rn_aload_n dX1_valueOf_11 rfl rfl ?_
    refine rn_get (v := .inr (.inr (some 57))) dX1_valueOf_12 fl_X1_11 rfl rfl (congrArg (fun z => (Sum.inr (Sum.inr z) : MV)) (rf_56_1 Rh1)) ?_
    refine rn_iload_n dX1_valueOf_15 rfl rfl ?_
    refine rn_iconst (v := 1) dX1_valueOf_16 (by decide) ?_
    refine rn_iadd dX1_valueOf_17 ?_
    obtain ⟨g0, V⟩ := V
    obtain ⟨r4, g, hr4, V⟩ := V
    refine rn_aald2 (k := (Int32.toNatClampNeg (a3 + 1))) dX1_valueOf_18 rfl rfl g0 g ?_
    refine rn_astore (L' := [(4, .inr (.inr (some r4))), (0, .inr (.inr (some 56))), (1, .inr (.inr (some 1))), (2, .inl a2), (3, .inl a3)]) dX1_valueOf_19 (Nat.le_of_ble_eq_true rfl) rfl ?_
    refine rn_aload dX1_valueOf_21 rfl ?_
    refine rn_aload_n dX1_valueOf_23 rfl rfl ?_
    refine rn_get (v := .inr (.inr (some 57))) dX1_valueOf_24 fl_X1_11 rfl rfl (congrArg (fun z => (Sum.inr (Sum.inr z) : MV)) (rf_56_1 Rh1)) ?_
    refine rn_iload_n dX1_valueOf_27 rfl rfl ?_
    obtain ⟨g0, V⟩ := V
    obtain ⟨r5, g, hr5, V⟩ := V
    refine rn_aald2 (k := (Int32.toNatClampNeg a3)) dX1_valueOf_28 rfl rfl g0 g ?_
    refine rn_cV (M' := mX2_copy) (n := 1) (av := [.inr (.inr (some r5))]) (S := []) (rc := 0) (rs := 0) (mc := 0) (ms := 0) (a := r4) (ci := 2) (r := (RX2, TX2, 8)) dX1_valueOf_29 pa_X2_copy (Nat.le_refl _) rfl (Nat.le_of_ble_eq_true rfl) ml_X1_38 im_X2_copy se_X2_copy hr4 rfl rfl (Ev.mono V ?_)
    rintro v sh1 h6 ⟨rfl, Rh6, rfl, V⟩
    show Rn G (d + 1) 0 0 mX1_valueOf 32 [(4, .inr (.inr (some r4))), (0, .inr (.inr (some 56))), (1, .inr (.inr (some 1))), (2, .inl a2), (3, .inl a3)] [] SH h6 (QI Q)
    refine rn_aload_n dX1_valueOf_32 rfl rfl ?_
    refine rn_iload_n dX1_valueOf_33 rfl rfl ?_
    refine rn_cV (M' := mX9_hasWord) (n := 1) (av := [.inl a2]) (S := []) (rc := 0) (rs := 0) (mc := 0) (ms := 0) (a := 1) (ci := 8) (r := (RX9, TX9, 17)) dX1_valueOf_34 pa_X9_hasWord (Nat.le_refl _) rfl (Nat.le_of_ble_eq_true rfl) ml_X1_87 im_X9_hasWord se_X9_hasWord rfl rfl rfl (Ev.mono V ?_)
    rintro v sh1 h7 ⟨rfl, Rh7, x8, rfl, V⟩
    show Rn G (d + 1) 0 0 mX1_valueOf 37 [(4, .inr (.inr (some r4))), (0, .inr (.inr (some 56))), (1, .inr (.inr (some 1))), (2, .inl a2), (3, .inl a3)] [.inl x8] SH h7 (QI Q)
    refine rn_if_eq (tgt := 59) dX1_valueOf_37 (by decide) (fun c9 => ?_) (fun c9 => ?_)
    · replace V := V.1 c9
      refine rn_aload_n dX1_valueOf_59 rfl rfl ?_
      refine rn_aload_n dX1_valueOf_60 rfl rfl ?_
      refine rn_iload_n dX1_valueOf_61 rfl rfl ?_
      refine rn_iconst (v := 1) dX1_valueOf_62 (by decide) ?_
      refine rn_iadd dX1_valueOf_63 ?_
      refine rn_cV (M' := mX1_turn) (n := 2) (av := [.inr (.inr (some 1)), .inl (a3 + 1)]) (S := []) (rc := 0) (rs := 0) (mc := 0) (ms := 0) (a := 56) (ci := 1) (r := (RX1, TX1, 5)) dX1_valueOf_64 pa_X1_turn (Nat.le_refl _) rfl (Nat.le_of_ble_eq_true rfl) ml_X1_51 im_X1_turn se_X1_turn rfl rfl rfl (Ev.mono V ?_)
      rintro v sh1 h10 ⟨rfl, Rh10, x11, rfl, V⟩
      show Rn G (d + 1) 0 0 mX1_valueOf 67 [(4, .inr (.inr (some r4))), (0, .inr (.inr (some 56))), (1, .inr (.inr (some 1))), (2, .inl a2), (3, .inl a3)] [.inl x11] SH h10 (QI Q)
      exact rn_iret dX1_valueOf_67 rfl ⟨rfl, Rh10, _, rfl, V⟩
    · replace V := V.2 c9
      refine rn_aload_n dX1_valueOf_40 rfl rfl ?_
      refine rn_aload dX1_valueOf_41 rfl ?_
      refine rn_iload_n dX1_valueOf_43 rfl rfl ?_
      refine rn_cV (M' := mX9_begin) (n := 2) (av := [.inr (.inr (some r4)), .inl a2]) (S := []) (rc := 0) (rs := 0) (mc := 0) (ms := 0) (a := 1) (ci := 8) (r := (RX9, TX9, 17)) dX1_valueOf_44 pa_X9_begin (Nat.le_refl _) rfl (Nat.le_of_ble_eq_true rfl) ml_X1_91 im_X9_begin se_X9_begin rfl rfl rfl (Ev.mono V ?_)
      rintro v sh1 h12 ⟨rfl, Rh12, rfl, V⟩
      show Rn G (d + 1) 0 0 mX1_valueOf 47 [(4, .inr (.inr (some r4))), (0, .inr (.inr (some 56))), (1, .inr (.inr (some 1))), (2, .inl a2), (3, .inl a3)] [] SH h12 (QI Q)
      refine rn_aload_n dX1_valueOf_47 rfl rfl ?_
      refine rn_aload dX1_valueOf_48 rfl ?_
      refine rn_aload_n dX1_valueOf_50 rfl rfl ?_
      refine rn_aload dX1_valueOf_51 rfl ?_
      refine rn_cV (M' := mX9_tillEnd) (n := 1) (av := [.inr (.inr (some r4))]) (S := [.inr (.inr (some r4)), .inr (.inr (some 1))]) (rc := 0) (rs := 0) (mc := 0) (ms := 0) (a := 1) (ci := 8) (r := (RX9, TX9, 17)) dX1_valueOf_53 pa_X9_tillEnd (Nat.le_refl _) rfl (Nat.le_of_ble_eq_true rfl) ml_X1_95 im_X9_tillEnd se_X9_tillEnd rfl rfl rfl (Ev.mono V ?_)
      rintro v sh1 h13 ⟨rfl, Rh13, x14, rfl, V⟩
      show Rn G (d + 1) 0 0 mX1_valueOf 56 [(4, .inr (.inr (some r4))), (0, .inr (.inr (some 56))), (1, .inr (.inr (some 1))), (2, .inl a2), (3, .inl a3)] [.inl x14, .inr (.inr (some r4)), .inr (.inr (some 1))] SH h13 (QI Q)
      refine rn_cV (M' := mX9_pass) (n := 2) (av := [.inr (.inr (some r4)), .inl x14]) (S := []) (rc := 0) (rs := 0) (mc := 0) (ms := 0) (a := 1) (ci := 8) (r := (RX9, TX9, 17)) dX1_valueOf_56 pa_X9_pass (Nat.le_refl _) rfl (Nat.le_of_ble_eq_true rfl) ml_X1_99 im_X9_pass se_X9_pass rfl rfl rfl (Ev.mono V ?_)
      rintro v sh1 h15 ⟨rfl, Rh15, rfl, V⟩
      show Rn G (d + 1) 0 0 mX1_valueOf 59 [(4, .inr (.inr (some r4))), (0, .inr (.inr (some 56))), (1, .inr (.inr (some 1))), (2, .inl a2), (3, .inl a3)] [] SH h15 (QI Q)
      refine rn_aload_n dX1_valueOf_59 rfl rfl ?_
      refine rn_aload_n dX1_valueOf_60 rfl rfl ?_
      refine rn_iload_n dX1_valueOf_61 rfl rfl ?_
      refine rn_iconst (v := 1) dX1_valueOf_62 (by decide) ?_
      refine rn_iadd dX1_valueOf_63 ?_
      refine rn_cV (M' := mX1_turn) (n := 2) (av := [.inr (.inr (some 1)), .inl (a3 + 1)]) (S := []) (rc := 0) (rs := 0) (mc := 0) (ms := 0) (a := 56) (ci := 1) (r := (RX1, TX1, 5)) dX1_valueOf_64 pa_X1_turn (Nat.le_refl _) rfl (Nat.le_of_ble_eq_true rfl) ml_X1_51 im_X1_turn se_X1_turn rfl rfl rfl (Ev.mono V ?_)
      rintro v sh1 h16 ⟨rfl, Rh16, x17, rfl, V⟩
      show Rn G (d + 1) 0 0 mX1_valueOf 67 [(4, .inr (.inr (some r4))), (0, .inr (.inr (some 56))), (1, .inr (.inr (some 1))), (2, .inl a2), (3, .inl a3)] [.inl x17] SH h16 (QI Q)
      exact rn_iret dX1_valueOf_67 rfl ⟨rfl, Rh16, _, rfl, V⟩
  · replace V := V.2 c3
    refine rn_iconst (v := 0) dX1_valueOf_9 (by decide) ?_
    exact rn_iret dX1_valueOf_10 rfl ⟨rfl, Rh1, _, rfl, V⟩
set_option maxRecDepth 100000 in
set_option maxHeartbeats 4000000 in
theorem vc_X1_isBetter {G : GT} {d : Nat} {a0 : Int32} {a1 : Int32} {a2 : Int32}  {h : Hp} {Q : Int32 → Hp → Prop} (hR : RF h) (V : ((¬ (a2 - a2 / 2 * 2) = 0 → ((a1 ≤ a0 → Q 0 h) ∧ (¬ a1 ≤ a0 → Q 1 h))) ∧ ((a2 - a2 / 2 * 2) = 0 → ((a0 ≤ a1 → Q 0 h) ∧ (¬ a0 ≤ a1 → Q 1 h))))) : EvI G (d + 1) mX1_isBetter [.inl a0, .inl a1, .inl a2] h Q := by
  refine Ev.of rfl (fun _ => Nat.le_of_ble_eq_true rfl) ?_
  show Rn G (d + 1) 0 0 mX1_isBetter 0 [(0, .inl a0), (1, .inl a1), (2, .inl a2)] [] SH h (QI Q)
  refine rn_iload_n dX1_isBetter_0 rfl rfl ?_
  refine rn_iconst (v := 2) dX1_isBetter_1 (by decide) ?_
  refine rn_irem dX1_isBetter_2 (by decide) ?_
  refine rn_if_ne (tgt := 19) dX1_isBetter_3 (by decide) (fun c1 => ?_) (fun c1 => ?_)
  · replace V := V.1 c1
    refine rn_iload_n dX1_isBetter_19 rfl rfl ?_
    refine rn_iload_n dX1_isBetter_20 rfl rfl ?_
    refine rn_icmp_ge (tgt := 28) dX1_isBetter_21 (by decide) (fun c2 => ?_) (fun c2 => ?_)
    · replace V := V.1 c2
      refine rn_iconst (v := 0) dX1_isBetter_28 (by decide) ?_
      exact rn_zret dX1_isBetter_29 rfl (by decide) ⟨rfl, hR, _, rfl, V⟩
    · replace V := V.2 c2
      refine rn_iconst (v := 1) dX1_isBetter_24 (by decide) ?_
      refine rn_goto (tgt := 29) dX1_isBetter_25 (by decide) ?_
      exact rn_zret dX1_isBetter_29 rfl (by decide) ⟨rfl, hR, _, rfl, V⟩
  · replace V := V.2 c1
    refine rn_iload_n dX1_isBetter_6 rfl rfl ?_
    refine rn_iload_n dX1_isBetter_7 rfl rfl ?_
    refine rn_icmp_le (tgt := 15) dX1_isBetter_8 (by decide) (fun c3 => ?_) (fun c3 => ?_)
    · replace V := V.1 c3
      refine rn_iconst (v := 0) dX1_isBetter_15 (by decide) ?_
      refine rn_goto (tgt := 29) dX1_isBetter_16 (by decide) ?_
      exact rn_zret dX1_isBetter_29 rfl (by decide) ⟨rfl, hR, _, rfl, V⟩
    · replace V := V.2 c3
      refine rn_iconst (v := 1) dX1_isBetter_11 (by decide) ?_
      refine rn_goto (tgt := 29) dX1_isBetter_12 (by decide) ?_
      exact rn_zret dX1_isBetter_29 rfl (by decide) ⟨rfl, hR, _, rfl, V⟩
set_option maxRecDepth 100000 in
set_option maxHeartbeats 4000000 in
theorem vc_X1_growth {G : GT} {d : Nat} {a2 : Nat} (ha2 : SH[a2]? = some (.inl 2)) {h : Hp} {Q : Int32 → Hp → Prop} (hR : RF h) (V : EvI G d mX9_hasParty [.inr (.inr (some 1)), .inl (h.1 56 2)] h (fun x2 h1 => ((x2 = 0 → Q 0 h1) ∧ (¬ x2 = 0 → EvI G d mX9_hasParty [.inr (.inr (some 1)), .inl (h1.1 56 3)] h1 (fun x5 h4 => ((¬ x5 = 0 → vp_in (h4.1 56 2) 4 ∧ vp_in (h4.1 56 2) 4 ∧ vp_in (h4.1 56 3) 4 ∧ vp_in (h4.1 56 3) 4 ∧ Q ((h4.1 (a2 + 2) (Int32.toNatClampNeg (h4.1 56 2)) - h4.1 60 (Int32.toNatClampNeg (h4.1 56 2))) - (h4.1 (a2 + 2) (Int32.toNatClampNeg (h4.1 56 3)) - h4.1 60 (Int32.toNatClampNeg (h4.1 56 3)))) h4) ∧ (x5 = 0 → Q 0 h4))))))) : EvI G (d + 1) mX1_growth [.inr (.inr (some 56)), .inr (.inr (some 1)), .inr (.inr (some a2))] h Q := by
  refine Ev.of rfl (fun _ => Nat.le_of_ble_eq_true rfl) ?_
  show Rn G (d + 1) 0 0 mX1_growth 0 [(0, .inr (.inr (some 56))), (1, .inr (.inr (some 1))), (2, .inr (.inr (some a2)))] [] SH h (QI Q)
  refine rn_aload_n dX1_growth_0 rfl rfl ?_
  refine rn_aload_n dX1_growth_1 rfl rfl ?_
  refine rn_get (v := .inl (h.1 56 2)) dX1_growth_2 fl_X1_18 rfl rfl rfl ?_
  refine rn_cV (M' := mX9_hasParty) (n := 1) (av := [.inl (h.1 56 2)]) (S := []) (rc := 0) (rs := 0) (mc := 0) (ms := 0) (a := 1) (ci := 8) (r := (RX9, TX9, 17)) dX1_growth_5 pa_X9_hasParty (Nat.le_refl _) rfl (Nat.le_of_ble_eq_true rfl) ml_X1_102 im_X9_hasParty se_X9_hasParty rfl rfl rfl (Ev.mono V ?_)
  rintro v sh1 h1 ⟨rfl, Rh1, x2, rfl, V⟩
  show Rn G (d + 1) 0 0 mX1_growth 8 [(0, .inr (.inr (some 56))), (1, .inr (.inr (some 1))), (2, .inr (.inr (some a2)))] [.inl x2] SH h1 (QI Q)
  refine rn_if_eq (tgt := 22) dX1_growth_8 (by decide) (fun c3 => ?_) (fun c3 => ?_)
  · replace V := V.1 c3
    refine rn_iconst (v := 0) dX1_growth_22 (by decide) ?_
    exact rn_iret dX1_growth_23 rfl ⟨rfl, Rh1, _, rfl, V⟩
  · replace V := V.2 c3
    refine rn_aload_n dX1_growth_11 rfl rfl ?_
    refine rn_aload_n dX1_growth_12 rfl rfl ?_
    refine rn_get (v := .inl (h1.1 56 3)) dX1_growth_13 fl_X1_22 rfl rfl rfl ?_
    refine rn_cV (M' := mX9_hasParty) (n := 1) (av := [.inl (h1.1 56 3)]) (S := []) (rc := 0) (rs := 0) (mc := 0) (ms := 0) (a := 1) (ci := 8) (r := (RX9, TX9, 17)) dX1_growth_16 pa_X9_hasParty (Nat.le_refl _) rfl (Nat.le_of_ble_eq_true rfl) ml_X1_102 im_X9_hasParty se_X9_hasParty rfl rfl rfl (Ev.mono V ?_)
    rintro v sh1 h4 ⟨rfl, Rh4, x5, rfl, V⟩
    show Rn G (d + 1) 0 0 mX1_growth 19 [(0, .inr (.inr (some 56))), (1, .inr (.inr (some 1))), (2, .inr (.inr (some a2)))] [.inl x5] SH h4 (QI Q)
    refine rn_if_ne (tgt := 24) dX1_growth_19 (by decide) (fun c6 => ?_) (fun c6 => ?_)
    · replace V := V.1 c6
      refine rn_aload_n dX1_growth_24 rfl rfl ?_
      refine rn_get (v := .inr (.inr (some 57))) dX1_growth_25 fl_X1_11 rfl rfl (congrArg (fun z => (Sum.inr (Sum.inr z) : MV)) (rf_56_1 Rh4)) ?_
      refine rn_iconst (v := 0) dX1_growth_28 (by decide) ?_
      refine rn_aald2 (k := 0) dX1_growth_29 rfl (by decide) (by unfold vp_in; decide) (rf_57_0 Rh4) ?_
      refine rn_get (v := .inr (.inr (some 60))) dX1_growth_30 fl_X1_105 rfl rfl (congrArg (fun z => (Sum.inr (Sum.inr z) : MV)) (rf_58_1 Rh4)) ?_
      refine rn_astore_n (L' := [(3, .inr (.inr (some 60))), (0, .inr (.inr (some 56))), (1, .inr (.inr (some 1))), (2, .inr (.inr (some a2)))]) dX1_growth_33 rfl (Nat.le_of_ble_eq_true rfl) rfl ?_
      refine rn_aload_n dX1_growth_34 rfl rfl ?_
      refine rn_get (v := .inr (.inr (some (a2 + 2)))) dX1_growth_35 fl_X1_105 ha2 rfl (congrArg (fun z => (Sum.inr (Sum.inr z) : MV)) (fl_heard Rh4 ha2)) ?_
      refine rn_aload_n dX1_growth_38 rfl rfl ?_
      refine rn_get (v := .inl (h4.1 56 2)) dX1_growth_39 fl_X1_18 rfl rfl rfl ?_
      obtain ⟨g0, V⟩ := V
      refine rn_iald (k := (Int32.toNatClampNeg (h4.1 56 2))) dX1_growth_42 (fl_sh2 ha2) rfl g0 ?_
      refine rn_aload_n dX1_growth_43 rfl rfl ?_
      refine rn_aload_n dX1_growth_44 rfl rfl ?_
      refine rn_get (v := .inl (h4.1 56 2)) dX1_growth_45 fl_X1_18 rfl rfl rfl ?_
      obtain ⟨g0, V⟩ := V
      refine rn_iald (k := (Int32.toNatClampNeg (h4.1 56 2))) dX1_growth_48 rfl rfl g0 ?_
      refine rn_isub dX1_growth_49 ?_
      refine rn_aload_n dX1_growth_50 rfl rfl ?_
      refine rn_get (v := .inr (.inr (some (a2 + 2)))) dX1_growth_51 fl_X1_105 ha2 rfl (congrArg (fun z => (Sum.inr (Sum.inr z) : MV)) (fl_heard Rh4 ha2)) ?_
      refine rn_aload_n dX1_growth_54 rfl rfl ?_
      refine rn_get (v := .inl (h4.1 56 3)) dX1_growth_55 fl_X1_22 rfl rfl rfl ?_
      obtain ⟨g0, V⟩ := V
      refine rn_iald (k := (Int32.toNatClampNeg (h4.1 56 3))) dX1_growth_58 (fl_sh2 ha2) rfl g0 ?_
      refine rn_aload_n dX1_growth_59 rfl rfl ?_
      refine rn_aload_n dX1_growth_60 rfl rfl ?_
      refine rn_get (v := .inl (h4.1 56 3)) dX1_growth_61 fl_X1_22 rfl rfl rfl ?_
      obtain ⟨g0, V⟩ := V
      refine rn_iald (k := (Int32.toNatClampNeg (h4.1 56 3))) dX1_growth_64 rfl rfl g0 ?_
      refine rn_isub dX1_growth_65 ?_
      refine rn_isub dX1_growth_66 ?_
      exact rn_iret dX1_growth_67 rfl ⟨rfl, Rh4, _, rfl, V⟩
    · replace V := V.2 c6
      refine rn_iconst (v := 0) dX1_growth_22 (by decide) ?_
      exact rn_iret dX1_growth_23 rfl ⟨rfl, Rh4, _, rfl, V⟩
def Rg_X7_weigh_47 (G : GT) (d : Nat) (l5 : Int32) (l6 : Int32) (l7 : Int32) (h : Hp) (Q : Hp → Prop) : Prop := Rn G (d + 1) 0 0 mX7_weigh 47 [(0, .inr (.inr (some 78))), (5, .inl l5), (6, .inl l6), (7, .inl l7)] [] SH h (QV Q)
def Rg_X7_weigh_67 (G : GT) (d : Nat) (l5 : Int32) (l6 : Int32) (l7 : Int32) (l8 : Int32) (h : Hp) (Q : Hp → Prop) : Prop := Rn G (d + 1) 0 0 mX7_weigh 67 [(0, .inr (.inr (some 78))), (5, .inl l5), (6, .inl l6), (7, .inl l7), (8, .inl l8)] [] SH h (QV Q)
set_option maxRecDepth 100000 in
set_option maxHeartbeats 4000000 in
theorem vc_X7_weigh_47 {G : GT} {d : Nat} {l5 : Int32} {l6 : Int32} {l7 : Int32}  {h : Hp} {Q : Hp → Prop} (hR : RF h) (V : ((l5 ≤ l7 → Q h) ∧ (¬ l5 ≤ l7 → ((32 ≤ l7 → Q h) ∧ (¬ 32 ≤ l7 → Rg_X7_weigh_67 G d l5 l6 l7 0 h Q))))) : Rg_X7_weigh_47 G d l5 l6 l7 h Q := by
  show Rn G (d + 1) 0 0 mX7_weigh 47 [(0, .inr (.inr (some 78))), (5, .inl l5), (6, .inl l6), (7, .inl l7)] [] SH h (QV Q)
  refine rn_iload dX7_weigh_47 rfl ?_
  refine rn_iload dX7_weigh_49 rfl ?_
  refine rn_icmp_ge (tgt := 152) dX7_weigh_51 (by decide) (fun c5 => ?_) (fun c5 => ?_)
  · replace V := V.1 c5
    exact rn_vret dX7_weigh_152 rfl ⟨rfl, hR, rfl, V⟩
  · replace V := V.2 c5
    refine rn_iload dX7_weigh_54 rfl ?_
    refine rn_aload_n dX7_weigh_56 rfl rfl ?_
    refine rn_get (v := .inr (.inr (some 79))) dX7_weigh_57 fl_X7_9 rfl rfl (congrArg (fun z => (Sum.inr (Sum.inr z) : MV)) (rf_78_2 hR)) ?_
    refine rn_alen (v := 32) dX7_weigh_60 rfl (by decide) (by decide) ?_
    refine rn_icmp_ge (tgt := 152) dX7_weigh_61 (by decide) (fun c6 => ?_) (fun c6 => ?_)
    · replace V := V.1 c6
      exact rn_vret dX7_weigh_152 rfl ⟨rfl, hR, rfl, V⟩
    · replace V := V.2 c6
      refine rn_iconst (v := 0) dX7_weigh_64 (by decide) ?_
      refine rn_istore (L' := [(8, .inl 0), (0, .inr (.inr (some 78))), (5, .inl l5), (6, .inl l6), (7, .inl l7)]) dX7_weigh_65 (Nat.le_of_ble_eq_true rfl) rfl ?_
      refine rn_sub [1, 2, 3, 4, 0] (L' := [(0, .inr (.inr (some 78))), (5, .inl l5), (6, .inl l6), (7, .inl l7), (8, .inl 0)]) rfl ?_
      exact V
set_option maxRecDepth 100000 in
set_option maxHeartbeats 4000000 in
theorem vc_X7_weigh_67 {G : GT} {d : Nat} {l5 : Int32} {l6 : Int32} {l7 : Int32} {l8 : Int32}  {h : Hp} {Q : Hp → Prop} (hR : RF h) (V : ((l6 ≤ l8 → Rg_X7_weigh_47 G d l5 l6 (l7 + 1) h Q) ∧ (¬ l6 ≤ l8 → ((32 ≤ l8 → Rg_X7_weigh_47 G d l5 l6 (l7 + 1) h Q) ∧ (¬ 32 ≤ l8 → vp_in l7 32 ∧ vp_in l8 32 ∧ vp_in l7 32 ∧ vp_in l8 32 ∧ ((h.1 79 (Int32.toNatClampNeg l7) ≤ h.1 81 (Int32.toNatClampNeg l8) → Rg_X7_weigh_67 G d l5 l6 l7 (l8 + 1) (sL h 78 1 (h.2.1 78 1 + (h.2.1 80 (Int32.toNatClampNeg l7) * h.2.1 82 (Int32.toNatClampNeg l8)))) Q) ∧ (¬ h.1 79 (Int32.toNatClampNeg l7) ≤ h.1 81 (Int32.toNatClampNeg l8) → ∀ h10 : Hp, h10 = (sL (sL h 78 1 (h.2.1 78 1 + (h.2.1 80 (Int32.toNatClampNeg l7) * h.2.1 82 (Int32.toNatClampNeg l8)))) 78 0 (h.2.1 78 0 + (h.2.1 80 (Int32.toNatClampNeg l7) * h.2.1 82 (Int32.toNatClampNeg l8)))) → Rg_X7_weigh_67 G d l5 l6 l7 (l8 + 1) h10 Q))))))) : Rg_X7_weigh_67 G d l5 l6 l7 l8 h Q := by
  show Rn G (d + 1) 0 0 mX7_weigh 67 [(0, .inr (.inr (some 78))), (5, .inl l5), (6, .inl l6), (7, .inl l7), (8, .inl l8)] [] SH h (QV Q)
  refine rn_iload dX7_weigh_67 rfl ?_
  refine rn_iload dX7_weigh_69 rfl ?_
  refine rn_icmp_ge (tgt := 146) dX7_weigh_71 (by decide) (fun c7 => ?_) (fun c7 => ?_)
  · replace V := V.1 c7
    refine rn_iinc (L' := [(7, .inl (l7 + 1)), (0, .inr (.inr (some 78))), (5, .inl l5), (6, .inl l6), (8, .inl l8)]) dX7_weigh_146 rfl (v := (l7 + 1)) rfl (Nat.le_of_ble_eq_true rfl) rfl ?_
    refine rn_goto (tgt := 47) dX7_weigh_149 (by decide) ?_
    refine rn_sub [1, 2, 3, 0] (L' := [(0, .inr (.inr (some 78))), (5, .inl l5), (6, .inl l6), (7, .inl (l7 + 1))]) rfl ?_
    exact V
  · replace V := V.2 c7
    refine rn_iload dX7_weigh_74 rfl ?_
    refine rn_aload_n dX7_weigh_76 rfl rfl ?_
    refine rn_get (v := .inr (.inr (some 81))) dX7_weigh_77 fl_X7_19 rfl rfl (congrArg (fun z => (Sum.inr (Sum.inr z) : MV)) (rf_78_4 hR)) ?_
    refine rn_alen (v := 32) dX7_weigh_80 rfl (by decide) (by decide) ?_
    refine rn_icmp_ge (tgt := 146) dX7_weigh_81 (by decide) (fun c8 => ?_) (fun c8 => ?_)
    · replace V := V.1 c8
      refine rn_iinc (L' := [(7, .inl (l7 + 1)), (0, .inr (.inr (some 78))), (5, .inl l5), (6, .inl l6), (8, .inl l8)]) dX7_weigh_146 rfl (v := (l7 + 1)) rfl (Nat.le_of_ble_eq_true rfl) rfl ?_
      refine rn_goto (tgt := 47) dX7_weigh_149 (by decide) ?_
      refine rn_sub [1, 2, 3, 0] (L' := [(0, .inr (.inr (some 78))), (5, .inl l5), (6, .inl l6), (7, .inl (l7 + 1))]) rfl ?_
      exact V
    · replace V := V.2 c8
      refine rn_aload_n dX7_weigh_84 rfl rfl ?_
      refine rn_get (v := .inr (.inr (some 80))) dX7_weigh_85 fl_X7_15 rfl rfl (congrArg (fun z => (Sum.inr (Sum.inr z) : MV)) (rf_78_3 hR)) ?_
      refine rn_iload dX7_weigh_88 rfl ?_
      obtain ⟨g0, V⟩ := V
      refine rn_lald (k := (Int32.toNatClampNeg l7)) dX7_weigh_90 rfl rfl g0 ?_
      refine rn_aload_n dX7_weigh_91 rfl rfl ?_
      refine rn_get (v := .inr (.inr (some 82))) dX7_weigh_92 fl_X7_22 rfl rfl (congrArg (fun z => (Sum.inr (Sum.inr z) : MV)) (rf_78_5 hR)) ?_
      refine rn_iload dX7_weigh_95 rfl ?_
      obtain ⟨g0, V⟩ := V
      refine rn_lald (k := (Int32.toNatClampNeg l8)) dX7_weigh_97 rfl rfl g0 ?_
      refine rn_lmul dX7_weigh_98 ?_
      refine rn_lstore (L' := [(9, .inr (.inl (h.2.1 80 (Int32.toNatClampNeg l7) * h.2.1 82 (Int32.toNatClampNeg l8)))), (0, .inr (.inr (some 78))), (5, .inl l5), (6, .inl l6), (7, .inl l7), (8, .inl l8)]) dX7_weigh_99 (Nat.le_of_ble_eq_true rfl) rfl ?_
      refine rn_aload_n dX7_weigh_101 rfl rfl ?_
      refine rn_dup dX7_weigh_102 rfl ?_
      refine rn_get (v := .inr (.inl (h.2.1 78 1))) dX7_weigh_103 fl_X7_33 rfl rfl rfl ?_
      refine rn_lload dX7_weigh_106 rfl ?_
      refine rn_ladd dX7_weigh_108 ?_
      refine rn_putL dX7_weigh_109 fl_X7_33 rfl rfl (Or.inl rfl) rfl rfl ?_
      refine rn_aload_n dX7_weigh_112 rfl rfl ?_
      refine rn_get (v := .inr (.inr (some 79))) dX7_weigh_113 fl_X7_9 rfl rfl (congrArg (fun z => (Sum.inr (Sum.inr z) : MV)) (rf_78_2 hR)) ?_
      refine rn_iload dX7_weigh_116 rfl ?_
      obtain ⟨g0, V⟩ := V
      refine rn_iald (k := (Int32.toNatClampNeg l7)) dX7_weigh_118 rfl rfl g0 ?_
      refine rn_aload_n dX7_weigh_119 rfl rfl ?_
      refine rn_get (v := .inr (.inr (some 81))) dX7_weigh_120 fl_X7_19 rfl rfl (congrArg (fun z => (Sum.inr (Sum.inr z) : MV)) (rf_78_4 hR)) ?_
      refine rn_iload dX7_weigh_123 rfl ?_
      obtain ⟨g0, V⟩ := V
      refine rn_iald (k := (Int32.toNatClampNeg l8)) dX7_weigh_125 rfl rfl g0 ?_
      refine rn_icmp_le (tgt := 140) dX7_weigh_126 (by decide) (fun c9 => ?_) (fun c9 => ?_)
      · replace V := V.1 c9
        refine rn_iinc (L' := [(8, .inl (l8 + 1)), (9, .inr (.inl (h.2.1 80 (Int32.toNatClampNeg l7) * h.2.1 82 (Int32.toNatClampNeg l8)))), (0, .inr (.inr (some 78))), (5, .inl l5), (6, .inl l6), (7, .inl l7)]) dX7_weigh_140 rfl (v := (l8 + 1)) rfl (Nat.le_of_ble_eq_true rfl) rfl ?_
        refine rn_goto (tgt := 67) dX7_weigh_143 (by decide) ?_
        refine rn_sub [2, 3, 4, 5, 0] (L' := [(0, .inr (.inr (some 78))), (5, .inl l5), (6, .inl l6), (7, .inl l7), (8, .inl (l8 + 1))]) rfl ?_
        exact V
      · replace V := V.2 c9
        refine rn_aload_n dX7_weigh_129 rfl rfl ?_
        refine rn_dup dX7_weigh_130 rfl ?_
        refine rn_get (v := .inr (.inl (h.2.1 78 0))) dX7_weigh_131 fl_X7_29 rfl rfl rfl ?_
        refine rn_lload dX7_weigh_134 rfl ?_
        refine rn_ladd dX7_weigh_136 ?_
        refine rn_putL dX7_weigh_137 fl_X7_29 rfl rfl (Or.inl rfl) rfl rfl ?_
        obtain ⟨h10, eh10⟩ : ∃ z, z = (sL (sL h 78 1 (h.2.1 78 1 + (h.2.1 80 (Int32.toNatClampNeg l7) * h.2.1 82 (Int32.toNatClampNeg l8)))) 78 0 (h.2.1 78 0 + (h.2.1 80 (Int32.toNatClampNeg l7) * h.2.1 82 (Int32.toNatClampNeg l8)))) := ⟨_, rfl⟩
        show Rn G (d + 1) 0 0 mX7_weigh 140 [(9, .inr (.inl (h.2.1 80 (Int32.toNatClampNeg l7) * h.2.1 82 (Int32.toNatClampNeg l8)))), (0, .inr (.inr (some 78))), (5, .inl l5), (6, .inl l6), (7, .inl l7), (8, .inl l8)] [] SH (sL (sL h 78 1 (h.2.1 78 1 + (h.2.1 80 (Int32.toNatClampNeg l7) * h.2.1 82 (Int32.toNatClampNeg l8)))) 78 0 (h.2.1 78 0 + (h.2.1 80 (Int32.toNatClampNeg l7) * h.2.1 82 (Int32.toNatClampNeg l8)))) (QV Q)
        rw [← eh10]
        replace V := V h10 eh10
        have Rh10 : RF h10 := by rw [eh10]; exact hR
        refine rn_iinc (L' := [(8, .inl (l8 + 1)), (9, .inr (.inl (h.2.1 80 (Int32.toNatClampNeg l7) * h.2.1 82 (Int32.toNatClampNeg l8)))), (0, .inr (.inr (some 78))), (5, .inl l5), (6, .inl l6), (7, .inl l7)]) dX7_weigh_140 rfl (v := (l8 + 1)) rfl (Nat.le_of_ble_eq_true rfl) rfl ?_
        refine rn_goto (tgt := 67) dX7_weigh_143 (by decide) ?_
        refine rn_sub [2, 3, 4, 5, 0] (L' := [(0, .inr (.inr (some 78))), (5, .inl l5), (6, .inl l6), (7, .inl l7), (8, .inl (l8 + 1))]) rfl ?_
        exact V
set_option maxRecDepth 100000 in
set_option maxHeartbeats 4000000 in
theorem vc_X7_weigh {G : GT} {d : Nat} {a2 : Int32} {a3 : Int32} {a4 : Int32}  {h : Hp} {Q : Hp → Prop} (hR : RF h) (V : EvI G d mX7_lay [.inr (.inr (some 1)), .inl a2, .inl a4, .inr (.inr (some 79)), .inr (.inr (some 80))] h (fun x2 h1 => EvI G d mX7_lay [.inr (.inr (some 1)), .inl a3, .inl a4, .inr (.inr (some 81)), .inr (.inr (some 82))] h1 (fun x4 h3 => Rg_X7_weigh_47 G d x2 x4 0 (sL (sL h3 78 0 0) 78 1 0) Q))) : EvV G (d + 1) mX7_weigh [.inr (.inr (some 78)), .inr (.inr (some 1)), .inl a2, .inl a3, .inl a4] h Q := by
  refine Ev.of rfl (fun _ => Nat.le_of_ble_eq_true rfl) ?_
  show Rn G (d + 1) 0 0 mX7_weigh 0 [(0, .inr (.inr (some 78))), (1, .inr (.inr (some 1))), (2, .inl a2), (3, .inl a3), (4, .inl a4)] [] SH h (QV Q)
  refine rn_aload_n dX7_weigh_0 rfl rfl ?_
  refine rn_iload_n dX7_weigh_1 rfl rfl ?_
  refine rn_iload dX7_weigh_2 rfl ?_
  refine rn_aload_n dX7_weigh_4 rfl rfl ?_
  refine rn_get (v := .inr (.inr (some 79))) dX7_weigh_5 fl_X7_9 rfl rfl (congrArg (fun z => (Sum.inr (Sum.inr z) : MV)) (rf_78_2 hR)) ?_
  refine rn_aload_n dX7_weigh_8 rfl rfl ?_
  refine rn_get (v := .inr (.inr (some 80))) dX7_weigh_9 fl_X7_15 rfl rfl (congrArg (fun z => (Sum.inr (Sum.inr z) : MV)) (rf_78_3 hR)) ?_
  refine rn_cS (M' := mX7_lay) (n := 5) (av := [.inr (.inr (some 1)), .inl a2, .inl a4, .inr (.inr (some 79)), .inr (.inr (some 80))]) (S := []) (rc := 0) (rs := 0) (mc := 0) (ms := 0) dX7_weigh_12 pa_X7_lay (Nat.le_refl _) rfl (Nat.le_of_ble_eq_true rfl) ml_X7_25 ss_X7_lay rfl (Ev.mono V ?_)
  rintro v sh1 h1 ⟨rfl, Rh1, x2, rfl, V⟩
  show Rn G (d + 1) 0 0 mX7_weigh 15 [(0, .inr (.inr (some 78))), (1, .inr (.inr (some 1))), (2, .inl a2), (3, .inl a3), (4, .inl a4)] [.inl x2] SH h1 (QV Q)
  refine rn_istore (L' := [(5, .inl x2), (0, .inr (.inr (some 78))), (1, .inr (.inr (some 1))), (2, .inl a2), (3, .inl a3), (4, .inl a4)]) dX7_weigh_15 (Nat.le_of_ble_eq_true rfl) rfl ?_
  refine rn_aload_n dX7_weigh_17 rfl rfl ?_
  refine rn_iload_n dX7_weigh_18 rfl rfl ?_
  refine rn_iload dX7_weigh_19 rfl ?_
  refine rn_aload_n dX7_weigh_21 rfl rfl ?_
  refine rn_get (v := .inr (.inr (some 81))) dX7_weigh_22 fl_X7_19 rfl rfl (congrArg (fun z => (Sum.inr (Sum.inr z) : MV)) (rf_78_4 Rh1)) ?_
  refine rn_aload_n dX7_weigh_25 rfl rfl ?_
  refine rn_get (v := .inr (.inr (some 82))) dX7_weigh_26 fl_X7_22 rfl rfl (congrArg (fun z => (Sum.inr (Sum.inr z) : MV)) (rf_78_5 Rh1)) ?_
  refine rn_cS (M' := mX7_lay) (n := 5) (av := [.inr (.inr (some 1)), .inl a3, .inl a4, .inr (.inr (some 81)), .inr (.inr (some 82))]) (S := []) (rc := 0) (rs := 0) (mc := 0) (ms := 0) dX7_weigh_29 pa_X7_lay (Nat.le_refl _) rfl (Nat.le_of_ble_eq_true rfl) ml_X7_25 ss_X7_lay rfl (Ev.mono V ?_)
  rintro v sh1 h3 ⟨rfl, Rh3, x4, rfl, V⟩
  show Rn G (d + 1) 0 0 mX7_weigh 32 [(5, .inl x2), (0, .inr (.inr (some 78))), (1, .inr (.inr (some 1))), (2, .inl a2), (3, .inl a3), (4, .inl a4)] [.inl x4] SH h3 (QV Q)
  refine rn_istore (L' := [(6, .inl x4), (5, .inl x2), (0, .inr (.inr (some 78))), (1, .inr (.inr (some 1))), (2, .inl a2), (3, .inl a3), (4, .inl a4)]) dX7_weigh_32 (Nat.le_of_ble_eq_true rfl) rfl ?_
  refine rn_aload_n dX7_weigh_34 rfl rfl ?_
  refine rn_lconst (v := 0) dX7_weigh_35 rfl ?_
  refine rn_putL dX7_weigh_36 fl_X7_29 rfl rfl (Or.inl rfl) rfl rfl ?_
  refine rn_aload_n dX7_weigh_39 rfl rfl ?_
  refine rn_lconst (v := 0) dX7_weigh_40 rfl ?_
  refine rn_putL dX7_weigh_41 fl_X7_33 rfl rfl (Or.inl rfl) rfl rfl ?_
  refine rn_iconst (v := 0) dX7_weigh_44 (by decide) ?_
  refine rn_istore (L' := [(7, .inl 0), (6, .inl x4), (5, .inl x2), (0, .inr (.inr (some 78))), (1, .inr (.inr (some 1))), (2, .inl a2), (3, .inl a3), (4, .inl a4)]) dX7_weigh_45 (Nat.le_of_ble_eq_true rfl) rfl ?_
  refine rn_sub [3, 2, 1, 0] (L' := [(0, .inr (.inr (some 78))), (5, .inl x2), (6, .inl x4), (7, .inl 0)]) rfl ?_
  exact V
def Rg_X7_laya_18 (G : GT) (d : Nat) (l1 : Int32) (l2 : Int32) (l5 : Int32) (l6 : Int32) (l7 : Int32) (h : Hp) (Q : Int32 → Hp → Prop) : Prop := Rn G (d + 1) 0 0 mX7_lay 18 [(0, .inr (.inr (some 1))), (1, .inl l1), (2, .inl l2), (3, .inr (.inr (some 79))), (4, .inr (.inr (some 80))), (5, .inl l5), (6, .inl l6), (7, .inl l7)] [] SH h (QI Q)
def Rg_X7_laya_74 (G : GT) (d : Nat) (l1 : Int32) (l2 : Int32) (l5 : Int32) (l6 : Int32) (l7 : Int32) (l8 : Int32) (h : Hp) (Q : Int32 → Hp → Prop) : Prop := Rn G (d + 1) 0 0 mX7_lay 74 [(0, .inr (.inr (some 1))), (1, .inl l1), (2, .inl l2), (3, .inr (.inr (some 79))), (4, .inr (.inr (some 80))), (5, .inl l5), (6, .inl l6), (7, .inl l7), (8, .inl l8)] [] SH h (QI Q)
set_option maxRecDepth 100000 in
set_option maxHeartbeats 4000000 in
theorem vc_X7_laya_18 {G : GT} {d : Nat} {l1 : Int32} {l2 : Int32} {l5 : Int32} {l6 : Int32} {l7 : Int32}  {h : Hp} {Q : Int32 → Hp → Prop} (hR : RF h) (V : ((h.1 1 4 ≤ l7 → Q l5 h) ∧ (¬ h.1 1 4 ≤ l7 → ((12 ≤ l7 → Q l5 h) ∧ (¬ 12 ≤ l7 → ((5 ≤ l6 → Q l5 h) ∧ (¬ 5 ≤ l6 → vp_in l7 12 ∧ ((¬ h.1 5 (Int32.toNatClampNeg l7) = l1 → Rg_X7_laya_18 G d l1 l2 l5 l6 (l7 + 1) h Q) ∧ (h.1 5 (Int32.toNatClampNeg l7) = l1 → vp_in l7 12 ∧ ((h.1 12 (Int32.toNatClampNeg l7) = 1 → Rg_X7_laya_74 G d l1 l2 l5 (l6 + 1) l7 0 h Q) ∧ (¬ h.1 12 (Int32.toNatClampNeg l7) = 1 → Rg_X7_laya_18 G d l1 l2 l5 l6 (l7 + 1) h Q))))))))))) : Rg_X7_laya_18 G d l1 l2 l5 l6 l7 h Q := by
  show Rn G (d + 1) 0 0 mX7_lay 18 [(0, .inr (.inr (some 1))), (1, .inl l1), (2, .inl l2), (3, .inr (.inr (some 79))), (4, .inr (.inr (some 80))), (5, .inl l5), (6, .inl l6), (7, .inl l7)] [] SH h (QI Q)
  refine rn_iload dX7_lay_18 rfl ?_
  refine rn_aload_n dX7_lay_20 rfl rfl ?_
  refine rn_get (v := .inl (h.1 1 4)) dX7_lay_21 fl_X7_36 rfl rfl rfl ?_
  refine rn_icmp_ge (tgt := 157) dX7_lay_24 (by decide) (fun c1 => ?_) (fun c1 => ?_)
  · replace V := V.1 c1
    refine rn_iload dX7_lay_157 rfl ?_
    exact rn_iret dX7_lay_159 rfl ⟨rfl, hR, _, rfl, V⟩
  · replace V := V.2 c1
    refine rn_iload dX7_lay_27 rfl ?_
    refine rn_bipush (v := 12) dX7_lay_29 (by decide) ?_
    refine rn_icmp_ge (tgt := 157) dX7_lay_31 (by decide) (fun c2 => ?_) (fun c2 => ?_)
    · replace V := V.1 c2
      refine rn_iload dX7_lay_157 rfl ?_
      exact rn_iret dX7_lay_159 rfl ⟨rfl, hR, _, rfl, V⟩
    · replace V := V.2 c2
      refine rn_iload dX7_lay_34 rfl ?_
      refine rn_iconst (v := 5) dX7_lay_36 (by decide) ?_
      refine rn_icmp_ge (tgt := 157) dX7_lay_37 (by decide) (fun c3 => ?_) (fun c3 => ?_)
      · replace V := V.1 c3
        refine rn_iload dX7_lay_157 rfl ?_
        exact rn_iret dX7_lay_159 rfl ⟨rfl, hR, _, rfl, V⟩
      · replace V := V.2 c3
        refine rn_aload_n dX7_lay_40 rfl rfl ?_
        refine rn_get (v := .inr (.inr (some 5))) dX7_lay_41 fl_X7_42 rfl rfl (congrArg (fun z => (Sum.inr (Sum.inr z) : MV)) (rf_1_5 hR)) ?_
        refine rn_iload dX7_lay_44 rfl ?_
        obtain ⟨g0, V⟩ := V
        refine rn_iald (k := (Int32.toNatClampNeg l7)) dX7_lay_46 rfl rfl g0 ?_
        refine rn_iload_n dX7_lay_47 rfl rfl ?_
        refine rn_icmp_ne (tgt := 151) dX7_lay_48 (by decide) (fun c4 => ?_) (fun c4 => ?_)
        · replace V := V.1 c4
          refine rn_iinc (L' := [(7, .inl (l7 + 1)), (0, .inr (.inr (some 1))), (1, .inl l1), (2, .inl l2), (3, .inr (.inr (some 79))), (4, .inr (.inr (some 80))), (5, .inl l5), (6, .inl l6)]) dX7_lay_151 rfl (v := (l7 + 1)) rfl (Nat.le_of_ble_eq_true rfl) rfl ?_
          refine rn_goto (tgt := 18) dX7_lay_154 (by decide) ?_
          refine rn_sub [1, 2, 3, 4, 5, 6, 7, 0] (L' := [(0, .inr (.inr (some 1))), (1, .inl l1), (2, .inl l2), (3, .inr (.inr (some 79))), (4, .inr (.inr (some 80))), (5, .inl l5), (6, .inl l6), (7, .inl (l7 + 1))]) rfl ?_
          exact V
        · replace V := V.2 c4
          refine rn_aload_n dX7_lay_51 rfl rfl ?_
          refine rn_get (v := .inr (.inr (some 9))) dX7_lay_52 fl_X7_45 rfl rfl (congrArg (fun z => (Sum.inr (Sum.inr z) : MV)) (rf_1_9 hR)) ?_
          refine rn_get (v := .inr (.inr (some 12))) dX7_lay_55 fl_X7_49 rfl rfl (congrArg (fun z => (Sum.inr (Sum.inr z) : MV)) (rf_9_2 hR)) ?_
          refine rn_iload dX7_lay_58 rfl ?_
          obtain ⟨g0, V⟩ := V
          refine rn_iald (k := (Int32.toNatClampNeg l7)) dX7_lay_60 rfl rfl g0 ?_
          refine rn_iconst (v := 1) dX7_lay_61 (by decide) ?_
          refine rn_icmp_eq (tgt := 68) dX7_lay_62 (by decide) (fun c5 => ?_) (fun c5 => ?_)
          · replace V := V.1 c5
            refine rn_iinc (L' := [(6, .inl (l6 + 1)), (0, .inr (.inr (some 1))), (1, .inl l1), (2, .inl l2), (3, .inr (.inr (some 79))), (4, .inr (.inr (some 80))), (5, .inl l5), (7, .inl l7)]) dX7_lay_68 rfl (v := (l6 + 1)) rfl (Nat.le_of_ble_eq_true rfl) rfl ?_
            refine rn_iconst (v := 0) dX7_lay_71 (by decide) ?_
            refine rn_istore (L' := [(8, .inl 0), (6, .inl (l6 + 1)), (0, .inr (.inr (some 1))), (1, .inl l1), (2, .inl l2), (3, .inr (.inr (some 79))), (4, .inr (.inr (some 80))), (5, .inl l5), (7, .inl l7)]) dX7_lay_72 (Nat.le_of_ble_eq_true rfl) rfl ?_
            refine rn_sub [2, 3, 4, 5, 6, 7, 1, 8, 0] (L' := [(0, .inr (.inr (some 1))), (1, .inl l1), (2, .inl l2), (3, .inr (.inr (some 79))), (4, .inr (.inr (some 80))), (5, .inl l5), (6, .inl (l6 + 1)), (7, .inl l7), (8, .inl 0)]) rfl ?_
            exact V
          · replace V := V.2 c5
            refine rn_goto (tgt := 151) dX7_lay_65 (by decide) ?_
            refine rn_iinc (L' := [(7, .inl (l7 + 1)), (0, .inr (.inr (some 1))), (1, .inl l1), (2, .inl l2), (3, .inr (.inr (some 79))), (4, .inr (.inr (some 80))), (5, .inl l5), (6, .inl l6)]) dX7_lay_151 rfl (v := (l7 + 1)) rfl (Nat.le_of_ble_eq_true rfl) rfl ?_
            refine rn_goto (tgt := 18) dX7_lay_154 (by decide) ?_
            refine rn_sub [1, 2, 3, 4, 5, 6, 7, 0] (L' := [(0, .inr (.inr (some 1))), (1, .inl l1), (2, .inl l2), (3, .inr (.inr (some 79))), (4, .inr (.inr (some 80))), (5, .inl l5), (6, .inl l6), (7, .inl (l7 + 1))]) rfl ?_
            exact V
set_option maxRecDepth 100000 in
set_option maxHeartbeats 4000000 in
theorem vc_X7_laya_74 {G : GT} {d : Nat} {l1 : Int32} {l2 : Int32} {l5 : Int32} {l6 : Int32} {l7 : Int32} {l8 : Int32}  {h : Hp} {Q : Int32 → Hp → Prop} (hR : RF h) (V : ((l5 ≤ l8 → Rg_X7_laya_18 G d l1 l2 (l5 * 2) l6 (l7 + 1) h Q) ∧ (¬ l5 ≤ l8 → ((32 ≤ (l5 + l8) → Rg_X7_laya_18 G d l1 l2 (l5 * 2) l6 (l7 + 1) h Q) ∧ (¬ 32 ≤ (l5 + l8) → vp_in l8 32 ∧ vp_in l7 12 ∧ vp_in (l5 + l8) 32 ∧ vp_in l8 32 ∧ vp_in (l5 + l8) 32 ∧ ∀ h8 : Hp, h8 = (sL (sI h 79 (Int32.toNatClampNeg (l5 + l8)) (h.1 79 (Int32.toNatClampNeg l8) + h.1 7 (Int32.toNatClampNeg l7))) 80 (Int32.toNatClampNeg (l5 + l8)) (h.2.1 80 (Int32.toNatClampNeg l8) * (Int32.toInt64 l2))) → vp_in l8 32 ∧ vp_in l8 32 ∧ Rg_X7_laya_74 G d l1 l2 l5 l6 l7 (l8 + 1) (sL h8 80 (Int32.toNatClampNeg l8) (h8.2.1 80 (Int32.toNatClampNeg l8) * (Int32.toInt64 (16 - l2)))) Q))))) : Rg_X7_laya_74 G d l1 l2 l5 l6 l7 l8 h Q := by
  show Rn G (d + 1) 0 0 mX7_lay 74 [(0, .inr (.inr (some 1))), (1, .inl l1), (2, .inl l2), (3, .inr (.inr (some 79))), (4, .inr (.inr (some 80))), (5, .inl l5), (6, .inl l6), (7, .inl l7), (8, .inl l8)] [] SH h (QI Q)
  refine rn_iload dX7_lay_74 rfl ?_
  refine rn_iload dX7_lay_76 rfl ?_
  refine rn_icmp_ge (tgt := 145) dX7_lay_78 (by decide) (fun c6 => ?_) (fun c6 => ?_)
  · replace V := V.1 c6
    refine rn_iload dX7_lay_145 rfl ?_
    refine rn_iconst (v := 2) dX7_lay_147 (by decide) ?_
    refine rn_imul dX7_lay_148 ?_
    refine rn_istore (L' := [(5, .inl (l5 * 2)), (0, .inr (.inr (some 1))), (1, .inl l1), (2, .inl l2), (3, .inr (.inr (some 79))), (4, .inr (.inr (some 80))), (6, .inl l6), (7, .inl l7), (8, .inl l8)]) dX7_lay_149 (Nat.le_of_ble_eq_true rfl) rfl ?_
    refine rn_iinc (L' := [(7, .inl (l7 + 1)), (5, .inl (l5 * 2)), (0, .inr (.inr (some 1))), (1, .inl l1), (2, .inl l2), (3, .inr (.inr (some 79))), (4, .inr (.inr (some 80))), (6, .inl l6), (8, .inl l8)]) dX7_lay_151 rfl (v := (l7 + 1)) rfl (Nat.le_of_ble_eq_true rfl) rfl ?_
    refine rn_goto (tgt := 18) dX7_lay_154 (by decide) ?_
    refine rn_sub [2, 3, 4, 5, 6, 1, 7, 0] (L' := [(0, .inr (.inr (some 1))), (1, .inl l1), (2, .inl l2), (3, .inr (.inr (some 79))), (4, .inr (.inr (some 80))), (5, .inl (l5 * 2)), (6, .inl l6), (7, .inl (l7 + 1))]) rfl ?_
    exact V
  · replace V := V.2 c6
    refine rn_iload dX7_lay_81 rfl ?_
    refine rn_iload dX7_lay_83 rfl ?_
    refine rn_iadd dX7_lay_85 ?_
    refine rn_aload_n dX7_lay_86 rfl rfl ?_
    refine rn_alen (v := 32) dX7_lay_87 rfl (by decide) (by decide) ?_
    refine rn_icmp_ge (tgt := 145) dX7_lay_88 (by decide) (fun c7 => ?_) (fun c7 => ?_)
    · replace V := V.1 c7
      refine rn_iload dX7_lay_145 rfl ?_
      refine rn_iconst (v := 2) dX7_lay_147 (by decide) ?_
      refine rn_imul dX7_lay_148 ?_
      refine rn_istore (L' := [(5, .inl (l5 * 2)), (0, .inr (.inr (some 1))), (1, .inl l1), (2, .inl l2), (3, .inr (.inr (some 79))), (4, .inr (.inr (some 80))), (6, .inl l6), (7, .inl l7), (8, .inl l8)]) dX7_lay_149 (Nat.le_of_ble_eq_true rfl) rfl ?_
      refine rn_iinc (L' := [(7, .inl (l7 + 1)), (5, .inl (l5 * 2)), (0, .inr (.inr (some 1))), (1, .inl l1), (2, .inl l2), (3, .inr (.inr (some 79))), (4, .inr (.inr (some 80))), (6, .inl l6), (8, .inl l8)]) dX7_lay_151 rfl (v := (l7 + 1)) rfl (Nat.le_of_ble_eq_true rfl) rfl ?_
      refine rn_goto (tgt := 18) dX7_lay_154 (by decide) ?_
      refine rn_sub [2, 3, 4, 5, 6, 1, 7, 0] (L' := [(0, .inr (.inr (some 1))), (1, .inl l1), (2, .inl l2), (3, .inr (.inr (some 79))), (4, .inr (.inr (some 80))), (5, .inl (l5 * 2)), (6, .inl l6), (7, .inl (l7 + 1))]) rfl ?_
      exact V
    · replace V := V.2 c7
      refine rn_aload_n dX7_lay_91 rfl rfl ?_
      refine rn_iload dX7_lay_92 rfl ?_
      refine rn_iload dX7_lay_94 rfl ?_
      refine rn_iadd dX7_lay_96 ?_
      refine rn_aload_n dX7_lay_97 rfl rfl ?_
      refine rn_iload dX7_lay_98 rfl ?_
      obtain ⟨g0, V⟩ := V
      refine rn_iald (k := (Int32.toNatClampNeg l8)) dX7_lay_100 rfl rfl g0 ?_
      refine rn_aload_n dX7_lay_101 rfl rfl ?_
      refine rn_get (v := .inr (.inr (some 7))) dX7_lay_102 fl_X7_54 rfl rfl (congrArg (fun z => (Sum.inr (Sum.inr z) : MV)) (rf_1_7 hR)) ?_
      refine rn_iload dX7_lay_105 rfl ?_
      obtain ⟨g0, V⟩ := V
      refine rn_iald (k := (Int32.toNatClampNeg l7)) dX7_lay_107 rfl rfl g0 ?_
      refine rn_iadd dX7_lay_108 ?_
      obtain ⟨g0, V⟩ := V
      refine rn_iast (k := (Int32.toNatClampNeg (l5 + l8))) dX7_lay_109 rfl rfl g0 ?_
      refine rn_aload dX7_lay_110 rfl ?_
      refine rn_iload dX7_lay_112 rfl ?_
      refine rn_iload dX7_lay_114 rfl ?_
      refine rn_iadd dX7_lay_116 ?_
      refine rn_aload dX7_lay_117 rfl ?_
      refine rn_iload dX7_lay_119 rfl ?_
      obtain ⟨g0, V⟩ := V
      refine rn_lald (k := (Int32.toNatClampNeg l8)) dX7_lay_121 rfl rfl g0 ?_
      refine rn_iload_n dX7_lay_122 rfl rfl ?_
      refine rn_i2l dX7_lay_123 ?_
      refine rn_lmul dX7_lay_124 ?_
      obtain ⟨g0, V⟩ := V
      refine rn_last (k := (Int32.toNatClampNeg (l5 + l8))) dX7_lay_125 rfl rfl g0 ?_
      obtain ⟨h8, eh8⟩ : ∃ z, z = (sL (sI h 79 (Int32.toNatClampNeg (l5 + l8)) (h.1 79 (Int32.toNatClampNeg l8) + h.1 7 (Int32.toNatClampNeg l7))) 80 (Int32.toNatClampNeg (l5 + l8)) (h.2.1 80 (Int32.toNatClampNeg l8) * (Int32.toInt64 l2))) := ⟨_, rfl⟩
      show Rn G (d + 1) 0 0 mX7_lay 126 [(0, .inr (.inr (some 1))), (1, .inl l1), (2, .inl l2), (3, .inr (.inr (some 79))), (4, .inr (.inr (some 80))), (5, .inl l5), (6, .inl l6), (7, .inl l7), (8, .inl l8)] [] SH (sL (sI h 79 (Int32.toNatClampNeg (l5 + l8)) (h.1 79 (Int32.toNatClampNeg l8) + h.1 7 (Int32.toNatClampNeg l7))) 80 (Int32.toNatClampNeg (l5 + l8)) (h.2.1 80 (Int32.toNatClampNeg l8) * (Int32.toInt64 l2))) (QI Q)
      rw [← eh8]
      replace V := V h8 eh8
      have Rh8 : RF h8 := by rw [eh8]; exact hR
      refine rn_aload dX7_lay_126 rfl ?_
      refine rn_iload dX7_lay_128 rfl ?_
      refine rn_dup2 dX7_lay_130 rfl rfl ?_
      obtain ⟨g0, V⟩ := V
      refine rn_lald (k := (Int32.toNatClampNeg l8)) dX7_lay_131 rfl rfl g0 ?_
      refine rn_bipush (v := 16) dX7_lay_132 (by decide) ?_
      refine rn_iload_n dX7_lay_134 rfl rfl ?_
      refine rn_isub dX7_lay_135 ?_
      refine rn_i2l dX7_lay_136 ?_
      refine rn_lmul dX7_lay_137 ?_
      obtain ⟨g0, V⟩ := V
      refine rn_last (k := (Int32.toNatClampNeg l8)) dX7_lay_138 rfl rfl g0 ?_
      refine rn_iinc (L' := [(8, .inl (l8 + 1)), (0, .inr (.inr (some 1))), (1, .inl l1), (2, .inl l2), (3, .inr (.inr (some 79))), (4, .inr (.inr (some 80))), (5, .inl l5), (6, .inl l6), (7, .inl l7)]) dX7_lay_139 rfl (v := (l8 + 1)) rfl (Nat.le_of_ble_eq_true rfl) rfl ?_
      refine rn_goto (tgt := 74) dX7_lay_142 (by decide) ?_
      refine rn_sub [1, 2, 3, 4, 5, 6, 7, 8, 0] (L' := [(0, .inr (.inr (some 1))), (1, .inl l1), (2, .inl l2), (3, .inr (.inr (some 79))), (4, .inr (.inr (some 80))), (5, .inl l5), (6, .inl l6), (7, .inl l7), (8, .inl (l8 + 1))]) rfl ?_
      exact V
set_option maxRecDepth 100000 in
set_option maxHeartbeats 4000000 in
theorem vc_X7_laya {G : GT} {d : Nat} {a1 : Int32} {a2 : Int32}  {h : Hp} {Q : Int32 → Hp → Prop} (hR : RF h) (V : Rg_X7_laya_18 G d a1 a2 1 0 0 (sL (sI h 79 0 0) 80 0 1) Q) : EvI G (d + 1) mX7_lay [.inr (.inr (some 1)), .inl a1, .inl a2, .inr (.inr (some 79)), .inr (.inr (some 80))] h Q := by
  refine Ev.of rfl (fun _ => Nat.le_of_ble_eq_true rfl) ?_
  show Rn G (d + 1) 0 0 mX7_lay 0 [(0, .inr (.inr (some 1))), (1, .inl a1), (2, .inl a2), (3, .inr (.inr (some 79))), (4, .inr (.inr (some 80)))] [] SH h (QI Q)
  refine rn_aload_n dX7_lay_0 rfl rfl ?_
  refine rn_iconst (v := 0) dX7_lay_1 (by decide) ?_
  refine rn_iconst (v := 0) dX7_lay_2 (by decide) ?_
  refine rn_iast (k := 0) dX7_lay_3 rfl (by decide) (by unfold vp_in; decide) ?_
  refine rn_aload dX7_lay_4 rfl ?_
  refine rn_iconst (v := 0) dX7_lay_6 (by decide) ?_
  refine rn_lconst (v := 1) dX7_lay_7 rfl ?_
  refine rn_last (k := 0) dX7_lay_8 rfl (by decide) (by unfold vp_in; decide) ?_
  refine rn_iconst (v := 1) dX7_lay_9 (by decide) ?_
  refine rn_istore (L' := [(5, .inl 1), (0, .inr (.inr (some 1))), (1, .inl a1), (2, .inl a2), (3, .inr (.inr (some 79))), (4, .inr (.inr (some 80)))]) dX7_lay_10 (Nat.le_of_ble_eq_true rfl) rfl ?_
  refine rn_iconst (v := 0) dX7_lay_12 (by decide) ?_
  refine rn_istore (L' := [(6, .inl 0), (5, .inl 1), (0, .inr (.inr (some 1))), (1, .inl a1), (2, .inl a2), (3, .inr (.inr (some 79))), (4, .inr (.inr (some 80)))]) dX7_lay_13 (Nat.le_of_ble_eq_true rfl) rfl ?_
  refine rn_iconst (v := 0) dX7_lay_15 (by decide) ?_
  refine rn_istore (L' := [(7, .inl 0), (6, .inl 0), (5, .inl 1), (0, .inr (.inr (some 1))), (1, .inl a1), (2, .inl a2), (3, .inr (.inr (some 79))), (4, .inr (.inr (some 80)))]) dX7_lay_16 (Nat.le_of_ble_eq_true rfl) rfl ?_
  refine rn_sub [3, 4, 5, 6, 7, 2, 1, 0] (L' := [(0, .inr (.inr (some 1))), (1, .inl a1), (2, .inl a2), (3, .inr (.inr (some 79))), (4, .inr (.inr (some 80))), (5, .inl 1), (6, .inl 0), (7, .inl 0)]) rfl ?_
  exact V
def Rg_X7_layb_18 (G : GT) (d : Nat) (l1 : Int32) (l2 : Int32) (l5 : Int32) (l6 : Int32) (l7 : Int32) (h : Hp) (Q : Int32 → Hp → Prop) : Prop := Rn G (d + 1) 0 0 mX7_lay 18 [(0, .inr (.inr (some 1))), (1, .inl l1), (2, .inl l2), (3, .inr (.inr (some 81))), (4, .inr (.inr (some 82))), (5, .inl l5), (6, .inl l6), (7, .inl l7)] [] SH h (QI Q)
def Rg_X7_layb_74 (G : GT) (d : Nat) (l1 : Int32) (l2 : Int32) (l5 : Int32) (l6 : Int32) (l7 : Int32) (l8 : Int32) (h : Hp) (Q : Int32 → Hp → Prop) : Prop := Rn G (d + 1) 0 0 mX7_lay 74 [(0, .inr (.inr (some 1))), (1, .inl l1), (2, .inl l2), (3, .inr (.inr (some 81))), (4, .inr (.inr (some 82))), (5, .inl l5), (6, .inl l6), (7, .inl l7), (8, .inl l8)] [] SH h (QI Q)
set_option maxRecDepth 100000 in
set_option maxHeartbeats 4000000 in
theorem vc_X7_layb_18 {G : GT} {d : Nat} {l1 : Int32} {l2 : Int32} {l5 : Int32} {l6 : Int32} {l7 : Int32}  {h : Hp} {Q : Int32 → Hp → Prop} (hR : RF h) (V : ((h.1 1 4 ≤ l7 → Q l5 h) ∧ (¬ h.1 1 4 ≤ l7 → ((12 ≤ l7 → Q l5 h) ∧ (¬ 12 ≤ l7 → ((5 ≤ l6 → Q l5 h) ∧ (¬ 5 ≤ l6 → vp_in l7 12 ∧ ((¬ h.1 5 (Int32.toNatClampNeg l7) = l1 → Rg_X7_layb_18 G d l1 l2 l5 l6 (l7 + 1) h Q) ∧ (h.1 5 (Int32.toNatClampNeg l7) = l1 → vp_in l7 12 ∧ ((h.1 12 (Int32.toNatClampNeg l7) = 1 → Rg_X7_layb_74 G d l1 l2 l5 (l6 + 1) l7 0 h Q) ∧ (¬ h.1 12 (Int32.toNatClampNeg l7) = 1 → Rg_X7_layb_18 G d l1 l2 l5 l6 (l7 + 1) h Q))))))))))) : Rg_X7_layb_18 G d l1 l2 l5 l6 l7 h Q := by
  show Rn G (d + 1) 0 0 mX7_lay 18 [(0, .inr (.inr (some 1))), (1, .inl l1), (2, .inl l2), (3, .inr (.inr (some 81))), (4, .inr (.inr (some 82))), (5, .inl l5), (6, .inl l6), (7, .inl l7)] [] SH h (QI Q)
  refine rn_iload dX7_lay_18 rfl ?_
  refine rn_aload_n dX7_lay_20 rfl rfl ?_
  refine rn_get (v := .inl (h.1 1 4)) dX7_lay_21 fl_X7_36 rfl rfl rfl ?_
  refine rn_icmp_ge (tgt := 157) dX7_lay_24 (by decide) (fun c1 => ?_) (fun c1 => ?_)
  · replace V := V.1 c1
    refine rn_iload dX7_lay_157 rfl ?_
    exact rn_iret dX7_lay_159 rfl ⟨rfl, hR, _, rfl, V⟩
  · replace V := V.2 c1
    refine rn_iload dX7_lay_27 rfl ?_
    refine rn_bipush (v := 12) dX7_lay_29 (by decide) ?_
    refine rn_icmp_ge (tgt := 157) dX7_lay_31 (by decide) (fun c2 => ?_) (fun c2 => ?_)
    · replace V := V.1 c2
      refine rn_iload dX7_lay_157 rfl ?_
      exact rn_iret dX7_lay_159 rfl ⟨rfl, hR, _, rfl, V⟩
    · replace V := V.2 c2
      refine rn_iload dX7_lay_34 rfl ?_
      refine rn_iconst (v := 5) dX7_lay_36 (by decide) ?_
      refine rn_icmp_ge (tgt := 157) dX7_lay_37 (by decide) (fun c3 => ?_) (fun c3 => ?_)
      · replace V := V.1 c3
        refine rn_iload dX7_lay_157 rfl ?_
        exact rn_iret dX7_lay_159 rfl ⟨rfl, hR, _, rfl, V⟩
      · replace V := V.2 c3
        refine rn_aload_n dX7_lay_40 rfl rfl ?_
        refine rn_get (v := .inr (.inr (some 5))) dX7_lay_41 fl_X7_42 rfl rfl (congrArg (fun z => (Sum.inr (Sum.inr z) : MV)) (rf_1_5 hR)) ?_
        refine rn_iload dX7_lay_44 rfl ?_
        obtain ⟨g0, V⟩ := V
        refine rn_iald (k := (Int32.toNatClampNeg l7)) dX7_lay_46 rfl rfl g0 ?_
        refine rn_iload_n dX7_lay_47 rfl rfl ?_
        refine rn_icmp_ne (tgt := 151) dX7_lay_48 (by decide) (fun c4 => ?_) (fun c4 => ?_)
        · replace V := V.1 c4
          refine rn_iinc (L' := [(7, .inl (l7 + 1)), (0, .inr (.inr (some 1))), (1, .inl l1), (2, .inl l2), (3, .inr (.inr (some 81))), (4, .inr (.inr (some 82))), (5, .inl l5), (6, .inl l6)]) dX7_lay_151 rfl (v := (l7 + 1)) rfl (Nat.le_of_ble_eq_true rfl) rfl ?_
          refine rn_goto (tgt := 18) dX7_lay_154 (by decide) ?_
          refine rn_sub [1, 2, 3, 4, 5, 6, 7, 0] (L' := [(0, .inr (.inr (some 1))), (1, .inl l1), (2, .inl l2), (3, .inr (.inr (some 81))), (4, .inr (.inr (some 82))), (5, .inl l5), (6, .inl l6), (7, .inl (l7 + 1))]) rfl ?_
          exact V
        · replace V := V.2 c4
          refine rn_aload_n dX7_lay_51 rfl rfl ?_
          refine rn_get (v := .inr (.inr (some 9))) dX7_lay_52 fl_X7_45 rfl rfl (congrArg (fun z => (Sum.inr (Sum.inr z) : MV)) (rf_1_9 hR)) ?_
          refine rn_get (v := .inr (.inr (some 12))) dX7_lay_55 fl_X7_49 rfl rfl (congrArg (fun z => (Sum.inr (Sum.inr z) : MV)) (rf_9_2 hR)) ?_
          refine rn_iload dX7_lay_58 rfl ?_
          obtain ⟨g0, V⟩ := V
          refine rn_iald (k := (Int32.toNatClampNeg l7)) dX7_lay_60 rfl rfl g0 ?_
          refine rn_iconst (v := 1) dX7_lay_61 (by decide) ?_
          refine rn_icmp_eq (tgt := 68) dX7_lay_62 (by decide) (fun c5 => ?_) (fun c5 => ?_)
          · replace V := V.1 c5
            refine rn_iinc (L' := [(6, .inl (l6 + 1)), (0, .inr (.inr (some 1))), (1, .inl l1), (2, .inl l2), (3, .inr (.inr (some 81))), (4, .inr (.inr (some 82))), (5, .inl l5), (7, .inl l7)]) dX7_lay_68 rfl (v := (l6 + 1)) rfl (Nat.le_of_ble_eq_true rfl) rfl ?_
            refine rn_iconst (v := 0) dX7_lay_71 (by decide) ?_
            refine rn_istore (L' := [(8, .inl 0), (6, .inl (l6 + 1)), (0, .inr (.inr (some 1))), (1, .inl l1), (2, .inl l2), (3, .inr (.inr (some 81))), (4, .inr (.inr (some 82))), (5, .inl l5), (7, .inl l7)]) dX7_lay_72 (Nat.le_of_ble_eq_true rfl) rfl ?_
            refine rn_sub [2, 3, 4, 5, 6, 7, 1, 8, 0] (L' := [(0, .inr (.inr (some 1))), (1, .inl l1), (2, .inl l2), (3, .inr (.inr (some 81))), (4, .inr (.inr (some 82))), (5, .inl l5), (6, .inl (l6 + 1)), (7, .inl l7), (8, .inl 0)]) rfl ?_
            exact V
          · replace V := V.2 c5
            refine rn_goto (tgt := 151) dX7_lay_65 (by decide) ?_
            refine rn_iinc (L' := [(7, .inl (l7 + 1)), (0, .inr (.inr (some 1))), (1, .inl l1), (2, .inl l2), (3, .inr (.inr (some 81))), (4, .inr (.inr (some 82))), (5, .inl l5), (6, .inl l6)]) dX7_lay_151 rfl (v := (l7 + 1)) rfl (Nat.le_of_ble_eq_true rfl) rfl ?_
            refine rn_goto (tgt := 18) dX7_lay_154 (by decide) ?_
            refine rn_sub [1, 2, 3, 4, 5, 6, 7, 0] (L' := [(0, .inr (.inr (some 1))), (1, .inl l1), (2, .inl l2), (3, .inr (.inr (some 81))), (4, .inr (.inr (some 82))), (5, .inl l5), (6, .inl l6), (7, .inl (l7 + 1))]) rfl ?_
            exact V
set_option maxRecDepth 100000 in
set_option maxHeartbeats 4000000 in
theorem vc_X7_layb_74 {G : GT} {d : Nat} {l1 : Int32} {l2 : Int32} {l5 : Int32} {l6 : Int32} {l7 : Int32} {l8 : Int32}  {h : Hp} {Q : Int32 → Hp → Prop} (hR : RF h) (V : ((l5 ≤ l8 → Rg_X7_layb_18 G d l1 l2 (l5 * 2) l6 (l7 + 1) h Q) ∧ (¬ l5 ≤ l8 → ((32 ≤ (l5 + l8) → Rg_X7_layb_18 G d l1 l2 (l5 * 2) l6 (l7 + 1) h Q) ∧ (¬ 32 ≤ (l5 + l8) → vp_in l8 32 ∧ vp_in l7 12 ∧ vp_in (l5 + l8) 32 ∧ vp_in l8 32 ∧ vp_in (l5 + l8) 32 ∧ ∀ h8 : Hp, h8 = (sL (sI h 81 (Int32.toNatClampNeg (l5 + l8)) (h.1 81 (Int32.toNatClampNeg l8) + h.1 7 (Int32.toNatClampNeg l7))) 82 (Int32.toNatClampNeg (l5 + l8)) (h.2.1 82 (Int32.toNatClampNeg l8) * (Int32.toInt64 l2))) → vp_in l8 32 ∧ vp_in l8 32 ∧ Rg_X7_layb_74 G d l1 l2 l5 l6 l7 (l8 + 1) (sL h8 82 (Int32.toNatClampNeg l8) (h8.2.1 82 (Int32.toNatClampNeg l8) * (Int32.toInt64 (16 - l2)))) Q))))) : Rg_X7_layb_74 G d l1 l2 l5 l6 l7 l8 h Q := by
  show Rn G (d + 1) 0 0 mX7_lay 74 [(0, .inr (.inr (some 1))), (1, .inl l1), (2, .inl l2), (3, .inr (.inr (some 81))), (4, .inr (.inr (some 82))), (5, .inl l5), (6, .inl l6), (7, .inl l7), (8, .inl l8)] [] SH h (QI Q)
  refine rn_iload dX7_lay_74 rfl ?_
  refine rn_iload dX7_lay_76 rfl ?_
  refine rn_icmp_ge (tgt := 145) dX7_lay_78 (by decide) (fun c6 => ?_) (fun c6 => ?_)
  · replace V := V.1 c6
    refine rn_iload dX7_lay_145 rfl ?_
    refine rn_iconst (v := 2) dX7_lay_147 (by decide) ?_
    refine rn_imul dX7_lay_148 ?_
    refine rn_istore (L' := [(5, .inl (l5 * 2)), (0, .inr (.inr (some 1))), (1, .inl l1), (2, .inl l2), (3, .inr (.inr (some 81))), (4, .inr (.inr (some 82))), (6, .inl l6), (7, .inl l7), (8, .inl l8)]) dX7_lay_149 (Nat.le_of_ble_eq_true rfl) rfl ?_
    refine rn_iinc (L' := [(7, .inl (l7 + 1)), (5, .inl (l5 * 2)), (0, .inr (.inr (some 1))), (1, .inl l1), (2, .inl l2), (3, .inr (.inr (some 81))), (4, .inr (.inr (some 82))), (6, .inl l6), (8, .inl l8)]) dX7_lay_151 rfl (v := (l7 + 1)) rfl (Nat.le_of_ble_eq_true rfl) rfl ?_
    refine rn_goto (tgt := 18) dX7_lay_154 (by decide) ?_
    refine rn_sub [2, 3, 4, 5, 6, 1, 7, 0] (L' := [(0, .inr (.inr (some 1))), (1, .inl l1), (2, .inl l2), (3, .inr (.inr (some 81))), (4, .inr (.inr (some 82))), (5, .inl (l5 * 2)), (6, .inl l6), (7, .inl (l7 + 1))]) rfl ?_
    exact V
  · replace V := V.2 c6
    refine rn_iload dX7_lay_81 rfl ?_
    refine rn_iload dX7_lay_83 rfl ?_
    refine rn_iadd dX7_lay_85 ?_
    refine rn_aload_n dX7_lay_86 rfl rfl ?_
    refine rn_alen (v := 32) dX7_lay_87 rfl (by decide) (by decide) ?_
    refine rn_icmp_ge (tgt := 145) dX7_lay_88 (by decide) (fun c7 => ?_) (fun c7 => ?_)
    · replace V := V.1 c7
      refine rn_iload dX7_lay_145 rfl ?_
      refine rn_iconst (v := 2) dX7_lay_147 (by decide) ?_
      refine rn_imul dX7_lay_148 ?_
      refine rn_istore (L' := [(5, .inl (l5 * 2)), (0, .inr (.inr (some 1))), (1, .inl l1), (2, .inl l2), (3, .inr (.inr (some 81))), (4, .inr (.inr (some 82))), (6, .inl l6), (7, .inl l7), (8, .inl l8)]) dX7_lay_149 (Nat.le_of_ble_eq_true rfl) rfl ?_
      refine rn_iinc (L' := [(7, .inl (l7 + 1)), (5, .inl (l5 * 2)), (0, .inr (.inr (some 1))), (1, .inl l1), (2, .inl l2), (3, .inr (.inr (some 81))), (4, .inr (.inr (some 82))), (6, .inl l6), (8, .inl l8)]) dX7_lay_151 rfl (v := (l7 + 1)) rfl (Nat.le_of_ble_eq_true rfl) rfl ?_
      refine rn_goto (tgt := 18) dX7_lay_154 (by decide) ?_
      refine rn_sub [2, 3, 4, 5, 6, 1, 7, 0] (L' := [(0, .inr (.inr (some 1))), (1, .inl l1), (2, .inl l2), (3, .inr (.inr (some 81))), (4, .inr (.inr (some 82))), (5, .inl (l5 * 2)), (6, .inl l6), (7, .inl (l7 + 1))]) rfl ?_
      exact V
    · replace V := V.2 c7
      refine rn_aload_n dX7_lay_91 rfl rfl ?_
      refine rn_iload dX7_lay_92 rfl ?_
      refine rn_iload dX7_lay_94 rfl ?_
      refine rn_iadd dX7_lay_96 ?_
      refine rn_aload_n dX7_lay_97 rfl rfl ?_
      refine rn_iload dX7_lay_98 rfl ?_
      obtain ⟨g0, V⟩ := V
      refine rn_iald (k := (Int32.toNatClampNeg l8)) dX7_lay_100 rfl rfl g0 ?_
      refine rn_aload_n dX7_lay_101 rfl rfl ?_
      refine rn_get (v := .inr (.inr (some 7))) dX7_lay_102 fl_X7_54 rfl rfl (congrArg (fun z => (Sum.inr (Sum.inr z) : MV)) (rf_1_7 hR)) ?_
      refine rn_iload dX7_lay_105 rfl ?_
      obtain ⟨g0, V⟩ := V
      refine rn_iald (k := (Int32.toNatClampNeg l7)) dX7_lay_107 rfl rfl g0 ?_
      refine rn_iadd dX7_lay_108 ?_
      obtain ⟨g0, V⟩ := V
      refine rn_iast (k := (Int32.toNatClampNeg (l5 + l8))) dX7_lay_109 rfl rfl g0 ?_
      refine rn_aload dX7_lay_110 rfl ?_
      refine rn_iload dX7_lay_112 rfl ?_
      refine rn_iload dX7_lay_114 rfl ?_
      refine rn_iadd dX7_lay_116 ?_
      refine rn_aload dX7_lay_117 rfl ?_
      refine rn_iload dX7_lay_119 rfl ?_
      obtain ⟨g0, V⟩ := V
      refine rn_lald (k := (Int32.toNatClampNeg l8)) dX7_lay_121 rfl rfl g0 ?_
      refine rn_iload_n dX7_lay_122 rfl rfl ?_
      refine rn_i2l dX7_lay_123 ?_
      refine rn_lmul dX7_lay_124 ?_
      obtain ⟨g0, V⟩ := V
      refine rn_last (k := (Int32.toNatClampNeg (l5 + l8))) dX7_lay_125 rfl rfl g0 ?_
      obtain ⟨h8, eh8⟩ : ∃ z, z = (sL (sI h 81 (Int32.toNatClampNeg (l5 + l8)) (h.1 81 (Int32.toNatClampNeg l8) + h.1 7 (Int32.toNatClampNeg l7))) 82 (Int32.toNatClampNeg (l5 + l8)) (h.2.1 82 (Int32.toNatClampNeg l8) * (Int32.toInt64 l2))) := ⟨_, rfl⟩
      show Rn G (d + 1) 0 0 mX7_lay 126 [(0, .inr (.inr (some 1))), (1, .inl l1), (2, .inl l2), (3, .inr (.inr (some 81))), (4, .inr (.inr (some 82))), (5, .inl l5), (6, .inl l6), (7, .inl l7), (8, .inl l8)] [] SH (sL (sI h 81 (Int32.toNatClampNeg (l5 + l8)) (h.1 81 (Int32.toNatClampNeg l8) + h.1 7 (Int32.toNatClampNeg l7))) 82 (Int32.toNatClampNeg (l5 + l8)) (h.2.1 82 (Int32.toNatClampNeg l8) * (Int32.toInt64 l2))) (QI Q)
      rw [← eh8]
      replace V := V h8 eh8
      have Rh8 : RF h8 := by rw [eh8]; exact hR
      refine rn_aload dX7_lay_126 rfl ?_
      refine rn_iload dX7_lay_128 rfl ?_
      refine rn_dup2 dX7_lay_130 rfl rfl ?_
      obtain ⟨g0, V⟩ := V
      refine rn_lald (k := (Int32.toNatClampNeg l8)) dX7_lay_131 rfl rfl g0 ?_
      refine rn_bipush (v := 16) dX7_lay_132 (by decide) ?_
      refine rn_iload_n dX7_lay_134 rfl rfl ?_
      refine rn_isub dX7_lay_135 ?_
      refine rn_i2l dX7_lay_136 ?_
      refine rn_lmul dX7_lay_137 ?_
      obtain ⟨g0, V⟩ := V
      refine rn_last (k := (Int32.toNatClampNeg l8)) dX7_lay_138 rfl rfl g0 ?_
      refine rn_iinc (L' := [(8, .inl (l8 + 1)), (0, .inr (.inr (some 1))), (1, .inl l1), (2, .inl l2), (3, .inr (.inr (some 81))), (4, .inr (.inr (some 82))), (5, .inl l5), (6, .inl l6), (7, .inl l7)]) dX7_lay_139 rfl (v := (l8 + 1)) rfl (Nat.le_of_ble_eq_true rfl) rfl ?_
      refine rn_goto (tgt := 74) dX7_lay_142 (by decide) ?_
      refine rn_sub [1, 2, 3, 4, 5, 6, 7, 8, 0] (L' := [(0, .inr (.inr (some 1))), (1, .inl l1), (2, .inl l2), (3, .inr (.inr (some 81))), (4, .inr (.inr (some 82))), (5, .inl l5), (6, .inl l6), (7, .inl l7), (8, .inl (l8 + 1))]) rfl ?_
      exact V
set_option maxRecDepth 100000 in
set_option maxHeartbeats 4000000 in
theorem vc_X7_layb {G : GT} {d : Nat} {a1 : Int32} {a2 : Int32}  {h : Hp} {Q : Int32 → Hp → Prop} (hR : RF h) (V : Rg_X7_layb_18 G d a1 a2 1 0 0 (sL (sI h 81 0 0) 82 0 1) Q) : EvI G (d + 1) mX7_lay [.inr (.inr (some 1)), .inl a1, .inl a2, .inr (.inr (some 81)), .inr (.inr (some 82))] h Q := by
  refine Ev.of rfl (fun _ => Nat.le_of_ble_eq_true rfl) ?_
  show Rn G (d + 1) 0 0 mX7_lay 0 [(0, .inr (.inr (some 1))), (1, .inl a1), (2, .inl a2), (3, .inr (.inr (some 81))), (4, .inr (.inr (some 82)))] [] SH h (QI Q)
  refine rn_aload_n dX7_lay_0 rfl rfl ?_
  refine rn_iconst (v := 0) dX7_lay_1 (by decide) ?_
  refine rn_iconst (v := 0) dX7_lay_2 (by decide) ?_
  refine rn_iast (k := 0) dX7_lay_3 rfl (by decide) (by unfold vp_in; decide) ?_
  refine rn_aload dX7_lay_4 rfl ?_
  refine rn_iconst (v := 0) dX7_lay_6 (by decide) ?_
  refine rn_lconst (v := 1) dX7_lay_7 rfl ?_
  refine rn_last (k := 0) dX7_lay_8 rfl (by decide) (by unfold vp_in; decide) ?_
  refine rn_iconst (v := 1) dX7_lay_9 (by decide) ?_
  refine rn_istore (L' := [(5, .inl 1), (0, .inr (.inr (some 1))), (1, .inl a1), (2, .inl a2), (3, .inr (.inr (some 81))), (4, .inr (.inr (some 82)))]) dX7_lay_10 (Nat.le_of_ble_eq_true rfl) rfl ?_
  refine rn_iconst (v := 0) dX7_lay_12 (by decide) ?_
  refine rn_istore (L' := [(6, .inl 0), (5, .inl 1), (0, .inr (.inr (some 1))), (1, .inl a1), (2, .inl a2), (3, .inr (.inr (some 81))), (4, .inr (.inr (some 82)))]) dX7_lay_13 (Nat.le_of_ble_eq_true rfl) rfl ?_
  refine rn_iconst (v := 0) dX7_lay_15 (by decide) ?_
  refine rn_istore (L' := [(7, .inl 0), (6, .inl 0), (5, .inl 1), (0, .inr (.inr (some 1))), (1, .inl a1), (2, .inl a2), (3, .inr (.inr (some 81))), (4, .inr (.inr (some 82)))]) dX7_lay_16 (Nat.le_of_ble_eq_true rfl) rfl ?_
  refine rn_sub [3, 4, 5, 6, 7, 2, 1, 0] (L' := [(0, .inr (.inr (some 1))), (1, .inl a1), (2, .inl a2), (3, .inr (.inr (some 81))), (4, .inr (.inr (some 82))), (5, .inl 1), (6, .inl 0), (7, .inl 0)]) rfl ?_
  exact V
set_option maxRecDepth 100000 in
set_option maxHeartbeats 4000000 in
theorem vc_X0_answer {G : GT} {d : Nat} {a1 : Int32} {a2 : Int32} {a3 : Int32} {a4 : Int32} {a5 : Int32}  {h : Hp} {Q : Int32 → Hp → Prop} (hR : RF h) (V : EvI G d mX0_call [.inr (.inr (some 83)), .inl a1, .inl a4, .inl a5, .inl 0] (sI (sI (sI (sI h 83 2 a1) 83 3 a2) 83 4 a3) 83 1 0) (fun x2 h1 => Q x2 h1)) : EvI G (d + 1) mX0_answer [.inr (.inr (some 83)), .inl a1, .inl a2, .inl a3, .inl a4, .inl a5] h Q := by
  refine Ev.of rfl (fun _ => Nat.le_of_ble_eq_true rfl) ?_
  show Rn G (d + 1) 0 0 mX0_answer 0 [(0, .inr (.inr (some 83))), (1, .inl a1), (2, .inl a2), (3, .inl a3), (4, .inl a4), (5, .inl a5)] [] SH h (QI Q)
  refine rn_aload_n dX0_answer_0 rfl rfl ?_
  refine rn_iload_n dX0_answer_1 rfl rfl ?_
  refine rn_putI dX0_answer_2 fl_X0_15 rfl rfl (Or.inl rfl) rfl rfl ?_
  refine rn_aload_n dX0_answer_5 rfl rfl ?_
  refine rn_iload_n dX0_answer_6 rfl rfl ?_
  refine rn_putI dX0_answer_7 fl_X0_19 rfl rfl (Or.inl rfl) rfl rfl ?_
  refine rn_aload_n dX0_answer_10 rfl rfl ?_
  refine rn_iload_n dX0_answer_11 rfl rfl ?_
  refine rn_putI dX0_answer_12 fl_X0_22 rfl rfl (Or.inl rfl) rfl rfl ?_
  refine rn_aload_n dX0_answer_15 rfl rfl ?_
  refine rn_iconst (v := 0) dX0_answer_16 (by decide) ?_
  refine rn_putI dX0_answer_17 fl_X0_25 rfl rfl (Or.inl rfl) rfl rfl ?_
  refine rn_aload_n dX0_answer_20 rfl rfl ?_
  refine rn_aload_n dX0_answer_21 rfl rfl ?_
  refine rn_get (v := .inl a1) dX0_answer_22 fl_X0_15 rfl rfl rfl ?_
  refine rn_iload dX0_answer_25 rfl ?_
  refine rn_iload dX0_answer_27 rfl ?_
  refine rn_iconst (v := 0) dX0_answer_29 (by decide) ?_
  refine rn_cV (M' := mX0_call) (n := 4) (av := [.inl a1, .inl a4, .inl a5, .inl 0]) (S := []) (rc := 0) (rs := 0) (mc := 0) (ms := 0) (a := 83) (ci := 0) (r := (RX0, TX0, 5)) dX0_answer_30 pa_X0_call (Nat.le_refl _) rfl (Nat.le_of_ble_eq_true rfl) ml_X0_28 im_X0_call se_X0_call rfl rfl rfl (Ev.mono V ?_)
  rintro v sh1 h1 ⟨rfl, Rh1, x2, rfl, V⟩
  show Rn G (d + 1) 0 0 mX0_answer 33 [(0, .inr (.inr (some 83))), (1, .inl a1), (2, .inl a2), (3, .inl a3), (4, .inl a4), (5, .inl a5)] [.inl x2] SH h1 (QI Q)
  exact rn_iret dX0_answer_33 rfl ⟨rfl, Rh1, _, rfl, V⟩
def Rg_X0_call_6 (G : GT) (d : Nat) (l2 : Int32) (l3 : Int32) (l4 : Int32) (l5 : Int32) (l6 : Int32) (h : Hp) (Q : Int32 → Hp → Prop) : Prop := Rn G (d + 1) 0 0 mX0_call 6 [(0, .inr (.inr (some 83))), (2, .inl l2), (3, .inl l3), (4, .inl l4), (5, .inl l5), (6, .inl l6)] [] SH h (QI Q)
set_option maxRecDepth 100000 in
set_option maxHeartbeats 4000000 in
theorem vc_X0_call_6 {G : GT} {d : Nat} {l2 : Int32} {l3 : Int32} {l4 : Int32} {l5 : Int32} {l6 : Int32}  {h : Hp} {Q : Int32 → Hp → Prop} (hR : RF h) (V : ((6 < l6 → Q 0 h) ∧ (¬ 6 < l6 → EvI G d mX11_within [.inl l5, .inl 0, .inl 6] h (fun x3 h2 => ((x3 = 0 → Q 0 h2) ∧ (¬ x3 = 0 → EvI G d mX11_within [.inl ((l5 * 4) + l2), .inl 0, .inl (28 - 1)] h2 (fun x6 h5 => ((x6 = 0 → EvI G d mX4_above [.inl l5] h5 (fun x10 h9 => Rg_X0_call_6 G d l2 l3 l4 x10 (l6 + 1) h9 Q)) ∧ (¬ x6 = 0 → vp_in ((l5 * 4) + l2) 28 ∧ (((BODY.getD (Int32.toNatClampNeg ((l5 * 4) + l2)) 0) = 0 → EvI G d mX4_above [.inl l5] h5 (fun x13 h12 => Rg_X0_call_6 G d l2 l3 l4 x13 (l6 + 1) h12 Q)) ∧ (¬ (BODY.getD (Int32.toNatClampNeg ((l5 * 4) + l2)) 0) = 0 → EvI G d mX0_run [.inr (.inr (some 83)), .inl (BODY.getD (Int32.toNatClampNeg ((l5 * 4) + l2)) 0), .inl l3, .inl l4] h5 (fun x15 h14 => Q x15 h14)))))))))))) : Rg_X0_call_6 G d l2 l3 l4 l5 l6 h Q := by
  show Rn G (d + 1) 0 0 mX0_call 6 [(0, .inr (.inr (some 83))), (2, .inl l2), (3, .inl l3), (4, .inl l4), (5, .inl l5), (6, .inl l6)] [] SH h (QI Q)
  refine rn_iload dX0_call_6 rfl ?_
  refine rn_bipush (v := 6) dX0_call_8 (by decide) ?_
  refine rn_icmp_gt (tgt := 87) dX0_call_10 (by decide) (fun c1 => ?_) (fun c1 => ?_)
  · replace V := V.1 c1
    refine rn_iconst (v := 0) dX0_call_87 (by decide) ?_
    exact rn_iret dX0_call_88 rfl ⟨rfl, hR, _, rfl, V⟩
  · replace V := V.2 c1
    refine rn_iload dX0_call_13 rfl ?_
    refine rn_iconst (v := 0) dX0_call_15 (by decide) ?_
    refine rn_bipush (v := 6) dX0_call_16 (by decide) ?_
    refine rn_cSN (M' := mX11_within) (n := 3) (av := [.inl l5, .inl 0, .inl 6]) (S := []) (rc := 0) (rs := 0) (mc := 0) (ms := 0) dX0_call_18 pa_X11_within (Nat.le_refl _) rfl (Nat.le_of_ble_eq_true rfl) ml_X0_34 ss_X11_within rfl (Ev.mono V ?_)
    rintro v sh1 h2 ⟨rfl, Rh2, x3, rfl, V⟩
    show Rn G (d + 1) 0 0 mX0_call 21 [(0, .inr (.inr (some 83))), (2, .inl l2), (3, .inl l3), (4, .inl l4), (5, .inl l5), (6, .inl l6)] [.inl x3] SH h2 (QI Q)
    refine rn_if_eq (tgt := 87) dX0_call_21 (by decide) (fun c4 => ?_) (fun c4 => ?_)
    · replace V := V.1 c4
      refine rn_iconst (v := 0) dX0_call_87 (by decide) ?_
      exact rn_iret dX0_call_88 rfl ⟨rfl, Rh2, _, rfl, V⟩
    · replace V := V.2 c4
      refine rn_iload dX0_call_24 rfl ?_
      refine rn_iconst (v := 4) dX0_call_26 (by decide) ?_
      refine rn_imul dX0_call_27 ?_
      refine rn_iload_n dX0_call_28 rfl rfl ?_
      refine rn_iadd dX0_call_29 ?_
      refine rn_istore (L' := [(7, .inl ((l5 * 4) + l2)), (0, .inr (.inr (some 83))), (2, .inl l2), (3, .inl l3), (4, .inl l4), (5, .inl l5), (6, .inl l6)]) dX0_call_30 (Nat.le_of_ble_eq_true rfl) rfl ?_
      refine rn_iload dX0_call_32 rfl ?_
      refine rn_iconst (v := 0) dX0_call_34 (by decide) ?_
      refine rn_body dX0_call_35 fk_X0_38 ?_
      refine rn_alenB dX0_call_38 ?_
      refine rn_iconst (v := 1) dX0_call_39 (by decide) ?_
      refine rn_isub dX0_call_40 ?_
      refine rn_cSN (M' := mX11_within) (n := 3) (av := [.inl ((l5 * 4) + l2), .inl 0, .inl (28 - 1)]) (S := []) (rc := 0) (rs := 0) (mc := 0) (ms := 0) dX0_call_41 pa_X11_within (Nat.le_refl _) rfl (Nat.le_of_ble_eq_true rfl) ml_X0_34 ss_X11_within rfl (Ev.mono V ?_)
      rintro v sh1 h5 ⟨rfl, Rh5, x6, rfl, V⟩
      show Rn G (d + 1) 0 0 mX0_call 44 [(7, .inl ((l5 * 4) + l2)), (0, .inr (.inr (some 83))), (2, .inl l2), (3, .inl l3), (4, .inl l4), (5, .inl l5), (6, .inl l6)] [.inl x6] SH h5 (QI Q)
      refine rn_if_eq (tgt := 56) dX0_call_44 (by decide) (fun c7 => ?_) (fun c7 => ?_)
      · replace V := V.1 c7
        refine rn_iconst (v := 0) dX0_call_56 (by decide) ?_
        refine rn_istore (L' := [(8, .inl 0), (7, .inl ((l5 * 4) + l2)), (0, .inr (.inr (some 83))), (2, .inl l2), (3, .inl l3), (4, .inl l4), (5, .inl l5), (6, .inl l6)]) dX0_call_57 (Nat.le_of_ble_eq_true rfl) rfl ?_
        refine rn_iload dX0_call_59 rfl ?_
        refine rn_if_eq (tgt := 74) dX0_call_61 (by decide) (fun c8 => ?_) (fun c8 => ?_)
        rotate_left
        · exact absurd (by decide) c8
        refine rn_iload dX0_call_74 rfl ?_
        refine rn_cS (M' := mX4_above) (n := 1) (av := [.inl l5]) (S := []) (rc := 0) (rs := 0) (mc := 0) (ms := 0) dX0_call_76 pa_X4_above (Nat.le_refl _) rfl (Nat.le_of_ble_eq_true rfl) ml_X0_45 ss_X4_above rfl (Ev.mono V ?_)
        rintro v sh1 h9 ⟨rfl, Rh9, x10, rfl, V⟩
        show Rn G (d + 1) 0 0 mX0_call 79 [(8, .inl 0), (7, .inl ((l5 * 4) + l2)), (0, .inr (.inr (some 83))), (2, .inl l2), (3, .inl l3), (4, .inl l4), (5, .inl l5), (6, .inl l6)] [.inl x10] SH h9 (QI Q)
        refine rn_istore (L' := [(5, .inl x10), (8, .inl 0), (7, .inl ((l5 * 4) + l2)), (0, .inr (.inr (some 83))), (2, .inl l2), (3, .inl l3), (4, .inl l4), (6, .inl l6)]) dX0_call_79 (Nat.le_of_ble_eq_true rfl) rfl ?_
        refine rn_iinc (L' := [(6, .inl (l6 + 1)), (5, .inl x10), (8, .inl 0), (7, .inl ((l5 * 4) + l2)), (0, .inr (.inr (some 83))), (2, .inl l2), (3, .inl l3), (4, .inl l4)]) dX0_call_81 rfl (v := (l6 + 1)) rfl (Nat.le_of_ble_eq_true rfl) rfl ?_
        refine rn_goto (tgt := 6) dX0_call_84 (by decide) ?_
        refine rn_sub [4, 5, 6, 7, 1, 0] (L' := [(0, .inr (.inr (some 83))), (2, .inl l2), (3, .inl l3), (4, .inl l4), (5, .inl x10), (6, .inl (l6 + 1))]) rfl ?_
        exact V
      · replace V := V.2 c7
        refine rn_body dX0_call_47 fk_X0_38 ?_
        refine rn_iload dX0_call_50 rfl ?_
        obtain ⟨g0, V⟩ := V
        refine rn_ialdB (k := (Int32.toNatClampNeg ((l5 * 4) + l2))) dX0_call_52 rfl g0 ?_
        refine rn_goto (tgt := 57) dX0_call_53 (by decide) ?_
        refine rn_istore (L' := [(8, .inl (BODY.getD (Int32.toNatClampNeg ((l5 * 4) + l2)) 0)), (7, .inl ((l5 * 4) + l2)), (0, .inr (.inr (some 83))), (2, .inl l2), (3, .inl l3), (4, .inl l4), (5, .inl l5), (6, .inl l6)]) dX0_call_57 (Nat.le_of_ble_eq_true rfl) rfl ?_
        refine rn_iload dX0_call_59 rfl ?_
        refine rn_if_eq (tgt := 74) dX0_call_61 (by decide) (fun c11 => ?_) (fun c11 => ?_)
        · replace V := V.1 c11
          refine rn_iload dX0_call_74 rfl ?_
          refine rn_cS (M' := mX4_above) (n := 1) (av := [.inl l5]) (S := []) (rc := 0) (rs := 0) (mc := 0) (ms := 0) dX0_call_76 pa_X4_above (Nat.le_refl _) rfl (Nat.le_of_ble_eq_true rfl) ml_X0_45 ss_X4_above rfl (Ev.mono V ?_)
          rintro v sh1 h12 ⟨rfl, Rh12, x13, rfl, V⟩
          show Rn G (d + 1) 0 0 mX0_call 79 [(8, .inl (BODY.getD (Int32.toNatClampNeg ((l5 * 4) + l2)) 0)), (7, .inl ((l5 * 4) + l2)), (0, .inr (.inr (some 83))), (2, .inl l2), (3, .inl l3), (4, .inl l4), (5, .inl l5), (6, .inl l6)] [.inl x13] SH h12 (QI Q)
          refine rn_istore (L' := [(5, .inl x13), (8, .inl (BODY.getD (Int32.toNatClampNeg ((l5 * 4) + l2)) 0)), (7, .inl ((l5 * 4) + l2)), (0, .inr (.inr (some 83))), (2, .inl l2), (3, .inl l3), (4, .inl l4), (6, .inl l6)]) dX0_call_79 (Nat.le_of_ble_eq_true rfl) rfl ?_
          refine rn_iinc (L' := [(6, .inl (l6 + 1)), (5, .inl x13), (8, .inl (BODY.getD (Int32.toNatClampNeg ((l5 * 4) + l2)) 0)), (7, .inl ((l5 * 4) + l2)), (0, .inr (.inr (some 83))), (2, .inl l2), (3, .inl l3), (4, .inl l4)]) dX0_call_81 rfl (v := (l6 + 1)) rfl (Nat.le_of_ble_eq_true rfl) rfl ?_
          refine rn_goto (tgt := 6) dX0_call_84 (by decide) ?_
          refine rn_sub [4, 5, 6, 7, 1, 0] (L' := [(0, .inr (.inr (some 83))), (2, .inl l2), (3, .inl l3), (4, .inl l4), (5, .inl x13), (6, .inl (l6 + 1))]) rfl ?_
          exact V
        · replace V := V.2 c11
          refine rn_aload_n dX0_call_64 rfl rfl ?_
          refine rn_iload dX0_call_65 rfl ?_
          refine rn_iload_n dX0_call_67 rfl rfl ?_
          refine rn_iload dX0_call_68 rfl ?_
          refine rn_cV (M' := mX0_run) (n := 3) (av := [.inl (BODY.getD (Int32.toNatClampNeg ((l5 * 4) + l2)) 0), .inl l3, .inl l4]) (S := []) (rc := 0) (rs := 0) (mc := 0) (ms := 0) (a := 83) (ci := 0) (r := (RX0, TX0, 5)) dX0_call_70 pa_X0_run (Nat.le_refl _) rfl (Nat.le_of_ble_eq_true rfl) ml_X0_41 im_X0_run se_X0_run rfl rfl rfl (Ev.mono V ?_)
          rintro v sh1 h14 ⟨rfl, Rh14, x15, rfl, V⟩
          show Rn G (d + 1) 0 0 mX0_call 73 [(8, .inl (BODY.getD (Int32.toNatClampNeg ((l5 * 4) + l2)) 0)), (7, .inl ((l5 * 4) + l2)), (0, .inr (.inr (some 83))), (2, .inl l2), (3, .inl l3), (4, .inl l4), (5, .inl l5), (6, .inl l6)] [.inl x15] SH h14 (QI Q)
          exact rn_iret dX0_call_73 rfl ⟨rfl, Rh14, _, rfl, V⟩
set_option maxRecDepth 100000 in
set_option maxHeartbeats 4000000 in
theorem vc_X0_call {G : GT} {d : Nat} {a1 : Int32} {a2 : Int32} {a3 : Int32} {a4 : Int32}  {h : Hp} {Q : Int32 → Hp → Prop} (hR : RF h) (V : Rg_X0_call_6 G d a2 a3 a4 a1 0 h Q) : EvI G (d + 1) mX0_call [.inr (.inr (some 83)), .inl a1, .inl a2, .inl a3, .inl a4] h Q := by
  refine Ev.of rfl (fun _ => Nat.le_of_ble_eq_true rfl) ?_
  show Rn G (d + 1) 0 0 mX0_call 0 [(0, .inr (.inr (some 83))), (1, .inl a1), (2, .inl a2), (3, .inl a3), (4, .inl a4)] [] SH h (QI Q)
  refine rn_iload_n dX0_call_0 rfl rfl ?_
  refine rn_istore (L' := [(5, .inl a1), (0, .inr (.inr (some 83))), (1, .inl a1), (2, .inl a2), (3, .inl a3), (4, .inl a4)]) dX0_call_1 (Nat.le_of_ble_eq_true rfl) rfl ?_
  refine rn_iconst (v := 0) dX0_call_3 (by decide) ?_
  refine rn_istore (L' := [(6, .inl 0), (5, .inl a1), (0, .inr (.inr (some 83))), (1, .inl a1), (2, .inl a2), (3, .inl a3), (4, .inl a4)]) dX0_call_4 (Nat.le_of_ble_eq_true rfl) rfl ?_
  refine rn_sub [2, 4, 5, 6, 1, 0] (L' := [(0, .inr (.inr (some 83))), (2, .inl a2), (3, .inl a3), (4, .inl a4), (5, .inl a1), (6, .inl 0)]) rfl ?_
  exact V
set_option maxRecDepth 100000 in
set_option maxHeartbeats 4000000 in
theorem vc_X0_own {G : GT} {d : Nat} {a1 : Int32} {a2 : Int32} {a3 : Int32}  {h : Hp} {Q : Int32 → Hp → Prop} (hR : RF h) (V : EvI G d mX0_call [.inr (.inr (some 83)), .inl (h.1 83 2), .inl a1, .inl a2, .inl (a3 + 1)] h (fun x2 h1 => Q x2 h1)) : EvI G (d + 1) mX0_own [.inr (.inr (some 83)), .inl a1, .inl a2, .inl a3] h Q := by
  refine Ev.of rfl (fun _ => Nat.le_of_ble_eq_true rfl) ?_
  show Rn G (d + 1) 0 0 mX0_own 0 [(0, .inr (.inr (some 83))), (1, .inl a1), (2, .inl a2), (3, .inl a3)] [] SH h (QI Q)
  refine rn_aload_n dX0_own_0 rfl rfl ?_
  refine rn_aload_n dX0_own_1 rfl rfl ?_
  refine rn_get (v := .inl (h.1 83 2)) dX0_own_2 fl_X0_15 rfl rfl rfl ?_
  refine rn_iload_n dX0_own_5 rfl rfl ?_
  refine rn_iload_n dX0_own_6 rfl rfl ?_
  refine rn_iload_n dX0_own_7 rfl rfl ?_
  refine rn_iconst (v := 1) dX0_own_8 (by decide) ?_
  refine rn_iadd dX0_own_9 ?_
  refine rn_cV (M' := mX0_call) (n := 4) (av := [.inl (h.1 83 2), .inl a1, .inl a2, .inl (a3 + 1)]) (S := []) (rc := 0) (rs := 0) (mc := 0) (ms := 0) (a := 83) (ci := 0) (r := (RX0, TX0, 5)) dX0_own_10 pa_X0_call (Nat.le_refl _) rfl (Nat.le_of_ble_eq_true rfl) ml_X0_28 im_X0_call se_X0_call rfl rfl rfl (Ev.mono V ?_)
  rintro v sh1 h1 ⟨rfl, Rh1, x2, rfl, V⟩
  show Rn G (d + 1) 0 0 mX0_own 13 [(0, .inr (.inr (some 83))), (1, .inl a1), (2, .inl a2), (3, .inl a3)] [.inl x2] SH h1 (QI Q)
  exact rn_iret dX0_own_13 rfl ⟨rfl, Rh1, _, rfl, V⟩
set_option maxRecDepth 100000 in
set_option maxHeartbeats 4000000 in
theorem vc_X0_above {G : GT} {d : Nat} {a1 : Int32} {a2 : Int32} {a3 : Int32} {a4 : Int32}  {h : Hp} {Q : Int32 → Hp → Prop} (hR : RF h) (V : EvI G d mX4_above [.inl ((a1 / 10) - 1)] h (fun x2 h1 => EvI G d mX0_call [.inr (.inr (some 83)), .inl x2, .inl a2, .inl a3, .inl (a4 + 1)] h1 (fun x4 h3 => Q x4 h3))) : EvI G (d + 1) mX0_above [.inr (.inr (some 83)), .inl a1, .inl a2, .inl a3, .inl a4] h Q := by
  refine Ev.of rfl (fun _ => Nat.le_of_ble_eq_true rfl) ?_
  show Rn G (d + 1) 0 0 mX0_above 0 [(0, .inr (.inr (some 83))), (1, .inl a1), (2, .inl a2), (3, .inl a3), (4, .inl a4)] [] SH h (QI Q)
  refine rn_aload_n dX0_above_0 rfl rfl ?_
  refine rn_iload_n dX0_above_1 rfl rfl ?_
  refine rn_bipush (v := 10) dX0_above_2 (by decide) ?_
  refine rn_idiv dX0_above_4 (by decide) ?_
  refine rn_iconst (v := 1) dX0_above_5 (by decide) ?_
  refine rn_isub dX0_above_6 ?_
  refine rn_cS (M' := mX4_above) (n := 1) (av := [.inl ((a1 / 10) - 1)]) (S := [.inr (.inr (some 83))]) (rc := 0) (rs := 0) (mc := 0) (ms := 0) dX0_above_7 pa_X4_above (Nat.le_refl _) rfl (Nat.le_of_ble_eq_true rfl) ml_X0_45 ss_X4_above rfl (Ev.mono V ?_)
  rintro v sh1 h1 ⟨rfl, Rh1, x2, rfl, V⟩
  show Rn G (d + 1) 0 0 mX0_above 10 [(0, .inr (.inr (some 83))), (1, .inl a1), (2, .inl a2), (3, .inl a3), (4, .inl a4)] [.inl x2, .inr (.inr (some 83))] SH h1 (QI Q)
  refine rn_iload_n dX0_above_10 rfl rfl ?_
  refine rn_iload_n dX0_above_11 rfl rfl ?_
  refine rn_iload dX0_above_12 rfl ?_
  refine rn_iconst (v := 1) dX0_above_14 (by decide) ?_
  refine rn_iadd dX0_above_15 ?_
  refine rn_cV (M' := mX0_call) (n := 4) (av := [.inl x2, .inl a2, .inl a3, .inl (a4 + 1)]) (S := []) (rc := 0) (rs := 0) (mc := 0) (ms := 0) (a := 83) (ci := 0) (r := (RX0, TX0, 5)) dX0_above_16 pa_X0_call (Nat.le_refl _) rfl (Nat.le_of_ble_eq_true rfl) ml_X0_28 im_X0_call se_X0_call rfl rfl rfl (Ev.mono V ?_)
  rintro v sh1 h3 ⟨rfl, Rh3, x4, rfl, V⟩
  show Rn G (d + 1) 0 0 mX0_above 19 [(0, .inr (.inr (some 83))), (1, .inl a1), (2, .inl a2), (3, .inl a3), (4, .inl a4)] [.inl x4] SH h3 (QI Q)
  exact rn_iret dX0_above_19 rfl ⟨rfl, Rh3, _, rfl, V⟩
set_option maxRecDepth 100000 in
set_option maxHeartbeats 4000000 in
theorem vc_X0_run {G : GT} {d : Nat} {a1 : Int32} {a2 : Int32} {a3 : Int32}  {h : Hp} {Q : Int32 → Hp → Prop} (hR : RF h) (V : ((a3 ≤ 40 → EvI G d mX11_within [.inl (h.1 83 1), .inl 0, .inl (40 - 1)] h (fun x3 h2 => ((x3 = 0 → (((a1).toInt = 10 → Q (a2 + h2.1 83 3) h2) ∧ (¬ (a1).toInt = 10 → (((a1).toInt = 11 → EvI G d mX0_own [.inr (.inr (some 83)), .inl 0, .inl a2, .inl a3] h2 (fun x8 h7 => Q (x8 * 2) h7)) ∧ (¬ (a1).toInt = 11 → (((a1).toInt = 12 → Q (a2 - h2.1 83 4) h2) ∧ (¬ (a1).toInt = 12 → (((a1).toInt = 13 → EvI G d mX0_own [.inr (.inr (some 83)), .inl 1, .inl a2, .inl a3] h2 (fun x12 h11 => EvI G d mX0_own [.inr (.inr (some 83)), .inl 2, .inl a2, .inl a3] h11 (fun x14 h13 => Q (x12 ^^^ x14) h13))) ∧ (¬ (a1).toInt = 13 → (((a1).toInt = 20 → EvI G d mX0_above [.inr (.inr (some 83)), .inl a1, .inl 1, .inl a2, .inl a3] h2 (fun x17 h16 => EvI G d mX0_own [.inr (.inr (some 83)), .inl 2, .inl 1, .inl a3] h16 (fun x19 h18 => Q (x17 - x19) h18))) ∧ (¬ (a1).toInt = 20 → (((a1).toInt = 30 → EvI G d mX0_above [.inr (.inr (some 83)), .inl a1, .inl 0, .inl a2, .inl a3] h2 (fun x22 h21 => Q (x22 * 3) h21)) ∧ (¬ (a1).toInt = 30 → (((a1).toInt = 40 → EvI G d mX0_above [.inr (.inr (some 83)), .inl a1, .inl 2, .inl a2, .inl a3] h2 (fun x25 h24 => Q (-x25) h24)) ∧ (¬ (a1).toInt = 40 → (((a1).toInt = 50 → EvI G d mX0_above [.inr (.inr (some 83)), .inl a1, .inl 1, .inl (a2 + 1), .inl a3] h2 (fun x28 h27 => Q x28 h27)) ∧ (¬ (a1).toInt = 50 → (((a1).toInt = 60 → EvI G d mX0_above [.inr (.inr (some 83)), .inl a1, .inl 3, .inl a2, .inl a3] h2 (fun x31 h30 => EvI G d mX0_own [.inr (.inr (some 83)), .inl 0, .inl 2, .inl a3] h30 (fun x33 h32 => Q (x31 - x33) h32))) ∧ (¬ (a1).toInt = 60 → (((a1).toInt = 70 → EvI G d mX0_above [.inr (.inr (some 83)), .inl a1, .inl 2, .inl a2, .inl a3] h2 (fun x36 h35 => Q (x36 ^^^ h35.1 83 3) h35)) ∧ (¬ (a1).toInt = 70 → (((a1).toInt = 71 → EvI G d mX0_own [.inr (.inr (some 83)), .inl 1, .inl a2, .inl a3] h2 (fun x39 h38 => EvI G d mX0_above [.inr (.inr (some 83)), .inl a1, .inl 3, .inl a2, .inl a3] h38 (fun x41 h40 => Q (x39 - x41) h40))) ∧ (¬ (a1).toInt = 71 → Q 0 h2))))))))))))))))))))))) ∧ (¬ x3 = 0 → vp_in (h2.1 83 1) 40 ∧ (((a1).toInt = 10 → Q (a2 + h2.1 83 3) (sI (sI h2 84 (Int32.toNatClampNeg (h2.1 83 1)) a1) 83 1 (h2.1 83 1 + 1))) ∧ (¬ (a1).toInt = 10 → (((a1).toInt = 11 → EvI G d mX0_own [.inr (.inr (some 83)), .inl 0, .inl a2, .inl a3] (sI (sI h2 84 (Int32.toNatClampNeg (h2.1 83 1)) a1) 83 1 (h2.1 83 1 + 1)) (fun x45 h44 => Q (x45 * 2) h44)) ∧ (¬ (a1).toInt = 11 → (((a1).toInt = 12 → Q (a2 - h2.1 83 4) (sI (sI h2 84 (Int32.toNatClampNeg (h2.1 83 1)) a1) 83 1 (h2.1 83 1 + 1))) ∧ (¬ (a1).toInt = 12 → (((a1).toInt = 13 → EvI G d mX0_own [.inr (.inr (some 83)), .inl 1, .inl a2, .inl a3] (sI (sI h2 84 (Int32.toNatClampNeg (h2.1 83 1)) a1) 83 1 (h2.1 83 1 + 1)) (fun x49 h48 => EvI G d mX0_own [.inr (.inr (some 83)), .inl 2, .inl a2, .inl a3] h48 (fun x51 h50 => Q (x49 ^^^ x51) h50))) ∧ (¬ (a1).toInt = 13 → (((a1).toInt = 20 → EvI G d mX0_above [.inr (.inr (some 83)), .inl a1, .inl 1, .inl a2, .inl a3] (sI (sI h2 84 (Int32.toNatClampNeg (h2.1 83 1)) a1) 83 1 (h2.1 83 1 + 1)) (fun x54 h53 => EvI G d mX0_own [.inr (.inr (some 83)), .inl 2, .inl 1, .inl a3] h53 (fun x56 h55 => Q (x54 - x56) h55))) ∧ (¬ (a1).toInt = 20 → (((a1).toInt = 30 → EvI G d mX0_above [.inr (.inr (some 83)), .inl a1, .inl 0, .inl a2, .inl a3] (sI (sI h2 84 (Int32.toNatClampNeg (h2.1 83 1)) a1) 83 1 (h2.1 83 1 + 1)) (fun x59 h58 => Q (x59 * 3) h58)) ∧ (¬ (a1).toInt = 30 → (((a1).toInt = 40 → EvI G d mX0_above [.inr (.inr (some 83)), .inl a1, .inl 2, .inl a2, .inl a3] (sI (sI h2 84 (Int32.toNatClampNeg (h2.1 83 1)) a1) 83 1 (h2.1 83 1 + 1)) (fun x62 h61 => Q (-x62) h61)) ∧ (¬ (a1).toInt = 40 → (((a1).toInt = 50 → EvI G d mX0_above [.inr (.inr (some 83)), .inl a1, .inl 1, .inl (a2 + 1), .inl a3] (sI (sI h2 84 (Int32.toNatClampNeg (h2.1 83 1)) a1) 83 1 (h2.1 83 1 + 1)) (fun x65 h64 => Q x65 h64)) ∧ (¬ (a1).toInt = 50 → (((a1).toInt = 60 → EvI G d mX0_above [.inr (.inr (some 83)), .inl a1, .inl 3, .inl a2, .inl a3] (sI (sI h2 84 (Int32.toNatClampNeg (h2.1 83 1)) a1) 83 1 (h2.1 83 1 + 1)) (fun x68 h67 => EvI G d mX0_own [.inr (.inr (some 83)), .inl 0, .inl 2, .inl a3] h67 (fun x70 h69 => Q (x68 - x70) h69))) ∧ (¬ (a1).toInt = 60 → (((a1).toInt = 70 → EvI G d mX0_above [.inr (.inr (some 83)), .inl a1, .inl 2, .inl a2, .inl a3] (sI (sI h2 84 (Int32.toNatClampNeg (h2.1 83 1)) a1) 83 1 (h2.1 83 1 + 1)) (fun x73 h72 => Q (x73 ^^^ h72.1 83 3) h72)) ∧ (¬ (a1).toInt = 70 → (((a1).toInt = 71 → EvI G d mX0_own [.inr (.inr (some 83)), .inl 1, .inl a2, .inl a3] (sI (sI h2 84 (Int32.toNatClampNeg (h2.1 83 1)) a1) 83 1 (h2.1 83 1 + 1)) (fun x76 h75 => EvI G d mX0_above [.inr (.inr (some 83)), .inl a1, .inl 3, .inl a2, .inl a3] h75 (fun x78 h77 => Q (x76 - x78) h77))) ∧ (¬ (a1).toInt = 71 → Q 0 (sI (sI h2 84 (Int32.toNatClampNeg (h2.1 83 1)) a1) 83 1 (h2.1 83 1 + 1)))))))))))))))))))))))))))) ∧ (¬ a3 ≤ 40 → Q 0 h))) : EvI G (d + 1) mX0_run [.inr (.inr (some 83)), .inl a1, .inl a2, .inl a3] h Q := by
  refine Ev.of rfl (fun _ => Nat.le_of_ble_eq_true rfl) ?_
  show Rn G (d + 1) 0 0 mX0_run 0 [(0, .inr (.inr (some 83))), (1, .inl a1), (2, .inl a2), (3, .inl a3)] [] SH h (QI Q)
  refine rn_iload_n dX0_run_0 rfl rfl ?_
  refine rn_bipush (v := 40) dX0_run_1 (by decide) ?_
  refine rn_icmp_le (tgt := 8) dX0_run_3 (by decide) (fun c1 => ?_) (fun c1 => ?_)
  · replace V := V.1 c1
    refine rn_aload_n dX0_run_8 rfl rfl ?_
    refine rn_get (v := .inl (h.1 83 1)) dX0_run_9 fl_X0_25 rfl rfl rfl ?_
    refine rn_iconst (v := 0) dX0_run_12 (by decide) ?_
    refine rn_aload_n dX0_run_13 rfl rfl ?_
    refine rn_get (v := .inr (.inr (some 84))) dX0_run_14 fl_X0_9 rfl rfl (congrArg (fun z => (Sum.inr (Sum.inr z) : MV)) (rf_83_0 hR)) ?_
    refine rn_alen (v := 40) dX0_run_17 rfl (by decide) (by decide) ?_
    refine rn_iconst (v := 1) dX0_run_18 (by decide) ?_
    refine rn_isub dX0_run_19 ?_
    refine rn_cSN (M' := mX11_within) (n := 3) (av := [.inl (h.1 83 1), .inl 0, .inl (40 - 1)]) (S := []) (rc := 0) (rs := 0) (mc := 0) (ms := 0) dX0_run_20 pa_X11_within (Nat.le_refl _) rfl (Nat.le_of_ble_eq_true rfl) ml_X0_34 ss_X11_within rfl (Ev.mono V ?_)
    rintro v sh1 h2 ⟨rfl, Rh2, x3, rfl, V⟩
    show Rn G (d + 1) 0 0 mX0_run 23 [(0, .inr (.inr (some 83))), (1, .inl a1), (2, .inl a2), (3, .inl a3)] [.inl x3] SH h2 (QI Q)
    refine rn_if_eq (tgt := 46) dX0_run_23 (by decide) (fun c4 => ?_) (fun c4 => ?_)
    · replace V := V.1 c4
      refine rn_iload_n dX0_run_46 rfl rfl ?_
      by_cases c5 : (a1).toInt = 10
      · replace V := V.1 c5
        refine rn_lsw (off := 97) (tgt := 144) dX0_run_47 (by decide) (by rw [c5]; decide) (by decide) ?_
        refine rn_iload_n dX0_run_144 rfl rfl ?_
        refine rn_aload_n dX0_run_145 rfl rfl ?_
        refine rn_get (v := .inl (h2.1 83 3)) dX0_run_146 fl_X0_19 rfl rfl rfl ?_
        refine rn_iadd dX0_run_149 ?_
        exact rn_iret dX0_run_150 rfl ⟨rfl, Rh2, _, rfl, V⟩
      · replace V := V.2 c5
        by_cases c6 : (a1).toInt = 11
        · replace V := V.1 c6
          refine rn_lsw (off := 104) (tgt := 151) dX0_run_47 (by decide) (by rw [c6]; decide) (by decide) ?_
          refine rn_aload_n dX0_run_151 rfl rfl ?_
          refine rn_iconst (v := 0) dX0_run_152 (by decide) ?_
          refine rn_iload_n dX0_run_153 rfl rfl ?_
          refine rn_iload_n dX0_run_154 rfl rfl ?_
          refine rn_cV (M' := mX0_own) (n := 3) (av := [.inl 0, .inl a2, .inl a3]) (S := []) (rc := 0) (rs := 0) (mc := 0) (ms := 0) (a := 83) (ci := 0) (r := (RX0, TX0, 5)) dX0_run_155 pa_X0_own (Nat.le_refl _) rfl (Nat.le_of_ble_eq_true rfl) ml_X0_49 im_X0_own se_X0_own rfl rfl rfl (Ev.mono V ?_)
          rintro v sh1 h7 ⟨rfl, Rh7, x8, rfl, V⟩
          show Rn G (d + 1) 0 0 mX0_run 158 [(0, .inr (.inr (some 83))), (1, .inl a1), (2, .inl a2), (3, .inl a3)] [.inl x8] SH h7 (QI Q)
          refine rn_iconst (v := 2) dX0_run_158 (by decide) ?_
          refine rn_imul dX0_run_159 ?_
          exact rn_iret dX0_run_160 rfl ⟨rfl, Rh7, _, rfl, V⟩
        · replace V := V.2 c6
          by_cases c9 : (a1).toInt = 12
          · replace V := V.1 c9
            refine rn_lsw (off := 114) (tgt := 161) dX0_run_47 (by decide) (by rw [c9]; decide) (by decide) ?_
            refine rn_iload_n dX0_run_161 rfl rfl ?_
            refine rn_aload_n dX0_run_162 rfl rfl ?_
            refine rn_get (v := .inl (h2.1 83 4)) dX0_run_163 fl_X0_22 rfl rfl rfl ?_
            refine rn_isub dX0_run_166 ?_
            exact rn_iret dX0_run_167 rfl ⟨rfl, Rh2, _, rfl, V⟩
          · replace V := V.2 c9
            by_cases c10 : (a1).toInt = 13
            · replace V := V.1 c10
              refine rn_lsw (off := 121) (tgt := 168) dX0_run_47 (by decide) (by rw [c10]; decide) (by decide) ?_
              refine rn_aload_n dX0_run_168 rfl rfl ?_
              refine rn_iconst (v := 1) dX0_run_169 (by decide) ?_
              refine rn_iload_n dX0_run_170 rfl rfl ?_
              refine rn_iload_n dX0_run_171 rfl rfl ?_
              refine rn_cV (M' := mX0_own) (n := 3) (av := [.inl 1, .inl a2, .inl a3]) (S := []) (rc := 0) (rs := 0) (mc := 0) (ms := 0) (a := 83) (ci := 0) (r := (RX0, TX0, 5)) dX0_run_172 pa_X0_own (Nat.le_refl _) rfl (Nat.le_of_ble_eq_true rfl) ml_X0_49 im_X0_own se_X0_own rfl rfl rfl (Ev.mono V ?_)
              rintro v sh1 h11 ⟨rfl, Rh11, x12, rfl, V⟩
              show Rn G (d + 1) 0 0 mX0_run 175 [(0, .inr (.inr (some 83))), (1, .inl a1), (2, .inl a2), (3, .inl a3)] [.inl x12] SH h11 (QI Q)
              refine rn_aload_n dX0_run_175 rfl rfl ?_
              refine rn_iconst (v := 2) dX0_run_176 (by decide) ?_
              refine rn_iload_n dX0_run_177 rfl rfl ?_
              refine rn_iload_n dX0_run_178 rfl rfl ?_
              refine rn_cV (M' := mX0_own) (n := 3) (av := [.inl 2, .inl a2, .inl a3]) (S := [.inl x12]) (rc := 0) (rs := 0) (mc := 0) (ms := 0) (a := 83) (ci := 0) (r := (RX0, TX0, 5)) dX0_run_179 pa_X0_own (Nat.le_refl _) rfl (Nat.le_of_ble_eq_true rfl) ml_X0_49 im_X0_own se_X0_own rfl rfl rfl (Ev.mono V ?_)
              rintro v sh1 h13 ⟨rfl, Rh13, x14, rfl, V⟩
              show Rn G (d + 1) 0 0 mX0_run 182 [(0, .inr (.inr (some 83))), (1, .inl a1), (2, .inl a2), (3, .inl a3)] [.inl x14, .inl x12] SH h13 (QI Q)
              refine rn_ixor dX0_run_182 ?_
              exact rn_iret dX0_run_183 rfl ⟨rfl, Rh13, _, rfl, V⟩
            · replace V := V.2 c10
              by_cases c15 : (a1).toInt = 20
              · replace V := V.1 c15
                refine rn_lsw (off := 137) (tgt := 184) dX0_run_47 (by decide) (by rw [c15]; decide) (by decide) ?_
                refine rn_aload_n dX0_run_184 rfl rfl ?_
                refine rn_iload_n dX0_run_185 rfl rfl ?_
                refine rn_iconst (v := 1) dX0_run_186 (by decide) ?_
                refine rn_iload_n dX0_run_187 rfl rfl ?_
                refine rn_iload_n dX0_run_188 rfl rfl ?_
                refine rn_cV (M' := mX0_above) (n := 4) (av := [.inl a1, .inl 1, .inl a2, .inl a3]) (S := []) (rc := 0) (rs := 0) (mc := 0) (ms := 0) (a := 83) (ci := 0) (r := (RX0, TX0, 5)) dX0_run_189 pa_X0_above (Nat.le_refl _) rfl (Nat.le_of_ble_eq_true rfl) ml_X0_52 im_X0_above se_X0_above rfl rfl rfl (Ev.mono V ?_)
                rintro v sh1 h16 ⟨rfl, Rh16, x17, rfl, V⟩
                show Rn G (d + 1) 0 0 mX0_run 192 [(0, .inr (.inr (some 83))), (1, .inl a1), (2, .inl a2), (3, .inl a3)] [.inl x17] SH h16 (QI Q)
                refine rn_aload_n dX0_run_192 rfl rfl ?_
                refine rn_iconst (v := 2) dX0_run_193 (by decide) ?_
                refine rn_iconst (v := 1) dX0_run_194 (by decide) ?_
                refine rn_iload_n dX0_run_195 rfl rfl ?_
                refine rn_cV (M' := mX0_own) (n := 3) (av := [.inl 2, .inl 1, .inl a3]) (S := [.inl x17]) (rc := 0) (rs := 0) (mc := 0) (ms := 0) (a := 83) (ci := 0) (r := (RX0, TX0, 5)) dX0_run_196 pa_X0_own (Nat.le_refl _) rfl (Nat.le_of_ble_eq_true rfl) ml_X0_49 im_X0_own se_X0_own rfl rfl rfl (Ev.mono V ?_)
                rintro v sh1 h18 ⟨rfl, Rh18, x19, rfl, V⟩
                show Rn G (d + 1) 0 0 mX0_run 199 [(0, .inr (.inr (some 83))), (1, .inl a1), (2, .inl a2), (3, .inl a3)] [.inl x19, .inl x17] SH h18 (QI Q)
                refine rn_isub dX0_run_199 ?_
                exact rn_iret dX0_run_200 rfl ⟨rfl, Rh18, _, rfl, V⟩
              · replace V := V.2 c15
                by_cases c20 : (a1).toInt = 30
                · replace V := V.1 c20
                  refine rn_lsw (off := 154) (tgt := 201) dX0_run_47 (by decide) (by rw [c20]; decide) (by decide) ?_
                  refine rn_aload_n dX0_run_201 rfl rfl ?_
                  refine rn_iload_n dX0_run_202 rfl rfl ?_
                  refine rn_iconst (v := 0) dX0_run_203 (by decide) ?_
                  refine rn_iload_n dX0_run_204 rfl rfl ?_
                  refine rn_iload_n dX0_run_205 rfl rfl ?_
                  refine rn_cV (M' := mX0_above) (n := 4) (av := [.inl a1, .inl 0, .inl a2, .inl a3]) (S := []) (rc := 0) (rs := 0) (mc := 0) (ms := 0) (a := 83) (ci := 0) (r := (RX0, TX0, 5)) dX0_run_206 pa_X0_above (Nat.le_refl _) rfl (Nat.le_of_ble_eq_true rfl) ml_X0_52 im_X0_above se_X0_above rfl rfl rfl (Ev.mono V ?_)
                  rintro v sh1 h21 ⟨rfl, Rh21, x22, rfl, V⟩
                  show Rn G (d + 1) 0 0 mX0_run 209 [(0, .inr (.inr (some 83))), (1, .inl a1), (2, .inl a2), (3, .inl a3)] [.inl x22] SH h21 (QI Q)
                  refine rn_iconst (v := 3) dX0_run_209 (by decide) ?_
                  refine rn_imul dX0_run_210 ?_
                  exact rn_iret dX0_run_211 rfl ⟨rfl, Rh21, _, rfl, V⟩
                · replace V := V.2 c20
                  by_cases c23 : (a1).toInt = 40
                  · replace V := V.1 c23
                    refine rn_lsw (off := 165) (tgt := 212) dX0_run_47 (by decide) (by rw [c23]; decide) (by decide) ?_
                    refine rn_aload_n dX0_run_212 rfl rfl ?_
                    refine rn_iload_n dX0_run_213 rfl rfl ?_
                    refine rn_iconst (v := 2) dX0_run_214 (by decide) ?_
                    refine rn_iload_n dX0_run_215 rfl rfl ?_
                    refine rn_iload_n dX0_run_216 rfl rfl ?_
                    refine rn_cV (M' := mX0_above) (n := 4) (av := [.inl a1, .inl 2, .inl a2, .inl a3]) (S := []) (rc := 0) (rs := 0) (mc := 0) (ms := 0) (a := 83) (ci := 0) (r := (RX0, TX0, 5)) dX0_run_217 pa_X0_above (Nat.le_refl _) rfl (Nat.le_of_ble_eq_true rfl) ml_X0_52 im_X0_above se_X0_above rfl rfl rfl (Ev.mono V ?_)
                    rintro v sh1 h24 ⟨rfl, Rh24, x25, rfl, V⟩
                    show Rn G (d + 1) 0 0 mX0_run 220 [(0, .inr (.inr (some 83))), (1, .inl a1), (2, .inl a2), (3, .inl a3)] [.inl x25] SH h24 (QI Q)
                    refine rn_ineg dX0_run_220 ?_
                    exact rn_iret dX0_run_221 rfl ⟨rfl, Rh24, _, rfl, V⟩
                  · replace V := V.2 c23
                    by_cases c26 : (a1).toInt = 50
                    · replace V := V.1 c26
                      refine rn_lsw (off := 175) (tgt := 222) dX0_run_47 (by decide) (by rw [c26]; decide) (by decide) ?_
                      refine rn_aload_n dX0_run_222 rfl rfl ?_
                      refine rn_iload_n dX0_run_223 rfl rfl ?_
                      refine rn_iconst (v := 1) dX0_run_224 (by decide) ?_
                      refine rn_iload_n dX0_run_225 rfl rfl ?_
                      refine rn_iconst (v := 1) dX0_run_226 (by decide) ?_
                      refine rn_iadd dX0_run_227 ?_
                      refine rn_iload_n dX0_run_228 rfl rfl ?_
                      refine rn_cV (M' := mX0_above) (n := 4) (av := [.inl a1, .inl 1, .inl (a2 + 1), .inl a3]) (S := []) (rc := 0) (rs := 0) (mc := 0) (ms := 0) (a := 83) (ci := 0) (r := (RX0, TX0, 5)) dX0_run_229 pa_X0_above (Nat.le_refl _) rfl (Nat.le_of_ble_eq_true rfl) ml_X0_52 im_X0_above se_X0_above rfl rfl rfl (Ev.mono V ?_)
                      rintro v sh1 h27 ⟨rfl, Rh27, x28, rfl, V⟩
                      show Rn G (d + 1) 0 0 mX0_run 232 [(0, .inr (.inr (some 83))), (1, .inl a1), (2, .inl a2), (3, .inl a3)] [.inl x28] SH h27 (QI Q)
                      exact rn_iret dX0_run_232 rfl ⟨rfl, Rh27, _, rfl, V⟩
                    · replace V := V.2 c26
                      by_cases c29 : (a1).toInt = 60
                      · replace V := V.1 c29
                        refine rn_lsw (off := 186) (tgt := 233) dX0_run_47 (by decide) (by rw [c29]; decide) (by decide) ?_
                        refine rn_aload_n dX0_run_233 rfl rfl ?_
                        refine rn_iload_n dX0_run_234 rfl rfl ?_
                        refine rn_iconst (v := 3) dX0_run_235 (by decide) ?_
                        refine rn_iload_n dX0_run_236 rfl rfl ?_
                        refine rn_iload_n dX0_run_237 rfl rfl ?_
                        refine rn_cV (M' := mX0_above) (n := 4) (av := [.inl a1, .inl 3, .inl a2, .inl a3]) (S := []) (rc := 0) (rs := 0) (mc := 0) (ms := 0) (a := 83) (ci := 0) (r := (RX0, TX0, 5)) dX0_run_238 pa_X0_above (Nat.le_refl _) rfl (Nat.le_of_ble_eq_true rfl) ml_X0_52 im_X0_above se_X0_above rfl rfl rfl (Ev.mono V ?_)
                        rintro v sh1 h30 ⟨rfl, Rh30, x31, rfl, V⟩
                        show Rn G (d + 1) 0 0 mX0_run 241 [(0, .inr (.inr (some 83))), (1, .inl a1), (2, .inl a2), (3, .inl a3)] [.inl x31] SH h30 (QI Q)
                        refine rn_aload_n dX0_run_241 rfl rfl ?_
                        refine rn_iconst (v := 0) dX0_run_242 (by decide) ?_
                        refine rn_iconst (v := 2) dX0_run_243 (by decide) ?_
                        refine rn_iload_n dX0_run_244 rfl rfl ?_
                        refine rn_cV (M' := mX0_own) (n := 3) (av := [.inl 0, .inl 2, .inl a3]) (S := [.inl x31]) (rc := 0) (rs := 0) (mc := 0) (ms := 0) (a := 83) (ci := 0) (r := (RX0, TX0, 5)) dX0_run_245 pa_X0_own (Nat.le_refl _) rfl (Nat.le_of_ble_eq_true rfl) ml_X0_49 im_X0_own se_X0_own rfl rfl rfl (Ev.mono V ?_)
                        rintro v sh1 h32 ⟨rfl, Rh32, x33, rfl, V⟩
                        show Rn G (d + 1) 0 0 mX0_run 248 [(0, .inr (.inr (some 83))), (1, .inl a1), (2, .inl a2), (3, .inl a3)] [.inl x33, .inl x31] SH h32 (QI Q)
                        refine rn_isub dX0_run_248 ?_
                        exact rn_iret dX0_run_249 rfl ⟨rfl, Rh32, _, rfl, V⟩
                      · replace V := V.2 c29
                        by_cases c34 : (a1).toInt = 70
                        · replace V := V.1 c34
                          refine rn_lsw (off := 203) (tgt := 250) dX0_run_47 (by decide) (by rw [c34]; decide) (by decide) ?_
                          refine rn_aload_n dX0_run_250 rfl rfl ?_
                          refine rn_iload_n dX0_run_251 rfl rfl ?_
                          refine rn_iconst (v := 2) dX0_run_252 (by decide) ?_
                          refine rn_iload_n dX0_run_253 rfl rfl ?_
                          refine rn_iload_n dX0_run_254 rfl rfl ?_
                          refine rn_cV (M' := mX0_above) (n := 4) (av := [.inl a1, .inl 2, .inl a2, .inl a3]) (S := []) (rc := 0) (rs := 0) (mc := 0) (ms := 0) (a := 83) (ci := 0) (r := (RX0, TX0, 5)) dX0_run_255 pa_X0_above (Nat.le_refl _) rfl (Nat.le_of_ble_eq_true rfl) ml_X0_52 im_X0_above se_X0_above rfl rfl rfl (Ev.mono V ?_)
                          rintro v sh1 h35 ⟨rfl, Rh35, x36, rfl, V⟩
                          show Rn G (d + 1) 0 0 mX0_run 258 [(0, .inr (.inr (some 83))), (1, .inl a1), (2, .inl a2), (3, .inl a3)] [.inl x36] SH h35 (QI Q)
                          refine rn_aload_n dX0_run_258 rfl rfl ?_
                          refine rn_get (v := .inl (h35.1 83 3)) dX0_run_259 fl_X0_19 rfl rfl rfl ?_
                          refine rn_ixor dX0_run_262 ?_
                          exact rn_iret dX0_run_263 rfl ⟨rfl, Rh35, _, rfl, V⟩
                        · replace V := V.2 c34
                          by_cases c37 : (a1).toInt = 71
                          · replace V := V.1 c37
                            refine rn_lsw (off := 217) (tgt := 264) dX0_run_47 (by decide) (by rw [c37]; decide) (by decide) ?_
                            refine rn_aload_n dX0_run_264 rfl rfl ?_
                            refine rn_iconst (v := 1) dX0_run_265 (by decide) ?_
                            refine rn_iload_n dX0_run_266 rfl rfl ?_
                            refine rn_iload_n dX0_run_267 rfl rfl ?_
                            refine rn_cV (M' := mX0_own) (n := 3) (av := [.inl 1, .inl a2, .inl a3]) (S := []) (rc := 0) (rs := 0) (mc := 0) (ms := 0) (a := 83) (ci := 0) (r := (RX0, TX0, 5)) dX0_run_268 pa_X0_own (Nat.le_refl _) rfl (Nat.le_of_ble_eq_true rfl) ml_X0_49 im_X0_own se_X0_own rfl rfl rfl (Ev.mono V ?_)
                            rintro v sh1 h38 ⟨rfl, Rh38, x39, rfl, V⟩
                            show Rn G (d + 1) 0 0 mX0_run 271 [(0, .inr (.inr (some 83))), (1, .inl a1), (2, .inl a2), (3, .inl a3)] [.inl x39] SH h38 (QI Q)
                            refine rn_aload_n dX0_run_271 rfl rfl ?_
                            refine rn_iload_n dX0_run_272 rfl rfl ?_
                            refine rn_iconst (v := 3) dX0_run_273 (by decide) ?_
                            refine rn_iload_n dX0_run_274 rfl rfl ?_
                            refine rn_iload_n dX0_run_275 rfl rfl ?_
                            refine rn_cV (M' := mX0_above) (n := 4) (av := [.inl a1, .inl 3, .inl a2, .inl a3]) (S := [.inl x39]) (rc := 0) (rs := 0) (mc := 0) (ms := 0) (a := 83) (ci := 0) (r := (RX0, TX0, 5)) dX0_run_276 pa_X0_above (Nat.le_refl _) rfl (Nat.le_of_ble_eq_true rfl) ml_X0_52 im_X0_above se_X0_above rfl rfl rfl (Ev.mono V ?_)
                            rintro v sh1 h40 ⟨rfl, Rh40, x41, rfl, V⟩
                            show Rn G (d + 1) 0 0 mX0_run 279 [(0, .inr (.inr (some 83))), (1, .inl a1), (2, .inl a2), (3, .inl a3)] [.inl x41, .inl x39] SH h40 (QI Q)
                            refine rn_isub dX0_run_279 ?_
                            exact rn_iret dX0_run_280 rfl ⟨rfl, Rh40, _, rfl, V⟩
                          · replace V := V.2 c37
                            refine rn_lsw (off := 234) (tgt := 281) dX0_run_47 (by decide) (by simp [Op.lookupswitch.offset, Ne.symm c5, Ne.symm c6, Ne.symm c9, Ne.symm c10, Ne.symm c15, Ne.symm c20, Ne.symm c23, Ne.symm c26, Ne.symm c29, Ne.symm c34, Ne.symm c37]) (by decide) ?_
                            refine rn_iconst (v := 0) dX0_run_281 (by decide) ?_
                            exact rn_iret dX0_run_282 rfl ⟨rfl, Rh2, _, rfl, V⟩
    · replace V := V.2 c4
      refine rn_aload_n dX0_run_26 rfl rfl ?_
      refine rn_get (v := .inr (.inr (some 84))) dX0_run_27 fl_X0_9 rfl rfl (congrArg (fun z => (Sum.inr (Sum.inr z) : MV)) (rf_83_0 Rh2)) ?_
      refine rn_aload_n dX0_run_30 rfl rfl ?_
      refine rn_get (v := .inl (h2.1 83 1)) dX0_run_31 fl_X0_25 rfl rfl rfl ?_
      refine rn_iload_n dX0_run_34 rfl rfl ?_
      obtain ⟨g0, V⟩ := V
      refine rn_iast (k := (Int32.toNatClampNeg (h2.1 83 1))) dX0_run_35 rfl rfl g0 ?_
      refine rn_aload_n dX0_run_36 rfl rfl ?_
      refine rn_dup dX0_run_37 rfl ?_
      refine rn_get (v := .inl (h2.1 83 1)) dX0_run_38 fl_X0_25 rfl rfl rfl ?_
      refine rn_iconst (v := 1) dX0_run_41 (by decide) ?_
      refine rn_iadd dX0_run_42 ?_
      refine rn_putI dX0_run_43 fl_X0_25 rfl rfl (Or.inl rfl) rfl rfl ?_
      refine rn_iload_n dX0_run_46 rfl rfl ?_
      by_cases c42 : (a1).toInt = 10
      · replace V := V.1 c42
        refine rn_lsw (off := 97) (tgt := 144) dX0_run_47 (by decide) (by rw [c42]; decide) (by decide) ?_
        refine rn_iload_n dX0_run_144 rfl rfl ?_
        refine rn_aload_n dX0_run_145 rfl rfl ?_
        refine rn_get (v := .inl (h2.1 83 3)) dX0_run_146 fl_X0_19 rfl rfl rfl ?_
        refine rn_iadd dX0_run_149 ?_
        exact rn_iret dX0_run_150 rfl ⟨rfl, Rh2, _, rfl, V⟩
      · replace V := V.2 c42
        by_cases c43 : (a1).toInt = 11
        · replace V := V.1 c43
          refine rn_lsw (off := 104) (tgt := 151) dX0_run_47 (by decide) (by rw [c43]; decide) (by decide) ?_
          refine rn_aload_n dX0_run_151 rfl rfl ?_
          refine rn_iconst (v := 0) dX0_run_152 (by decide) ?_
          refine rn_iload_n dX0_run_153 rfl rfl ?_
          refine rn_iload_n dX0_run_154 rfl rfl ?_
          refine rn_cV (M' := mX0_own) (n := 3) (av := [.inl 0, .inl a2, .inl a3]) (S := []) (rc := 0) (rs := 0) (mc := 0) (ms := 0) (a := 83) (ci := 0) (r := (RX0, TX0, 5)) dX0_run_155 pa_X0_own (Nat.le_refl _) rfl (Nat.le_of_ble_eq_true rfl) ml_X0_49 im_X0_own se_X0_own rfl rfl rfl (Ev.mono V ?_)
          rintro v sh1 h44 ⟨rfl, Rh44, x45, rfl, V⟩
          show Rn G (d + 1) 0 0 mX0_run 158 [(0, .inr (.inr (some 83))), (1, .inl a1), (2, .inl a2), (3, .inl a3)] [.inl x45] SH h44 (QI Q)
          refine rn_iconst (v := 2) dX0_run_158 (by decide) ?_
          refine rn_imul dX0_run_159 ?_
          exact rn_iret dX0_run_160 rfl ⟨rfl, Rh44, _, rfl, V⟩
        · replace V := V.2 c43
          by_cases c46 : (a1).toInt = 12
          · replace V := V.1 c46
            refine rn_lsw (off := 114) (tgt := 161) dX0_run_47 (by decide) (by rw [c46]; decide) (by decide) ?_
            refine rn_iload_n dX0_run_161 rfl rfl ?_
            refine rn_aload_n dX0_run_162 rfl rfl ?_
            refine rn_get (v := .inl (h2.1 83 4)) dX0_run_163 fl_X0_22 rfl rfl rfl ?_
            refine rn_isub dX0_run_166 ?_
            exact rn_iret dX0_run_167 rfl ⟨rfl, Rh2, _, rfl, V⟩
          · replace V := V.2 c46
            by_cases c47 : (a1).toInt = 13
            · replace V := V.1 c47
              refine rn_lsw (off := 121) (tgt := 168) dX0_run_47 (by decide) (by rw [c47]; decide) (by decide) ?_
              refine rn_aload_n dX0_run_168 rfl rfl ?_
              refine rn_iconst (v := 1) dX0_run_169 (by decide) ?_
              refine rn_iload_n dX0_run_170 rfl rfl ?_
              refine rn_iload_n dX0_run_171 rfl rfl ?_
              refine rn_cV (M' := mX0_own) (n := 3) (av := [.inl 1, .inl a2, .inl a3]) (S := []) (rc := 0) (rs := 0) (mc := 0) (ms := 0) (a := 83) (ci := 0) (r := (RX0, TX0, 5)) dX0_run_172 pa_X0_own (Nat.le_refl _) rfl (Nat.le_of_ble_eq_true rfl) ml_X0_49 im_X0_own se_X0_own rfl rfl rfl (Ev.mono V ?_)
              rintro v sh1 h48 ⟨rfl, Rh48, x49, rfl, V⟩
              show Rn G (d + 1) 0 0 mX0_run 175 [(0, .inr (.inr (some 83))), (1, .inl a1), (2, .inl a2), (3, .inl a3)] [.inl x49] SH h48 (QI Q)
              refine rn_aload_n dX0_run_175 rfl rfl ?_
              refine rn_iconst (v := 2) dX0_run_176 (by decide) ?_
              refine rn_iload_n dX0_run_177 rfl rfl ?_
              refine rn_iload_n dX0_run_178 rfl rfl ?_
              refine rn_cV (M' := mX0_own) (n := 3) (av := [.inl 2, .inl a2, .inl a3]) (S := [.inl x49]) (rc := 0) (rs := 0) (mc := 0) (ms := 0) (a := 83) (ci := 0) (r := (RX0, TX0, 5)) dX0_run_179 pa_X0_own (Nat.le_refl _) rfl (Nat.le_of_ble_eq_true rfl) ml_X0_49 im_X0_own se_X0_own rfl rfl rfl (Ev.mono V ?_)
              rintro v sh1 h50 ⟨rfl, Rh50, x51, rfl, V⟩
              show Rn G (d + 1) 0 0 mX0_run 182 [(0, .inr (.inr (some 83))), (1, .inl a1), (2, .inl a2), (3, .inl a3)] [.inl x51, .inl x49] SH h50 (QI Q)
              refine rn_ixor dX0_run_182 ?_
              exact rn_iret dX0_run_183 rfl ⟨rfl, Rh50, _, rfl, V⟩
            · replace V := V.2 c47
              by_cases c52 : (a1).toInt = 20
              · replace V := V.1 c52
                refine rn_lsw (off := 137) (tgt := 184) dX0_run_47 (by decide) (by rw [c52]; decide) (by decide) ?_
                refine rn_aload_n dX0_run_184 rfl rfl ?_
                refine rn_iload_n dX0_run_185 rfl rfl ?_
                refine rn_iconst (v := 1) dX0_run_186 (by decide) ?_
                refine rn_iload_n dX0_run_187 rfl rfl ?_
                refine rn_iload_n dX0_run_188 rfl rfl ?_
                refine rn_cV (M' := mX0_above) (n := 4) (av := [.inl a1, .inl 1, .inl a2, .inl a3]) (S := []) (rc := 0) (rs := 0) (mc := 0) (ms := 0) (a := 83) (ci := 0) (r := (RX0, TX0, 5)) dX0_run_189 pa_X0_above (Nat.le_refl _) rfl (Nat.le_of_ble_eq_true rfl) ml_X0_52 im_X0_above se_X0_above rfl rfl rfl (Ev.mono V ?_)
                rintro v sh1 h53 ⟨rfl, Rh53, x54, rfl, V⟩
                show Rn G (d + 1) 0 0 mX0_run 192 [(0, .inr (.inr (some 83))), (1, .inl a1), (2, .inl a2), (3, .inl a3)] [.inl x54] SH h53 (QI Q)
                refine rn_aload_n dX0_run_192 rfl rfl ?_
                refine rn_iconst (v := 2) dX0_run_193 (by decide) ?_
                refine rn_iconst (v := 1) dX0_run_194 (by decide) ?_
                refine rn_iload_n dX0_run_195 rfl rfl ?_
                refine rn_cV (M' := mX0_own) (n := 3) (av := [.inl 2, .inl 1, .inl a3]) (S := [.inl x54]) (rc := 0) (rs := 0) (mc := 0) (ms := 0) (a := 83) (ci := 0) (r := (RX0, TX0, 5)) dX0_run_196 pa_X0_own (Nat.le_refl _) rfl (Nat.le_of_ble_eq_true rfl) ml_X0_49 im_X0_own se_X0_own rfl rfl rfl (Ev.mono V ?_)
                rintro v sh1 h55 ⟨rfl, Rh55, x56, rfl, V⟩
                show Rn G (d + 1) 0 0 mX0_run 199 [(0, .inr (.inr (some 83))), (1, .inl a1), (2, .inl a2), (3, .inl a3)] [.inl x56, .inl x54] SH h55 (QI Q)
                refine rn_isub dX0_run_199 ?_
                exact rn_iret dX0_run_200 rfl ⟨rfl, Rh55, _, rfl, V⟩
              · replace V := V.2 c52
                by_cases c57 : (a1).toInt = 30
                · replace V := V.1 c57
                  refine rn_lsw (off := 154) (tgt := 201) dX0_run_47 (by decide) (by rw [c57]; decide) (by decide) ?_
                  refine rn_aload_n dX0_run_201 rfl rfl ?_
                  refine rn_iload_n dX0_run_202 rfl rfl ?_
                  refine rn_iconst (v := 0) dX0_run_203 (by decide) ?_
                  refine rn_iload_n dX0_run_204 rfl rfl ?_
                  refine rn_iload_n dX0_run_205 rfl rfl ?_
                  refine rn_cV (M' := mX0_above) (n := 4) (av := [.inl a1, .inl 0, .inl a2, .inl a3]) (S := []) (rc := 0) (rs := 0) (mc := 0) (ms := 0) (a := 83) (ci := 0) (r := (RX0, TX0, 5)) dX0_run_206 pa_X0_above (Nat.le_refl _) rfl (Nat.le_of_ble_eq_true rfl) ml_X0_52 im_X0_above se_X0_above rfl rfl rfl (Ev.mono V ?_)
                  rintro v sh1 h58 ⟨rfl, Rh58, x59, rfl, V⟩
                  show Rn G (d + 1) 0 0 mX0_run 209 [(0, .inr (.inr (some 83))), (1, .inl a1), (2, .inl a2), (3, .inl a3)] [.inl x59] SH h58 (QI Q)
                  refine rn_iconst (v := 3) dX0_run_209 (by decide) ?_
                  refine rn_imul dX0_run_210 ?_
                  exact rn_iret dX0_run_211 rfl ⟨rfl, Rh58, _, rfl, V⟩
                · replace V := V.2 c57
                  by_cases c60 : (a1).toInt = 40
                  · replace V := V.1 c60
                    refine rn_lsw (off := 165) (tgt := 212) dX0_run_47 (by decide) (by rw [c60]; decide) (by decide) ?_
                    refine rn_aload_n dX0_run_212 rfl rfl ?_
                    refine rn_iload_n dX0_run_213 rfl rfl ?_
                    refine rn_iconst (v := 2) dX0_run_214 (by decide) ?_
                    refine rn_iload_n dX0_run_215 rfl rfl ?_
                    refine rn_iload_n dX0_run_216 rfl rfl ?_
                    refine rn_cV (M' := mX0_above) (n := 4) (av := [.inl a1, .inl 2, .inl a2, .inl a3]) (S := []) (rc := 0) (rs := 0) (mc := 0) (ms := 0) (a := 83) (ci := 0) (r := (RX0, TX0, 5)) dX0_run_217 pa_X0_above (Nat.le_refl _) rfl (Nat.le_of_ble_eq_true rfl) ml_X0_52 im_X0_above se_X0_above rfl rfl rfl (Ev.mono V ?_)
                    rintro v sh1 h61 ⟨rfl, Rh61, x62, rfl, V⟩
                    show Rn G (d + 1) 0 0 mX0_run 220 [(0, .inr (.inr (some 83))), (1, .inl a1), (2, .inl a2), (3, .inl a3)] [.inl x62] SH h61 (QI Q)
                    refine rn_ineg dX0_run_220 ?_
                    exact rn_iret dX0_run_221 rfl ⟨rfl, Rh61, _, rfl, V⟩
                  · replace V := V.2 c60
                    by_cases c63 : (a1).toInt = 50
                    · replace V := V.1 c63
                      refine rn_lsw (off := 175) (tgt := 222) dX0_run_47 (by decide) (by rw [c63]; decide) (by decide) ?_
                      refine rn_aload_n dX0_run_222 rfl rfl ?_
                      refine rn_iload_n dX0_run_223 rfl rfl ?_
                      refine rn_iconst (v := 1) dX0_run_224 (by decide) ?_
                      refine rn_iload_n dX0_run_225 rfl rfl ?_
                      refine rn_iconst (v := 1) dX0_run_226 (by decide) ?_
                      refine rn_iadd dX0_run_227 ?_
                      refine rn_iload_n dX0_run_228 rfl rfl ?_
                      refine rn_cV (M' := mX0_above) (n := 4) (av := [.inl a1, .inl 1, .inl (a2 + 1), .inl a3]) (S := []) (rc := 0) (rs := 0) (mc := 0) (ms := 0) (a := 83) (ci := 0) (r := (RX0, TX0, 5)) dX0_run_229 pa_X0_above (Nat.le_refl _) rfl (Nat.le_of_ble_eq_true rfl) ml_X0_52 im_X0_above se_X0_above rfl rfl rfl (Ev.mono V ?_)
                      rintro v sh1 h64 ⟨rfl, Rh64, x65, rfl, V⟩
                      show Rn G (d + 1) 0 0 mX0_run 232 [(0, .inr (.inr (some 83))), (1, .inl a1), (2, .inl a2), (3, .inl a3)] [.inl x65] SH h64 (QI Q)
                      exact rn_iret dX0_run_232 rfl ⟨rfl, Rh64, _, rfl, V⟩
                    · replace V := V.2 c63
                      by_cases c66 : (a1).toInt = 60
                      · replace V := V.1 c66
                        refine rn_lsw (off := 186) (tgt := 233) dX0_run_47 (by decide) (by rw [c66]; decide) (by decide) ?_
                        refine rn_aload_n dX0_run_233 rfl rfl ?_
                        refine rn_iload_n dX0_run_234 rfl rfl ?_
                        refine rn_iconst (v := 3) dX0_run_235 (by decide) ?_
                        refine rn_iload_n dX0_run_236 rfl rfl ?_
                        refine rn_iload_n dX0_run_237 rfl rfl ?_
                        refine rn_cV (M' := mX0_above) (n := 4) (av := [.inl a1, .inl 3, .inl a2, .inl a3]) (S := []) (rc := 0) (rs := 0) (mc := 0) (ms := 0) (a := 83) (ci := 0) (r := (RX0, TX0, 5)) dX0_run_238 pa_X0_above (Nat.le_refl _) rfl (Nat.le_of_ble_eq_true rfl) ml_X0_52 im_X0_above se_X0_above rfl rfl rfl (Ev.mono V ?_)
                        rintro v sh1 h67 ⟨rfl, Rh67, x68, rfl, V⟩
                        show Rn G (d + 1) 0 0 mX0_run 241 [(0, .inr (.inr (some 83))), (1, .inl a1), (2, .inl a2), (3, .inl a3)] [.inl x68] SH h67 (QI Q)
                        refine rn_aload_n dX0_run_241 rfl rfl ?_
                        refine rn_iconst (v := 0) dX0_run_242 (by decide) ?_
                        refine rn_iconst (v := 2) dX0_run_243 (by decide) ?_
                        refine rn_iload_n dX0_run_244 rfl rfl ?_
                        refine rn_cV (M' := mX0_own) (n := 3) (av := [.inl 0, .inl 2, .inl a3]) (S := [.inl x68]) (rc := 0) (rs := 0) (mc := 0) (ms := 0) (a := 83) (ci := 0) (r := (RX0, TX0, 5)) dX0_run_245 pa_X0_own (Nat.le_refl _) rfl (Nat.le_of_ble_eq_true rfl) ml_X0_49 im_X0_own se_X0_own rfl rfl rfl (Ev.mono V ?_)
                        rintro v sh1 h69 ⟨rfl, Rh69, x70, rfl, V⟩
                        show Rn G (d + 1) 0 0 mX0_run 248 [(0, .inr (.inr (some 83))), (1, .inl a1), (2, .inl a2), (3, .inl a3)] [.inl x70, .inl x68] SH h69 (QI Q)
                        refine rn_isub dX0_run_248 ?_
                        exact rn_iret dX0_run_249 rfl ⟨rfl, Rh69, _, rfl, V⟩
                      · replace V := V.2 c66
                        by_cases c71 : (a1).toInt = 70
                        · replace V := V.1 c71
                          refine rn_lsw (off := 203) (tgt := 250) dX0_run_47 (by decide) (by rw [c71]; decide) (by decide) ?_
                          refine rn_aload_n dX0_run_250 rfl rfl ?_
                          refine rn_iload_n dX0_run_251 rfl rfl ?_
                          refine rn_iconst (v := 2) dX0_run_252 (by decide) ?_
                          refine rn_iload_n dX0_run_253 rfl rfl ?_
                          refine rn_iload_n dX0_run_254 rfl rfl ?_
                          refine rn_cV (M' := mX0_above) (n := 4) (av := [.inl a1, .inl 2, .inl a2, .inl a3]) (S := []) (rc := 0) (rs := 0) (mc := 0) (ms := 0) (a := 83) (ci := 0) (r := (RX0, TX0, 5)) dX0_run_255 pa_X0_above (Nat.le_refl _) rfl (Nat.le_of_ble_eq_true rfl) ml_X0_52 im_X0_above se_X0_above rfl rfl rfl (Ev.mono V ?_)
                          rintro v sh1 h72 ⟨rfl, Rh72, x73, rfl, V⟩
                          show Rn G (d + 1) 0 0 mX0_run 258 [(0, .inr (.inr (some 83))), (1, .inl a1), (2, .inl a2), (3, .inl a3)] [.inl x73] SH h72 (QI Q)
                          refine rn_aload_n dX0_run_258 rfl rfl ?_
                          refine rn_get (v := .inl (h72.1 83 3)) dX0_run_259 fl_X0_19 rfl rfl rfl ?_
                          refine rn_ixor dX0_run_262 ?_
                          exact rn_iret dX0_run_263 rfl ⟨rfl, Rh72, _, rfl, V⟩
                        · replace V := V.2 c71
                          by_cases c74 : (a1).toInt = 71
                          · replace V := V.1 c74
                            refine rn_lsw (off := 217) (tgt := 264) dX0_run_47 (by decide) (by rw [c74]; decide) (by decide) ?_
                            refine rn_aload_n dX0_run_264 rfl rfl ?_
                            refine rn_iconst (v := 1) dX0_run_265 (by decide) ?_
                            refine rn_iload_n dX0_run_266 rfl rfl ?_
                            refine rn_iload_n dX0_run_267 rfl rfl ?_
                            refine rn_cV (M' := mX0_own) (n := 3) (av := [.inl 1, .inl a2, .inl a3]) (S := []) (rc := 0) (rs := 0) (mc := 0) (ms := 0) (a := 83) (ci := 0) (r := (RX0, TX0, 5)) dX0_run_268 pa_X0_own (Nat.le_refl _) rfl (Nat.le_of_ble_eq_true rfl) ml_X0_49 im_X0_own se_X0_own rfl rfl rfl (Ev.mono V ?_)
                            rintro v sh1 h75 ⟨rfl, Rh75, x76, rfl, V⟩
                            show Rn G (d + 1) 0 0 mX0_run 271 [(0, .inr (.inr (some 83))), (1, .inl a1), (2, .inl a2), (3, .inl a3)] [.inl x76] SH h75 (QI Q)
                            refine rn_aload_n dX0_run_271 rfl rfl ?_
                            refine rn_iload_n dX0_run_272 rfl rfl ?_
                            refine rn_iconst (v := 3) dX0_run_273 (by decide) ?_
                            refine rn_iload_n dX0_run_274 rfl rfl ?_
                            refine rn_iload_n dX0_run_275 rfl rfl ?_
                            refine rn_cV (M' := mX0_above) (n := 4) (av := [.inl a1, .inl 3, .inl a2, .inl a3]) (S := [.inl x76]) (rc := 0) (rs := 0) (mc := 0) (ms := 0) (a := 83) (ci := 0) (r := (RX0, TX0, 5)) dX0_run_276 pa_X0_above (Nat.le_refl _) rfl (Nat.le_of_ble_eq_true rfl) ml_X0_52 im_X0_above se_X0_above rfl rfl rfl (Ev.mono V ?_)
                            rintro v sh1 h77 ⟨rfl, Rh77, x78, rfl, V⟩
                            show Rn G (d + 1) 0 0 mX0_run 279 [(0, .inr (.inr (some 83))), (1, .inl a1), (2, .inl a2), (3, .inl a3)] [.inl x78, .inl x76] SH h77 (QI Q)
                            refine rn_isub dX0_run_279 ?_
                            exact rn_iret dX0_run_280 rfl ⟨rfl, Rh77, _, rfl, V⟩
                          · replace V := V.2 c74
                            refine rn_lsw (off := 234) (tgt := 281) dX0_run_47 (by decide) (by simp [Op.lookupswitch.offset, Ne.symm c42, Ne.symm c43, Ne.symm c46, Ne.symm c47, Ne.symm c52, Ne.symm c57, Ne.symm c60, Ne.symm c63, Ne.symm c66, Ne.symm c71, Ne.symm c74]) (by decide) ?_
                            refine rn_iconst (v := 0) dX0_run_281 (by decide) ?_
                            exact rn_iret dX0_run_282 rfl ⟨rfl, Rh2, _, rfl, V⟩
  · replace V := V.2 c1
    refine rn_iconst (v := 0) dX0_run_6 (by decide) ?_
    exact rn_iret dX0_run_7 rfl ⟨rfl, hR, _, rfl, V⟩
set_option maxRecDepth 100000 in
set_option maxHeartbeats 4000000 in
theorem vc_X8_has {G : GT} {d : Nat} {a1 : Int32}  {h : Hp} {Q : Int32 → Hp → Prop} (hR : RF h) (V : EvI G d mX11_within [.inl a1, .inl 0, .inl 3] h (fun x2 h1 => (narrow .boolean (.int x2) = .int x2 ∧ Q x2 h1))) : EvI G (d + 1) mX8_has [.inr (.inr (some 85)), .inl a1] h Q := by
  refine Ev.of rfl (fun _ => Nat.le_of_ble_eq_true rfl) ?_
  show Rn G (d + 1) 0 0 mX8_has 0 [(0, .inr (.inr (some 85))), (1, .inl a1)] [] SH h (QI Q)
  refine rn_iload_n dX8_has_0 rfl rfl ?_
  refine rn_iconst (v := 0) dX8_has_1 (by decide) ?_
  refine rn_iconst (v := 3) dX8_has_2 (by decide) ?_
  refine rn_cSN (M' := mX11_within) (n := 3) (av := [.inl a1, .inl 0, .inl 3]) (S := []) (rc := 0) (rs := 0) (mc := 0) (ms := 0) dX8_has_3 pa_X11_within (Nat.le_refl _) rfl (Nat.le_of_ble_eq_true rfl) ml_X8_23 ss_X11_within rfl (Ev.mono V ?_)
  rintro v sh1 h1 ⟨rfl, Rh1, x2, rfl, V⟩
  show Rn G (d + 1) 0 0 mX8_has 6 [(0, .inr (.inr (some 85))), (1, .inl a1)] [.inl x2] SH h1 (QI Q)
  exact rn_zret dX8_has_6 rfl V.1 ⟨rfl, Rh1, _, rfl, V.2⟩
set_option maxRecDepth 100000 in
set_option maxHeartbeats 4000000 in
theorem vc_X8_isMissing {G : GT} {d : Nat} {a1 : Int32}  {h : Hp} {Q : Int32 → Hp → Prop} (hR : RF h) (V : EvI G d mX8_has [.inr (.inr (some 85)), .inl a1] h (fun x2 h1 => ((x2 = 0 → Q 1 h1) ∧ (¬ x2 = 0 → vp_in a1 4 ∧ ((¬ h1.1 86 (Int32.toNatClampNeg a1) = 0 → Q 0 h1) ∧ (h1.1 86 (Int32.toNatClampNeg a1) = 0 → Q 1 h1)))))) : EvI G (d + 1) mX8_isMissing [.inr (.inr (some 85)), .inl a1] h Q := by
  refine Ev.of rfl (fun _ => Nat.le_of_ble_eq_true rfl) ?_
  show Rn G (d + 1) 0 0 mX8_isMissing 0 [(0, .inr (.inr (some 85))), (1, .inl a1)] [] SH h (QI Q)
  refine rn_aload_n dX8_isMissing_0 rfl rfl ?_
  refine rn_iload_n dX8_isMissing_1 rfl rfl ?_
  refine rn_cV (M' := mX8_has) (n := 1) (av := [.inl a1]) (S := []) (rc := 0) (rs := 0) (mc := 0) (ms := 0) (a := 85) (ci := 7) (r := (RX8, TX8, 3)) dX8_isMissing_2 pa_X8_has (Nat.le_refl _) rfl (Nat.le_of_ble_eq_true rfl) ml_X8_27 im_X8_has se_X8_has rfl rfl rfl (Ev.mono V ?_)
  rintro v sh1 h1 ⟨rfl, Rh1, x2, rfl, V⟩
  show Rn G (d + 1) 0 0 mX8_isMissing 5 [(0, .inr (.inr (some 85))), (1, .inl a1)] [.inl x2] SH h1 (QI Q)
  refine rn_if_eq (tgt := 17) dX8_isMissing_5 (by decide) (fun c3 => ?_) (fun c3 => ?_)
  · replace V := V.1 c3
    refine rn_iconst (v := 1) dX8_isMissing_17 (by decide) ?_
    refine rn_goto (tgt := 22) dX8_isMissing_18 (by decide) ?_
    exact rn_zret dX8_isMissing_22 rfl (by decide) ⟨rfl, Rh1, _, rfl, V⟩
  · replace V := V.2 c3
    refine rn_aload_n dX8_isMissing_8 rfl rfl ?_
    refine rn_get (v := .inr (.inr (some 86))) dX8_isMissing_9 fl_X8_9 rfl rfl (congrArg (fun z => (Sum.inr (Sum.inr z) : MV)) (rf_85_0 Rh1)) ?_
    refine rn_iload_n dX8_isMissing_12 rfl rfl ?_
    obtain ⟨g0, V⟩ := V
    refine rn_iald (k := (Int32.toNatClampNeg a1)) dX8_isMissing_13 rfl rfl g0 ?_
    refine rn_if_ne (tgt := 21) dX8_isMissing_14 (by decide) (fun c4 => ?_) (fun c4 => ?_)
    · replace V := V.1 c4
      refine rn_iconst (v := 0) dX8_isMissing_21 (by decide) ?_
      exact rn_zret dX8_isMissing_22 rfl (by decide) ⟨rfl, Rh1, _, rfl, V⟩
    · replace V := V.2 c4
      refine rn_iconst (v := 1) dX8_isMissing_17 (by decide) ?_
      refine rn_goto (tgt := 22) dX8_isMissing_18 (by decide) ?_
      exact rn_zret dX8_isMissing_22 rfl (by decide) ⟨rfl, Rh1, _, rfl, V⟩
def Rg_X8_lay_36 (G : GT) (d : Nat) (l1 : Int32) (l4 : Int32) (h : Hp) (Q : Hp → Prop) : Prop := Rn G (d + 1) 0 0 mX8_lay 36 [(0, .inr (.inr (some 85))), (1, .inl l1), (4, .inl l4)] [] SH h (QV Q)
set_option maxRecDepth 100000 in
set_option maxHeartbeats 4000000 in
theorem vc_X8_lay_36 {G : GT} {d : Nat} {l1 : Int32} {l4 : Int32}  {h : Hp} {Q : Hp → Prop} (hR : RF h) (V : ((40 ≤ l4 → Q h) ∧ (¬ 40 ≤ l4 → vp_in l1 4 ∧ ∃ r8 : Nat, h.2.2 88 (Int32.toNatClampNeg l1) = some r8 ∧ SH[r8]? = some (.inr (0, 40)) ∧ vp_in l4 40 ∧ Rg_X8_lay_36 G d l1 (l4 + 1) (sI h r8 (Int32.toNatClampNeg l4) 0) Q))) : Rg_X8_lay_36 G d l1 l4 h Q := by
  show Rn G (d + 1) 0 0 mX8_lay 36 [(0, .inr (.inr (some 85))), (1, .inl l1), (4, .inl l4)] [] SH h (QV Q)
  refine rn_iload dX8_lay_36 rfl ?_
  refine rn_bipush (v := 40) dX8_lay_38 (by decide) ?_
  refine rn_icmp_ge (tgt := 59) dX8_lay_40 (by decide) (fun c7 => ?_) (fun c7 => ?_)
  · replace V := V.1 c7
    exact rn_vret dX8_lay_59 rfl ⟨rfl, hR, rfl, V⟩
  · replace V := V.2 c7
    refine rn_aload_n dX8_lay_43 rfl rfl ?_
    refine rn_get (v := .inr (.inr (some 88))) dX8_lay_44 fl_X8_20 rfl rfl (congrArg (fun z => (Sum.inr (Sum.inr z) : MV)) (rf_85_2 hR)) ?_
    refine rn_iload_n dX8_lay_47 rfl rfl ?_
    obtain ⟨g0, V⟩ := V
    obtain ⟨r8, g, hr8, V⟩ := V
    refine rn_aald3 (k := (Int32.toNatClampNeg l1)) dX8_lay_48 rfl rfl g0 g ?_
    refine rn_iload dX8_lay_49 rfl ?_
    refine rn_iconst (v := 0) dX8_lay_51 (by decide) ?_
    obtain ⟨g0, V⟩ := V
    refine rn_iast (k := (Int32.toNatClampNeg l4)) dX8_lay_52 hr8 rfl g0 ?_
    refine rn_iinc (L' := [(4, .inl (l4 + 1)), (0, .inr (.inr (some 85))), (1, .inl l1)]) dX8_lay_53 rfl (v := (l4 + 1)) rfl (Nat.le_of_ble_eq_true rfl) rfl ?_
    refine rn_goto (tgt := 36) dX8_lay_56 (by decide) ?_
    refine rn_sub [1, 2, 0] (L' := [(0, .inr (.inr (some 85))), (1, .inl l1), (4, .inl (l4 + 1))]) rfl ?_
    exact V
set_option maxRecDepth 100000 in
set_option maxHeartbeats 4000000 in
theorem vc_X8_lay {G : GT} {d : Nat} {a1 : Int32} {a2 : Int32} {a3 : Int32}  {h : Hp} {Q : Hp → Prop} (hR : RF h) (V : EvI G d mX8_has [.inr (.inr (some 85)), .inl a1] h (fun x2 h1 => ((x2 = 0 → Q h1) ∧ (¬ x2 = 0 → EvI G d mX11_within [.inl a3, .inl 0, .inl 40] h1 (fun x5 h4 => ((¬ x5 = 0 → vp_in a1 4 ∧ vp_in a1 4 ∧ Rg_X8_lay_36 G d a1 0 (sI (sI h4 86 (Int32.toNatClampNeg a1) a2) 87 (Int32.toNatClampNeg a1) a3) Q) ∧ (x5 = 0 → Q h4))))))) : EvV G (d + 1) mX8_lay [.inr (.inr (some 85)), .inl a1, .inl a2, .inl a3] h Q := by
  refine Ev.of rfl (fun _ => Nat.le_of_ble_eq_true rfl) ?_
  show Rn G (d + 1) 0 0 mX8_lay 0 [(0, .inr (.inr (some 85))), (1, .inl a1), (2, .inl a2), (3, .inl a3)] [] SH h (QV Q)
  refine rn_aload_n dX8_lay_0 rfl rfl ?_
  refine rn_iload_n dX8_lay_1 rfl rfl ?_
  refine rn_cV (M' := mX8_has) (n := 1) (av := [.inl a1]) (S := []) (rc := 0) (rs := 0) (mc := 0) (ms := 0) (a := 85) (ci := 7) (r := (RX8, TX8, 3)) dX8_lay_2 pa_X8_has (Nat.le_refl _) rfl (Nat.le_of_ble_eq_true rfl) ml_X8_27 im_X8_has se_X8_has rfl rfl rfl (Ev.mono V ?_)
  rintro v sh1 h1 ⟨rfl, Rh1, x2, rfl, V⟩
  show Rn G (d + 1) 0 0 mX8_lay 5 [(0, .inr (.inr (some 85))), (1, .inl a1), (2, .inl a2), (3, .inl a3)] [.inl x2] SH h1 (QV Q)
  refine rn_if_eq (tgt := 18) dX8_lay_5 (by decide) (fun c3 => ?_) (fun c3 => ?_)
  · replace V := V.1 c3
    exact rn_vret dX8_lay_18 rfl ⟨rfl, Rh1, rfl, V⟩
  · replace V := V.2 c3
    refine rn_iload_n dX8_lay_8 rfl rfl ?_
    refine rn_iconst (v := 0) dX8_lay_9 (by decide) ?_
    refine rn_bipush (v := 40) dX8_lay_10 (by decide) ?_
    refine rn_cSN (M' := mX11_within) (n := 3) (av := [.inl a3, .inl 0, .inl 40]) (S := []) (rc := 0) (rs := 0) (mc := 0) (ms := 0) dX8_lay_12 pa_X11_within (Nat.le_refl _) rfl (Nat.le_of_ble_eq_true rfl) ml_X8_23 ss_X11_within rfl (Ev.mono V ?_)
    rintro v sh1 h4 ⟨rfl, Rh4, x5, rfl, V⟩
    show Rn G (d + 1) 0 0 mX8_lay 15 [(0, .inr (.inr (some 85))), (1, .inl a1), (2, .inl a2), (3, .inl a3)] [.inl x5] SH h4 (QV Q)
    refine rn_if_ne (tgt := 19) dX8_lay_15 (by decide) (fun c6 => ?_) (fun c6 => ?_)
    · replace V := V.1 c6
      refine rn_aload_n dX8_lay_19 rfl rfl ?_
      refine rn_get (v := .inr (.inr (some 86))) dX8_lay_20 fl_X8_9 rfl rfl (congrArg (fun z => (Sum.inr (Sum.inr z) : MV)) (rf_85_0 Rh4)) ?_
      refine rn_iload_n dX8_lay_23 rfl rfl ?_
      refine rn_iload_n dX8_lay_24 rfl rfl ?_
      obtain ⟨g0, V⟩ := V
      refine rn_iast (k := (Int32.toNatClampNeg a1)) dX8_lay_25 rfl rfl g0 ?_
      refine rn_aload_n dX8_lay_26 rfl rfl ?_
      refine rn_get (v := .inr (.inr (some 87))) dX8_lay_27 fl_X8_15 rfl rfl (congrArg (fun z => (Sum.inr (Sum.inr z) : MV)) (rf_85_1 Rh4)) ?_
      refine rn_iload_n dX8_lay_30 rfl rfl ?_
      refine rn_iload_n dX8_lay_31 rfl rfl ?_
      obtain ⟨g0, V⟩ := V
      refine rn_iast (k := (Int32.toNatClampNeg a1)) dX8_lay_32 rfl rfl g0 ?_
      refine rn_iconst (v := 0) dX8_lay_33 (by decide) ?_
      refine rn_istore (L' := [(4, .inl 0), (0, .inr (.inr (some 85))), (1, .inl a1), (2, .inl a2), (3, .inl a3)]) dX8_lay_34 (Nat.le_of_ble_eq_true rfl) rfl ?_
      refine rn_sub [1, 2, 0] (L' := [(0, .inr (.inr (some 85))), (1, .inl a1), (4, .inl 0)]) rfl ?_
      exact V
    · replace V := V.2 c6
      exact rn_vret dX8_lay_18 rfl ⟨rfl, Rh4, rfl, V⟩
set_option maxRecDepth 100000 in
set_option maxHeartbeats 4000000 in
theorem vc_X8_cutTo {G : GT} {d : Nat} {a1 : Int32} {a2 : Int32}  {h : Hp} {Q : Int32 → Hp → Prop} (hR : RF h) (V : ((¬ a1 = 8 → ((¬ a1 = 16 → Q a2 h) ∧ (a1 = 16 → Q ((Int32.toInt16 a2).toInt32) h))) ∧ (a1 = 8 → Q ((Int32.toInt8 a2).toInt32) h))) : EvI G (d + 1) mX8_cutTo [.inr (.inr (some 85)), .inl a1, .inl a2] h Q := by
  refine Ev.of rfl (fun _ => Nat.le_of_ble_eq_true rfl) ?_
  show Rn G (d + 1) 0 0 mX8_cutTo 0 [(0, .inr (.inr (some 85))), (1, .inl a1), (2, .inl a2)] [] SH h (QI Q)
  refine rn_iload_n dX8_cutTo_0 rfl rfl ?_
  refine rn_bipush (v := 8) dX8_cutTo_1 (by decide) ?_
  refine rn_icmp_ne (tgt := 11) dX8_cutTo_3 (by decide) (fun c1 => ?_) (fun c1 => ?_)
  · replace V := V.1 c1
    refine rn_iload_n dX8_cutTo_11 rfl rfl ?_
    refine rn_bipush (v := 16) dX8_cutTo_12 (by decide) ?_
    refine rn_icmp_ne (tgt := 22) dX8_cutTo_14 (by decide) (fun c2 => ?_) (fun c2 => ?_)
    · replace V := V.1 c2
      refine rn_iload_n dX8_cutTo_22 rfl rfl ?_
      exact rn_iret dX8_cutTo_23 rfl ⟨rfl, hR, _, rfl, V⟩
    · replace V := V.2 c2
      refine rn_iload_n dX8_cutTo_17 rfl rfl ?_
      refine rn_i2s dX8_cutTo_18 ?_
      refine rn_goto (tgt := 23) dX8_cutTo_19 (by decide) ?_
      exact rn_iret dX8_cutTo_23 rfl ⟨rfl, hR, _, rfl, V⟩
  · replace V := V.2 c1
    refine rn_iload_n dX8_cutTo_6 rfl rfl ?_
    refine rn_i2b dX8_cutTo_7 ?_
    refine rn_goto (tgt := 23) dX8_cutTo_8 (by decide) ?_
    exact rn_iret dX8_cutTo_23 rfl ⟨rfl, hR, _, rfl, V⟩
set_option maxRecDepth 100000 in
set_option maxHeartbeats 4000000 in
theorem vc_X8_stand {G : GT} {d : Nat} {a1 : Int32} {a2 : Int32} {a3 : Int32}  {h : Hp} {Q : Int32 → Hp → Prop} (hR : RF h) (V : EvI G d mX8_has [.inr (.inr (some 85)), .inl a1] h (fun x2 h1 => ((x2 = 0 → Q 0 h1) ∧ (¬ x2 = 0 → ((a2 < 0 → Q 0 h1) ∧ (¬ a2 < 0 → ((a3 < 0 → Q 0 h1) ∧ (¬ a3 < 0 → vp_in a1 4 ∧ ((h1.1 87 (Int32.toNatClampNeg a1) < a2 → Q 0 h1) ∧ (¬ h1.1 87 (Int32.toNatClampNeg a1) < a2 → vp_in a1 4 ∧ (((h1.1 87 (Int32.toNatClampNeg a1) - a2) < a3 → Q 0 h1) ∧ (¬ (h1.1 87 (Int32.toNatClampNeg a1) - a2) < a3 → Q 1 h1)))))))))))) : EvI G (d + 1) mX8_stand [.inr (.inr (some 85)), .inl a1, .inl a2, .inl a3] h Q := by
  refine Ev.of rfl (fun _ => Nat.le_of_ble_eq_true rfl) ?_
  show Rn G (d + 1) 0 0 mX8_stand 0 [(0, .inr (.inr (some 85))), (1, .inl a1), (2, .inl a2), (3, .inl a3)] [] SH h (QI Q)
  refine rn_aload_n dX8_stand_0 rfl rfl ?_
  refine rn_iload_n dX8_stand_1 rfl rfl ?_
  refine rn_cV (M' := mX8_has) (n := 1) (av := [.inl a1]) (S := []) (rc := 0) (rs := 0) (mc := 0) (ms := 0) (a := 85) (ci := 7) (r := (RX8, TX8, 3)) dX8_stand_2 pa_X8_has (Nat.le_refl _) rfl (Nat.le_of_ble_eq_true rfl) ml_X8_27 im_X8_has se_X8_has rfl rfl rfl (Ev.mono V ?_)
  rintro v sh1 h1 ⟨rfl, Rh1, x2, rfl, V⟩
  show Rn G (d + 1) 0 0 mX8_stand 5 [(0, .inr (.inr (some 85))), (1, .inl a1), (2, .inl a2), (3, .inl a3)] [.inl x2] SH h1 (QI Q)
  refine rn_if_eq (tgt := 42) dX8_stand_5 (by decide) (fun c3 => ?_) (fun c3 => ?_)
  · replace V := V.1 c3
    refine rn_iconst (v := 0) dX8_stand_42 (by decide) ?_
    exact rn_zret dX8_stand_43 rfl (by decide) ⟨rfl, Rh1, _, rfl, V⟩
  · replace V := V.2 c3
    refine rn_iload_n dX8_stand_8 rfl rfl ?_
    refine rn_if_lt (tgt := 42) dX8_stand_9 (by decide) (fun c4 => ?_) (fun c4 => ?_)
    · replace V := V.1 c4
      refine rn_iconst (v := 0) dX8_stand_42 (by decide) ?_
      exact rn_zret dX8_stand_43 rfl (by decide) ⟨rfl, Rh1, _, rfl, V⟩
    · replace V := V.2 c4
      refine rn_iload_n dX8_stand_12 rfl rfl ?_
      refine rn_if_lt (tgt := 42) dX8_stand_13 (by decide) (fun c5 => ?_) (fun c5 => ?_)
      · replace V := V.1 c5
        refine rn_iconst (v := 0) dX8_stand_42 (by decide) ?_
        exact rn_zret dX8_stand_43 rfl (by decide) ⟨rfl, Rh1, _, rfl, V⟩
      · replace V := V.2 c5
        refine rn_iload_n dX8_stand_16 rfl rfl ?_
        refine rn_aload_n dX8_stand_17 rfl rfl ?_
        refine rn_get (v := .inr (.inr (some 87))) dX8_stand_18 fl_X8_15 rfl rfl (congrArg (fun z => (Sum.inr (Sum.inr z) : MV)) (rf_85_1 Rh1)) ?_
        refine rn_iload_n dX8_stand_21 rfl rfl ?_
        obtain ⟨g0, V⟩ := V
        refine rn_iald (k := (Int32.toNatClampNeg a1)) dX8_stand_22 rfl rfl g0 ?_
        refine rn_icmp_gt (tgt := 42) dX8_stand_23 (by decide) (fun c6 => ?_) (fun c6 => ?_)
        · replace V := V.1 c6
          refine rn_iconst (v := 0) dX8_stand_42 (by decide) ?_
          exact rn_zret dX8_stand_43 rfl (by decide) ⟨rfl, Rh1, _, rfl, V⟩
        · replace V := V.2 c6
          refine rn_iload_n dX8_stand_26 rfl rfl ?_
          refine rn_aload_n dX8_stand_27 rfl rfl ?_
          refine rn_get (v := .inr (.inr (some 87))) dX8_stand_28 fl_X8_15 rfl rfl (congrArg (fun z => (Sum.inr (Sum.inr z) : MV)) (rf_85_1 Rh1)) ?_
          refine rn_iload_n dX8_stand_31 rfl rfl ?_
          obtain ⟨g0, V⟩ := V
          refine rn_iald (k := (Int32.toNatClampNeg a1)) dX8_stand_32 rfl rfl g0 ?_
          refine rn_iload_n dX8_stand_33 rfl rfl ?_
          refine rn_isub dX8_stand_34 ?_
          refine rn_icmp_gt (tgt := 42) dX8_stand_35 (by decide) (fun c7 => ?_) (fun c7 => ?_)
          · replace V := V.1 c7
            refine rn_iconst (v := 0) dX8_stand_42 (by decide) ?_
            exact rn_zret dX8_stand_43 rfl (by decide) ⟨rfl, Rh1, _, rfl, V⟩
          · replace V := V.2 c7
            refine rn_iconst (v := 1) dX8_stand_38 (by decide) ?_
            refine rn_goto (tgt := 43) dX8_stand_39 (by decide) ?_
            exact rn_zret dX8_stand_43 rfl (by decide) ⟨rfl, Rh1, _, rfl, V⟩
