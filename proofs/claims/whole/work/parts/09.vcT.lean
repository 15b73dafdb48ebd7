set_option maxRecDepth 100000 in
set_option maxHeartbeats 4000000 in
theorem vc_X10_isThere {G : GT} {d : Nat} {a0 : Nat} (ha0 : SH[a0]? = some (.inl 9)) {h : Hp} {Q : Int32 → Hp → Prop} (hR : RF h) (V : ((h.1 a0 2 ≤ 0 → Q 0 h) ∧ (¬ h.1 a0 2 ≤ 0 → Q 1 h))) : EvI G (d + 1) mX10_isThere [.inr (.inr (some a0))] h Q := by
  refine Ev.of rfl (fun _ => Nat.le_of_ble_eq_true rfl) ?_
  show Rn G (d + 1) 0 0 mX10_isThere 0 [(0, .inr (.inr (some a0)))] [] SH h (QI Q)
  refine rn_aload_n dX10_isThere_0 rfl rfl ?_
  refine rn_get (v := .inl (h.1 a0 2)) dX10_isThere_1 fl_X10_18 ha0 rfl rfl ?_
  refine rn_if_le (tgt := 11) dX10_isThere_4 (by decide) (fun c1 => ?_) (fun c1 => ?_)
  · replace V := V.1 c1
    refine rn_iconst (v := 0) dX10_isThere_11 (by decide) ?_
    exact rn_zret dX10_isThere_12 rfl (by decide) ⟨rfl, hR, _, rfl, V⟩
  · replace V := V.2 c1
    refine rn_iconst (v := 1) dX10_isThere_7 (by decide) ?_
    refine rn_goto (tgt := 12) dX10_isThere_8 (by decide) ?_
    exact rn_zret dX10_isThere_12 rfl (by decide) ⟨rfl, hR, _, rfl, V⟩
set_option maxRecDepth 100000 in
set_option maxHeartbeats 4000000 in
theorem vc_X10_clear {G : GT} {d : Nat} {a0 : Nat} (ha0 : SH[a0]? = some (.inl 9)) {h : Hp} {Q : Hp → Prop} (hR : RF h) (V : Q (sI h a0 2 0)) : EvV G (d + 1) mX10_clear [.inr (.inr (some a0))] h Q := by
  refine Ev.of rfl (fun _ => Nat.le_of_ble_eq_true rfl) ?_
  show Rn G (d + 1) 0 0 mX10_clear 0 [(0, .inr (.inr (some a0)))] [] SH h (QV Q)
  refine rn_aload_n dX10_clear_0 rfl rfl ?_
  refine rn_iconst (v := 0) dX10_clear_1 (by decide) ?_
  refine rn_putI dX10_clear_2 fl_X10_18 ha0 rfl (Or.inl rfl) rfl rfl ?_
  exact rn_vret dX10_clear_5 rfl ⟨rfl, hR, rfl, V⟩
set_option maxRecDepth 100000 in
set_option maxHeartbeats 4000000 in
theorem vc_X10_add {G : GT} {d : Nat} {a0 : Nat} {a1 : Int32} (ha0 : SH[a0]? = some (.inl 9)) {h : Hp} {Q : Hp → Prop} (hR : RF h) (V : EvI G d mX11_within [.inl (h.1 a0 2), .inl 0, .inl (50 - 1)] h (fun x2 h1 => ((x2 = 0 → Q h1) ∧ (¬ x2 = 0 → vp_in (h1.1 a0 2) 50 ∧ Q (sI (sI h1 (a0 + 1) (Int32.toNatClampNeg (h1.1 a0 2)) a1) a0 2 ((sI h1 (a0 + 1) (Int32.toNatClampNeg (h1.1 a0 2)) a1).1 a0 2 + 1)))))) : EvV G (d + 1) mX10_add [.inr (.inr (some a0)), .inl a1] h Q := by
  refine Ev.of rfl (fun _ => Nat.le_of_ble_eq_true rfl) ?_
  show Rn G (d + 1) 0 0 mX10_add 0 [(0, .inr (.inr (some a0))), (1, .inl a1)] [] SH h (QV Q)
  refine rn_aload_n dX10_add_0 rfl rfl ?_
  refine rn_get (v := .inl (h.1 a0 2)) dX10_add_1 fl_X10_18 ha0 rfl rfl ?_
  refine rn_iconst (v := 0) dX10_add_4 (by decide) ?_
  refine rn_aload_n dX10_add_5 rfl rfl ?_
  refine rn_get (v := .inr (.inr (some (a0 + 1)))) dX10_add_6 fl_X10_9 ha0 rfl (congrArg (fun z => (Sum.inr (Sum.inr z) : MV)) (tx_steps hR ha0)) ?_
  refine rn_alen (v := 50) dX10_add_9 (tx_sh1 ha0) (by decide) (by decide) ?_
  refine rn_iconst (v := 1) dX10_add_10 (by decide) ?_
  refine rn_isub dX10_add_11 ?_
  refine rn_cSN (M' := mX11_within) (n := 3) (av := [.inl (h.1 a0 2), .inl 0, .inl (50 - 1)]) (S := []) (rc := 0) (rs := 0) (mc := 0) (ms := 0) dX10_add_12 pa_X11_within (Nat.le_refl _) rfl (Nat.le_of_ble_eq_true rfl) ml_X10_22 ss_X11_within rfl (Ev.mono V ?_)
  rintro v sh1 h1 ⟨rfl, Rh1, x2, rfl, V⟩
  show Rn G (d + 1) 0 0 mX10_add 15 [(0, .inr (.inr (some a0))), (1, .inl a1)] [.inl x2] SH h1 (QV Q)
  refine rn_if_eq (tgt := 38) dX10_add_15 (by decide) (fun c3 => ?_) (fun c3 => ?_)
  · replace V := V.1 c3
    exact rn_vret dX10_add_38 rfl ⟨rfl, Rh1, rfl, V⟩
  · replace V := V.2 c3
    refine rn_aload_n dX10_add_18 rfl rfl ?_
    refine rn_get (v := .inr (.inr (some (a0 + 1)))) dX10_add_19 fl_X10_9 ha0 rfl (congrArg (fun z => (Sum.inr (Sum.inr z) : MV)) (tx_steps Rh1 ha0)) ?_
    refine rn_aload_n dX10_add_22 rfl rfl ?_
    refine rn_get (v := .inl (h1.1 a0 2)) dX10_add_23 fl_X10_18 ha0 rfl rfl ?_
    refine rn_iload_n dX10_add_26 rfl rfl ?_
    obtain ⟨g0, V⟩ := V
    refine rn_iast (k := (Int32.toNatClampNeg (h1.1 a0 2))) dX10_add_27 (tx_sh1 ha0) rfl g0 ?_
    refine rn_aload_n dX10_add_28 rfl rfl ?_
    refine rn_dup dX10_add_29 rfl ?_
    refine rn_get (v := .inl ((sI h1 (a0 + 1) (Int32.toNatClampNeg (h1.1 a0 2)) a1).1 a0 2)) dX10_add_30 fl_X10_18 ha0 rfl (by simp [fvM, sI, sL, sR, cpI]) ?_
    refine rn_iconst (v := 1) dX10_add_33 (by decide) ?_
    refine rn_iadd dX10_add_34 ?_
    refine rn_putI dX10_add_35 fl_X10_18 ha0 rfl (Or.inl rfl) rfl rfl ?_
    exact rn_vret dX10_add_38 rfl ⟨rfl, Rh1, rfl, V⟩
set_option maxRecDepth 100000 in
set_option maxHeartbeats 4000000 in
theorem vc_X10_copy {G : GT} {d : Nat} {a0 : Nat} {a1 : Nat} (ha0 : SH[a0]? = some (.inl 9)) (ha1 : SH[a1]? = some (.inl 9)) {h : Hp} {Q : Hp → Prop} (hR : RF h) (V : Q (sI (cpI h (a1 + 1) 0 (a0 + 1) 0 50) a0 2 ((cpI h (a1 + 1) 0 (a0 + 1) 0 50).1 a1 2))) : EvV G (d + 1) mX10_copy [.inr (.inr (some a0)), .inr (.inr (some a1))] h Q := by
  refine Ev.of rfl (fun _ => Nat.le_of_ble_eq_true rfl) ?_
  show Rn G (d + 1) 0 0 mX10_copy 0 [(0, .inr (.inr (some a0))), (1, .inr (.inr (some a1)))] [] SH h (QV Q)
  refine rn_aload_n dX10_copy_0 rfl rfl ?_
  refine rn_get (v := .inr (.inr (some (a1 + 1)))) dX10_copy_1 fl_X10_9 ha1 rfl (congrArg (fun z => (Sum.inr (Sum.inr z) : MV)) (tx_steps hR ha1)) ?_
  refine rn_iconst (v := 0) dX10_copy_4 (by decide) ?_
  refine rn_aload_n dX10_copy_5 rfl rfl ?_
  refine rn_get (v := .inr (.inr (some (a0 + 1)))) dX10_copy_6 fl_X10_9 ha0 rfl (congrArg (fun z => (Sum.inr (Sum.inr z) : MV)) (tx_steps hR ha0)) ?_
  refine rn_iconst (v := 0) dX10_copy_9 (by decide) ?_
  refine rn_bipush (v := 50) dX10_copy_10 (by decide) ?_
  refine rn_copy (sp' := 0) (dp' := 0) (n' := 50) dX10_copy_12 cp_X10_26 (tx_sh1 ha1) (tx_sh1 ha0) (by decide) (by decide) (by decide) (by decide) (by decide) (by decide) (by decide) (by decide) (Nat.le_of_ble_eq_true rfl) ?_
  refine rn_aload_n dX10_copy_15 rfl rfl ?_
  refine rn_aload_n dX10_copy_16 rfl rfl ?_
  refine rn_get (v := .inl ((cpI h (a1 + 1) 0 (a0 + 1) 0 50).1 a1 2)) dX10_copy_17 fl_X10_18 ha1 rfl (by simp [fvM, sI, sL, sR, cpI]) ?_
  refine rn_putI dX10_copy_20 fl_X10_18 ha0 rfl (Or.inl rfl) rfl rfl ?_
  exact rn_vret dX10_copy_23 rfl ⟨rfl, hR, rfl, V⟩
def Rg_X10_value_6 (G : GT) (d : Nat) (l0 : Nat) (l1 : Int32) (l2 : Int32) (l3 : Int32) (l4 : Int32) (l5 : Int32) (h : Hp) (Q : Int32 → Hp → Prop) : Prop := Rn G (d + 1) 0 0 mX10_value 6 [(0, .inr (.inr (some l0))), (1, .inl l1), (2, .inl l2), (3, .inl l3), (4, .inl l4), (5, .inl l5)] [] SH h (QI Q)
set_option maxRecDepth 100000 in
set_option maxHeartbeats 4000000 in
theorem vc_X10_value_6 {G : GT} {d : Nat} {l0 : Nat} {l1 : Int32} {l2 : Int32} {l3 : Int32} {l4 : Int32} {l5 : Int32} (hl0 : SH[l0]? = some (.inl 9)) {h : Hp} {Q : Int32 → Hp → Prop} (hR : RF h) (V : ((h.1 l0 2 ≤ l5 → Q (h.1 (l0 + 2) 0) h) ∧ (¬ h.1 l0 2 ≤ l5 → ((50 ≤ l5 → Q (h.1 (l0 + 2) 0) h) ∧ (¬ 50 ≤ l5 → vp_in l5 50 ∧ ((h.1 (l0 + 1) (Int32.toNatClampNeg l5) < (-3) → ((¬ h.1 (l0 + 1) (Int32.toNatClampNeg l5) = (-33) → EvI G d mX11_within [.inl l4, .inl 2, .inl 50] h (fun x6 h5 => ((x6 = 0 → Rg_X10_value_6 G d l0 l1 l2 l3 l4 (l5 + 1) h5 Q) ∧ (¬ x6 = 0 → vp_in (l4 - 2) 50 ∧ vp_in (l4 - 1) 50 ∧ EvI G d mX10_joint [.inl (-h.1 (l0 + 1) (Int32.toNatClampNeg l5)), .inl (h5.1 (l0 + 2) (Int32.toNatClampNeg (l4 - 2))), .inl (h5.1 (l0 + 2) (Int32.toNatClampNeg (l4 - 1)))] h5 (fun x9 h8 => vp_in (l4 - 2) 50 ∧ Rg_X10_value_6 G d l0 l1 l2 l3 (l4 + (-1)) (l5 + 1) (sI h8 (l0 + 2) (Int32.toNatClampNeg (l4 - 2)) x9) Q))))) ∧ (h.1 (l0 + 1) (Int32.toNatClampNeg l5) = (-33) → EvI G d mX11_within [.inl l4, .inl 1, .inl 50] h (fun x11 h10 => ((x11 = 0 → Rg_X10_value_6 G d l0 l1 l2 l3 l4 (l5 + 1) h10 Q) ∧ (¬ x11 = 0 → vp_in (l4 - 1) 50 ∧ ((¬ h10.1 (l0 + 2) (Int32.toNatClampNeg (l4 - 1)) = 0 → EvI G d mX10_truth [.inl 0] h10 (fun x15 h14 => vp_in (l4 - 1) 50 ∧ Rg_X10_value_6 G d l0 l1 l2 l3 l4 (l5 + 1) (sI h14 (l0 + 2) (Int32.toNatClampNeg (l4 - 1)) x15) Q)) ∧ (h10.1 (l0 + 2) (Int32.toNatClampNeg (l4 - 1)) = 0 → EvI G d mX10_truth [.inl 1] h10 (fun x17 h16 => vp_in (l4 - 1) 50 ∧ Rg_X10_value_6 G d l0 l1 l2 l3 l4 (l5 + 1) (sI h16 (l0 + 2) (Int32.toNatClampNeg (l4 - 1)) x17) Q))))))))) ∧ (¬ h.1 (l0 + 1) (Int32.toNatClampNeg l5) < (-3) → ((50 ≤ l4 → Rg_X10_value_6 G d l0 l1 l2 l3 l4 (l5 + 1) h Q) ∧ (¬ 50 ≤ l4 → ((h.1 (l0 + 1) (Int32.toNatClampNeg l5) < 0 → ((¬ h.1 (l0 + 1) (Int32.toNatClampNeg l5) = (-1) → ((¬ h.1 (l0 + 1) (Int32.toNatClampNeg l5) = (-2) → vp_in l4 50 ∧ Rg_X10_value_6 G d l0 l1 l2 l3 (l4 + 1) (l5 + 1) (sI h (l0 + 2) (Int32.toNatClampNeg l4) l3) Q) ∧ (h.1 (l0 + 1) (Int32.toNatClampNeg l5) = (-2) → vp_in l4 50 ∧ Rg_X10_value_6 G d l0 l1 l2 l3 (l4 + 1) (l5 + 1) (sI h (l0 + 2) (Int32.toNatClampNeg l4) l2) Q))) ∧ (h.1 (l0 + 1) (Int32.toNatClampNeg l5) = (-1) → vp_in l4 50 ∧ Rg_X10_value_6 G d l0 l1 l2 l3 (l4 + 1) (l5 + 1) (sI h (l0 + 2) (Int32.toNatClampNeg l4) l1) Q))) ∧ (¬ h.1 (l0 + 1) (Int32.toNatClampNeg l5) < 0 → vp_in l4 50 ∧ Rg_X10_value_6 G d l0 l1 l2 l3 (l4 + 1) (l5 + 1) (sI h (l0 + 2) (Int32.toNatClampNeg l4) (h.1 (l0 + 1) (Int32.toNatClampNeg l5))) Q))))))))))) : Rg_X10_value_6 G d l0 l1 l2 l3 l4 l5 h Q := by
  show Rn G (d + 1) 0 0 mX10_value 6 [(0, .inr (.inr (some l0))), (1, .inl l1), (2, .inl l2), (3, .inl l3), (4, .inl l4), (5, .inl l5)] [] SH h (QI Q)
  refine rn_iload dX10_value_6 rfl ?_
  refine rn_aload_n dX10_value_8 rfl rfl ?_
  refine rn_get (v := .inl (h.1 l0 2)) dX10_value_9 fl_X10_18 hl0 rfl rfl ?_
  refine rn_icmp_ge (tgt := 205) dX10_value_12 (by decide) (fun c1 => ?_) (fun c1 => ?_)
  · replace V := V.1 c1
    refine rn_aload_n dX10_value_205 rfl rfl ?_
    refine rn_get (v := .inr (.inr (some (l0 + 2)))) dX10_value_206 fl_X10_15 hl0 rfl (congrArg (fun z => (Sum.inr (Sum.inr z) : MV)) (tx_stack hR hl0)) ?_
    refine rn_iconst (v := 0) dX10_value_209 (by decide) ?_
    refine rn_iald (k := 0) dX10_value_210 (tx_sh2 hl0) (by decide) (by unfold vp_in; decide) ?_
    exact rn_iret dX10_value_211 rfl ⟨rfl, hR, _, rfl, V⟩
  · replace V := V.2 c1
    refine rn_iload dX10_value_15 rfl ?_
    refine rn_aload_n dX10_value_17 rfl rfl ?_
    refine rn_get (v := .inr (.inr (some (l0 + 1)))) dX10_value_18 fl_X10_9 hl0 rfl (congrArg (fun z => (Sum.inr (Sum.inr z) : MV)) (tx_steps hR hl0)) ?_
    refine rn_alen (v := 50) dX10_value_21 (tx_sh1 hl0) (by decide) (by decide) ?_
    refine rn_icmp_ge (tgt := 205) dX10_value_22 (by decide) (fun c2 => ?_) (fun c2 => ?_)
    · replace V := V.1 c2
      refine rn_aload_n dX10_value_205 rfl rfl ?_
      refine rn_get (v := .inr (.inr (some (l0 + 2)))) dX10_value_206 fl_X10_15 hl0 rfl (congrArg (fun z => (Sum.inr (Sum.inr z) : MV)) (tx_stack hR hl0)) ?_
      refine rn_iconst (v := 0) dX10_value_209 (by decide) ?_
      refine rn_iald (k := 0) dX10_value_210 (tx_sh2 hl0) (by decide) (by unfold vp_in; decide) ?_
      exact rn_iret dX10_value_211 rfl ⟨rfl, hR, _, rfl, V⟩
    · replace V := V.2 c2
      refine rn_aload_n dX10_value_25 rfl rfl ?_
      refine rn_get (v := .inr (.inr (some (l0 + 1)))) dX10_value_26 fl_X10_9 hl0 rfl (congrArg (fun z => (Sum.inr (Sum.inr z) : MV)) (tx_steps hR hl0)) ?_
      refine rn_iload dX10_value_29 rfl ?_
      obtain ⟨g0, V⟩ := V
      refine rn_iald (k := (Int32.toNatClampNeg l5)) dX10_value_31 (tx_sh1 hl0) rfl g0 ?_
      refine rn_istore (L' := [(6, .inl (h.1 (l0 + 1) (Int32.toNatClampNeg l5))), (0, .inr (.inr (some l0))), (1, .inl l1), (2, .inl l2), (3, .inl l3), (4, .inl l4), (5, .inl l5)]) dX10_value_32 (Nat.le_of_ble_eq_true rfl) rfl ?_
      refine rn_iload dX10_value_34 rfl ?_
      refine rn_bipush (v := (-3)) dX10_value_36 (by decide) ?_
      refine rn_icmp_lt (tgt := 96) dX10_value_38 (by decide) (fun c3 => ?_) (fun c3 => ?_)
      · replace V := V.1 c3
        refine rn_iload dX10_value_96 rfl ?_
        refine rn_bipush (v := (-33)) dX10_value_98 (by decide) ?_
        refine rn_icmp_ne (tgt := 149) dX10_value_100 (by decide) (fun c4 => ?_) (fun c4 => ?_)
        · replace V := V.1 c4
          refine rn_iload dX10_value_149 rfl ?_
          refine rn_iconst (v := 2) dX10_value_151 (by decide) ?_
          refine rn_aload_n dX10_value_152 rfl rfl ?_
          refine rn_get (v := .inr (.inr (some (l0 + 2)))) dX10_value_153 fl_X10_15 hl0 rfl (congrArg (fun z => (Sum.inr (Sum.inr z) : MV)) (tx_stack hR hl0)) ?_
          refine rn_alen (v := 50) dX10_value_156 (tx_sh2 hl0) (by decide) (by decide) ?_
          refine rn_cSN (M' := mX11_within) (n := 3) (av := [.inl l4, .inl 2, .inl 50]) (S := []) (rc := 0) (rs := 0) (mc := 0) (ms := 0) dX10_value_157 pa_X11_within (Nat.le_refl _) rfl (Nat.le_of_ble_eq_true rfl) ml_X10_22 ss_X11_within rfl (Ev.mono V ?_)
          rintro v sh1 h5 ⟨rfl, Rh5, x6, rfl, V⟩
          show Rn G (d + 1) 0 0 mX10_value 160 [(6, .inl (h.1 (l0 + 1) (Int32.toNatClampNeg l5))), (0, .inr (.inr (some l0))), (1, .inl l1), (2, .inl l2), (3, .inl l3), (4, .inl l4), (5, .inl l5)] [.inl x6] SH h5 (QI Q)
          refine rn_if_eq (tgt := 199) dX10_value_160 (by decide) (fun c7 => ?_) (fun c7 => ?_)
          · replace V := V.1 c7
            refine rn_iinc (L' := [(5, .inl (l5 + 1)), (6, .inl (h.1 (l0 + 1) (Int32.toNatClampNeg l5))), (0, .inr (.inr (some l0))), (1, .inl l1), (2, .inl l2), (3, .inl l3), (4, .inl l4)]) dX10_value_199 rfl (v := (l5 + 1)) rfl (Nat.le_of_ble_eq_true rfl) rfl ?_
            refine rn_goto (tgt := 6) dX10_value_202 (by decide) ?_
            refine rn_sub [2, 3, 4, 5, 6, 0] (L' := [(0, .inr (.inr (some l0))), (1, .inl l1), (2, .inl l2), (3, .inl l3), (4, .inl l4), (5, .inl (l5 + 1))]) rfl ?_
            exact V
          · replace V := V.2 c7
            refine rn_aload_n dX10_value_163 rfl rfl ?_
            refine rn_get (v := .inr (.inr (some (l0 + 2)))) dX10_value_164 fl_X10_15 hl0 rfl (congrArg (fun z => (Sum.inr (Sum.inr z) : MV)) (tx_stack Rh5 hl0)) ?_
            refine rn_iload dX10_value_167 rfl ?_
            refine rn_iconst (v := 2) dX10_value_169 (by decide) ?_
            refine rn_isub dX10_value_170 ?_
            refine rn_iload dX10_value_171 rfl ?_
            refine rn_ineg dX10_value_173 ?_
            refine rn_aload_n dX10_value_174 rfl rfl ?_
            refine rn_get (v := .inr (.inr (some (l0 + 2)))) dX10_value_175 fl_X10_15 hl0 rfl (congrArg (fun z => (Sum.inr (Sum.inr z) : MV)) (tx_stack Rh5 hl0)) ?_
            refine rn_iload dX10_value_178 rfl ?_
            refine rn_iconst (v := 2) dX10_value_180 (by decide) ?_
            refine rn_isub dX10_value_181 ?_
            obtain ⟨g0, V⟩ := V
            refine rn_iald (k := (Int32.toNatClampNeg (l4 - 2))) dX10_value_182 (tx_sh2 hl0) rfl g0 ?_
            refine rn_aload_n dX10_value_183 rfl rfl ?_
            refine rn_get (v := .inr (.inr (some (l0 + 2)))) dX10_value_184 fl_X10_15 hl0 rfl (congrArg (fun z => (Sum.inr (Sum.inr z) : MV)) (tx_stack Rh5 hl0)) ?_
            refine rn_iload dX10_value_187 rfl ?_
            refine rn_iconst (v := 1) dX10_value_189 (by decide) ?_
            refine rn_isub dX10_value_190 ?_
            obtain ⟨g0, V⟩ := V
            refine rn_iald (k := (Int32.toNatClampNeg (l4 - 1))) dX10_value_191 (tx_sh2 hl0) rfl g0 ?_
            refine rn_cS (M' := mX10_joint) (n := 3) (av := [.inl (-h.1 (l0 + 1) (Int32.toNatClampNeg l5)), .inl (h5.1 (l0 + 2) (Int32.toNatClampNeg (l4 - 2))), .inl (h5.1 (l0 + 2) (Int32.toNatClampNeg (l4 - 1)))]) (S := [.inl (l4 - 2), .inr (.inr (some (l0 + 2)))]) (rc := 0) (rs := 0) (mc := 0) (ms := 0) dX10_value_192 pa_X10_joint (Nat.le_refl _) rfl (Nat.le_of_ble_eq_true rfl) ml_X10_36 ss_X10_joint rfl (Ev.mono V ?_)
            rintro v sh1 h8 ⟨rfl, Rh8, x9, rfl, V⟩
            show Rn G (d + 1) 0 0 mX10_value 195 [(6, .inl (h.1 (l0 + 1) (Int32.toNatClampNeg l5))), (0, .inr (.inr (some l0))), (1, .inl l1), (2, .inl l2), (3, .inl l3), (4, .inl l4), (5, .inl l5)] [.inl x9, .inl (l4 - 2), .inr (.inr (some (l0 + 2)))] SH h8 (QI Q)
            obtain ⟨g0, V⟩ := V
            refine rn_iast (k := (Int32.toNatClampNeg (l4 - 2))) dX10_value_195 (tx_sh2 hl0) rfl g0 ?_
            refine rn_iinc (L' := [(4, .inl (l4 + (-1))), (6, .inl (h.1 (l0 + 1) (Int32.toNatClampNeg l5))), (0, .inr (.inr (some l0))), (1, .inl l1), (2, .inl l2), (3, .inl l3), (5, .inl l5)]) dX10_value_196 rfl (v := (l4 + (-1))) rfl (Nat.le_of_ble_eq_true rfl) rfl ?_
            refine rn_iinc (L' := [(5, .inl (l5 + 1)), (4, .inl (l4 + (-1))), (6, .inl (h.1 (l0 + 1) (Int32.toNatClampNeg l5))), (0, .inr (.inr (some l0))), (1, .inl l1), (2, .inl l2), (3, .inl l3)]) dX10_value_199 rfl (v := (l5 + 1)) rfl (Nat.le_of_ble_eq_true rfl) rfl ?_
            refine rn_goto (tgt := 6) dX10_value_202 (by decide) ?_
            refine rn_sub [3, 4, 5, 6, 1, 0] (L' := [(0, .inr (.inr (some l0))), (1, .inl l1), (2, .inl l2), (3, .inl l3), (4, .inl (l4 + (-1))), (5, .inl (l5 + 1))]) rfl ?_
            exact V
        · replace V := V.2 c4
          refine rn_iload dX10_value_103 rfl ?_
          refine rn_iconst (v := 1) dX10_value_105 (by decide) ?_
          refine rn_aload_n dX10_value_106 rfl rfl ?_
          refine rn_get (v := .inr (.inr (some (l0 + 2)))) dX10_value_107 fl_X10_15 hl0 rfl (congrArg (fun z => (Sum.inr (Sum.inr z) : MV)) (tx_stack hR hl0)) ?_
          refine rn_alen (v := 50) dX10_value_110 (tx_sh2 hl0) (by decide) (by decide) ?_
          refine rn_cSN (M' := mX11_within) (n := 3) (av := [.inl l4, .inl 1, .inl 50]) (S := []) (rc := 0) (rs := 0) (mc := 0) (ms := 0) dX10_value_111 pa_X11_within (Nat.le_refl _) rfl (Nat.le_of_ble_eq_true rfl) ml_X10_22 ss_X11_within rfl (Ev.mono V ?_)
          rintro v sh1 h10 ⟨rfl, Rh10, x11, rfl, V⟩
          show Rn G (d + 1) 0 0 mX10_value 114 [(6, .inl (h.1 (l0 + 1) (Int32.toNatClampNeg l5))), (0, .inr (.inr (some l0))), (1, .inl l1), (2, .inl l2), (3, .inl l3), (4, .inl l4), (5, .inl l5)] [.inl x11] SH h10 (QI Q)
          refine rn_if_eq (tgt := 199) dX10_value_114 (by decide) (fun c12 => ?_) (fun c12 => ?_)
          · replace V := V.1 c12
            refine rn_iinc (L' := [(5, .inl (l5 + 1)), (6, .inl (h.1 (l0 + 1) (Int32.toNatClampNeg l5))), (0, .inr (.inr (some l0))), (1, .inl l1), (2, .inl l2), (3, .inl l3), (4, .inl l4)]) dX10_value_199 rfl (v := (l5 + 1)) rfl (Nat.le_of_ble_eq_true rfl) rfl ?_
            refine rn_goto (tgt := 6) dX10_value_202 (by decide) ?_
            refine rn_sub [2, 3, 4, 5, 6, 0] (L' := [(0, .inr (.inr (some l0))), (1, .inl l1), (2, .inl l2), (3, .inl l3), (4, .inl l4), (5, .inl (l5 + 1))]) rfl ?_
            exact V
          · replace V := V.2 c12
            refine rn_aload_n dX10_value_117 rfl rfl ?_
            refine rn_get (v := .inr (.inr (some (l0 + 2)))) dX10_value_118 fl_X10_15 hl0 rfl (congrArg (fun z => (Sum.inr (Sum.inr z) : MV)) (tx_stack Rh10 hl0)) ?_
            refine rn_iload dX10_value_121 rfl ?_
            refine rn_iconst (v := 1) dX10_value_123 (by decide) ?_
            refine rn_isub dX10_value_124 ?_
            refine rn_aload_n dX10_value_125 rfl rfl ?_
            refine rn_get (v := .inr (.inr (some (l0 + 2)))) dX10_value_126 fl_X10_15 hl0 rfl (congrArg (fun z => (Sum.inr (Sum.inr z) : MV)) (tx_stack Rh10 hl0)) ?_
            refine rn_iload dX10_value_129 rfl ?_
            refine rn_iconst (v := 1) dX10_value_131 (by decide) ?_
            refine rn_isub dX10_value_132 ?_
            obtain ⟨g0, V⟩ := V
            refine rn_iald (k := (Int32.toNatClampNeg (l4 - 1))) dX10_value_133 (tx_sh2 hl0) rfl g0 ?_
            refine rn_if_ne (tgt := 141) dX10_value_134 (by decide) (fun c13 => ?_) (fun c13 => ?_)
            · replace V := V.1 c13
              refine rn_iconst (v := 0) dX10_value_141 (by decide) ?_
              refine rn_cS (M' := mX10_truth) (n := 1) (av := [.inl 0]) (S := [.inl (l4 - 1), .inr (.inr (some (l0 + 2)))]) (rc := 0) (rs := 0) (mc := 0) (ms := 0) dX10_value_142 pa_X10_truth (Nat.le_refl _) rfl (Nat.le_of_ble_eq_true rfl) ml_X10_32 ss_X10_truth rfl (Ev.mono V ?_)
              rintro v sh1 h14 ⟨rfl, Rh14, x15, rfl, V⟩
              show Rn G (d + 1) 0 0 mX10_value 145 [(6, .inl (h.1 (l0 + 1) (Int32.toNatClampNeg l5))), (0, .inr (.inr (some l0))), (1, .inl l1), (2, .inl l2), (3, .inl l3), (4, .inl l4), (5, .inl l5)] [.inl x15, .inl (l4 - 1), .inr (.inr (some (l0 + 2)))] SH h14 (QI Q)
              obtain ⟨g0, V⟩ := V
              refine rn_iast (k := (Int32.toNatClampNeg (l4 - 1))) dX10_value_145 (tx_sh2 hl0) rfl g0 ?_
              refine rn_goto (tgt := 199) dX10_value_146 (by decide) ?_
              refine rn_iinc (L' := [(5, .inl (l5 + 1)), (6, .inl (h.1 (l0 + 1) (Int32.toNatClampNeg l5))), (0, .inr (.inr (some l0))), (1, .inl l1), (2, .inl l2), (3, .inl l3), (4, .inl l4)]) dX10_value_199 rfl (v := (l5 + 1)) rfl (Nat.le_of_ble_eq_true rfl) rfl ?_
              refine rn_goto (tgt := 6) dX10_value_202 (by decide) ?_
              refine rn_sub [2, 3, 4, 5, 6, 0] (L' := [(0, .inr (.inr (some l0))), (1, .inl l1), (2, .inl l2), (3, .inl l3), (4, .inl l4), (5, .inl (l5 + 1))]) rfl ?_
              exact V
            · replace V := V.2 c13
              refine rn_iconst (v := 1) dX10_value_137 (by decide) ?_
              refine rn_goto (tgt := 142) dX10_value_138 (by decide) ?_
              refine rn_cS (M' := mX10_truth) (n := 1) (av := [.inl 1]) (S := [.inl (l4 - 1), .inr (.inr (some (l0 + 2)))]) (rc := 0) (rs := 0) (mc := 0) (ms := 0) dX10_value_142 pa_X10_truth (Nat.le_refl _) rfl (Nat.le_of_ble_eq_true rfl) ml_X10_32 ss_X10_truth rfl (Ev.mono V ?_)
              rintro v sh1 h16 ⟨rfl, Rh16, x17, rfl, V⟩
              show Rn G (d + 1) 0 0 mX10_value 145 [(6, .inl (h.1 (l0 + 1) (Int32.toNatClampNeg l5))), (0, .inr (.inr (some l0))), (1, .inl l1), (2, .inl l2), (3, .inl l3), (4, .inl l4), (5, .inl l5)] [.inl x17, .inl (l4 - 1), .inr (.inr (some (l0 + 2)))] SH h16 (QI Q)
              obtain ⟨g0, V⟩ := V
              refine rn_iast (k := (Int32.toNatClampNeg (l4 - 1))) dX10_value_145 (tx_sh2 hl0) rfl g0 ?_
              refine rn_goto (tgt := 199) dX10_value_146 (by decide) ?_
              refine rn_iinc (L' := [(5, .inl (l5 + 1)), (6, .inl (h.1 (l0 + 1) (Int32.toNatClampNeg l5))), (0, .inr (.inr (some l0))), (1, .inl l1), (2, .inl l2), (3, .inl l3), (4, .inl l4)]) dX10_value_199 rfl (v := (l5 + 1)) rfl (Nat.le_of_ble_eq_true rfl) rfl ?_
              refine rn_goto (tgt := 6) dX10_value_202 (by decide) ?_
              refine rn_sub [2, 3, 4, 5, 6, 0] (L' := [(0, .inr (.inr (some l0))), (1, .inl l1), (2, .inl l2), (3, .inl l3), (4, .inl l4), (5, .inl (l5 + 1))]) rfl ?_
              exact V
      · replace V := V.2 c3
        refine rn_iload dX10_value_41 rfl ?_
        refine rn_aload_n dX10_value_43 rfl rfl ?_
        refine rn_get (v := .inr (.inr (some (l0 + 2)))) dX10_value_44 fl_X10_15 hl0 rfl (congrArg (fun z => (Sum.inr (Sum.inr z) : MV)) (tx_stack hR hl0)) ?_
        refine rn_alen (v := 50) dX10_value_47 (tx_sh2 hl0) (by decide) (by decide) ?_
        refine rn_icmp_ge (tgt := 199) dX10_value_48 (by decide) (fun c18 => ?_) (fun c18 => ?_)
        · replace V := V.1 c18
          refine rn_iinc (L' := [(5, .inl (l5 + 1)), (6, .inl (h.1 (l0 + 1) (Int32.toNatClampNeg l5))), (0, .inr (.inr (some l0))), (1, .inl l1), (2, .inl l2), (3, .inl l3), (4, .inl l4)]) dX10_value_199 rfl (v := (l5 + 1)) rfl (Nat.le_of_ble_eq_true rfl) rfl ?_
          refine rn_goto (tgt := 6) dX10_value_202 (by decide) ?_
          refine rn_sub [2, 3, 4, 5, 6, 0] (L' := [(0, .inr (.inr (some l0))), (1, .inl l1), (2, .inl l2), (3, .inl l3), (4, .inl l4), (5, .inl (l5 + 1))]) rfl ?_
          exact V
        · replace V := V.2 c18
          refine rn_aload_n dX10_value_51 rfl rfl ?_
          refine rn_get (v := .inr (.inr (some (l0 + 2)))) dX10_value_52 fl_X10_15 hl0 rfl (congrArg (fun z => (Sum.inr (Sum.inr z) : MV)) (tx_stack hR hl0)) ?_
          refine rn_iload dX10_value_55 rfl ?_
          refine rn_iload dX10_value_57 rfl ?_
          refine rn_if_lt (tgt := 67) dX10_value_59 (by decide) (fun c19 => ?_) (fun c19 => ?_)
          · replace V := V.1 c19
            refine rn_iload dX10_value_67 rfl ?_
            refine rn_iconst (v := (-1)) dX10_value_69 (by decide) ?_
            refine rn_icmp_ne (tgt := 77) dX10_value_70 (by decide) (fun c20 => ?_) (fun c20 => ?_)
            · replace V := V.1 c20
              refine rn_iload dX10_value_77 rfl ?_
              refine rn_bipush (v := (-2)) dX10_value_79 (by decide) ?_
              refine rn_icmp_ne (tgt := 88) dX10_value_81 (by decide) (fun c21 => ?_) (fun c21 => ?_)
              · replace V := V.1 c21
                refine rn_iload_n dX10_value_88 rfl rfl ?_
                obtain ⟨g0, V⟩ := V
                refine rn_iast (k := (Int32.toNatClampNeg l4)) dX10_value_89 (tx_sh2 hl0) rfl g0 ?_
                refine rn_iinc (L' := [(4, .inl (l4 + 1)), (6, .inl (h.1 (l0 + 1) (Int32.toNatClampNeg l5))), (0, .inr (.inr (some l0))), (1, .inl l1), (2, .inl l2), (3, .inl l3), (5, .inl l5)]) dX10_value_90 rfl (v := (l4 + 1)) rfl (Nat.le_of_ble_eq_true rfl) rfl ?_
                refine rn_goto (tgt := 199) dX10_value_93 (by decide) ?_
                refine rn_iinc (L' := [(5, .inl (l5 + 1)), (4, .inl (l4 + 1)), (6, .inl (h.1 (l0 + 1) (Int32.toNatClampNeg l5))), (0, .inr (.inr (some l0))), (1, .inl l1), (2, .inl l2), (3, .inl l3)]) dX10_value_199 rfl (v := (l5 + 1)) rfl (Nat.le_of_ble_eq_true rfl) rfl ?_
                refine rn_goto (tgt := 6) dX10_value_202 (by decide) ?_
                refine rn_sub [3, 4, 5, 6, 1, 0] (L' := [(0, .inr (.inr (some l0))), (1, .inl l1), (2, .inl l2), (3, .inl l3), (4, .inl (l4 + 1)), (5, .inl (l5 + 1))]) rfl ?_
                exact V
              · replace V := V.2 c21
                refine rn_iload_n dX10_value_84 rfl rfl ?_
                refine rn_goto (tgt := 89) dX10_value_85 (by decide) ?_
                obtain ⟨g0, V⟩ := V
                refine rn_iast (k := (Int32.toNatClampNeg l4)) dX10_value_89 (tx_sh2 hl0) rfl g0 ?_
                refine rn_iinc (L' := [(4, .inl (l4 + 1)), (6, .inl (h.1 (l0 + 1) (Int32.toNatClampNeg l5))), (0, .inr (.inr (some l0))), (1, .inl l1), (2, .inl l2), (3, .inl l3), (5, .inl l5)]) dX10_value_90 rfl (v := (l4 + 1)) rfl (Nat.le_of_ble_eq_true rfl) rfl ?_
                refine rn_goto (tgt := 199) dX10_value_93 (by decide) ?_
                refine rn_iinc (L' := [(5, .inl (l5 + 1)), (4, .inl (l4 + 1)), (6, .inl (h.1 (l0 + 1) (Int32.toNatClampNeg l5))), (0, .inr (.inr (some l0))), (1, .inl l1), (2, .inl l2), (3, .inl l3)]) dX10_value_199 rfl (v := (l5 + 1)) rfl (Nat.le_of_ble_eq_true rfl) rfl ?_
                refine rn_goto (tgt := 6) dX10_value_202 (by decide) ?_
                refine rn_sub [3, 4, 5, 6, 1, 0] (L' := [(0, .inr (.inr (some l0))), (1, .inl l1), (2, .inl l2), (3, .inl l3), (4, .inl (l4 + 1)), (5, .inl (l5 + 1))]) rfl ?_
                exact V
            · replace V := V.2 c20
              refine rn_iload_n dX10_value_73 rfl rfl ?_
              refine rn_goto (tgt := 89) dX10_value_74 (by decide) ?_
              obtain ⟨g0, V⟩ := V
              refine rn_iast (k := (Int32.toNatClampNeg l4)) dX10_value_89 (tx_sh2 hl0) rfl g0 ?_
              refine rn_iinc (L' := [(4, .inl (l4 + 1)), (6, .inl (h.1 (l0 + 1) (Int32.toNatClampNeg l5))), (0, .inr (.inr (some l0))), (1, .inl l1), (2, .inl l2), (3, .inl l3), (5, .inl l5)]) dX10_value_90 rfl (v := (l4 + 1)) rfl (Nat.le_of_ble_eq_true rfl) rfl ?_
              refine rn_goto (tgt := 199) dX10_value_93 (by decide) ?_
              refine rn_iinc (L' := [(5, .inl (l5 + 1)), (4, .inl (l4 + 1)), (6, .inl (h.1 (l0 + 1) (Int32.toNatClampNeg l5))), (0, .inr (.inr (some l0))), (1, .inl l1), (2, .inl l2), (3, .inl l3)]) dX10_value_199 rfl (v := (l5 + 1)) rfl (Nat.le_of_ble_eq_true rfl) rfl ?_
              refine rn_goto (tgt := 6) dX10_value_202 (by decide) ?_
              refine rn_sub [3, 4, 5, 6, 1, 0] (L' := [(0, .inr (.inr (some l0))), (1, .inl l1), (2, .inl l2), (3, .inl l3), (4, .inl (l4 + 1)), (5, .inl (l5 + 1))]) rfl ?_
              exact V
          · replace V := V.2 c19
            refine rn_iload dX10_value_62 rfl ?_
            refine rn_goto (tgt := 89) dX10_value_64 (by decide) ?_
            obtain ⟨g0, V⟩ := V
            refine rn_iast (k := (Int32.toNatClampNeg l4)) dX10_value_89 (tx_sh2 hl0) rfl g0 ?_
            refine rn_iinc (L' := [(4, .inl (l4 + 1)), (6, .inl (h.1 (l0 + 1) (Int32.toNatClampNeg l5))), (0, .inr (.inr (some l0))), (1, .inl l1), (2, .inl l2), (3, .inl l3), (5, .inl l5)]) dX10_value_90 rfl (v := (l4 + 1)) rfl (Nat.le_of_ble_eq_true rfl) rfl ?_
            refine rn_goto (tgt := 199) dX10_value_93 (by decide) ?_
            refine rn_iinc (L' := [(5, .inl (l5 + 1)), (4, .inl (l4 + 1)), (6, .inl (h.1 (l0 + 1) (Int32.toNatClampNeg l5))), (0, .inr (.inr (some l0))), (1, .inl l1), (2, .inl l2), (3, .inl l3)]) dX10_value_199 rfl (v := (l5 + 1)) rfl (Nat.le_of_ble_eq_true rfl) rfl ?_
            refine rn_goto (tgt := 6) dX10_value_202 (by decide) ?_
            refine rn_sub [3, 4, 5, 6, 1, 0] (L' := [(0, .inr (.inr (some l0))), (1, .inl l1), (2, .inl l2), (3, .inl l3), (4, .inl (l4 + 1)), (5, .inl (l5 + 1))]) rfl ?_
            exact V
set_option maxRecDepth 100000 in
set_option maxHeartbeats 4000000 in
theorem vc_X10_value {G : GT} {d : Nat} {a0 : Nat} {a1 : Int32} {a2 : Int32} {a3 : Int32} (ha0 : SH[a0]? = some (.inl 9)) {h : Hp} {Q : Int32 → Hp → Prop} (hR : RF h) (V : Rg_X10_value_6 G d a0 a1 a2 a3 0 0 h Q) : EvI G (d + 1) mX10_value [.inr (.inr (some a0)), .inl a1, .inl a2, .inl a3] h Q := by
  refine Ev.of rfl (fun _ => Nat.le_of_ble_eq_true rfl) ?_
  show Rn G (d + 1) 0 0 mX10_value 0 [(0, .inr (.inr (some a0))), (1, .inl a1), (2, .inl a2), (3, .inl a3)] [] SH h (QI Q)
  refine rn_iconst (v := 0) dX10_value_0 (by decide) ?_
  refine rn_istore (L' := [(4, .inl 0), (0, .inr (.inr (some a0))), (1, .inl a1), (2, .inl a2), (3, .inl a3)]) dX10_value_1 (Nat.le_of_ble_eq_true rfl) rfl ?_
  refine rn_iconst (v := 0) dX10_value_3 (by decide) ?_
  refine rn_istore (L' := [(5, .inl 0), (4, .inl 0), (0, .inr (.inr (some a0))), (1, .inl a1), (2, .inl a2), (3, .inl a3)]) dX10_value_4 (Nat.le_of_ble_eq_true rfl) rfl ?_
  refine rn_sub [2, 3, 4, 5, 1, 0] (L' := [(0, .inr (.inr (some a0))), (1, .inl a1), (2, .inl a2), (3, .inl a3), (4, .inl 0), (5, .inl 0)]) rfl ?_
  exact V
set_option maxRecDepth 100000 in
set_option maxHeartbeats 4000000 in
theorem vc_X10_truth {G : GT} {d : Nat} {a0 : Int32}  {h : Hp} {Q : Int32 → Hp → Prop} (hR : RF h) (V : ((a0 = 0 → Q 0 h) ∧ (¬ a0 = 0 → Q 1 h))) : EvI G (d + 1) mX10_truth [.inl a0] h Q := by
  refine Ev.of rfl (fun _ => Nat.le_of_ble_eq_true rfl) ?_
  show Rn G (d + 1) 0 0 mX10_truth 0 [(0, .inl a0)] [] SH h (QI Q)
  refine rn_iload_n dX10_truth_0 rfl rfl ?_
  refine rn_if_eq (tgt := 8) dX10_truth_1 (by decide) (fun c1 => ?_) (fun c1 => ?_)
  · replace V := V.1 c1
    refine rn_iconst (v := 0) dX10_truth_8 (by decide) ?_
    exact rn_iret dX10_truth_9 rfl ⟨rfl, hR, _, rfl, V⟩
  · replace V := V.2 c1
    refine rn_iconst (v := 1) dX10_truth_4 (by decide) ?_
    refine rn_goto (tgt := 9) dX10_truth_5 (by decide) ?_
    exact rn_iret dX10_truth_9 rfl ⟨rfl, hR, _, rfl, V⟩
set_option maxRecDepth 100000 in
set_option maxHeartbeats 4000000 in
theorem vc_X10_joint {G : GT} {d : Nat} {a0 : Int32} {a1 : Int32} {a2 : Int32}  {h : Hp} {Q : Int32 → Hp → Prop} (hR : RF h) (V : (((a0).toInt = 38 → ((a1 = 0 → EvI G d mX10_truth [.inl 0] h (fun x4 h3 => Q x4 h3)) ∧ (¬ a1 = 0 → ((a2 = 0 → EvI G d mX10_truth [.inl 0] h (fun x7 h6 => Q x7 h6)) ∧ (¬ a2 = 0 → EvI G d mX10_truth [.inl 1] h (fun x9 h8 => Q x9 h8)))))) ∧ (¬ (a0).toInt = 38 → (((a0).toInt = 42 → Q (a1 * a2) h) ∧ (¬ (a0).toInt = 42 → (((a0).toInt = 43 → Q (a1 + a2) h) ∧ (¬ (a0).toInt = 43 → (((a0).toInt = 45 → Q (a1 - a2) h) ∧ (¬ (a0).toInt = 45 → (((a0).toInt = 47 → ((¬ a2 = 0 → ¬ a2 = 0 ∧ Q (a1 / a2) h) ∧ (a2 = 0 → Q 0 h))) ∧ (¬ (a0).toInt = 47 → (((a0).toInt = 60 → ((a2 ≤ a1 → EvI G d mX10_truth [.inl 0] h (fun x18 h17 => Q x18 h17)) ∧ (¬ a2 ≤ a1 → EvI G d mX10_truth [.inl 1] h (fun x20 h19 => Q x20 h19)))) ∧ (¬ (a0).toInt = 60 → (((a0).toInt = 61 → ((¬ a1 = a2 → EvI G d mX10_truth [.inl 0] h (fun x24 h23 => Q x24 h23)) ∧ (a1 = a2 → EvI G d mX10_truth [.inl 1] h (fun x26 h25 => Q x26 h25)))) ∧ (¬ (a0).toInt = 61 → (((a0).toInt = 62 → ((a1 ≤ a2 → EvI G d mX10_truth [.inl 0] h (fun x30 h29 => Q x30 h29)) ∧ (¬ a1 ≤ a2 → EvI G d mX10_truth [.inl 1] h (fun x32 h31 => Q x32 h31)))) ∧ (¬ (a0).toInt = 62 → (((a0).toInt = 124 → ((¬ a1 = 0 → EvI G d mX10_truth [.inl 1] h (fun x36 h35 => Q x36 h35)) ∧ (a1 = 0 → ((a2 = 0 → EvI G d mX10_truth [.inl 0] h (fun x39 h38 => Q x39 h38)) ∧ (¬ a2 = 0 → EvI G d mX10_truth [.inl 1] h (fun x41 h40 => Q x41 h40)))))) ∧ (¬ (a0).toInt = 124 → ((¬ a2 = 0 → ¬ a2 = 0 ∧ Q (a1 - a1 / a2 * a2) h) ∧ (a2 = 0 → Q 0 h))))))))))))))))))))) : EvI G (d + 1) mX10_joint [.inl a0, .inl a1, .inl a2] h Q := by
  refine Ev.of rfl (fun _ => Nat.le_of_ble_eq_true rfl) ?_
  show Rn G (d + 1) 0 0 mX10_joint 0 [(0, .inl a0), (1, .inl a1), (2, .inl a2)] [] SH h (QI Q)
  refine rn_iload_n dX10_joint_0 rfl rfl ?_
  by_cases c1 : (a0).toInt = 38
  · replace V := V.1 c1
    refine rn_lsw (off := 100) (tgt := 101) dX10_joint_1 (by decide) (by rw [c1]; decide) (by decide) ?_
    refine rn_iload_n dX10_joint_101 rfl rfl ?_
    refine rn_if_eq (tgt := 113) dX10_joint_102 (by decide) (fun c2 => ?_) (fun c2 => ?_)
    · replace V := V.1 c2
      refine rn_iconst (v := 0) dX10_joint_113 (by decide) ?_
      refine rn_cS (M' := mX10_truth) (n := 1) (av := [.inl 0]) (S := []) (rc := 0) (rs := 0) (mc := 0) (ms := 0) dX10_joint_114 pa_X10_truth (Nat.le_refl _) rfl (Nat.le_of_ble_eq_true rfl) ml_X10_32 ss_X10_truth rfl (Ev.mono V ?_)
      rintro v sh1 h3 ⟨rfl, Rh3, x4, rfl, V⟩
      show Rn G (d + 1) 0 0 mX10_joint 117 [(0, .inl a0), (1, .inl a1), (2, .inl a2)] [.inl x4] SH h3 (QI Q)
      exact rn_iret dX10_joint_117 rfl ⟨rfl, Rh3, _, rfl, V⟩
    · replace V := V.2 c2
      refine rn_iload_n dX10_joint_105 rfl rfl ?_
      refine rn_if_eq (tgt := 113) dX10_joint_106 (by decide) (fun c5 => ?_) (fun c5 => ?_)
      · replace V := V.1 c5
        refine rn_iconst (v := 0) dX10_joint_113 (by decide) ?_
        refine rn_cS (M' := mX10_truth) (n := 1) (av := [.inl 0]) (S := []) (rc := 0) (rs := 0) (mc := 0) (ms := 0) dX10_joint_114 pa_X10_truth (Nat.le_refl _) rfl (Nat.le_of_ble_eq_true rfl) ml_X10_32 ss_X10_truth rfl (Ev.mono V ?_)
        rintro v sh1 h6 ⟨rfl, Rh6, x7, rfl, V⟩
        show Rn G (d + 1) 0 0 mX10_joint 117 [(0, .inl a0), (1, .inl a1), (2, .inl a2)] [.inl x7] SH h6 (QI Q)
        exact rn_iret dX10_joint_117 rfl ⟨rfl, Rh6, _, rfl, V⟩
      · replace V := V.2 c5
        refine rn_iconst (v := 1) dX10_joint_109 (by decide) ?_
        refine rn_goto (tgt := 114) dX10_joint_110 (by decide) ?_
        refine rn_cS (M' := mX10_truth) (n := 1) (av := [.inl 1]) (S := []) (rc := 0) (rs := 0) (mc := 0) (ms := 0) dX10_joint_114 pa_X10_truth (Nat.le_refl _) rfl (Nat.le_of_ble_eq_true rfl) ml_X10_32 ss_X10_truth rfl (Ev.mono V ?_)
        rintro v sh1 h8 ⟨rfl, Rh8, x9, rfl, V⟩
        show Rn G (d + 1) 0 0 mX10_joint 117 [(0, .inl a0), (1, .inl a1), (2, .inl a2)] [.inl x9] SH h8 (QI Q)
        exact rn_iret dX10_joint_117 rfl ⟨rfl, Rh8, _, rfl, V⟩
  · replace V := V.2 c1
    by_cases c10 : (a0).toInt = 42
    · replace V := V.1 c10
      refine rn_lsw (off := 167) (tgt := 168) dX10_joint_1 (by decide) (by rw [c10]; decide) (by decide) ?_
      refine rn_iload_n dX10_joint_168 rfl rfl ?_
      refine rn_iload_n dX10_joint_169 rfl rfl ?_
      refine rn_imul dX10_joint_170 ?_
      exact rn_iret dX10_joint_171 rfl ⟨rfl, hR, _, rfl, V⟩
    · replace V := V.2 c10
      by_cases c11 : (a0).toInt = 43
      · replace V := V.1 c11
        refine rn_lsw (off := 159) (tgt := 160) dX10_joint_1 (by decide) (by rw [c11]; decide) (by decide) ?_
        refine rn_iload_n dX10_joint_160 rfl rfl ?_
        refine rn_iload_n dX10_joint_161 rfl rfl ?_
        refine rn_iadd dX10_joint_162 ?_
        exact rn_iret dX10_joint_163 rfl ⟨rfl, hR, _, rfl, V⟩
      · replace V := V.2 c11
        by_cases c12 : (a0).toInt = 45
        · replace V := V.1 c12
          refine rn_lsw (off := 163) (tgt := 164) dX10_joint_1 (by decide) (by rw [c12]; decide) (by decide) ?_
          refine rn_iload_n dX10_joint_164 rfl rfl ?_
          refine rn_iload_n dX10_joint_165 rfl rfl ?_
          refine rn_isub dX10_joint_166 ?_
          exact rn_iret dX10_joint_167 rfl ⟨rfl, hR, _, rfl, V⟩
        · replace V := V.2 c12
          by_cases c13 : (a0).toInt = 47
          · replace V := V.1 c13
            refine rn_lsw (off := 171) (tgt := 172) dX10_joint_1 (by decide) (by rw [c13]; decide) (by decide) ?_
            refine rn_iload_n dX10_joint_172 rfl rfl ?_
            refine rn_if_ne (tgt := 180) dX10_joint_173 (by decide) (fun c14 => ?_) (fun c14 => ?_)
            · replace V := V.1 c14
              refine rn_iload_n dX10_joint_180 rfl rfl ?_
              refine rn_iload_n dX10_joint_181 rfl rfl ?_
              obtain ⟨g, V⟩ := V
              refine rn_idiv dX10_joint_182 g ?_
              exact rn_iret dX10_joint_183 rfl ⟨rfl, hR, _, rfl, V⟩
            · replace V := V.2 c14
              refine rn_iconst (v := 0) dX10_joint_176 (by decide) ?_
              refine rn_goto (tgt := 183) dX10_joint_177 (by decide) ?_
              exact rn_iret dX10_joint_183 rfl ⟨rfl, hR, _, rfl, V⟩
          · replace V := V.2 c13
            by_cases c15 : (a0).toInt = 60
            · replace V := V.1 c15
              refine rn_lsw (off := 117) (tgt := 118) dX10_joint_1 (by decide) (by rw [c15]; decide) (by decide) ?_
              refine rn_iload_n dX10_joint_118 rfl rfl ?_
              refine rn_iload_n dX10_joint_119 rfl rfl ?_
              refine rn_icmp_ge (tgt := 127) dX10_joint_120 (by decide) (fun c16 => ?_) (fun c16 => ?_)
              · replace V := V.1 c16
                refine rn_iconst (v := 0) dX10_joint_127 (by decide) ?_
                refine rn_cS (M' := mX10_truth) (n := 1) (av := [.inl 0]) (S := []) (rc := 0) (rs := 0) (mc := 0) (ms := 0) dX10_joint_128 pa_X10_truth (Nat.le_refl _) rfl (Nat.le_of_ble_eq_true rfl) ml_X10_32 ss_X10_truth rfl (Ev.mono V ?_)
                rintro v sh1 h17 ⟨rfl, Rh17, x18, rfl, V⟩
                show Rn G (d + 1) 0 0 mX10_joint 131 [(0, .inl a0), (1, .inl a1), (2, .inl a2)] [.inl x18] SH h17 (QI Q)
                exact rn_iret dX10_joint_131 rfl ⟨rfl, Rh17, _, rfl, V⟩
              · replace V := V.2 c16
                refine rn_iconst (v := 1) dX10_joint_123 (by decide) ?_
                refine rn_goto (tgt := 128) dX10_joint_124 (by decide) ?_
                refine rn_cS (M' := mX10_truth) (n := 1) (av := [.inl 1]) (S := []) (rc := 0) (rs := 0) (mc := 0) (ms := 0) dX10_joint_128 pa_X10_truth (Nat.le_refl _) rfl (Nat.le_of_ble_eq_true rfl) ml_X10_32 ss_X10_truth rfl (Ev.mono V ?_)
                rintro v sh1 h19 ⟨rfl, Rh19, x20, rfl, V⟩
                show Rn G (d + 1) 0 0 mX10_joint 131 [(0, .inl a0), (1, .inl a1), (2, .inl a2)] [.inl x20] SH h19 (QI Q)
                exact rn_iret dX10_joint_131 rfl ⟨rfl, Rh19, _, rfl, V⟩
            · replace V := V.2 c15
              by_cases c21 : (a0).toInt = 61
              · replace V := V.1 c21
                refine rn_lsw (off := 131) (tgt := 132) dX10_joint_1 (by decide) (by rw [c21]; decide) (by decide) ?_
                refine rn_iload_n dX10_joint_132 rfl rfl ?_
                refine rn_iload_n dX10_joint_133 rfl rfl ?_
                refine rn_icmp_ne (tgt := 141) dX10_joint_134 (by decide) (fun c22 => ?_) (fun c22 => ?_)
                · replace V := V.1 c22
                  refine rn_iconst (v := 0) dX10_joint_141 (by decide) ?_
                  refine rn_cS (M' := mX10_truth) (n := 1) (av := [.inl 0]) (S := []) (rc := 0) (rs := 0) (mc := 0) (ms := 0) dX10_joint_142 pa_X10_truth (Nat.le_refl _) rfl (Nat.le_of_ble_eq_true rfl) ml_X10_32 ss_X10_truth rfl (Ev.mono V ?_)
                  rintro v sh1 h23 ⟨rfl, Rh23, x24, rfl, V⟩
                  show Rn G (d + 1) 0 0 mX10_joint 145 [(0, .inl a0), (1, .inl a1), (2, .inl a2)] [.inl x24] SH h23 (QI Q)
                  exact rn_iret dX10_joint_145 rfl ⟨rfl, Rh23, _, rfl, V⟩
                · replace V := V.2 c22
                  refine rn_iconst (v := 1) dX10_joint_137 (by decide) ?_
                  refine rn_goto (tgt := 142) dX10_joint_138 (by decide) ?_
                  refine rn_cS (M' := mX10_truth) (n := 1) (av := [.inl 1]) (S := []) (rc := 0) (rs := 0) (mc := 0) (ms := 0) dX10_joint_142 pa_X10_truth (Nat.le_refl _) rfl (Nat.le_of_ble_eq_true rfl) ml_X10_32 ss_X10_truth rfl (Ev.mono V ?_)
                  rintro v sh1 h25 ⟨rfl, Rh25, x26, rfl, V⟩
                  show Rn G (d + 1) 0 0 mX10_joint 145 [(0, .inl a0), (1, .inl a1), (2, .inl a2)] [.inl x26] SH h25 (QI Q)
                  exact rn_iret dX10_joint_145 rfl ⟨rfl, Rh25, _, rfl, V⟩
              · replace V := V.2 c21
                by_cases c27 : (a0).toInt = 62
                · replace V := V.1 c27
                  refine rn_lsw (off := 145) (tgt := 146) dX10_joint_1 (by decide) (by rw [c27]; decide) (by decide) ?_
                  refine rn_iload_n dX10_joint_146 rfl rfl ?_
                  refine rn_iload_n dX10_joint_147 rfl rfl ?_
                  refine rn_icmp_le (tgt := 155) dX10_joint_148 (by decide) (fun c28 => ?_) (fun c28 => ?_)
                  · replace V := V.1 c28
                    refine rn_iconst (v := 0) dX10_joint_155 (by decide) ?_
                    refine rn_cS (M' := mX10_truth) (n := 1) (av := [.inl 0]) (S := []) (rc := 0) (rs := 0) (mc := 0) (ms := 0) dX10_joint_156 pa_X10_truth (Nat.le_refl _) rfl (Nat.le_of_ble_eq_true rfl) ml_X10_32 ss_X10_truth rfl (Ev.mono V ?_)
                    rintro v sh1 h29 ⟨rfl, Rh29, x30, rfl, V⟩
                    show Rn G (d + 1) 0 0 mX10_joint 159 [(0, .inl a0), (1, .inl a1), (2, .inl a2)] [.inl x30] SH h29 (QI Q)
                    exact rn_iret dX10_joint_159 rfl ⟨rfl, Rh29, _, rfl, V⟩
                  · replace V := V.2 c28
                    refine rn_iconst (v := 1) dX10_joint_151 (by decide) ?_
                    refine rn_goto (tgt := 156) dX10_joint_152 (by decide) ?_
                    refine rn_cS (M' := mX10_truth) (n := 1) (av := [.inl 1]) (S := []) (rc := 0) (rs := 0) (mc := 0) (ms := 0) dX10_joint_156 pa_X10_truth (Nat.le_refl _) rfl (Nat.le_of_ble_eq_true rfl) ml_X10_32 ss_X10_truth rfl (Ev.mono V ?_)
                    rintro v sh1 h31 ⟨rfl, Rh31, x32, rfl, V⟩
                    show Rn G (d + 1) 0 0 mX10_joint 159 [(0, .inl a0), (1, .inl a1), (2, .inl a2)] [.inl x32] SH h31 (QI Q)
                    exact rn_iret dX10_joint_159 rfl ⟨rfl, Rh31, _, rfl, V⟩
                · replace V := V.2 c27
                  by_cases c33 : (a0).toInt = 124
                  · replace V := V.1 c33
                    refine rn_lsw (off := 83) (tgt := 84) dX10_joint_1 (by decide) (by rw [c33]; decide) (by decide) ?_
                    refine rn_iload_n dX10_joint_84 rfl rfl ?_
                    refine rn_if_ne (tgt := 92) dX10_joint_85 (by decide) (fun c34 => ?_) (fun c34 => ?_)
                    · replace V := V.1 c34
                      refine rn_iconst (v := 1) dX10_joint_92 (by decide) ?_
                      refine rn_goto (tgt := 97) dX10_joint_93 (by decide) ?_
                      refine rn_cS (M' := mX10_truth) (n := 1) (av := [.inl 1]) (S := []) (rc := 0) (rs := 0) (mc := 0) (ms := 0) dX10_joint_97 pa_X10_truth (Nat.le_refl _) rfl (Nat.le_of_ble_eq_true rfl) ml_X10_32 ss_X10_truth rfl (Ev.mono V ?_)
                      rintro v sh1 h35 ⟨rfl, Rh35, x36, rfl, V⟩
                      show Rn G (d + 1) 0 0 mX10_joint 100 [(0, .inl a0), (1, .inl a1), (2, .inl a2)] [.inl x36] SH h35 (QI Q)
                      exact rn_iret dX10_joint_100 rfl ⟨rfl, Rh35, _, rfl, V⟩
                    · replace V := V.2 c34
                      refine rn_iload_n dX10_joint_88 rfl rfl ?_
                      refine rn_if_eq (tgt := 96) dX10_joint_89 (by decide) (fun c37 => ?_) (fun c37 => ?_)
                      · replace V := V.1 c37
                        refine rn_iconst (v := 0) dX10_joint_96 (by decide) ?_
                        refine rn_cS (M' := mX10_truth) (n := 1) (av := [.inl 0]) (S := []) (rc := 0) (rs := 0) (mc := 0) (ms := 0) dX10_joint_97 pa_X10_truth (Nat.le_refl _) rfl (Nat.le_of_ble_eq_true rfl) ml_X10_32 ss_X10_truth rfl (Ev.mono V ?_)
                        rintro v sh1 h38 ⟨rfl, Rh38, x39, rfl, V⟩
                        show Rn G (d + 1) 0 0 mX10_joint 100 [(0, .inl a0), (1, .inl a1), (2, .inl a2)] [.inl x39] SH h38 (QI Q)
                        exact rn_iret dX10_joint_100 rfl ⟨rfl, Rh38, _, rfl, V⟩
                      · replace V := V.2 c37
                        refine rn_iconst (v := 1) dX10_joint_92 (by decide) ?_
                        refine rn_goto (tgt := 97) dX10_joint_93 (by decide) ?_
                        refine rn_cS (M' := mX10_truth) (n := 1) (av := [.inl 1]) (S := []) (rc := 0) (rs := 0) (mc := 0) (ms := 0) dX10_joint_97 pa_X10_truth (Nat.le_refl _) rfl (Nat.le_of_ble_eq_true rfl) ml_X10_32 ss_X10_truth rfl (Ev.mono V ?_)
                        rintro v sh1 h40 ⟨rfl, Rh40, x41, rfl, V⟩
                        show Rn G (d + 1) 0 0 mX10_joint 100 [(0, .inl a0), (1, .inl a1), (2, .inl a2)] [.inl x41] SH h40 (QI Q)
                        exact rn_iret dX10_joint_100 rfl ⟨rfl, Rh40, _, rfl, V⟩
                  · replace V := V.2 c33
                    refine rn_lsw (off := 183) (tgt := 184) dX10_joint_1 (by decide) (by simp [Op.lookupswitch.offset, Ne.symm c1, Ne.symm c10, Ne.symm c11, Ne.symm c12, Ne.symm c13, Ne.symm c15, Ne.symm c21, Ne.symm c27, Ne.symm c33]) (by decide) ?_
                    refine rn_iload_n dX10_joint_184 rfl rfl ?_
                    refine rn_if_ne (tgt := 192) dX10_joint_185 (by decide) (fun c42 => ?_) (fun c42 => ?_)
                    · replace V := V.1 c42
                      refine rn_iload_n dX10_joint_192 rfl rfl ?_
                      refine rn_iload_n dX10_joint_193 rfl rfl ?_
                      obtain ⟨g, V⟩ := V
                      refine rn_irem dX10_joint_194 g ?_
                      exact rn_iret dX10_joint_195 rfl ⟨rfl, hR, _, rfl, V⟩
                    · replace V := V.2 c42
                      refine rn_iconst (v := 0) dX10_joint_188 (by decide) ?_
                      refine rn_goto (tgt := 195) dX10_joint_189 (by decide) ?_
                      exact rn_iret dX10_joint_195 rfl ⟨rfl, hR, _, rfl, V⟩
set_option maxRecDepth 100000 in
set_option maxHeartbeats 4000000 in
theorem vc_X6_read {G : GT} {d : Nat} {a2 : Int32} {a3 : Int32}  {h : Hp} {Q : Int32 → Hp → Prop} (hR : RF h) (V : ((¬ a3 = 0 → EvV G d mX10_clear [.inr (.inr (some 46))] (sR (sI (sI (sR h 45 1 (some 19)) 45 2 a2) 45 3 0) 45 4 (some (FB + 3))) (fun h2 => EvI G d mX6_readT [.inr (.inr (some 45)), .inl 0] h2 (fun x4 h3 => ((x4 = 0 → Q (h3.1 45 3) h3) ∧ (¬ x4 = 0 → ((¬ h3.1 45 3 = h3.1 45 2 → Q (h3.1 45 3) h3) ∧ (h3.1 45 3 = h3.1 45 2 → Q (-1) h3))))))) ∧ (a3 = 0 → EvV G d mX10_clear [.inr (.inr (some 46))] (sR (sI (sI (sR h 45 1 (some 19)) 45 2 a2) 45 3 0) 45 4 (some (FB + 2))) (fun h10 => EvI G d mX6_readT [.inr (.inr (some 45)), .inl 0] h10 (fun x12 h11 => ((x12 = 0 → Q (h11.1 45 3) h11) ∧ (¬ x12 = 0 → ((¬ h11.1 45 3 = h11.1 45 2 → Q (h11.1 45 3) h11) ∧ (h11.1 45 3 = h11.1 45 2 → Q (-1) h11))))))))) : EvI G (d + 1) mX6_read [.inr (.inr (some 45)), .inr (.inr (some 19)), .inl a2, .inl a3] h Q := by
  refine Ev.of rfl (fun _ => Nat.le_of_ble_eq_true rfl) ?_
  show Rn G (d + 1) 0 0 mX6_read 0 [(0, .inr (.inr (some 45))), (1, .inr (.inr (some 19))), (2, .inl a2), (3, .inl a3)] [] SH h (QI Q)
  refine rn_aload_n dX6_read_0 rfl rfl ?_
  refine rn_aload_n dX6_read_1 rfl rfl ?_
  refine rn_putR dX6_read_2 fl_X6_24 rfl rfl (Or.inl rfl) rfl rfl ?_
  refine rn_aload_n dX6_read_5 rfl rfl ?_
  refine rn_iload_n dX6_read_6 rfl rfl ?_
  refine rn_putI dX6_read_7 fl_X6_28 rfl rfl (Or.inl rfl) rfl rfl ?_
  refine rn_aload_n dX6_read_10 rfl rfl ?_
  refine rn_iconst (v := 0) dX6_read_11 (by decide) ?_
  refine rn_putI dX6_read_12 fl_X6_32 rfl rfl (Or.inl rfl) rfl rfl ?_
  refine rn_aload_n dX6_read_15 rfl rfl ?_
  refine rn_iload_n dX6_read_16 rfl rfl ?_
  refine rn_if_ne (tgt := 25) dX6_read_17 (by decide) (fun c1 => ?_) (fun c1 => ?_)
  · replace V := V.1 c1
    refine rn_str3 dX6_read_25 rfl ?_
    refine rn_putR dX6_read_27 fl_X6_20 rfl rfl (Or.inl rfl) rfl rfl ?_
    refine rn_aload_n dX6_read_30 rfl rfl ?_
    refine rn_get (v := .inr (.inr (some 46))) dX6_read_31 fl_X6_12 rfl rfl (congrArg (fun z => (Sum.inr (Sum.inr z) : MV)) (rf_45_0 (RF_sR (RF_sR hR (by decide +kernel)) (by decide +kernel)))) ?_
    refine rn_cV (M' := mX10_clear) (n := 0) (av := []) (S := []) (rc := 0) (rs := 0) (mc := 0) (ms := 0) (a := 46) (ci := 9) (r := (RX10, TX10, 3)) dX6_read_34 pa_X10_clear (Nat.le_refl _) rfl (Nat.le_of_ble_eq_true rfl) ml_X6_37 im_X10_clear se_X10_clear rfl rfl rfl (Ev.mono V ?_)
    rintro v sh1 h2 ⟨rfl, Rh2, rfl, V⟩
    show Rn G (d + 1) 0 0 mX6_read 37 [(0, .inr (.inr (some 45))), (1, .inr (.inr (some 19))), (2, .inl a2), (3, .inl a3)] [] SH h2 (QI Q)
    refine rn_aload_n dX6_read_37 rfl rfl ?_
    refine rn_iconst (v := 0) dX6_read_38 (by decide) ?_
    refine rn_cV (M' := mX6_readT) (n := 1) (av := [.inl 0]) (S := []) (rc := 0) (rs := 0) (mc := 0) (ms := 0) (a := 45) (ci := 5) (r := (RX6, TX6, 5)) dX6_read_39 pa_X6_readT (Nat.le_refl _) rfl (Nat.le_of_ble_eq_true rfl) ml_X6_40 im_X6_readT se_X6_readT rfl rfl rfl (Ev.mono V ?_)
    rintro v sh1 h3 ⟨rfl, Rh3, x4, rfl, V⟩
    show Rn G (d + 1) 0 0 mX6_read 42 [(0, .inr (.inr (some 45))), (1, .inr (.inr (some 19))), (2, .inl a2), (3, .inl a3)] [.inl x4] SH h3 (QI Q)
    refine rn_if_eq (tgt := 60) dX6_read_42 (by decide) (fun c5 => ?_) (fun c5 => ?_)
    · replace V := V.1 c5
      refine rn_iconst (v := 0) dX6_read_60 (by decide) ?_
      refine rn_istore (L' := [(4, .inl 0), (0, .inr (.inr (some 45))), (1, .inr (.inr (some 19))), (2, .inl a2), (3, .inl a3)]) dX6_read_61 (Nat.le_of_ble_eq_true rfl) rfl ?_
      refine rn_iload dX6_read_63 rfl ?_
      refine rn_if_eq (tgt := 72) dX6_read_65 (by decide) (fun c6 => ?_) (fun c6 => ?_)
      rotate_left
      · exact absurd (by decide) c6
      refine rn_aload_n dX6_read_72 rfl rfl ?_
      refine rn_get (v := .inl (h3.1 45 3)) dX6_read_73 fl_X6_32 rfl rfl rfl ?_
      exact rn_iret dX6_read_76 rfl ⟨rfl, Rh3, _, rfl, V⟩
    · replace V := V.2 c5
      refine rn_aload_n dX6_read_45 rfl rfl ?_
      refine rn_get (v := .inl (h3.1 45 3)) dX6_read_46 fl_X6_32 rfl rfl rfl ?_
      refine rn_aload_n dX6_read_49 rfl rfl ?_
      refine rn_get (v := .inl (h3.1 45 2)) dX6_read_50 fl_X6_28 rfl rfl rfl ?_
      refine rn_icmp_ne (tgt := 60) dX6_read_53 (by decide) (fun c7 => ?_) (fun c7 => ?_)
      · replace V := V.1 c7
        refine rn_iconst (v := 0) dX6_read_60 (by decide) ?_
        refine rn_istore (L' := [(4, .inl 0), (0, .inr (.inr (some 45))), (1, .inr (.inr (some 19))), (2, .inl a2), (3, .inl a3)]) dX6_read_61 (Nat.le_of_ble_eq_true rfl) rfl ?_
        refine rn_iload dX6_read_63 rfl ?_
        refine rn_if_eq (tgt := 72) dX6_read_65 (by decide) (fun c8 => ?_) (fun c8 => ?_)
        rotate_left
        · exact absurd (by decide) c8
        refine rn_aload_n dX6_read_72 rfl rfl ?_
        refine rn_get (v := .inl (h3.1 45 3)) dX6_read_73 fl_X6_32 rfl rfl rfl ?_
        exact rn_iret dX6_read_76 rfl ⟨rfl, Rh3, _, rfl, V⟩
      · replace V := V.2 c7
        refine rn_iconst (v := 1) dX6_read_56 (by decide) ?_
        refine rn_goto (tgt := 61) dX6_read_57 (by decide) ?_
        refine rn_istore (L' := [(4, .inl 1), (0, .inr (.inr (some 45))), (1, .inr (.inr (some 19))), (2, .inl a2), (3, .inl a3)]) dX6_read_61 (Nat.le_of_ble_eq_true rfl) rfl ?_
        refine rn_iload dX6_read_63 rfl ?_
        refine rn_if_eq (tgt := 72) dX6_read_65 (by decide) (fun c9 => ?_) (fun c9 => ?_)
        · exact absurd c9 (by decide)
        refine rn_iconst (v := (-1)) dX6_read_68 (by decide) ?_
        refine rn_goto (tgt := 76) dX6_read_69 (by decide) ?_
        exact rn_iret dX6_read_76 rfl ⟨rfl, Rh3, _, rfl, V⟩
  · replace V := V.2 c1
    refine rn_str2 dX6_read_20 rfl ?_
    refine rn_goto (tgt := 27) dX6_read_22 (by decide) ?_
    refine rn_putR dX6_read_27 fl_X6_20 rfl rfl (Or.inl rfl) rfl rfl ?_
    refine rn_aload_n dX6_read_30 rfl rfl ?_
    refine rn_get (v := .inr (.inr (some 46))) dX6_read_31 fl_X6_12 rfl rfl (congrArg (fun z => (Sum.inr (Sum.inr z) : MV)) (rf_45_0 (RF_sR (RF_sR hR (by decide +kernel)) (by decide +kernel)))) ?_
    refine rn_cV (M' := mX10_clear) (n := 0) (av := []) (S := []) (rc := 0) (rs := 0) (mc := 0) (ms := 0) (a := 46) (ci := 9) (r := (RX10, TX10, 3)) dX6_read_34 pa_X10_clear (Nat.le_refl _) rfl (Nat.le_of_ble_eq_true rfl) ml_X6_37 im_X10_clear se_X10_clear rfl rfl rfl (Ev.mono V ?_)
    rintro v sh1 h10 ⟨rfl, Rh10, rfl, V⟩
    show Rn G (d + 1) 0 0 mX6_read 37 [(0, .inr (.inr (some 45))), (1, .inr (.inr (some 19))), (2, .inl a2), (3, .inl a3)] [] SH h10 (QI Q)
    refine rn_aload_n dX6_read_37 rfl rfl ?_
    refine rn_iconst (v := 0) dX6_read_38 (by decide) ?_
    refine rn_cV (M' := mX6_readT) (n := 1) (av := [.inl 0]) (S := []) (rc := 0) (rs := 0) (mc := 0) (ms := 0) (a := 45) (ci := 5) (r := (RX6, TX6, 5)) dX6_read_39 pa_X6_readT (Nat.le_refl _) rfl (Nat.le_of_ble_eq_true rfl) ml_X6_40 im_X6_readT se_X6_readT rfl rfl rfl (Ev.mono V ?_)
    rintro v sh1 h11 ⟨rfl, Rh11, x12, rfl, V⟩
    show Rn G (d + 1) 0 0 mX6_read 42 [(0, .inr (.inr (some 45))), (1, .inr (.inr (some 19))), (2, .inl a2), (3, .inl a3)] [.inl x12] SH h11 (QI Q)
    refine rn_if_eq (tgt := 60) dX6_read_42 (by decide) (fun c13 => ?_) (fun c13 => ?_)
    · replace V := V.1 c13
      refine rn_iconst (v := 0) dX6_read_60 (by decide) ?_
      refine rn_istore (L' := [(4, .inl 0), (0, .inr (.inr (some 45))), (1, .inr (.inr (some 19))), (2, .inl a2), (3, .inl a3)]) dX6_read_61 (Nat.le_of_ble_eq_true rfl) rfl ?_
      refine rn_iload dX6_read_63 rfl ?_
      refine rn_if_eq (tgt := 72) dX6_read_65 (by decide) (fun c14 => ?_) (fun c14 => ?_)
      rotate_left
      · exact absurd (by decide) c14
      refine rn_aload_n dX6_read_72 rfl rfl ?_
      refine rn_get (v := .inl (h11.1 45 3)) dX6_read_73 fl_X6_32 rfl rfl rfl ?_
      exact rn_iret dX6_read_76 rfl ⟨rfl, Rh11, _, rfl, V⟩
    · replace V := V.2 c13
      refine rn_aload_n dX6_read_45 rfl rfl ?_
      refine rn_get (v := .inl (h11.1 45 3)) dX6_read_46 fl_X6_32 rfl rfl rfl ?_
      refine rn_aload_n dX6_read_49 rfl rfl ?_
      refine rn_get (v := .inl (h11.1 45 2)) dX6_read_50 fl_X6_28 rfl rfl rfl ?_
      refine rn_icmp_ne (tgt := 60) dX6_read_53 (by decide) (fun c15 => ?_) (fun c15 => ?_)
      · replace V := V.1 c15
        refine rn_iconst (v := 0) dX6_read_60 (by decide) ?_
        refine rn_istore (L' := [(4, .inl 0), (0, .inr (.inr (some 45))), (1, .inr (.inr (some 19))), (2, .inl a2), (3, .inl a3)]) dX6_read_61 (Nat.le_of_ble_eq_true rfl) rfl ?_
        refine rn_iload dX6_read_63 rfl ?_
        refine rn_if_eq (tgt := 72) dX6_read_65 (by decide) (fun c16 => ?_) (fun c16 => ?_)
        rotate_left
        · exact absurd (by decide) c16
        refine rn_aload_n dX6_read_72 rfl rfl ?_
        refine rn_get (v := .inl (h11.1 45 3)) dX6_read_73 fl_X6_32 rfl rfl rfl ?_
        exact rn_iret dX6_read_76 rfl ⟨rfl, Rh11, _, rfl, V⟩
      · replace V := V.2 c15
        refine rn_iconst (v := 1) dX6_read_56 (by decide) ?_
        refine rn_goto (tgt := 61) dX6_read_57 (by decide) ?_
        refine rn_istore (L' := [(4, .inl 1), (0, .inr (.inr (some 45))), (1, .inr (.inr (some 19))), (2, .inl a2), (3, .inl a3)]) dX6_read_61 (Nat.le_of_ble_eq_true rfl) rfl ?_
        refine rn_iload dX6_read_63 rfl ?_
        refine rn_if_eq (tgt := 72) dX6_read_65 (by decide) (fun c17 => ?_) (fun c17 => ?_)
        · exact absurd c17 (by decide)
        refine rn_iconst (v := (-1)) dX6_read_68 (by decide) ?_
        refine rn_goto (tgt := 76) dX6_read_69 (by decide) ?_
        exact rn_iret dX6_read_76 rfl ⟨rfl, Rh11, _, rfl, V⟩
set_option maxRecDepth 100000 in
set_option maxHeartbeats 4000000 in
theorem vc_X6_next {G : GT} {d : Nat}   {h : Hp} {Q : Int32 → Hp → Prop} (hR : RF h) (V : h.2.2 45 1 = some 19 ∧ ((h.1 45 2 ≤ h.1 45 3 → Q (-1) h) ∧ (¬ h.1 45 2 ≤ h.1 45 3 → h.2.2 45 1 = some 19 ∧ EvI G d mX11_within [.inl (h.1 45 3), .inl 0, .inl (50 - 1)] h (fun x3 h2 => ((x3 = 0 → Q (-1) h2) ∧ (¬ x3 = 0 → h2.2.2 45 1 = some 19 ∧ vp_in (h2.1 45 3) 50 ∧ Q (h2.1 19 (Int32.toNatClampNeg (h2.1 45 3))) h2)))))) : EvI G (d + 1) mX6_next [.inr (.inr (some 45))] h Q := by
  refine Ev.of rfl (fun _ => Nat.le_of_ble_eq_true rfl) ?_
  show Rn G (d + 1) 0 0 mX6_next 0 [(0, .inr (.inr (some 45)))] [] SH h (QI Q)
  refine rn_aload_n dX6_next_0 rfl rfl ?_
  obtain ⟨g, V⟩ := V
  refine rn_get (v := .inr (.inr (some 19))) dX6_next_1 fl_X6_24 rfl rfl (congrArg (fun z => (Sum.inr (Sum.inr z) : MV)) g) ?_
  refine rn_ifnull dX6_next_4 ?_
  refine rn_aload_n dX6_next_7 rfl rfl ?_
  refine rn_get (v := .inl (h.1 45 3)) dX6_next_8 fl_X6_32 rfl rfl rfl ?_
  refine rn_aload_n dX6_next_11 rfl rfl ?_
  refine rn_get (v := .inl (h.1 45 2)) dX6_next_12 fl_X6_28 rfl rfl rfl ?_
  refine rn_icmp_ge (tgt := 48) dX6_next_15 (by decide) (fun c1 => ?_) (fun c1 => ?_)
  · replace V := V.1 c1
    refine rn_iconst (v := (-1)) dX6_next_48 (by decide) ?_
    exact rn_iret dX6_next_49 rfl ⟨rfl, hR, _, rfl, V⟩
  · replace V := V.2 c1
    refine rn_aload_n dX6_next_18 rfl rfl ?_
    refine rn_get (v := .inl (h.1 45 3)) dX6_next_19 fl_X6_32 rfl rfl rfl ?_
    refine rn_iconst (v := 0) dX6_next_22 (by decide) ?_
    refine rn_aload_n dX6_next_23 rfl rfl ?_
    obtain ⟨g, V⟩ := V
    refine rn_get (v := .inr (.inr (some 19))) dX6_next_24 fl_X6_24 rfl rfl (congrArg (fun z => (Sum.inr (Sum.inr z) : MV)) g) ?_
    refine rn_alen (v := 50) dX6_next_27 rfl (by decide) (by decide) ?_
    refine rn_iconst (v := 1) dX6_next_28 (by decide) ?_
    refine rn_isub dX6_next_29 ?_
    refine rn_cSN (M' := mX11_within) (n := 3) (av := [.inl (h.1 45 3), .inl 0, .inl (50 - 1)]) (S := []) (rc := 0) (rs := 0) (mc := 0) (ms := 0) dX6_next_30 pa_X11_within (Nat.le_refl _) rfl (Nat.le_of_ble_eq_true rfl) ml_X6_44 ss_X11_within rfl (Ev.mono V ?_)
    rintro v sh1 h2 ⟨rfl, Rh2, x3, rfl, V⟩
    show Rn G (d + 1) 0 0 mX6_next 33 [(0, .inr (.inr (some 45)))] [.inl x3] SH h2 (QI Q)
    refine rn_if_eq (tgt := 48) dX6_next_33 (by decide) (fun c4 => ?_) (fun c4 => ?_)
    · replace V := V.1 c4
      refine rn_iconst (v := (-1)) dX6_next_48 (by decide) ?_
      exact rn_iret dX6_next_49 rfl ⟨rfl, Rh2, _, rfl, V⟩
    · replace V := V.2 c4
      refine rn_aload_n dX6_next_36 rfl rfl ?_
      obtain ⟨g, V⟩ := V
      refine rn_get (v := .inr (.inr (some 19))) dX6_next_37 fl_X6_24 rfl rfl (congrArg (fun z => (Sum.inr (Sum.inr z) : MV)) g) ?_
      refine rn_aload_n dX6_next_40 rfl rfl ?_
      refine rn_get (v := .inl (h2.1 45 3)) dX6_next_41 fl_X6_32 rfl rfl rfl ?_
      obtain ⟨g0, V⟩ := V
      refine rn_iald (k := (Int32.toNatClampNeg (h2.1 45 3))) dX6_next_44 rfl rfl g0 ?_
      refine rn_goto (tgt := 49) dX6_next_45 (by decide) ?_
      exact rn_iret dX6_next_49 rfl ⟨rfl, Rh2, _, rfl, V⟩
def Rg_X6_readT_17 (G : GT) (d : Nat) (l1 : Int32) (l2 : Int32) (h : Hp) (Q : Int32 → Hp → Prop) : Prop := Rn G (d + 1) 0 0 mX6_readT 17 [(0, .inr (.inr (some 45))), (1, .inl l1), (2, .inl l2)] [] SH h (QI Q)
set_option maxRecDepth 100000 in
set_option maxHeartbeats 4000000 in
theorem vc_X6_readT_17 {G : GT} {d : Nat} {l1 : Int32} {l2 : Int32}  {h : Hp} {Q : Int32 → Hp → Prop} (hR : RF h) (V : ((50 ≤ l2 → Q 1 h) ∧ (¬ 50 ≤ l2 → EvI G d mX6_next [.inr (.inr (some 45))] h (fun x7 h6 => ((¬ x7 = 124 → Q 1 h6) ∧ (x7 = 124 → EvI G d mX6_readA [.inr (.inr (some 45)), .inl l1] (sI h6 45 3 (h6.1 45 3 + 1)) (fun x10 h9 => ((¬ x10 = 0 → EvV G d mX10_add [.inr (.inr (some 46)), .inl (-124)] h9 (fun h12 => Rg_X6_readT_17 G d l1 (l2 + 1) h12 Q)) ∧ (x10 = 0 → Q 0 h9))))))))) : Rg_X6_readT_17 G d l1 l2 h Q := by
  show Rn G (d + 1) 0 0 mX6_readT 17 [(0, .inr (.inr (some 45))), (1, .inl l1), (2, .inl l2)] [] SH h (QI Q)
  refine rn_iload_n dX6_readT_17 rfl rfl ?_
  refine rn_bipush (v := 50) dX6_readT_18 (by decide) ?_
  refine rn_icmp_ge (tgt := 67) dX6_readT_20 (by decide) (fun c5 => ?_) (fun c5 => ?_)
  · replace V := V.1 c5
    refine rn_iconst (v := 1) dX6_readT_67 (by decide) ?_
    exact rn_zret dX6_readT_68 rfl (by decide) ⟨rfl, hR, _, rfl, V⟩
  · replace V := V.2 c5
    refine rn_aload_n dX6_readT_23 rfl rfl ?_
    refine rn_cV (M' := mX6_next) (n := 0) (av := []) (S := []) (rc := 0) (rs := 0) (mc := 0) (ms := 0) (a := 45) (ci := 5) (r := (RX6, TX6, 5)) dX6_readT_24 pa_X6_next (Nat.le_refl _) rfl (Nat.le_of_ble_eq_true rfl) ml_X6_51 im_X6_next se_X6_next rfl rfl rfl (Ev.mono V ?_)
    rintro v sh1 h6 ⟨rfl, Rh6, x7, rfl, V⟩
    show Rn G (d + 1) 0 0 mX6_readT 27 [(0, .inr (.inr (some 45))), (1, .inl l1), (2, .inl l2)] [.inl x7] SH h6 (QI Q)
    refine rn_bipush (v := 124) dX6_readT_27 (by decide) ?_
    refine rn_icmp_ne (tgt := 67) dX6_readT_29 (by decide) (fun c8 => ?_) (fun c8 => ?_)
    · replace V := V.1 c8
      refine rn_iconst (v := 1) dX6_readT_67 (by decide) ?_
      exact rn_zret dX6_readT_68 rfl (by decide) ⟨rfl, Rh6, _, rfl, V⟩
    · replace V := V.2 c8
      refine rn_aload_n dX6_readT_32 rfl rfl ?_
      refine rn_dup dX6_readT_33 rfl ?_
      refine rn_get (v := .inl (h6.1 45 3)) dX6_readT_34 fl_X6_32 rfl rfl rfl ?_
      refine rn_iconst (v := 1) dX6_readT_37 (by decide) ?_
      refine rn_iadd dX6_readT_38 ?_
      refine rn_putI dX6_readT_39 fl_X6_32 rfl rfl (Or.inl rfl) rfl rfl ?_
      refine rn_aload_n dX6_readT_42 rfl rfl ?_
      refine rn_iload_n dX6_readT_43 rfl rfl ?_
      refine rn_cV (M' := mX6_readA) (n := 1) (av := [.inl l1]) (S := []) (rc := 0) (rs := 0) (mc := 0) (ms := 0) (a := 45) (ci := 5) (r := (RX6, TX6, 5)) dX6_readT_44 pa_X6_readA (Nat.le_refl _) rfl (Nat.le_of_ble_eq_true rfl) ml_X6_48 im_X6_readA se_X6_readA rfl rfl rfl (Ev.mono V ?_)
      rintro v sh1 h9 ⟨rfl, Rh9, x10, rfl, V⟩
      show Rn G (d + 1) 0 0 mX6_readT 47 [(0, .inr (.inr (some 45))), (1, .inl l1), (2, .inl l2)] [.inl x10] SH h9 (QI Q)
      refine rn_if_ne (tgt := 52) dX6_readT_47 (by decide) (fun c11 => ?_) (fun c11 => ?_)
      · replace V := V.1 c11
        refine rn_aload_n dX6_readT_52 rfl rfl ?_
        refine rn_get (v := .inr (.inr (some 46))) dX6_readT_53 fl_X6_12 rfl rfl (congrArg (fun z => (Sum.inr (Sum.inr z) : MV)) (rf_45_0 Rh9)) ?_
        refine rn_bipush (v := (-124)) dX6_readT_56 (by decide) ?_
        refine rn_cV (M' := mX10_add) (n := 1) (av := [.inl (-124)]) (S := []) (rc := 0) (rs := 0) (mc := 0) (ms := 0) (a := 46) (ci := 9) (r := (RX10, TX10, 3)) dX6_readT_58 pa_X10_add (Nat.le_refl _) rfl (Nat.le_of_ble_eq_true rfl) ml_X6_55 im_X10_add se_X10_add rfl rfl rfl (Ev.mono V ?_)
        rintro v sh1 h12 ⟨rfl, Rh12, rfl, V⟩
        show Rn G (d + 1) 0 0 mX6_readT 61 [(0, .inr (.inr (some 45))), (1, .inl l1), (2, .inl l2)] [] SH h12 (QI Q)
        refine rn_iinc (L' := [(2, .inl (l2 + 1)), (0, .inr (.inr (some 45))), (1, .inl l1)]) dX6_readT_61 rfl (v := (l2 + 1)) rfl (Nat.le_of_ble_eq_true rfl) rfl ?_
        refine rn_goto (tgt := 17) dX6_readT_64 (by decide) ?_
        refine rn_sub [1, 2, 0] (L' := [(0, .inr (.inr (some 45))), (1, .inl l1), (2, .inl (l2 + 1))]) rfl ?_
        exact V
      · replace V := V.2 c11
        refine rn_iconst (v := 0) dX6_readT_50 (by decide) ?_
        exact rn_zret dX6_readT_51 rfl (by decide) ⟨rfl, Rh9, _, rfl, V⟩
set_option maxRecDepth 100000 in
set_option maxHeartbeats 4000000 in
theorem vc_X6_readT {G : GT} {d : Nat} {a1 : Int32}  {h : Hp} {Q : Int32 → Hp → Prop} (hR : RF h) (V : ((5 < a1 → Q 0 h) ∧ (¬ 5 < a1 → EvI G d mX6_readA [.inr (.inr (some 45)), .inl a1] h (fun x3 h2 => ((¬ x3 = 0 → Rg_X6_readT_17 G d a1 0 h2 Q) ∧ (x3 = 0 → Q 0 h2)))))) : EvI G (d + 1) mX6_readT [.inr (.inr (some 45)), .inl a1] h Q := by
  refine Ev.of rfl (fun _ => Nat.le_of_ble_eq_true rfl) ?_
  show Rn G (d + 1) 0 0 mX6_readT 0 [(0, .inr (.inr (some 45))), (1, .inl a1)] [] SH h (QI Q)
  refine rn_iload_n dX6_readT_0 rfl rfl ?_
  refine rn_iconst (v := 5) dX6_readT_1 (by decide) ?_
  refine rn_icmp_gt (tgt := 13) dX6_readT_2 (by decide) (fun c1 => ?_) (fun c1 => ?_)
  · replace V := V.1 c1
    refine rn_iconst (v := 0) dX6_readT_13 (by decide) ?_
    exact rn_zret dX6_readT_14 rfl (by decide) ⟨rfl, hR, _, rfl, V⟩
  · replace V := V.2 c1
    refine rn_aload_n dX6_readT_5 rfl rfl ?_
    refine rn_iload_n dX6_readT_6 rfl rfl ?_
    refine rn_cV (M' := mX6_readA) (n := 1) (av := [.inl a1]) (S := []) (rc := 0) (rs := 0) (mc := 0) (ms := 0) (a := 45) (ci := 5) (r := (RX6, TX6, 5)) dX6_readT_7 pa_X6_readA (Nat.le_refl _) rfl (Nat.le_of_ble_eq_true rfl) ml_X6_48 im_X6_readA se_X6_readA rfl rfl rfl (Ev.mono V ?_)
    rintro v sh1 h2 ⟨rfl, Rh2, x3, rfl, V⟩
    show Rn G (d + 1) 0 0 mX6_readT 10 [(0, .inr (.inr (some 45))), (1, .inl a1)] [.inl x3] SH h2 (QI Q)
    refine rn_if_ne (tgt := 15) dX6_readT_10 (by decide) (fun c4 => ?_) (fun c4 => ?_)
    · replace V := V.1 c4
      refine rn_iconst (v := 0) dX6_readT_15 (by decide) ?_
      refine rn_istore_n (L' := [(2, .inl 0), (0, .inr (.inr (some 45))), (1, .inl a1)]) dX6_readT_16 rfl (Nat.le_of_ble_eq_true rfl) rfl ?_
      refine rn_sub [1, 2, 0] (L' := [(0, .inr (.inr (some 45))), (1, .inl a1), (2, .inl 0)]) rfl ?_
      exact V
    · replace V := V.2 c4
      refine rn_iconst (v := 0) dX6_readT_13 (by decide) ?_
      exact rn_zret dX6_readT_14 rfl (by decide) ⟨rfl, Rh2, _, rfl, V⟩
def Rg_X6_readA_12 (G : GT) (d : Nat) (l1 : Int32) (l2 : Int32) (h : Hp) (Q : Int32 → Hp → Prop) : Prop := Rn G (d + 1) 0 0 mX6_readA 12 [(0, .inr (.inr (some 45))), (1, .inl l1), (2, .inl l2)] [] SH h (QI Q)
set_option maxRecDepth 100000 in
set_option maxHeartbeats 4000000 in
theorem vc_X6_readA_12 {G : GT} {d : Nat} {l1 : Int32} {l2 : Int32}  {h : Hp} {Q : Int32 → Hp → Prop} (hR : RF h) (V : ((50 ≤ l2 → Q 1 h) ∧ (¬ 50 ≤ l2 → EvI G d mX6_next [.inr (.inr (some 45))] h (fun x6 h5 => ((¬ x6 = 38 → Q 1 h5) ∧ (x6 = 38 → EvI G d mX6_readB [.inr (.inr (some 45)), .inl l1] (sI h5 45 3 (h5.1 45 3 + 1)) (fun x9 h8 => ((¬ x9 = 0 → EvV G d mX10_add [.inr (.inr (some 46)), .inl (-38)] h8 (fun h11 => Rg_X6_readA_12 G d l1 (l2 + 1) h11 Q)) ∧ (x9 = 0 → Q 0 h8))))))))) : Rg_X6_readA_12 G d l1 l2 h Q := by
  show Rn G (d + 1) 0 0 mX6_readA 12 [(0, .inr (.inr (some 45))), (1, .inl l1), (2, .inl l2)] [] SH h (QI Q)
  refine rn_iload_n dX6_readA_12 rfl rfl ?_
  refine rn_bipush (v := 50) dX6_readA_13 (by decide) ?_
  refine rn_icmp_ge (tgt := 62) dX6_readA_15 (by decide) (fun c4 => ?_) (fun c4 => ?_)
  · replace V := V.1 c4
    refine rn_iconst (v := 1) dX6_readA_62 (by decide) ?_
    exact rn_zret dX6_readA_63 rfl (by decide) ⟨rfl, hR, _, rfl, V⟩
  · replace V := V.2 c4
    refine rn_aload_n dX6_readA_18 rfl rfl ?_
    refine rn_cV (M' := mX6_next) (n := 0) (av := []) (S := []) (rc := 0) (rs := 0) (mc := 0) (ms := 0) (a := 45) (ci := 5) (r := (RX6, TX6, 5)) dX6_readA_19 pa_X6_next (Nat.le_refl _) rfl (Nat.le_of_ble_eq_true rfl) ml_X6_51 im_X6_next se_X6_next rfl rfl rfl (Ev.mono V ?_)
    rintro v sh1 h5 ⟨rfl, Rh5, x6, rfl, V⟩
    show Rn G (d + 1) 0 0 mX6_readA 22 [(0, .inr (.inr (some 45))), (1, .inl l1), (2, .inl l2)] [.inl x6] SH h5 (QI Q)
    refine rn_bipush (v := 38) dX6_readA_22 (by decide) ?_
    refine rn_icmp_ne (tgt := 62) dX6_readA_24 (by decide) (fun c7 => ?_) (fun c7 => ?_)
    · replace V := V.1 c7
      refine rn_iconst (v := 1) dX6_readA_62 (by decide) ?_
      exact rn_zret dX6_readA_63 rfl (by decide) ⟨rfl, Rh5, _, rfl, V⟩
    · replace V := V.2 c7
      refine rn_aload_n dX6_readA_27 rfl rfl ?_
      refine rn_dup dX6_readA_28 rfl ?_
      refine rn_get (v := .inl (h5.1 45 3)) dX6_readA_29 fl_X6_32 rfl rfl rfl ?_
      refine rn_iconst (v := 1) dX6_readA_32 (by decide) ?_
      refine rn_iadd dX6_readA_33 ?_
      refine rn_putI dX6_readA_34 fl_X6_32 rfl rfl (Or.inl rfl) rfl rfl ?_
      refine rn_aload_n dX6_readA_37 rfl rfl ?_
      refine rn_iload_n dX6_readA_38 rfl rfl ?_
      refine rn_cV (M' := mX6_readB) (n := 1) (av := [.inl l1]) (S := []) (rc := 0) (rs := 0) (mc := 0) (ms := 0) (a := 45) (ci := 5) (r := (RX6, TX6, 5)) dX6_readA_39 pa_X6_readB (Nat.le_refl _) rfl (Nat.le_of_ble_eq_true rfl) ml_X6_59 im_X6_readB se_X6_readB rfl rfl rfl (Ev.mono V ?_)
      rintro v sh1 h8 ⟨rfl, Rh8, x9, rfl, V⟩
      show Rn G (d + 1) 0 0 mX6_readA 42 [(0, .inr (.inr (some 45))), (1, .inl l1), (2, .inl l2)] [.inl x9] SH h8 (QI Q)
      refine rn_if_ne (tgt := 47) dX6_readA_42 (by decide) (fun c10 => ?_) (fun c10 => ?_)
      · replace V := V.1 c10
        refine rn_aload_n dX6_readA_47 rfl rfl ?_
        refine rn_get (v := .inr (.inr (some 46))) dX6_readA_48 fl_X6_12 rfl rfl (congrArg (fun z => (Sum.inr (Sum.inr z) : MV)) (rf_45_0 Rh8)) ?_
        refine rn_bipush (v := (-38)) dX6_readA_51 (by decide) ?_
        refine rn_cV (M' := mX10_add) (n := 1) (av := [.inl (-38)]) (S := []) (rc := 0) (rs := 0) (mc := 0) (ms := 0) (a := 46) (ci := 9) (r := (RX10, TX10, 3)) dX6_readA_53 pa_X10_add (Nat.le_refl _) rfl (Nat.le_of_ble_eq_true rfl) ml_X6_55 im_X10_add se_X10_add rfl rfl rfl (Ev.mono V ?_)
        rintro v sh1 h11 ⟨rfl, Rh11, rfl, V⟩
        show Rn G (d + 1) 0 0 mX6_readA 56 [(0, .inr (.inr (some 45))), (1, .inl l1), (2, .inl l2)] [] SH h11 (QI Q)
        refine rn_iinc (L' := [(2, .inl (l2 + 1)), (0, .inr (.inr (some 45))), (1, .inl l1)]) dX6_readA_56 rfl (v := (l2 + 1)) rfl (Nat.le_of_ble_eq_true rfl) rfl ?_
        refine rn_goto (tgt := 12) dX6_readA_59 (by decide) ?_
        refine rn_sub [1, 2, 0] (L' := [(0, .inr (.inr (some 45))), (1, .inl l1), (2, .inl (l2 + 1))]) rfl ?_
        exact V
      · replace V := V.2 c10
        refine rn_iconst (v := 0) dX6_readA_45 (by decide) ?_
        exact rn_zret dX6_readA_46 rfl (by decide) ⟨rfl, Rh8, _, rfl, V⟩
set_option maxRecDepth 100000 in
set_option maxHeartbeats 4000000 in
theorem vc_X6_readA {G : GT} {d : Nat} {a1 : Int32}  {h : Hp} {Q : Int32 → Hp → Prop} (hR : RF h) (V : EvI G d mX6_readB [.inr (.inr (some 45)), .inl a1] h (fun x2 h1 => ((¬ x2 = 0 → Rg_X6_readA_12 G d a1 0 h1 Q) ∧ (x2 = 0 → Q 0 h1)))) : EvI G (d + 1) mX6_readA [.inr (.inr (some 45)), .inl a1] h Q := by
  refine Ev.of rfl (fun _ => Nat.le_of_ble_eq_true rfl) ?_
  show Rn G (d + 1) 0 0 mX6_readA 0 [(0, .inr (.inr (some 45))), (1, .inl a1)] [] SH h (QI Q)
  refine rn_aload_n dX6_readA_0 rfl rfl ?_
  refine rn_iload_n dX6_readA_1 rfl rfl ?_
  refine rn_cV (M' := mX6_readB) (n := 1) (av := [.inl a1]) (S := []) (rc := 0) (rs := 0) (mc := 0) (ms := 0) (a := 45) (ci := 5) (r := (RX6, TX6, 5)) dX6_readA_2 pa_X6_readB (Nat.le_refl _) rfl (Nat.le_of_ble_eq_true rfl) ml_X6_59 im_X6_readB se_X6_readB rfl rfl rfl (Ev.mono V ?_)
  rintro v sh1 h1 ⟨rfl, Rh1, x2, rfl, V⟩
  show Rn G (d + 1) 0 0 mX6_readA 5 [(0, .inr (.inr (some 45))), (1, .inl a1)] [.inl x2] SH h1 (QI Q)
  refine rn_if_ne (tgt := 10) dX6_readA_5 (by decide) (fun c3 => ?_) (fun c3 => ?_)
  · replace V := V.1 c3
    refine rn_iconst (v := 0) dX6_readA_10 (by decide) ?_
    refine rn_istore_n (L' := [(2, .inl 0), (0, .inr (.inr (some 45))), (1, .inl a1)]) dX6_readA_11 rfl (Nat.le_of_ble_eq_true rfl) rfl ?_
    refine rn_sub [1, 2, 0] (L' := [(0, .inr (.inr (some 45))), (1, .inl a1), (2, .inl 0)]) rfl ?_
    exact V
  · replace V := V.2 c3
    refine rn_iconst (v := 0) dX6_readA_8 (by decide) ?_
    exact rn_zret dX6_readA_9 rfl (by decide) ⟨rfl, Rh1, _, rfl, V⟩
set_option maxRecDepth 100000 in
set_option maxHeartbeats 4000000 in
theorem vc_X6_readB {G : GT} {d : Nat} {a1 : Int32}  {h : Hp} {Q : Int32 → Hp → Prop} (hR : RF h) (V : EvI G d mX6_readS [.inr (.inr (some 45)), .inl a1] h (fun x2 h1 => ((¬ x2 = 0 → EvI G d mX6_next [.inr (.inr (some 45))] h1 (fun x5 h4 => ((x5 = 60 → EvI G d mX6_readS [.inr (.inr (some 45)), .inl a1] (sI h4 45 3 (h4.1 45 3 + 1)) (fun x8 h7 => ((¬ x8 = 0 → EvV G d mX10_add [.inr (.inr (some 46)), .inl (-x5)] h7 (fun h10 => Q 1 h10)) ∧ (x8 = 0 → Q 0 h7)))) ∧ (¬ x5 = 60 → ((x5 = 61 → EvI G d mX6_readS [.inr (.inr (some 45)), .inl a1] (sI h4 45 3 (h4.1 45 3 + 1)) (fun x13 h12 => ((¬ x13 = 0 → EvV G d mX10_add [.inr (.inr (some 46)), .inl (-x5)] h12 (fun h15 => Q 1 h15)) ∧ (x13 = 0 → Q 0 h12)))) ∧ (¬ x5 = 61 → ((x5 = 62 → EvI G d mX6_readS [.inr (.inr (some 45)), .inl a1] (sI h4 45 3 (h4.1 45 3 + 1)) (fun x18 h17 => ((¬ x18 = 0 → EvV G d mX10_add [.inr (.inr (some 46)), .inl (-x5)] h17 (fun h20 => Q 1 h20)) ∧ (x18 = 0 → Q 0 h17)))) ∧ (¬ x5 = 62 → Q 1 h4)))))))) ∧ (x2 = 0 → Q 0 h1)))) : EvI G (d + 1) mX6_readB [.inr (.inr (some 45)), .inl a1] h Q := by
  refine Ev.of rfl (fun _ => Nat.le_of_ble_eq_true rfl) ?_
  show Rn G (d + 1) 0 0 mX6_readB 0 [(0, .inr (.inr (some 45))), (1, .inl a1)] [] SH h (QI Q)
  refine rn_aload_n dX6_readB_0 rfl rfl ?_
  refine rn_iload_n dX6_readB_1 rfl rfl ?_
  refine rn_cV (M' := mX6_readS) (n := 1) (av := [.inl a1]) (S := []) (rc := 0) (rs := 0) (mc := 0) (ms := 0) (a := 45) (ci := 5) (r := (RX6, TX6, 5)) dX6_readB_2 pa_X6_readS (Nat.le_refl _) rfl (Nat.le_of_ble_eq_true rfl) ml_X6_62 im_X6_readS se_X6_readS rfl rfl rfl (Ev.mono V ?_)
  rintro v sh1 h1 ⟨rfl, Rh1, x2, rfl, V⟩
  show Rn G (d + 1) 0 0 mX6_readB 5 [(0, .inr (.inr (some 45))), (1, .inl a1)] [.inl x2] SH h1 (QI Q)
  refine rn_if_ne (tgt := 10) dX6_readB_5 (by decide) (fun c3 => ?_) (fun c3 => ?_)
  · replace V := V.1 c3
    refine rn_aload_n dX6_readB_10 rfl rfl ?_
    refine rn_cV (M' := mX6_next) (n := 0) (av := []) (S := []) (rc := 0) (rs := 0) (mc := 0) (ms := 0) (a := 45) (ci := 5) (r := (RX6, TX6, 5)) dX6_readB_11 pa_X6_next (Nat.le_refl _) rfl (Nat.le_of_ble_eq_true rfl) ml_X6_51 im_X6_next se_X6_next rfl rfl rfl (Ev.mono V ?_)
    rintro v sh1 h4 ⟨rfl, Rh4, x5, rfl, V⟩
    show Rn G (d + 1) 0 0 mX6_readB 14 [(0, .inr (.inr (some 45))), (1, .inl a1)] [.inl x5] SH h4 (QI Q)
    refine rn_istore_n (L' := [(2, .inl x5), (0, .inr (.inr (some 45))), (1, .inl a1)]) dX6_readB_14 rfl (Nat.le_of_ble_eq_true rfl) rfl ?_
    refine rn_iload_n dX6_readB_15 rfl rfl ?_
    refine rn_bipush (v := 60) dX6_readB_16 (by decide) ?_
    refine rn_icmp_eq (tgt := 35) dX6_readB_18 (by decide) (fun c6 => ?_) (fun c6 => ?_)
    · replace V := V.1 c6
      refine rn_aload_n dX6_readB_35 rfl rfl ?_
      refine rn_dup dX6_readB_36 rfl ?_
      refine rn_get (v := .inl (h4.1 45 3)) dX6_readB_37 fl_X6_32 rfl rfl rfl ?_
      refine rn_iconst (v := 1) dX6_readB_40 (by decide) ?_
      refine rn_iadd dX6_readB_41 ?_
      refine rn_putI dX6_readB_42 fl_X6_32 rfl rfl (Or.inl rfl) rfl rfl ?_
      refine rn_aload_n dX6_readB_45 rfl rfl ?_
      refine rn_iload_n dX6_readB_46 rfl rfl ?_
      refine rn_cV (M' := mX6_readS) (n := 1) (av := [.inl a1]) (S := []) (rc := 0) (rs := 0) (mc := 0) (ms := 0) (a := 45) (ci := 5) (r := (RX6, TX6, 5)) dX6_readB_47 pa_X6_readS (Nat.le_refl _) rfl (Nat.le_of_ble_eq_true rfl) ml_X6_62 im_X6_readS se_X6_readS rfl rfl rfl (Ev.mono V ?_)
      rintro v sh1 h7 ⟨rfl, Rh7, x8, rfl, V⟩
      show Rn G (d + 1) 0 0 mX6_readB 50 [(2, .inl x5), (0, .inr (.inr (some 45))), (1, .inl a1)] [.inl x8] SH h7 (QI Q)
      refine rn_if_ne (tgt := 55) dX6_readB_50 (by decide) (fun c9 => ?_) (fun c9 => ?_)
      · replace V := V.1 c9
        refine rn_aload_n dX6_readB_55 rfl rfl ?_
        refine rn_get (v := .inr (.inr (some 46))) dX6_readB_56 fl_X6_12 rfl rfl (congrArg (fun z => (Sum.inr (Sum.inr z) : MV)) (rf_45_0 Rh7)) ?_
        refine rn_iload_n dX6_readB_59 rfl rfl ?_
        refine rn_ineg dX6_readB_60 ?_
        refine rn_cV (M' := mX10_add) (n := 1) (av := [.inl (-x5)]) (S := []) (rc := 0) (rs := 0) (mc := 0) (ms := 0) (a := 46) (ci := 9) (r := (RX10, TX10, 3)) dX6_readB_61 pa_X10_add (Nat.le_refl _) rfl (Nat.le_of_ble_eq_true rfl) ml_X6_55 im_X10_add se_X10_add rfl rfl rfl (Ev.mono V ?_)
        rintro v sh1 h10 ⟨rfl, Rh10, rfl, V⟩
        show Rn G (d + 1) 0 0 mX6_readB 64 [(2, .inl x5), (0, .inr (.inr (some 45))), (1, .inl a1)] [] SH h10 (QI Q)
        refine rn_iconst (v := 1) dX6_readB_64 (by decide) ?_
        exact rn_zret dX6_readB_65 rfl (by decide) ⟨rfl, Rh10, _, rfl, V⟩
      · replace V := V.2 c9
        refine rn_iconst (v := 0) dX6_readB_53 (by decide) ?_
        exact rn_zret dX6_readB_54 rfl (by decide) ⟨rfl, Rh7, _, rfl, V⟩
    · replace V := V.2 c6
      refine rn_iload_n dX6_readB_21 rfl rfl ?_
      refine rn_bipush (v := 61) dX6_readB_22 (by decide) ?_
      refine rn_icmp_eq (tgt := 35) dX6_readB_24 (by decide) (fun c11 => ?_) (fun c11 => ?_)
      · replace V := V.1 c11
        refine rn_aload_n dX6_readB_35 rfl rfl ?_
        refine rn_dup dX6_readB_36 rfl ?_
        refine rn_get (v := .inl (h4.1 45 3)) dX6_readB_37 fl_X6_32 rfl rfl rfl ?_
        refine rn_iconst (v := 1) dX6_readB_40 (by decide) ?_
        refine rn_iadd dX6_readB_41 ?_
        refine rn_putI dX6_readB_42 fl_X6_32 rfl rfl (Or.inl rfl) rfl rfl ?_
        refine rn_aload_n dX6_readB_45 rfl rfl ?_
        refine rn_iload_n dX6_readB_46 rfl rfl ?_
        refine rn_cV (M' := mX6_readS) (n := 1) (av := [.inl a1]) (S := []) (rc := 0) (rs := 0) (mc := 0) (ms := 0) (a := 45) (ci := 5) (r := (RX6, TX6, 5)) dX6_readB_47 pa_X6_readS (Nat.le_refl _) rfl (Nat.le_of_ble_eq_true rfl) ml_X6_62 im_X6_readS se_X6_readS rfl rfl rfl (Ev.mono V ?_)
        rintro v sh1 h12 ⟨rfl, Rh12, x13, rfl, V⟩
        show Rn G (d + 1) 0 0 mX6_readB 50 [(2, .inl x5), (0, .inr (.inr (some 45))), (1, .inl a1)] [.inl x13] SH h12 (QI Q)
        refine rn_if_ne (tgt := 55) dX6_readB_50 (by decide) (fun c14 => ?_) (fun c14 => ?_)
        · replace V := V.1 c14
          refine rn_aload_n dX6_readB_55 rfl rfl ?_
          refine rn_get (v := .inr (.inr (some 46))) dX6_readB_56 fl_X6_12 rfl rfl (congrArg (fun z => (Sum.inr (Sum.inr z) : MV)) (rf_45_0 Rh12)) ?_
          refine rn_iload_n dX6_readB_59 rfl rfl ?_
          refine rn_ineg dX6_readB_60 ?_
          refine rn_cV (M' := mX10_add) (n := 1) (av := [.inl (-x5)]) (S := []) (rc := 0) (rs := 0) (mc := 0) (ms := 0) (a := 46) (ci := 9) (r := (RX10, TX10, 3)) dX6_readB_61 pa_X10_add (Nat.le_refl _) rfl (Nat.le_of_ble_eq_true rfl) ml_X6_55 im_X10_add se_X10_add rfl rfl rfl (Ev.mono V ?_)
          rintro v sh1 h15 ⟨rfl, Rh15, rfl, V⟩
          show Rn G (d + 1) 0 0 mX6_readB 64 [(2, .inl x5), (0, .inr (.inr (some 45))), (1, .inl a1)] [] SH h15 (QI Q)
          refine rn_iconst (v := 1) dX6_readB_64 (by decide) ?_
          exact rn_zret dX6_readB_65 rfl (by decide) ⟨rfl, Rh15, _, rfl, V⟩
        · replace V := V.2 c14
          refine rn_iconst (v := 0) dX6_readB_53 (by decide) ?_
          exact rn_zret dX6_readB_54 rfl (by decide) ⟨rfl, Rh12, _, rfl, V⟩
      · replace V := V.2 c11
        refine rn_iload_n dX6_readB_27 rfl rfl ?_
        refine rn_bipush (v := 62) dX6_readB_28 (by decide) ?_
        refine rn_icmp_eq (tgt := 35) dX6_readB_30 (by decide) (fun c16 => ?_) (fun c16 => ?_)
        · replace V := V.1 c16
          refine rn_aload_n dX6_readB_35 rfl rfl ?_
          refine rn_dup dX6_readB_36 rfl ?_
          refine rn_get (v := .inl (h4.1 45 3)) dX6_readB_37 fl_X6_32 rfl rfl rfl ?_
          refine rn_iconst (v := 1) dX6_readB_40 (by decide) ?_
          refine rn_iadd dX6_readB_41 ?_
          refine rn_putI dX6_readB_42 fl_X6_32 rfl rfl (Or.inl rfl) rfl rfl ?_
          refine rn_aload_n dX6_readB_45 rfl rfl ?_
          refine rn_iload_n dX6_readB_46 rfl rfl ?_
          refine rn_cV (M' := mX6_readS) (n := 1) (av := [.inl a1]) (S := []) (rc := 0) (rs := 0) (mc := 0) (ms := 0) (a := 45) (ci := 5) (r := (RX6, TX6, 5)) dX6_readB_47 pa_X6_readS (Nat.le_refl _) rfl (Nat.le_of_ble_eq_true rfl) ml_X6_62 im_X6_readS se_X6_readS rfl rfl rfl (Ev.mono V ?_)
          rintro v sh1 h17 ⟨rfl, Rh17, x18, rfl, V⟩
          show Rn G (d + 1) 0 0 mX6_readB 50 [(2, .inl x5), (0, .inr (.inr (some 45))), (1, .inl a1)] [.inl x18] SH h17 (QI Q)
          refine rn_if_ne (tgt := 55) dX6_readB_50 (by decide) (fun c19 => ?_) (fun c19 => ?_)
          · replace V := V.1 c19
            refine rn_aload_n dX6_readB_55 rfl rfl ?_
            refine rn_get (v := .inr (.inr (some 46))) dX6_readB_56 fl_X6_12 rfl rfl (congrArg (fun z => (Sum.inr (Sum.inr z) : MV)) (rf_45_0 Rh17)) ?_
            refine rn_iload_n dX6_readB_59 rfl rfl ?_
            refine rn_ineg dX6_readB_60 ?_
            refine rn_cV (M' := mX10_add) (n := 1) (av := [.inl (-x5)]) (S := []) (rc := 0) (rs := 0) (mc := 0) (ms := 0) (a := 46) (ci := 9) (r := (RX10, TX10, 3)) dX6_readB_61 pa_X10_add (Nat.le_refl _) rfl (Nat.le_of_ble_eq_true rfl) ml_X6_55 im_X10_add se_X10_add rfl rfl rfl (Ev.mono V ?_)
            rintro v sh1 h20 ⟨rfl, Rh20, rfl, V⟩
            show Rn G (d + 1) 0 0 mX6_readB 64 [(2, .inl x5), (0, .inr (.inr (some 45))), (1, .inl a1)] [] SH h20 (QI Q)
            refine rn_iconst (v := 1) dX6_readB_64 (by decide) ?_
            exact rn_zret dX6_readB_65 rfl (by decide) ⟨rfl, Rh20, _, rfl, V⟩
          · replace V := V.2 c19
            refine rn_iconst (v := 0) dX6_readB_53 (by decide) ?_
            exact rn_zret dX6_readB_54 rfl (by decide) ⟨rfl, Rh17, _, rfl, V⟩
        · replace V := V.2 c16
          refine rn_iconst (v := 1) dX6_readB_33 (by decide) ?_
          exact rn_zret dX6_readB_34 rfl (by decide) ⟨rfl, Rh4, _, rfl, V⟩
  · replace V := V.2 c3
    refine rn_iconst (v := 0) dX6_readB_8 (by decide) ?_
    exact rn_zret dX6_readB_9 rfl (by decide) ⟨rfl, Rh1, _, rfl, V⟩
def Rg_X6_readS_12 (G : GT) (d : Nat) (l1 : Int32) (l2 : Int32) (h : Hp) (Q : Int32 → Hp → Prop) : Prop := Rn G (d + 1) 0 0 mX6_readS 12 [(0, .inr (.inr (some 45))), (1, .inl l1), (2, .inl l2)] [] SH h (QI Q)
set_option maxRecDepth 100000 in
set_option maxHeartbeats 4000000 in
theorem vc_X6_readS_12 {G : GT} {d : Nat} {l1 : Int32} {l2 : Int32}  {h : Hp} {Q : Int32 → Hp → Prop} (hR : RF h) (V : ((50 ≤ l2 → Q 1 h) ∧ (¬ 50 ≤ l2 → EvI G d mX6_next [.inr (.inr (some 45))] h (fun x6 h5 => ((x6 = 43 → EvI G d mX6_next [.inr (.inr (some 45))] h5 (fun x9 h8 => EvI G d mX6_readP [.inr (.inr (some 45)), .inl l1] (sI h8 45 3 (h8.1 45 3 + 1)) (fun x11 h10 => ((¬ x11 = 0 → EvV G d mX10_add [.inr (.inr (some 46)), .inl (-x9)] h10 (fun h13 => Rg_X6_readS_12 G d l1 (l2 + 1) h13 Q)) ∧ (x11 = 0 → Q 0 h10))))) ∧ (¬ x6 = 43 → EvI G d mX6_next [.inr (.inr (some 45))] h5 (fun x15 h14 => ((¬ x15 = 45 → Q 1 h14) ∧ (x15 = 45 → EvI G d mX6_next [.inr (.inr (some 45))] h14 (fun x18 h17 => EvI G d mX6_readP [.inr (.inr (some 45)), .inl l1] (sI h17 45 3 (h17.1 45 3 + 1)) (fun x20 h19 => ((¬ x20 = 0 → EvV G d mX10_add [.inr (.inr (some 46)), .inl (-x18)] h19 (fun h22 => Rg_X6_readS_12 G d l1 (l2 + 1) h22 Q)) ∧ (x20 = 0 → Q 0 h19))))))))))))) : Rg_X6_readS_12 G d l1 l2 h Q := by
  show Rn G (d + 1) 0 0 mX6_readS 12 [(0, .inr (.inr (some 45))), (1, .inl l1), (2, .inl l2)] [] SH h (QI Q)
  refine rn_iload_n dX6_readS_12 rfl rfl ?_
  refine rn_bipush (v := 50) dX6_readS_13 (by decide) ?_
  refine rn_icmp_ge (tgt := 76) dX6_readS_15 (by decide) (fun c4 => ?_) (fun c4 => ?_)
  · replace V := V.1 c4
    refine rn_iconst (v := 1) dX6_readS_76 (by decide) ?_
    exact rn_zret dX6_readS_77 rfl (by decide) ⟨rfl, hR, _, rfl, V⟩
  · replace V := V.2 c4
    refine rn_aload_n dX6_readS_18 rfl rfl ?_
    refine rn_cV (M' := mX6_next) (n := 0) (av := []) (S := []) (rc := 0) (rs := 0) (mc := 0) (ms := 0) (a := 45) (ci := 5) (r := (RX6, TX6, 5)) dX6_readS_19 pa_X6_next (Nat.le_refl _) rfl (Nat.le_of_ble_eq_true rfl) ml_X6_51 im_X6_next se_X6_next rfl rfl rfl (Ev.mono V ?_)
    rintro v sh1 h5 ⟨rfl, Rh5, x6, rfl, V⟩
    show Rn G (d + 1) 0 0 mX6_readS 22 [(0, .inr (.inr (some 45))), (1, .inl l1), (2, .inl l2)] [.inl x6] SH h5 (QI Q)
    refine rn_bipush (v := 43) dX6_readS_22 (by decide) ?_
    refine rn_icmp_eq (tgt := 36) dX6_readS_24 (by decide) (fun c7 => ?_) (fun c7 => ?_)
    · replace V := V.1 c7
      refine rn_aload_n dX6_readS_36 rfl rfl ?_
      refine rn_cV (M' := mX6_next) (n := 0) (av := []) (S := []) (rc := 0) (rs := 0) (mc := 0) (ms := 0) (a := 45) (ci := 5) (r := (RX6, TX6, 5)) dX6_readS_37 pa_X6_next (Nat.le_refl _) rfl (Nat.le_of_ble_eq_true rfl) ml_X6_51 im_X6_next se_X6_next rfl rfl rfl (Ev.mono V ?_)
      rintro v sh1 h8 ⟨rfl, Rh8, x9, rfl, V⟩
      show Rn G (d + 1) 0 0 mX6_readS 40 [(0, .inr (.inr (some 45))), (1, .inl l1), (2, .inl l2)] [.inl x9] SH h8 (QI Q)
      refine rn_istore_n (L' := [(3, .inl x9), (0, .inr (.inr (some 45))), (1, .inl l1), (2, .inl l2)]) dX6_readS_40 rfl (Nat.le_of_ble_eq_true rfl) rfl ?_
      refine rn_aload_n dX6_readS_41 rfl rfl ?_
      refine rn_dup dX6_readS_42 rfl ?_
      refine rn_get (v := .inl (h8.1 45 3)) dX6_readS_43 fl_X6_32 rfl rfl rfl ?_
      refine rn_iconst (v := 1) dX6_readS_46 (by decide) ?_
      refine rn_iadd dX6_readS_47 ?_
      refine rn_putI dX6_readS_48 fl_X6_32 rfl rfl (Or.inl rfl) rfl rfl ?_
      refine rn_aload_n dX6_readS_51 rfl rfl ?_
      refine rn_iload_n dX6_readS_52 rfl rfl ?_
      refine rn_cV (M' := mX6_readP) (n := 1) (av := [.inl l1]) (S := []) (rc := 0) (rs := 0) (mc := 0) (ms := 0) (a := 45) (ci := 5) (r := (RX6, TX6, 5)) dX6_readS_53 pa_X6_readP (Nat.le_refl _) rfl (Nat.le_of_ble_eq_true rfl) ml_X6_65 im_X6_readP se_X6_readP rfl rfl rfl (Ev.mono V ?_)
      rintro v sh1 h10 ⟨rfl, Rh10, x11, rfl, V⟩
      show Rn G (d + 1) 0 0 mX6_readS 56 [(3, .inl x9), (0, .inr (.inr (some 45))), (1, .inl l1), (2, .inl l2)] [.inl x11] SH h10 (QI Q)
      refine rn_if_ne (tgt := 61) dX6_readS_56 (by decide) (fun c12 => ?_) (fun c12 => ?_)
      · replace V := V.1 c12
        refine rn_aload_n dX6_readS_61 rfl rfl ?_
        refine rn_get (v := .inr (.inr (some 46))) dX6_readS_62 fl_X6_12 rfl rfl (congrArg (fun z => (Sum.inr (Sum.inr z) : MV)) (rf_45_0 Rh10)) ?_
        refine rn_iload_n dX6_readS_65 rfl rfl ?_
        refine rn_ineg dX6_readS_66 ?_
        refine rn_cV (M' := mX10_add) (n := 1) (av := [.inl (-x9)]) (S := []) (rc := 0) (rs := 0) (mc := 0) (ms := 0) (a := 46) (ci := 9) (r := (RX10, TX10, 3)) dX6_readS_67 pa_X10_add (Nat.le_refl _) rfl (Nat.le_of_ble_eq_true rfl) ml_X6_55 im_X10_add se_X10_add rfl rfl rfl (Ev.mono V ?_)
        rintro v sh1 h13 ⟨rfl, Rh13, rfl, V⟩
        show Rn G (d + 1) 0 0 mX6_readS 70 [(3, .inl x9), (0, .inr (.inr (some 45))), (1, .inl l1), (2, .inl l2)] [] SH h13 (QI Q)
        refine rn_iinc (L' := [(2, .inl (l2 + 1)), (3, .inl x9), (0, .inr (.inr (some 45))), (1, .inl l1)]) dX6_readS_70 rfl (v := (l2 + 1)) rfl (Nat.le_of_ble_eq_true rfl) rfl ?_
        refine rn_goto (tgt := 12) dX6_readS_73 (by decide) ?_
        refine rn_sub [2, 3, 0] (L' := [(0, .inr (.inr (some 45))), (1, .inl l1), (2, .inl (l2 + 1))]) rfl ?_
        exact V
      · replace V := V.2 c12
        refine rn_iconst (v := 0) dX6_readS_59 (by decide) ?_
        exact rn_zret dX6_readS_60 rfl (by decide) ⟨rfl, Rh10, _, rfl, V⟩
    · replace V := V.2 c7
      refine rn_aload_n dX6_readS_27 rfl rfl ?_
      refine rn_cV (M' := mX6_next) (n := 0) (av := []) (S := []) (rc := 0) (rs := 0) (mc := 0) (ms := 0) (a := 45) (ci := 5) (r := (RX6, TX6, 5)) dX6_readS_28 pa_X6_next (Nat.le_refl _) rfl (Nat.le_of_ble_eq_true rfl) ml_X6_51 im_X6_next se_X6_next rfl rfl rfl (Ev.mono V ?_)
      rintro v sh1 h14 ⟨rfl, Rh14, x15, rfl, V⟩
      show Rn G (d + 1) 0 0 mX6_readS 31 [(0, .inr (.inr (some 45))), (1, .inl l1), (2, .inl l2)] [.inl x15] SH h14 (QI Q)
      refine rn_bipush (v := 45) dX6_readS_31 (by decide) ?_
      refine rn_icmp_ne (tgt := 76) dX6_readS_33 (by decide) (fun c16 => ?_) (fun c16 => ?_)
      · replace V := V.1 c16
        refine rn_iconst (v := 1) dX6_readS_76 (by decide) ?_
        exact rn_zret dX6_readS_77 rfl (by decide) ⟨rfl, Rh14, _, rfl, V⟩
      · replace V := V.2 c16
        refine rn_aload_n dX6_readS_36 rfl rfl ?_
        refine rn_cV (M' := mX6_next) (n := 0) (av := []) (S := []) (rc := 0) (rs := 0) (mc := 0) (ms := 0) (a := 45) (ci := 5) (r := (RX6, TX6, 5)) dX6_readS_37 pa_X6_next (Nat.le_refl _) rfl (Nat.le_of_ble_eq_true rfl) ml_X6_51 im_X6_next se_X6_next rfl rfl rfl (Ev.mono V ?_)
        rintro v sh1 h17 ⟨rfl, Rh17, x18, rfl, V⟩
        show Rn G (d + 1) 0 0 mX6_readS 40 [(0, .inr (.inr (some 45))), (1, .inl l1), (2, .inl l2)] [.inl x18] SH h17 (QI Q)
        refine rn_istore_n (L' := [(3, .inl x18), (0, .inr (.inr (some 45))), (1, .inl l1), (2, .inl l2)]) dX6_readS_40 rfl (Nat.le_of_ble_eq_true rfl) rfl ?_
        refine rn_aload_n dX6_readS_41 rfl rfl ?_
        refine rn_dup dX6_readS_42 rfl ?_
        refine rn_get (v := .inl (h17.1 45 3)) dX6_readS_43 fl_X6_32 rfl rfl rfl ?_
        refine rn_iconst (v := 1) dX6_readS_46 (by decide) ?_
        refine rn_iadd dX6_readS_47 ?_
        refine rn_putI dX6_readS_48 fl_X6_32 rfl rfl (Or.inl rfl) rfl rfl ?_
        refine rn_aload_n dX6_readS_51 rfl rfl ?_
        refine rn_iload_n dX6_readS_52 rfl rfl ?_
        refine rn_cV (M' := mX6_readP) (n := 1) (av := [.inl l1]) (S := []) (rc := 0) (rs := 0) (mc := 0) (ms := 0) (a := 45) (ci := 5) (r := (RX6, TX6, 5)) dX6_readS_53 pa_X6_readP (Nat.le_refl _) rfl (Nat.le_of_ble_eq_true rfl) ml_X6_65 im_X6_readP se_X6_readP rfl rfl rfl (Ev.mono V ?_)
        rintro v sh1 h19 ⟨rfl, Rh19, x20, rfl, V⟩
        show Rn G (d + 1) 0 0 mX6_readS 56 [(3, .inl x18), (0, .inr (.inr (some 45))), (1, .inl l1), (2, .inl l2)] [.inl x20] SH h19 (QI Q)
        refine rn_if_ne (tgt := 61) dX6_readS_56 (by decide) (fun c21 => ?_) (fun c21 => ?_)
        · replace V := V.1 c21
          refine rn_aload_n dX6_readS_61 rfl rfl ?_
          refine rn_get (v := .inr (.inr (some 46))) dX6_readS_62 fl_X6_12 rfl rfl (congrArg (fun z => (Sum.inr (Sum.inr z) : MV)) (rf_45_0 Rh19)) ?_
          refine rn_iload_n dX6_readS_65 rfl rfl ?_
          refine rn_ineg dX6_readS_66 ?_
          refine rn_cV (M' := mX10_add) (n := 1) (av := [.inl (-x18)]) (S := []) (rc := 0) (rs := 0) (mc := 0) (ms := 0) (a := 46) (ci := 9) (r := (RX10, TX10, 3)) dX6_readS_67 pa_X10_add (Nat.le_refl _) rfl (Nat.le_of_ble_eq_true rfl) ml_X6_55 im_X10_add se_X10_add rfl rfl rfl (Ev.mono V ?_)
          rintro v sh1 h22 ⟨rfl, Rh22, rfl, V⟩
          show Rn G (d + 1) 0 0 mX6_readS 70 [(3, .inl x18), (0, .inr (.inr (some 45))), (1, .inl l1), (2, .inl l2)] [] SH h22 (QI Q)
          refine rn_iinc (L' := [(2, .inl (l2 + 1)), (3, .inl x18), (0, .inr (.inr (some 45))), (1, .inl l1)]) dX6_readS_70 rfl (v := (l2 + 1)) rfl (Nat.le_of_ble_eq_true rfl) rfl ?_
          refine rn_goto (tgt := 12) dX6_readS_73 (by decide) ?_
          refine rn_sub [2, 3, 0] (L' := [(0, .inr (.inr (some 45))), (1, .inl l1), (2, .inl (l2 + 1))]) rfl ?_
          exact V
        · replace V := V.2 c21
          refine rn_iconst (v := 0) dX6_readS_59 (by decide) ?_
          exact rn_zret dX6_readS_60 rfl (by decide) ⟨rfl, Rh19, _, rfl, V⟩
set_option maxRecDepth 100000 in
set_option maxHeartbeats 4000000 in
theorem vc_X6_readS {G : GT} {d : Nat} {a1 : Int32}  {h : Hp} {Q : Int32 → Hp → Prop} (hR : RF h) (V : EvI G d mX6_readP [.inr (.inr (some 45)), .inl a1] h (fun x2 h1 => ((¬ x2 = 0 → Rg_X6_readS_12 G d a1 0 h1 Q) ∧ (x2 = 0 → Q 0 h1)))) : EvI G (d + 1) mX6_readS [.inr (.inr (some 45)), .inl a1] h Q := by
  refine Ev.of rfl (fun _ => Nat.le_of_ble_eq_true rfl) ?_
  show Rn G (d + 1) 0 0 mX6_readS 0 [(0, .inr (.inr (some 45))), (1, .inl a1)] [] SH h (QI Q)
  refine rn_aload_n dX6_readS_0 rfl rfl ?_
  refine rn_iload_n dX6_readS_1 rfl rfl ?_
  refine rn_cV (M' := mX6_readP) (n := 1) (av := [.inl a1]) (S := []) (rc := 0) (rs := 0) (mc := 0) (ms := 0) (a := 45) (ci := 5) (r := (RX6, TX6, 5)) dX6_readS_2 pa_X6_readP (Nat.le_refl _) rfl (Nat.le_of_ble_eq_true rfl) ml_X6_65 im_X6_readP se_X6_readP rfl rfl rfl (Ev.mono V ?_)
  rintro v sh1 h1 ⟨rfl, Rh1, x2, rfl, V⟩
  show Rn G (d + 1) 0 0 mX6_readS 5 [(0, .inr (.inr (some 45))), (1, .inl a1)] [.inl x2] SH h1 (QI Q)
  refine rn_if_ne (tgt := 10) dX6_readS_5 (by decide) (fun c3 => ?_) (fun c3 => ?_)
  · replace V := V.1 c3
    refine rn_iconst (v := 0) dX6_readS_10 (by decide) ?_
    refine rn_istore_n (L' := [(2, .inl 0), (0, .inr (.inr (some 45))), (1, .inl a1)]) dX6_readS_11 rfl (Nat.le_of_ble_eq_true rfl) rfl ?_
    refine rn_sub [1, 2, 0] (L' := [(0, .inr (.inr (some 45))), (1, .inl a1), (2, .inl 0)]) rfl ?_
    exact V
  · replace V := V.2 c3
    refine rn_iconst (v := 0) dX6_readS_8 (by decide) ?_
    exact rn_zret dX6_readS_9 rfl (by decide) ⟨rfl, Rh1, _, rfl, V⟩
def Rg_X6_readP_12 (G : GT) (d : Nat) (l1 : Int32) (l2 : Int32) (h : Hp) (Q : Int32 → Hp → Prop) : Prop := Rn G (d + 1) 0 0 mX6_readP 12 [(0, .inr (.inr (some 45))), (1, .inl l1), (2, .inl l2)] [] SH h (QI Q)
set_option maxRecDepth 100000 in
set_option maxHeartbeats 4000000 in
theorem vc_X6_readP_12 {G : GT} {d : Nat} {l1 : Int32} {l2 : Int32}  {h : Hp} {Q : Int32 → Hp → Prop} (hR : RF h) (V : ((50 ≤ l2 → Q 1 h) ∧ (¬ 50 ≤ l2 → EvI G d mX6_next [.inr (.inr (some 45))] h (fun x6 h5 => ((x6 = 42 → EvI G d mX6_next [.inr (.inr (some 45))] h5 (fun x9 h8 => EvI G d mX6_readQ [.inr (.inr (some 45)), .inl l1] (sI h8 45 3 (h8.1 45 3 + 1)) (fun x11 h10 => ((¬ x11 = 0 → EvV G d mX10_add [.inr (.inr (some 46)), .inl (-x9)] h10 (fun h13 => Rg_X6_readP_12 G d l1 (l2 + 1) h13 Q)) ∧ (x11 = 0 → Q 0 h10))))) ∧ (¬ x6 = 42 → EvI G d mX6_next [.inr (.inr (some 45))] h5 (fun x15 h14 => ((x15 = 47 → EvI G d mX6_next [.inr (.inr (some 45))] h14 (fun x18 h17 => EvI G d mX6_readQ [.inr (.inr (some 45)), .inl l1] (sI h17 45 3 (h17.1 45 3 + 1)) (fun x20 h19 => ((¬ x20 = 0 → EvV G d mX10_add [.inr (.inr (some 46)), .inl (-x18)] h19 (fun h22 => Rg_X6_readP_12 G d l1 (l2 + 1) h22 Q)) ∧ (x20 = 0 → Q 0 h19))))) ∧ (¬ x15 = 47 → EvI G d mX6_next [.inr (.inr (some 45))] h14 (fun x24 h23 => ((¬ x24 = 37 → Q 1 h23) ∧ (x24 = 37 → EvI G d mX6_next [.inr (.inr (some 45))] h23 (fun x27 h26 => EvI G d mX6_readQ [.inr (.inr (some 45)), .inl l1] (sI h26 45 3 (h26.1 45 3 + 1)) (fun x29 h28 => ((¬ x29 = 0 → EvV G d mX10_add [.inr (.inr (some 46)), .inl (-x27)] h28 (fun h31 => Rg_X6_readP_12 G d l1 (l2 + 1) h31 Q)) ∧ (x29 = 0 → Q 0 h28)))))))))))))))) : Rg_X6_readP_12 G d l1 l2 h Q := by
  show Rn G (d + 1) 0 0 mX6_readP 12 [(0, .inr (.inr (some 45))), (1, .inl l1), (2, .inl l2)] [] SH h (QI Q)
  refine rn_iload_n dX6_readP_12 rfl rfl ?_
  refine rn_bipush (v := 50) dX6_readP_13 (by decide) ?_
  refine rn_icmp_ge (tgt := 85) dX6_readP_15 (by decide) (fun c4 => ?_) (fun c4 => ?_)
  · replace V := V.1 c4
    refine rn_iconst (v := 1) dX6_readP_85 (by decide) ?_
    exact rn_zret dX6_readP_86 rfl (by decide) ⟨rfl, hR, _, rfl, V⟩
  · replace V := V.2 c4
    refine rn_aload_n dX6_readP_18 rfl rfl ?_
    refine rn_cV (M' := mX6_next) (n := 0) (av := []) (S := []) (rc := 0) (rs := 0) (mc := 0) (ms := 0) (a := 45) (ci := 5) (r := (RX6, TX6, 5)) dX6_readP_19 pa_X6_next (Nat.le_refl _) rfl (Nat.le_of_ble_eq_true rfl) ml_X6_51 im_X6_next se_X6_next rfl rfl rfl (Ev.mono V ?_)
    rintro v sh1 h5 ⟨rfl, Rh5, x6, rfl, V⟩
    show Rn G (d + 1) 0 0 mX6_readP 22 [(0, .inr (.inr (some 45))), (1, .inl l1), (2, .inl l2)] [.inl x6] SH h5 (QI Q)
    refine rn_bipush (v := 42) dX6_readP_22 (by decide) ?_
    refine rn_icmp_eq (tgt := 45) dX6_readP_24 (by decide) (fun c7 => ?_) (fun c7 => ?_)
    · replace V := V.1 c7
      refine rn_aload_n dX6_readP_45 rfl rfl ?_
      refine rn_cV (M' := mX6_next) (n := 0) (av := []) (S := []) (rc := 0) (rs := 0) (mc := 0) (ms := 0) (a := 45) (ci := 5) (r := (RX6, TX6, 5)) dX6_readP_46 pa_X6_next (Nat.le_refl _) rfl (Nat.le_of_ble_eq_true rfl) ml_X6_51 im_X6_next se_X6_next rfl rfl rfl (Ev.mono V ?_)
      rintro v sh1 h8 ⟨rfl, Rh8, x9, rfl, V⟩
      show Rn G (d + 1) 0 0 mX6_readP 49 [(0, .inr (.inr (some 45))), (1, .inl l1), (2, .inl l2)] [.inl x9] SH h8 (QI Q)
      refine rn_istore_n (L' := [(3, .inl x9), (0, .inr (.inr (some 45))), (1, .inl l1), (2, .inl l2)]) dX6_readP_49 rfl (Nat.le_of_ble_eq_true rfl) rfl ?_
      refine rn_aload_n dX6_readP_50 rfl rfl ?_
      refine rn_dup dX6_readP_51 rfl ?_
      refine rn_get (v := .inl (h8.1 45 3)) dX6_readP_52 fl_X6_32 rfl rfl rfl ?_
      refine rn_iconst (v := 1) dX6_readP_55 (by decide) ?_
      refine rn_iadd dX6_readP_56 ?_
      refine rn_putI dX6_readP_57 fl_X6_32 rfl rfl (Or.inl rfl) rfl rfl ?_
      refine rn_aload_n dX6_readP_60 rfl rfl ?_
      refine rn_iload_n dX6_readP_61 rfl rfl ?_
      refine rn_cV (M' := mX6_readQ) (n := 1) (av := [.inl l1]) (S := []) (rc := 0) (rs := 0) (mc := 0) (ms := 0) (a := 45) (ci := 5) (r := (RX6, TX6, 5)) dX6_readP_62 pa_X6_readQ (Nat.le_refl _) rfl (Nat.le_of_ble_eq_true rfl) ml_X6_68 im_X6_readQ se_X6_readQ rfl rfl rfl (Ev.mono V ?_)
      rintro v sh1 h10 ⟨rfl, Rh10, x11, rfl, V⟩
      show Rn G (d + 1) 0 0 mX6_readP 65 [(3, .inl x9), (0, .inr (.inr (some 45))), (1, .inl l1), (2, .inl l2)] [.inl x11] SH h10 (QI Q)
      refine rn_if_ne (tgt := 70) dX6_readP_65 (by decide) (fun c12 => ?_) (fun c12 => ?_)
      · replace V := V.1 c12
        refine rn_aload_n dX6_readP_70 rfl rfl ?_
        refine rn_get (v := .inr (.inr (some 46))) dX6_readP_71 fl_X6_12 rfl rfl (congrArg (fun z => (Sum.inr (Sum.inr z) : MV)) (rf_45_0 Rh10)) ?_
        refine rn_iload_n dX6_readP_74 rfl rfl ?_
        refine rn_ineg dX6_readP_75 ?_
        refine rn_cV (M' := mX10_add) (n := 1) (av := [.inl (-x9)]) (S := []) (rc := 0) (rs := 0) (mc := 0) (ms := 0) (a := 46) (ci := 9) (r := (RX10, TX10, 3)) dX6_readP_76 pa_X10_add (Nat.le_refl _) rfl (Nat.le_of_ble_eq_true rfl) ml_X6_55 im_X10_add se_X10_add rfl rfl rfl (Ev.mono V ?_)
        rintro v sh1 h13 ⟨rfl, Rh13, rfl, V⟩
        show Rn G (d + 1) 0 0 mX6_readP 79 [(3, .inl x9), (0, .inr (.inr (some 45))), (1, .inl l1), (2, .inl l2)] [] SH h13 (QI Q)
        refine rn_iinc (L' := [(2, .inl (l2 + 1)), (3, .inl x9), (0, .inr (.inr (some 45))), (1, .inl l1)]) dX6_readP_79 rfl (v := (l2 + 1)) rfl (Nat.le_of_ble_eq_true rfl) rfl ?_
        refine rn_goto (tgt := 12) dX6_readP_82 (by decide) ?_
        refine rn_sub [2, 3, 0] (L' := [(0, .inr (.inr (some 45))), (1, .inl l1), (2, .inl (l2 + 1))]) rfl ?_
        exact V
      · replace V := V.2 c12
        refine rn_iconst (v := 0) dX6_readP_68 (by decide) ?_
        exact rn_zret dX6_readP_69 rfl (by decide) ⟨rfl, Rh10, _, rfl, V⟩
    · replace V := V.2 c7
      refine rn_aload_n dX6_readP_27 rfl rfl ?_
      refine rn_cV (M' := mX6_next) (n := 0) (av := []) (S := []) (rc := 0) (rs := 0) (mc := 0) (ms := 0) (a := 45) (ci := 5) (r := (RX6, TX6, 5)) dX6_readP_28 pa_X6_next (Nat.le_refl _) rfl (Nat.le_of_ble_eq_true rfl) ml_X6_51 im_X6_next se_X6_next rfl rfl rfl (Ev.mono V ?_)
      rintro v sh1 h14 ⟨rfl, Rh14, x15, rfl, V⟩
      show Rn G (d + 1) 0 0 mX6_readP 31 [(0, .inr (.inr (some 45))), (1, .inl l1), (2, .inl l2)] [.inl x15] SH h14 (QI Q)
      refine rn_bipush (v := 47) dX6_readP_31 (by decide) ?_
      refine rn_icmp_eq (tgt := 45) dX6_readP_33 (by decide) (fun c16 => ?_) (fun c16 => ?_)
      · replace V := V.1 c16
        refine rn_aload_n dX6_readP_45 rfl rfl ?_
        refine rn_cV (M' := mX6_next) (n := 0) (av := []) (S := []) (rc := 0) (rs := 0) (mc := 0) (ms := 0) (a := 45) (ci := 5) (r := (RX6, TX6, 5)) dX6_readP_46 pa_X6_next (Nat.le_refl _) rfl (Nat.le_of_ble_eq_true rfl) ml_X6_51 im_X6_next se_X6_next rfl rfl rfl (Ev.mono V ?_)
        rintro v sh1 h17 ⟨rfl, Rh17, x18, rfl, V⟩
        show Rn G (d + 1) 0 0 mX6_readP 49 [(0, .inr (.inr (some 45))), (1, .inl l1), (2, .inl l2)] [.inl x18] SH h17 (QI Q)
        refine rn_istore_n (L' := [(3, .inl x18), (0, .inr (.inr (some 45))), (1, .inl l1), (2, .inl l2)]) dX6_readP_49 rfl (Nat.le_of_ble_eq_true rfl) rfl ?_
        refine rn_aload_n dX6_readP_50 rfl rfl ?_
        refine rn_dup dX6_readP_51 rfl ?_
        refine rn_get (v := .inl (h17.1 45 3)) dX6_readP_52 fl_X6_32 rfl rfl rfl ?_
        refine rn_iconst (v := 1) dX6_readP_55 (by decide) ?_
        refine rn_iadd dX6_readP_56 ?_
        refine rn_putI dX6_readP_57 fl_X6_32 rfl rfl (Or.inl rfl) rfl rfl ?_
        refine rn_aload_n dX6_readP_60 rfl rfl ?_
        refine rn_iload_n dX6_readP_61 rfl rfl ?_
        refine rn_cV (M' := mX6_readQ) (n := 1) (av := [.inl l1]) (S := []) (rc := 0) (rs := 0) (mc := 0) (ms := 0) (a := 45) (ci := 5) (r := (RX6, TX6, 5)) dX6_readP_62 pa_X6_readQ (Nat.le_refl _) rfl (Nat.le_of_ble_eq_true rfl) ml_X6_68 im_X6_readQ se_X6_readQ rfl rfl rfl (Ev.mono V ?_)
        rintro v sh1 h19 ⟨rfl, Rh19, x20, rfl, V⟩
        show Rn G (d + 1) 0 0 mX6_readP 65 [(3, .inl x18), (0, .inr (.inr (some 45))), (1, .inl l1), (2, .inl l2)] [.inl x20] SH h19 (QI Q)
        refine rn_if_ne (tgt := 70) dX6_readP_65 (by decide) (fun c21 => ?_) (fun c21 => ?_)
        · replace V := V.1 c21
          refine rn_aload_n dX6_readP_70 rfl rfl ?_
          refine rn_get (v := .inr (.inr (some 46))) dX6_readP_71 fl_X6_12 rfl rfl (congrArg (fun z => (Sum.inr (Sum.inr z) : MV)) (rf_45_0 Rh19)) ?_
          refine rn_iload_n dX6_readP_74 rfl rfl ?_
          refine rn_ineg dX6_readP_75 ?_
          refine rn_cV (M' := mX10_add) (n := 1) (av := [.inl (-x18)]) (S := []) (rc := 0) (rs := 0) (mc := 0) (ms := 0) (a := 46) (ci := 9) (r := (RX10, TX10, 3)) dX6_readP_76 pa_X10_add (Nat.le_refl _) rfl (Nat.le_of_ble_eq_true rfl) ml_X6_55 im_X10_add se_X10_add rfl rfl rfl (Ev.mono V ?_)
          rintro v sh1 h22 ⟨rfl, Rh22, rfl, V⟩
          show Rn G (d + 1) 0 0 mX6_readP 79 [(3, .inl x18), (0, .inr (.inr (some 45))), (1, .inl l1), (2, .inl l2)] [] SH h22 (QI Q)
          refine rn_iinc (L' := [(2, .inl (l2 + 1)), (3, .inl x18), (0, .inr (.inr (some 45))), (1, .inl l1)]) dX6_readP_79 rfl (v := (l2 + 1)) rfl (Nat.le_of_ble_eq_true rfl) rfl ?_
          refine rn_goto (tgt := 12) dX6_readP_82 (by decide) ?_
          refine rn_sub [2, 3, 0] (L' := [(0, .inr (.inr (some 45))), (1, .inl l1), (2, .inl (l2 + 1))]) rfl ?_
          exact V
        · replace V := V.2 c21
          refine rn_iconst (v := 0) dX6_readP_68 (by decide) ?_
          exact rn_zret dX6_readP_69 rfl (by decide) ⟨rfl, Rh19, _, rfl, V⟩
      · replace V := V.2 c16
        refine rn_aload_n dX6_readP_36 rfl rfl ?_
        refine rn_cV (M' := mX6_next) (n := 0) (av := []) (S := []) (rc := 0) (rs := 0) (mc := 0) (ms := 0) (a := 45) (ci := 5) (r := (RX6, TX6, 5)) dX6_readP_37 pa_X6_next (Nat.le_refl _) rfl (Nat.le_of_ble_eq_true rfl) ml_X6_51 im_X6_next se_X6_next rfl rfl rfl (Ev.mono V ?_)
        rintro v sh1 h23 ⟨rfl, Rh23, x24, rfl, V⟩
        show Rn G (d + 1) 0 0 mX6_readP 40 [(0, .inr (.inr (some 45))), (1, .inl l1), (2, .inl l2)] [.inl x24] SH h23 (QI Q)
        refine rn_bipush (v := 37) dX6_readP_40 (by decide) ?_
        refine rn_icmp_ne (tgt := 85) dX6_readP_42 (by decide) (fun c25 => ?_) (fun c25 => ?_)
        · replace V := V.1 c25
          refine rn_iconst (v := 1) dX6_readP_85 (by decide) ?_
          exact rn_zret dX6_readP_86 rfl (by decide) ⟨rfl, Rh23, _, rfl, V⟩
        · replace V := V.2 c25
          refine rn_aload_n dX6_readP_45 rfl rfl ?_
          refine rn_cV (M' := mX6_next) (n := 0) (av := []) (S := []) (rc := 0) (rs := 0) (mc := 0) (ms := 0) (a := 45) (ci := 5) (r := (RX6, TX6, 5)) dX6_readP_46 pa_X6_next (Nat.le_refl _) rfl (Nat.le_of_ble_eq_true rfl) ml_X6_51 im_X6_next se_X6_next rfl rfl rfl (Ev.mono V ?_)
          rintro v sh1 h26 ⟨rfl, Rh26, x27, rfl, V⟩
          show Rn G (d + 1) 0 0 mX6_readP 49 [(0, .inr (.inr (some 45))), (1, .inl l1), (2, .inl l2)] [.inl x27] SH h26 (QI Q)
          refine rn_istore_n (L' := [(3, .inl x27), (0, .inr (.inr (some 45))), (1, .inl l1), (2, .inl l2)]) dX6_readP_49 rfl (Nat.le_of_ble_eq_true rfl) rfl ?_
          refine rn_aload_n dX6_readP_50 rfl rfl ?_
          refine rn_dup dX6_readP_51 rfl ?_
          refine rn_get (v := .inl (h26.1 45 3)) dX6_readP_52 fl_X6_32 rfl rfl rfl ?_
          refine rn_iconst (v := 1) dX6_readP_55 (by decide) ?_
          refine rn_iadd dX6_readP_56 ?_
          refine rn_putI dX6_readP_57 fl_X6_32 rfl rfl (Or.inl rfl) rfl rfl ?_
          refine rn_aload_n dX6_readP_60 rfl rfl ?_
          refine rn_iload_n dX6_readP_61 rfl rfl ?_
          refine rn_cV (M' := mX6_readQ) (n := 1) (av := [.inl l1]) (S := []) (rc := 0) (rs := 0) (mc := 0) (ms := 0) (a := 45) (ci := 5) (r := (RX6, TX6, 5)) dX6_readP_62 pa_X6_readQ (Nat.le_refl _) rfl (Nat.le_of_ble_eq_true rfl) ml_X6_68 im_X6_readQ se_X6_readQ rfl rfl rfl (Ev.mono V ?_)
          rintro v sh1 h28 ⟨rfl, Rh28, x29, rfl, V⟩
          show Rn G (d + 1) 0 0 mX6_readP 65 [(3, .inl x27), (0, .inr (.inr (some 45))), (1, .inl l1), (2, .inl l2)] [.inl x29] SH h28 (QI Q)
          refine rn_if_ne (tgt := 70) dX6_readP_65 (by decide) (fun c30 => ?_) (fun c30 => ?_)
          · replace V := V.1 c30
            refine rn_aload_n dX6_readP_70 rfl rfl ?_
            refine rn_get (v := .inr (.inr (some 46))) dX6_readP_71 fl_X6_12 rfl rfl (congrArg (fun z => (Sum.inr (Sum.inr z) : MV)) (rf_45_0 Rh28)) ?_
            refine rn_iload_n dX6_readP_74 rfl rfl ?_
            refine rn_ineg dX6_readP_75 ?_
            refine rn_cV (M' := mX10_add) (n := 1) (av := [.inl (-x27)]) (S := []) (rc := 0) (rs := 0) (mc := 0) (ms := 0) (a := 46) (ci := 9) (r := (RX10, TX10, 3)) dX6_readP_76 pa_X10_add (Nat.le_refl _) rfl (Nat.le_of_ble_eq_true rfl) ml_X6_55 im_X10_add se_X10_add rfl rfl rfl (Ev.mono V ?_)
            rintro v sh1 h31 ⟨rfl, Rh31, rfl, V⟩
            show Rn G (d + 1) 0 0 mX6_readP 79 [(3, .inl x27), (0, .inr (.inr (some 45))), (1, .inl l1), (2, .inl l2)] [] SH h31 (QI Q)
            refine rn_iinc (L' := [(2, .inl (l2 + 1)), (3, .inl x27), (0, .inr (.inr (some 45))), (1, .inl l1)]) dX6_readP_79 rfl (v := (l2 + 1)) rfl (Nat.le_of_ble_eq_true rfl) rfl ?_
            refine rn_goto (tgt := 12) dX6_readP_82 (by decide) ?_
            refine rn_sub [2, 3, 0] (L' := [(0, .inr (.inr (some 45))), (1, .inl l1), (2, .inl (l2 + 1))]) rfl ?_
            exact V
          · replace V := V.2 c30
            refine rn_iconst (v := 0) dX6_readP_68 (by decide) ?_
            exact rn_zret dX6_readP_69 rfl (by decide) ⟨rfl, Rh28, _, rfl, V⟩
set_option maxRecDepth 100000 in
set_option maxHeartbeats 4000000 in
theorem vc_X6_readP {G : GT} {d : Nat} {a1 : Int32}  {h : Hp} {Q : Int32 → Hp → Prop} (hR : RF h) (V : EvI G d mX6_readQ [.inr (.inr (some 45)), .inl a1] h (fun x2 h1 => ((¬ x2 = 0 → Rg_X6_readP_12 G d a1 0 h1 Q) ∧ (x2 = 0 → Q 0 h1)))) : EvI G (d + 1) mX6_readP [.inr (.inr (some 45)), .inl a1] h Q := by
  refine Ev.of rfl (fun _ => Nat.le_of_ble_eq_true rfl) ?_
  show Rn G (d + 1) 0 0 mX6_readP 0 [(0, .inr (.inr (some 45))), (1, .inl a1)] [] SH h (QI Q)
  refine rn_aload_n dX6_readP_0 rfl rfl ?_
  refine rn_iload_n dX6_readP_1 rfl rfl ?_
  refine rn_cV (M' := mX6_readQ) (n := 1) (av := [.inl a1]) (S := []) (rc := 0) (rs := 0) (mc := 0) (ms := 0) (a := 45) (ci := 5) (r := (RX6, TX6, 5)) dX6_readP_2 pa_X6_readQ (Nat.le_refl _) rfl (Nat.le_of_ble_eq_true rfl) ml_X6_68 im_X6_readQ se_X6_readQ rfl rfl rfl (Ev.mono V ?_)
  rintro v sh1 h1 ⟨rfl, Rh1, x2, rfl, V⟩
  show Rn G (d + 1) 0 0 mX6_readP 5 [(0, .inr (.inr (some 45))), (1, .inl a1)] [.inl x2] SH h1 (QI Q)
  refine rn_if_ne (tgt := 10) dX6_readP_5 (by decide) (fun c3 => ?_) (fun c3 => ?_)
  · replace V := V.1 c3
    refine rn_iconst (v := 0) dX6_readP_10 (by decide) ?_
    refine rn_istore_n (L' := [(2, .inl 0), (0, .inr (.inr (some 45))), (1, .inl a1)]) dX6_readP_11 rfl (Nat.le_of_ble_eq_true rfl) rfl ?_
    refine rn_sub [1, 2, 0] (L' := [(0, .inr (.inr (some 45))), (1, .inl a1), (2, .inl 0)]) rfl ?_
    exact V
  · replace V := V.2 c3
    refine rn_iconst (v := 0) dX6_readP_8 (by decide) ?_
    exact rn_zret dX6_readP_9 rfl (by decide) ⟨rfl, Rh1, _, rfl, V⟩
set_option maxRecDepth 100000 in
set_option maxHeartbeats 4000000 in
theorem vc_X6_readQ {G : GT} {d : Nat} {a1 : Int32}  {h : Hp} {Q : Int32 → Hp → Prop} (hR : RF h) (V : EvI G d mX6_next [.inr (.inr (some 45))] h (fun x2 h1 => EvI G d mX6_isDigit [.inl x2] h1 (fun x4 h3 => ((x4 = 0 → ((x2 = 33 → ((5 ≤ a1 → Q 0 h3) ∧ (¬ 5 ≤ a1 → EvI G d mX6_readOpen [.inr (.inr (some 45)), .inl x2, .inl (a1 + 1)] h3 (fun x9 h8 => ((x9 = 0 → Q 0 h8) ∧ (¬ x9 = 0 → Q 1 h8)))))) ∧ (¬ x2 = 33 → ((¬ x2 = 40 → ((¬ x2 = (-1) → ∃ r13 : Nat, h3.2.2 45 4 = some r13 ∧ (r13 = FB + 2 ∨ r13 = FB + 3) ∧ EvI G d mJ0_indexOf_0f7a4 [.inr (.inr (some r13)), .inl ((Int32.toUInt32 x2 % 65536).toInt32)] h3 (fun x15 h14 => ((0 ≤ x15 → EvV G d mX10_add [.inr (.inr (some 46)), .inl ((-1) - x15)] (sI h14 45 3 (h14.1 45 3 + 1)) (fun h17 => Q 1 h17)) ∧ (¬ 0 ≤ x15 → Q 0 h14)))) ∧ (x2 = (-1) → Q 0 h3))) ∧ (x2 = 40 → ((5 ≤ a1 → Q 0 h3) ∧ (¬ 5 ≤ a1 → EvI G d mX6_readOpen [.inr (.inr (some 45)), .inl x2, .inl (a1 + 1)] h3 (fun x21 h20 => ((x21 = 0 → Q 0 h20) ∧ (¬ x21 = 0 → Q 1 h20)))))))))) ∧ (¬ x4 = 0 → EvV G d mX6_readNumber [.inr (.inr (some 45))] h3 (fun h23 => Q 1 h23)))))) : EvI G (d + 1) mX6_readQ [.inr (.inr (some 45)), .inl a1] h Q := by
  refine Ev.of rfl (fun _ => Nat.le_of_ble_eq_true rfl) ?_
  show Rn G (d + 1) 0 0 mX6_readQ 0 [(0, .inr (.inr (some 45))), (1, .inl a1)] [] SH h (QI Q)
  refine rn_aload_n dX6_readQ_0 rfl rfl ?_
  refine rn_cV (M' := mX6_next) (n := 0) (av := []) (S := []) (rc := 0) (rs := 0) (mc := 0) (ms := 0) (a := 45) (ci := 5) (r := (RX6, TX6, 5)) dX6_readQ_1 pa_X6_next (Nat.le_refl _) rfl (Nat.le_of_ble_eq_true rfl) ml_X6_51 im_X6_next se_X6_next rfl rfl rfl (Ev.mono V ?_)
  rintro v sh1 h1 ⟨rfl, Rh1, x2, rfl, V⟩
  show Rn G (d + 1) 0 0 mX6_readQ 4 [(0, .inr (.inr (some 45))), (1, .inl a1)] [.inl x2] SH h1 (QI Q)
  refine rn_istore_n (L' := [(2, .inl x2), (0, .inr (.inr (some 45))), (1, .inl a1)]) dX6_readQ_4 rfl (Nat.le_of_ble_eq_true rfl) rfl ?_
  refine rn_iload_n dX6_readQ_5 rfl rfl ?_
  refine rn_cS (M' := mX6_isDigit) (n := 1) (av := [.inl x2]) (S := []) (rc := 0) (rs := 0) (mc := 0) (ms := 0) dX6_readQ_6 pa_X6_isDigit (Nat.le_refl _) rfl (Nat.le_of_ble_eq_true rfl) ml_X6_71 ss_X6_isDigit rfl (Ev.mono V ?_)
  rintro v sh1 h3 ⟨rfl, Rh3, x4, rfl, V⟩
  show Rn G (d + 1) 0 0 mX6_readQ 9 [(2, .inl x2), (0, .inr (.inr (some 45))), (1, .inl a1)] [.inl x4] SH h3 (QI Q)
  refine rn_if_eq (tgt := 18) dX6_readQ_9 (by decide) (fun c5 => ?_) (fun c5 => ?_)
  · replace V := V.1 c5
    refine rn_iload_n dX6_readQ_18 rfl rfl ?_
    refine rn_bipush (v := 33) dX6_readQ_19 (by decide) ?_
    refine rn_icmp_eq (tgt := 30) dX6_readQ_21 (by decide) (fun c6 => ?_) (fun c6 => ?_)
    · replace V := V.1 c6
      refine rn_iload_n dX6_readQ_30 rfl rfl ?_
      refine rn_iconst (v := 5) dX6_readQ_31 (by decide) ?_
      refine rn_icmp_ge (tgt := 50) dX6_readQ_32 (by decide) (fun c7 => ?_) (fun c7 => ?_)
      · replace V := V.1 c7
        refine rn_iconst (v := 0) dX6_readQ_50 (by decide) ?_
        exact rn_zret dX6_readQ_51 rfl (by decide) ⟨rfl, Rh3, _, rfl, V⟩
      · replace V := V.2 c7
        refine rn_aload_n dX6_readQ_35 rfl rfl ?_
        refine rn_iload_n dX6_readQ_36 rfl rfl ?_
        refine rn_iload_n dX6_readQ_37 rfl rfl ?_
        refine rn_iconst (v := 1) dX6_readQ_38 (by decide) ?_
        refine rn_iadd dX6_readQ_39 ?_
        refine rn_cV (M' := mX6_readOpen) (n := 2) (av := [.inl x2, .inl (a1 + 1)]) (S := []) (rc := 0) (rs := 0) (mc := 0) (ms := 0) (a := 45) (ci := 5) (r := (RX6, TX6, 5)) dX6_readQ_40 pa_X6_readOpen (Nat.le_refl _) rfl (Nat.le_of_ble_eq_true rfl) ml_X6_77 im_X6_readOpen se_X6_readOpen rfl rfl rfl (Ev.mono V ?_)
        rintro v sh1 h8 ⟨rfl, Rh8, x9, rfl, V⟩
        show Rn G (d + 1) 0 0 mX6_readQ 43 [(2, .inl x2), (0, .inr (.inr (some 45))), (1, .inl a1)] [.inl x9] SH h8 (QI Q)
        refine rn_if_eq (tgt := 50) dX6_readQ_43 (by decide) (fun c10 => ?_) (fun c10 => ?_)
        · replace V := V.1 c10
          refine rn_iconst (v := 0) dX6_readQ_50 (by decide) ?_
          exact rn_zret dX6_readQ_51 rfl (by decide) ⟨rfl, Rh8, _, rfl, V⟩
        · replace V := V.2 c10
          refine rn_iconst (v := 1) dX6_readQ_46 (by decide) ?_
          refine rn_goto (tgt := 51) dX6_readQ_47 (by decide) ?_
          exact rn_zret dX6_readQ_51 rfl (by decide) ⟨rfl, Rh8, _, rfl, V⟩
    · replace V := V.2 c6
      refine rn_iload_n dX6_readQ_24 rfl rfl ?_
      refine rn_bipush (v := 40) dX6_readQ_25 (by decide) ?_
      refine rn_icmp_ne (tgt := 52) dX6_readQ_27 (by decide) (fun c11 => ?_) (fun c11 => ?_)
      · replace V := V.1 c11
        refine rn_iload_n dX6_readQ_52 rfl rfl ?_
        refine rn_iconst (v := (-1)) dX6_readQ_53 (by decide) ?_
        refine rn_icmp_ne (tgt := 61) dX6_readQ_54 (by decide) (fun c12 => ?_) (fun c12 => ?_)
        · replace V := V.1 c12
          refine rn_aload_n dX6_readQ_61 rfl rfl ?_
          obtain ⟨r13, g, V⟩ := V
          refine rn_get (v := .inr (.inr (some r13))) dX6_readQ_62 fl_X6_20 rfl rfl (congrArg (fun z => (Sum.inr (Sum.inr z) : MV)) g) ?_
          refine rn_iload_n dX6_readQ_65 rfl rfl ?_
          refine rn_i2c dX6_readQ_66 ?_
          obtain ⟨hstr, V⟩ := V
          refine rn_cVF (M' := mJ0_indexOf_0f7a4) (n := 1) (av := [.inl ((Int32.toUInt32 x2 % 65536).toInt32)]) (S := []) (rc := 0) (rs := 0) (mc := 0) (ms := 0) dX6_readQ_67 pa_J0_indexOf_0f7a4 (Nat.le_refl _) rfl (Nat.le_of_ble_eq_true rfl) ml_X6_81 im_J0_indexOf_0f7a4 se_J0_indexOf_0f7a4 hstr rfl (Ev.mono V ?_)
          rintro v sh1 h14 ⟨rfl, Rh14, x15, rfl, V⟩
          show Rn G (d + 1) 0 0 mX6_readQ 70 [(2, .inl x2), (0, .inr (.inr (some 45))), (1, .inl a1)] [.inl x15] SH h14 (QI Q)
          refine rn_istore_n (L' := [(3, .inl x15), (2, .inl x2), (0, .inr (.inr (some 45))), (1, .inl a1)]) dX6_readQ_70 rfl (Nat.le_of_ble_eq_true rfl) rfl ?_
          refine rn_iload_n dX6_readQ_71 rfl rfl ?_
          refine rn_if_ge (tgt := 77) dX6_readQ_72 (by decide) (fun c16 => ?_) (fun c16 => ?_)
          · replace V := V.1 c16
            refine rn_aload_n dX6_readQ_77 rfl rfl ?_
            refine rn_dup dX6_readQ_78 rfl ?_
            refine rn_get (v := .inl (h14.1 45 3)) dX6_readQ_79 fl_X6_32 rfl rfl rfl ?_
            refine rn_iconst (v := 1) dX6_readQ_82 (by decide) ?_
            refine rn_iadd dX6_readQ_83 ?_
            refine rn_putI dX6_readQ_84 fl_X6_32 rfl rfl (Or.inl rfl) rfl rfl ?_
            refine rn_aload_n dX6_readQ_87 rfl rfl ?_
            refine rn_get (v := .inr (.inr (some 46))) dX6_readQ_88 fl_X6_12 rfl rfl (congrArg (fun z => (Sum.inr (Sum.inr z) : MV)) (rf_45_0 Rh14)) ?_
            refine rn_iconst (v := (-1)) dX6_readQ_91 (by decide) ?_
            refine rn_iload_n dX6_readQ_92 rfl rfl ?_
            refine rn_isub dX6_readQ_93 ?_
            refine rn_cV (M' := mX10_add) (n := 1) (av := [.inl ((-1) - x15)]) (S := []) (rc := 0) (rs := 0) (mc := 0) (ms := 0) (a := 46) (ci := 9) (r := (RX10, TX10, 3)) dX6_readQ_94 pa_X10_add (Nat.le_refl _) rfl (Nat.le_of_ble_eq_true rfl) ml_X6_55 im_X10_add se_X10_add rfl rfl rfl (Ev.mono V ?_)
            rintro v sh1 h17 ⟨rfl, Rh17, rfl, V⟩
            show Rn G (d + 1) 0 0 mX6_readQ 97 [(3, .inl x15), (2, .inl x2), (0, .inr (.inr (some 45))), (1, .inl a1)] [] SH h17 (QI Q)
            refine rn_iconst (v := 1) dX6_readQ_97 (by decide) ?_
            exact rn_zret dX6_readQ_98 rfl (by decide) ⟨rfl, Rh17, _, rfl, V⟩
          · replace V := V.2 c16
            refine rn_iconst (v := 0) dX6_readQ_75 (by decide) ?_
            exact rn_zret dX6_readQ_76 rfl (by decide) ⟨rfl, Rh14, _, rfl, V⟩
        · replace V := V.2 c12
          refine rn_iconst (v := (-1)) dX6_readQ_57 (by decide) ?_
          refine rn_goto (tgt := 70) dX6_readQ_58 (by decide) ?_
          refine rn_istore_n (L' := [(3, .inl (-1)), (2, .inl x2), (0, .inr (.inr (some 45))), (1, .inl a1)]) dX6_readQ_70 rfl (Nat.le_of_ble_eq_true rfl) rfl ?_
          refine rn_iload_n dX6_readQ_71 rfl rfl ?_
          refine rn_if_ge (tgt := 77) dX6_readQ_72 (by decide) (fun c18 => ?_) (fun c18 => ?_)
          · exact absurd c18 (by decide)
          refine rn_iconst (v := 0) dX6_readQ_75 (by decide) ?_
          exact rn_zret dX6_readQ_76 rfl (by decide) ⟨rfl, Rh3, _, rfl, V⟩
      · replace V := V.2 c11
        refine rn_iload_n dX6_readQ_30 rfl rfl ?_
        refine rn_iconst (v := 5) dX6_readQ_31 (by decide) ?_
        refine rn_icmp_ge (tgt := 50) dX6_readQ_32 (by decide) (fun c19 => ?_) (fun c19 => ?_)
        · replace V := V.1 c19
          refine rn_iconst (v := 0) dX6_readQ_50 (by decide) ?_
          exact rn_zret dX6_readQ_51 rfl (by decide) ⟨rfl, Rh3, _, rfl, V⟩
        · replace V := V.2 c19
          refine rn_aload_n dX6_readQ_35 rfl rfl ?_
          refine rn_iload_n dX6_readQ_36 rfl rfl ?_
          refine rn_iload_n dX6_readQ_37 rfl rfl ?_
          refine rn_iconst (v := 1) dX6_readQ_38 (by decide) ?_
          refine rn_iadd dX6_readQ_39 ?_
          refine rn_cV (M' := mX6_readOpen) (n := 2) (av := [.inl x2, .inl (a1 + 1)]) (S := []) (rc := 0) (rs := 0) (mc := 0) (ms := 0) (a := 45) (ci := 5) (r := (RX6, TX6, 5)) dX6_readQ_40 pa_X6_readOpen (Nat.le_refl _) rfl (Nat.le_of_ble_eq_true rfl) ml_X6_77 im_X6_readOpen se_X6_readOpen rfl rfl rfl (Ev.mono V ?_)
          rintro v sh1 h20 ⟨rfl, Rh20, x21, rfl, V⟩
          show Rn G (d + 1) 0 0 mX6_readQ 43 [(2, .inl x2), (0, .inr (.inr (some 45))), (1, .inl a1)] [.inl x21] SH h20 (QI Q)
          refine rn_if_eq (tgt := 50) dX6_readQ_43 (by decide) (fun c22 => ?_) (fun c22 => ?_)
          · replace V := V.1 c22
            refine rn_iconst (v := 0) dX6_readQ_50 (by decide) ?_
            exact rn_zret dX6_readQ_51 rfl (by decide) ⟨rfl, Rh20, _, rfl, V⟩
          · replace V := V.2 c22
            refine rn_iconst (v := 1) dX6_readQ_46 (by decide) ?_
            refine rn_goto (tgt := 51) dX6_readQ_47 (by decide) ?_
            exact rn_zret dX6_readQ_51 rfl (by decide) ⟨rfl, Rh20, _, rfl, V⟩
  · replace V := V.2 c5
    refine rn_aload_n dX6_readQ_12 rfl rfl ?_
    refine rn_cV (M' := mX6_readNumber) (n := 0) (av := []) (S := []) (rc := 0) (rs := 0) (mc := 0) (ms := 0) (a := 45) (ci := 5) (r := (RX6, TX6, 5)) dX6_readQ_13 pa_X6_readNumber (Nat.le_refl _) rfl (Nat.le_of_ble_eq_true rfl) ml_X6_74 im_X6_readNumber se_X6_readNumber rfl rfl rfl (Ev.mono V ?_)
    rintro v sh1 h23 ⟨rfl, Rh23, rfl, V⟩
    show Rn G (d + 1) 0 0 mX6_readQ 16 [(2, .inl x2), (0, .inr (.inr (some 45))), (1, .inl a1)] [] SH h23 (QI Q)
    refine rn_iconst (v := 1) dX6_readQ_16 (by decide) ?_
    exact rn_zret dX6_readQ_17 rfl (by decide) ⟨rfl, Rh23, _, rfl, V⟩
set_option maxRecDepth 100000 in
set_option maxHeartbeats 4000000 in
theorem vc_X6_readOpen {G : GT} {d : Nat} {a1 : Int32} {a2 : Int32}  {h : Hp} {Q : Int32 → Hp → Prop} (hR : RF h) (V : ((¬ a1 = 33 → EvI G d mX6_readT [.inr (.inr (some 45)), .inl a2] (sI h 45 3 (h.1 45 3 + 1)) (fun x3 h2 => ((x3 = 0 → Q 0 h2) ∧ (¬ x3 = 0 → EvI G d mX6_next [.inr (.inr (some 45))] h2 (fun x6 h5 => ((x6 = 41 → Q 1 (sI h5 45 3 (h5.1 45 3 + 1))) ∧ (¬ x6 = 41 → Q 0 h5))))))) ∧ (a1 = 33 → EvI G d mX6_readQ [.inr (.inr (some 45)), .inl a2] (sI h 45 3 (h.1 45 3 + 1)) (fun x9 h8 => ((¬ x9 = 0 → EvV G d mX10_add [.inr (.inr (some 46)), .inl (-33)] h8 (fun h11 => Q 1 h11)) ∧ (x9 = 0 → Q 0 h8)))))) : EvI G (d + 1) mX6_readOpen [.inr (.inr (some 45)), .inl a1, .inl a2] h Q := by
  refine Ev.of rfl (fun _ => Nat.le_of_ble_eq_true rfl) ?_
  show Rn G (d + 1) 0 0 mX6_readOpen 0 [(0, .inr (.inr (some 45))), (1, .inl a1), (2, .inl a2)] [] SH h (QI Q)
  refine rn_aload_n dX6_readOpen_0 rfl rfl ?_
  refine rn_dup dX6_readOpen_1 rfl ?_
  refine rn_get (v := .inl (h.1 45 3)) dX6_readOpen_2 fl_X6_32 rfl rfl rfl ?_
  refine rn_iconst (v := 1) dX6_readOpen_5 (by decide) ?_
  refine rn_iadd dX6_readOpen_6 ?_
  refine rn_putI dX6_readOpen_7 fl_X6_32 rfl rfl (Or.inl rfl) rfl rfl ?_
  refine rn_iload_n dX6_readOpen_10 rfl rfl ?_
  refine rn_bipush (v := 33) dX6_readOpen_11 (by decide) ?_
  refine rn_icmp_ne (tgt := 37) dX6_readOpen_13 (by decide) (fun c1 => ?_) (fun c1 => ?_)
  · replace V := V.1 c1
    refine rn_aload_n dX6_readOpen_37 rfl rfl ?_
    refine rn_iload_n dX6_readOpen_38 rfl rfl ?_
    refine rn_cV (M' := mX6_readT) (n := 1) (av := [.inl a2]) (S := []) (rc := 0) (rs := 0) (mc := 0) (ms := 0) (a := 45) (ci := 5) (r := (RX6, TX6, 5)) dX6_readOpen_39 pa_X6_readT (Nat.le_refl _) rfl (Nat.le_of_ble_eq_true rfl) ml_X6_40 im_X6_readT se_X6_readT rfl rfl rfl (Ev.mono V ?_)
    rintro v sh1 h2 ⟨rfl, Rh2, x3, rfl, V⟩
    show Rn G (d + 1) 0 0 mX6_readOpen 42 [(0, .inr (.inr (some 45))), (1, .inl a1), (2, .inl a2)] [.inl x3] SH h2 (QI Q)
    refine rn_if_eq (tgt := 54) dX6_readOpen_42 (by decide) (fun c4 => ?_) (fun c4 => ?_)
    · replace V := V.1 c4
      refine rn_iconst (v := 0) dX6_readOpen_54 (by decide) ?_
      exact rn_zret dX6_readOpen_55 rfl (by decide) ⟨rfl, Rh2, _, rfl, V⟩
    · replace V := V.2 c4
      refine rn_aload_n dX6_readOpen_45 rfl rfl ?_
      refine rn_cV (M' := mX6_next) (n := 0) (av := []) (S := []) (rc := 0) (rs := 0) (mc := 0) (ms := 0) (a := 45) (ci := 5) (r := (RX6, TX6, 5)) dX6_readOpen_46 pa_X6_next (Nat.le_refl _) rfl (Nat.le_of_ble_eq_true rfl) ml_X6_51 im_X6_next se_X6_next rfl rfl rfl (Ev.mono V ?_)
      rintro v sh1 h5 ⟨rfl, Rh5, x6, rfl, V⟩
      show Rn G (d + 1) 0 0 mX6_readOpen 49 [(0, .inr (.inr (some 45))), (1, .inl a1), (2, .inl a2)] [.inl x6] SH h5 (QI Q)
      refine rn_bipush (v := 41) dX6_readOpen_49 (by decide) ?_
      refine rn_icmp_eq (tgt := 56) dX6_readOpen_51 (by decide) (fun c7 => ?_) (fun c7 => ?_)
      · replace V := V.1 c7
        refine rn_aload_n dX6_readOpen_56 rfl rfl ?_
        refine rn_dup dX6_readOpen_57 rfl ?_
        refine rn_get (v := .inl (h5.1 45 3)) dX6_readOpen_58 fl_X6_32 rfl rfl rfl ?_
        refine rn_iconst (v := 1) dX6_readOpen_61 (by decide) ?_
        refine rn_iadd dX6_readOpen_62 ?_
        refine rn_putI dX6_readOpen_63 fl_X6_32 rfl rfl (Or.inl rfl) rfl rfl ?_
        refine rn_iconst (v := 1) dX6_readOpen_66 (by decide) ?_
        exact rn_zret dX6_readOpen_67 rfl (by decide) ⟨rfl, Rh5, _, rfl, V⟩
      · replace V := V.2 c7
        refine rn_iconst (v := 0) dX6_readOpen_54 (by decide) ?_
        exact rn_zret dX6_readOpen_55 rfl (by decide) ⟨rfl, Rh5, _, rfl, V⟩
  · replace V := V.2 c1
    refine rn_aload_n dX6_readOpen_16 rfl rfl ?_
    refine rn_iload_n dX6_readOpen_17 rfl rfl ?_
    refine rn_cV (M' := mX6_readQ) (n := 1) (av := [.inl a2]) (S := []) (rc := 0) (rs := 0) (mc := 0) (ms := 0) (a := 45) (ci := 5) (r := (RX6, TX6, 5)) dX6_readOpen_18 pa_X6_readQ (Nat.le_refl _) rfl (Nat.le_of_ble_eq_true rfl) ml_X6_68 im_X6_readQ se_X6_readQ rfl rfl rfl (Ev.mono V ?_)
    rintro v sh1 h8 ⟨rfl, Rh8, x9, rfl, V⟩
    show Rn G (d + 1) 0 0 mX6_readOpen 21 [(0, .inr (.inr (some 45))), (1, .inl a1), (2, .inl a2)] [.inl x9] SH h8 (QI Q)
    refine rn_if_ne (tgt := 26) dX6_readOpen_21 (by decide) (fun c10 => ?_) (fun c10 => ?_)
    · replace V := V.1 c10
      refine rn_aload_n dX6_readOpen_26 rfl rfl ?_
      refine rn_get (v := .inr (.inr (some 46))) dX6_readOpen_27 fl_X6_12 rfl rfl (congrArg (fun z => (Sum.inr (Sum.inr z) : MV)) (rf_45_0 Rh8)) ?_
      refine rn_bipush (v := (-33)) dX6_readOpen_30 (by decide) ?_
      refine rn_cV (M' := mX10_add) (n := 1) (av := [.inl (-33)]) (S := []) (rc := 0) (rs := 0) (mc := 0) (ms := 0) (a := 46) (ci := 9) (r := (RX10, TX10, 3)) dX6_readOpen_32 pa_X10_add (Nat.le_refl _) rfl (Nat.le_of_ble_eq_true rfl) ml_X6_55 im_X10_add se_X10_add rfl rfl rfl (Ev.mono V ?_)
      rintro v sh1 h11 ⟨rfl, Rh11, rfl, V⟩
      show Rn G (d + 1) 0 0 mX6_readOpen 35 [(0, .inr (.inr (some 45))), (1, .inl a1), (2, .inl a2)] [] SH h11 (QI Q)
      refine rn_iconst (v := 1) dX6_readOpen_35 (by decide) ?_
      exact rn_zret dX6_readOpen_36 rfl (by decide) ⟨rfl, Rh11, _, rfl, V⟩
    · replace V := V.2 c10
      refine rn_iconst (v := 0) dX6_readOpen_24 (by decide) ?_
      exact rn_zret dX6_readOpen_25 rfl (by decide) ⟨rfl, Rh8, _, rfl, V⟩
def Rg_X6_readNumber_4 (G : GT) (d : Nat) (l1 : Int32) (l2 : Int32) (h : Hp) (Q : Hp → Prop) : Prop := Rn G (d + 1) 0 0 mX6_readNumber 4 [(0, .inr (.inr (some 45))), (1, .inl l1), (2, .inl l2)] [] SH h (QV Q)
set_option maxRecDepth 100000 in
set_option maxHeartbeats 4000000 in
theorem vc_X6_readNumber_4 {G : GT} {d : Nat} {l1 : Int32} {l2 : Int32}  {h : Hp} {Q : Hp → Prop} (hR : RF h) (V : ((4 ≤ l2 → EvV G d mX10_add [.inr (.inr (some 46)), .inl l1] h (fun h2 => Q h2)) ∧ (¬ 4 ≤ l2 → EvI G d mX6_next [.inr (.inr (some 45))] h (fun x4 h3 => EvI G d mX6_isDigit [.inl x4] h3 (fun x6 h5 => ((x6 = 0 → EvV G d mX10_add [.inr (.inr (some 46)), .inl l1] h5 (fun h8 => Q h8)) ∧ (¬ x6 = 0 → EvI G d mX6_next [.inr (.inr (some 45))] h5 (fun x10 h9 => Rg_X6_readNumber_4 G d (((l1 * 10) + x10) - 48) (l2 + 1) (sI h9 45 3 (h9.1 45 3 + 1)) Q)))))))) : Rg_X6_readNumber_4 G d l1 l2 h Q := by
  show Rn G (d + 1) 0 0 mX6_readNumber 4 [(0, .inr (.inr (some 45))), (1, .inl l1), (2, .inl l2)] [] SH h (QV Q)
  refine rn_iload_n dX6_readNumber_4 rfl rfl ?_
  refine rn_iconst (v := 4) dX6_readNumber_5 (by decide) ?_
  refine rn_icmp_ge (tgt := 48) dX6_readNumber_6 (by decide) (fun c1 => ?_) (fun c1 => ?_)
  · replace V := V.1 c1
    refine rn_aload_n dX6_readNumber_48 rfl rfl ?_
    refine rn_get (v := .inr (.inr (some 46))) dX6_readNumber_49 fl_X6_12 rfl rfl (congrArg (fun z => (Sum.inr (Sum.inr z) : MV)) (rf_45_0 hR)) ?_
    refine rn_iload_n dX6_readNumber_52 rfl rfl ?_
    refine rn_cV (M' := mX10_add) (n := 1) (av := [.inl l1]) (S := []) (rc := 0) (rs := 0) (mc := 0) (ms := 0) (a := 46) (ci := 9) (r := (RX10, TX10, 3)) dX6_readNumber_53 pa_X10_add (Nat.le_refl _) rfl (Nat.le_of_ble_eq_true rfl) ml_X6_55 im_X10_add se_X10_add rfl rfl rfl (Ev.mono V ?_)
    rintro v sh1 h2 ⟨rfl, Rh2, rfl, V⟩
    show Rn G (d + 1) 0 0 mX6_readNumber 56 [(0, .inr (.inr (some 45))), (1, .inl l1), (2, .inl l2)] [] SH h2 (QV Q)
    exact rn_vret dX6_readNumber_56 rfl ⟨rfl, Rh2, rfl, V⟩
  · replace V := V.2 c1
    refine rn_aload_n dX6_readNumber_9 rfl rfl ?_
    refine rn_cV (M' := mX6_next) (n := 0) (av := []) (S := []) (rc := 0) (rs := 0) (mc := 0) (ms := 0) (a := 45) (ci := 5) (r := (RX6, TX6, 5)) dX6_readNumber_10 pa_X6_next (Nat.le_refl _) rfl (Nat.le_of_ble_eq_true rfl) ml_X6_51 im_X6_next se_X6_next rfl rfl rfl (Ev.mono V ?_)
    rintro v sh1 h3 ⟨rfl, Rh3, x4, rfl, V⟩
    show Rn G (d + 1) 0 0 mX6_readNumber 13 [(0, .inr (.inr (some 45))), (1, .inl l1), (2, .inl l2)] [.inl x4] SH h3 (QV Q)
    refine rn_cS (M' := mX6_isDigit) (n := 1) (av := [.inl x4]) (S := []) (rc := 0) (rs := 0) (mc := 0) (ms := 0) dX6_readNumber_13 pa_X6_isDigit (Nat.le_refl _) rfl (Nat.le_of_ble_eq_true rfl) ml_X6_71 ss_X6_isDigit rfl (Ev.mono V ?_)
    rintro v sh1 h5 ⟨rfl, Rh5, x6, rfl, V⟩
    show Rn G (d + 1) 0 0 mX6_readNumber 16 [(0, .inr (.inr (some 45))), (1, .inl l1), (2, .inl l2)] [.inl x6] SH h5 (QV Q)
    refine rn_if_eq (tgt := 48) dX6_readNumber_16 (by decide) (fun c7 => ?_) (fun c7 => ?_)
    · replace V := V.1 c7
      refine rn_aload_n dX6_readNumber_48 rfl rfl ?_
      refine rn_get (v := .inr (.inr (some 46))) dX6_readNumber_49 fl_X6_12 rfl rfl (congrArg (fun z => (Sum.inr (Sum.inr z) : MV)) (rf_45_0 Rh5)) ?_
      refine rn_iload_n dX6_readNumber_52 rfl rfl ?_
      refine rn_cV (M' := mX10_add) (n := 1) (av := [.inl l1]) (S := []) (rc := 0) (rs := 0) (mc := 0) (ms := 0) (a := 46) (ci := 9) (r := (RX10, TX10, 3)) dX6_readNumber_53 pa_X10_add (Nat.le_refl _) rfl (Nat.le_of_ble_eq_true rfl) ml_X6_55 im_X10_add se_X10_add rfl rfl rfl (Ev.mono V ?_)
      rintro v sh1 h8 ⟨rfl, Rh8, rfl, V⟩
      show Rn G (d + 1) 0 0 mX6_readNumber 56 [(0, .inr (.inr (some 45))), (1, .inl l1), (2, .inl l2)] [] SH h8 (QV Q)
      exact rn_vret dX6_readNumber_56 rfl ⟨rfl, Rh8, rfl, V⟩
    · replace V := V.2 c7
      refine rn_iload_n dX6_readNumber_19 rfl rfl ?_
      refine rn_bipush (v := 10) dX6_readNumber_20 (by decide) ?_
      refine rn_imul dX6_readNumber_22 ?_
      refine rn_aload_n dX6_readNumber_23 rfl rfl ?_
      refine rn_cV (M' := mX6_next) (n := 0) (av := []) (S := [.inl (l1 * 10)]) (rc := 0) (rs := 0) (mc := 0) (ms := 0) (a := 45) (ci := 5) (r := (RX6, TX6, 5)) dX6_readNumber_24 pa_X6_next (Nat.le_refl _) rfl (Nat.le_of_ble_eq_true rfl) ml_X6_51 im_X6_next se_X6_next rfl rfl rfl (Ev.mono V ?_)
      rintro v sh1 h9 ⟨rfl, Rh9, x10, rfl, V⟩
      show Rn G (d + 1) 0 0 mX6_readNumber 27 [(0, .inr (.inr (some 45))), (1, .inl l1), (2, .inl l2)] [.inl x10, .inl (l1 * 10)] SH h9 (QV Q)
      refine rn_iadd dX6_readNumber_27 ?_
      refine rn_bipush (v := 48) dX6_readNumber_28 (by decide) ?_
      refine rn_isub dX6_readNumber_30 ?_
      refine rn_istore_n (L' := [(1, .inl (((l1 * 10) + x10) - 48)), (0, .inr (.inr (some 45))), (2, .inl l2)]) dX6_readNumber_31 rfl (Nat.le_of_ble_eq_true rfl) rfl ?_
      refine rn_aload_n dX6_readNumber_32 rfl rfl ?_
      refine rn_dup dX6_readNumber_33 rfl ?_
      refine rn_get (v := .inl (h9.1 45 3)) dX6_readNumber_34 fl_X6_32 rfl rfl rfl ?_
      refine rn_iconst (v := 1) dX6_readNumber_37 (by decide) ?_
      refine rn_iadd dX6_readNumber_38 ?_
      refine rn_putI dX6_readNumber_39 fl_X6_32 rfl rfl (Or.inl rfl) rfl rfl ?_
      refine rn_iinc (L' := [(2, .inl (l2 + 1)), (1, .inl (((l1 * 10) + x10) - 48)), (0, .inr (.inr (some 45)))]) dX6_readNumber_42 rfl (v := (l2 + 1)) rfl (Nat.le_of_ble_eq_true rfl) rfl ?_
      refine rn_goto (tgt := 4) dX6_readNumber_45 (by decide) ?_
      refine rn_sub [2, 1, 0] (L' := [(0, .inr (.inr (some 45))), (1, .inl (((l1 * 10) + x10) - 48)), (2, .inl (l2 + 1))]) rfl ?_
      exact V
set_option maxRecDepth 100000 in
set_option maxHeartbeats 4000000 in
theorem vc_X6_readNumber {G : GT} {d : Nat}   {h : Hp} {Q : Hp → Prop} (hR : RF h) (V : Rg_X6_readNumber_4 G d 0 0 h Q) : EvV G (d + 1) mX6_readNumber [.inr (.inr (some 45))] h Q := by
  refine Ev.of rfl (fun _ => Nat.le_of_ble_eq_true rfl) ?_
  show Rn G (d + 1) 0 0 mX6_readNumber 0 [(0, .inr (.inr (some 45)))] [] SH h (QV Q)
  refine rn_iconst (v := 0) dX6_readNumber_0 (by decide) ?_
  refine rn_istore_n (L' := [(1, .inl 0), (0, .inr (.inr (some 45)))]) dX6_readNumber_1 rfl (Nat.le_of_ble_eq_true rfl) rfl ?_
  refine rn_iconst (v := 0) dX6_readNumber_2 (by decide) ?_
  refine rn_istore_n (L' := [(2, .inl 0), (1, .inl 0), (0, .inr (.inr (some 45)))]) dX6_readNumber_3 rfl (Nat.le_of_ble_eq_true rfl) rfl ?_
  refine rn_sub [2, 1, 0] (L' := [(0, .inr (.inr (some 45))), (1, .inl 0), (2, .inl 0)]) rfl ?_
  exact V
set_option maxRecDepth 100000 in
set_option maxHeartbeats 4000000 in
theorem vc_X6_isDigit {G : GT} {d : Nat} {a0 : Int32}  {h : Hp} {Q : Int32 → Hp → Prop} (hR : RF h) (V : EvI G d mX11_within [.inl a0, .inl 48, .inl 57] h (fun x2 h1 => (narrow .boolean (.int x2) = .int x2 ∧ Q x2 h1))) : EvI G (d + 1) mX6_isDigit [.inl a0] h Q := by
  refine Ev.of rfl (fun _ => Nat.le_of_ble_eq_true rfl) ?_
  show Rn G (d + 1) 0 0 mX6_isDigit 0 [(0, .inl a0)] [] SH h (QI Q)
  refine rn_iload_n dX6_isDigit_0 rfl rfl ?_
  refine rn_bipush (v := 48) dX6_isDigit_1 (by decide) ?_
  refine rn_bipush (v := 57) dX6_isDigit_3 (by decide) ?_
  refine rn_cSN (M' := mX11_within) (n := 3) (av := [.inl a0, .inl 48, .inl 57]) (S := []) (rc := 0) (rs := 0) (mc := 0) (ms := 0) dX6_isDigit_5 pa_X11_within (Nat.le_refl _) rfl (Nat.le_of_ble_eq_true rfl) ml_X6_44 ss_X11_within rfl (Ev.mono V ?_)
  rintro v sh1 h1 ⟨rfl, Rh1, x2, rfl, V⟩
  show Rn G (d + 1) 0 0 mX6_isDigit 8 [(0, .inl a0)] [.inl x2] SH h1 (QI Q)
  exact rn_zret dX6_isDigit_8 rfl V.1 ⟨rfl, Rh1, _, rfl, V.2⟩
set_option maxRecDepth 100000 in
set_option maxHeartbeats 4000000 in
theorem vc_X9_copya {G : GT} {d : Nat}   {h : Hp} {Q : Hp → Prop} (hR : RF h) (V : ∀ h1 : Hp, h1 = (cpI (cpI (cpI (cpI (sI (cpI (cpI (cpI (sI h 1 0 (h.1 21 0)) 22 0 2 0 4) 23 0 3 0 4) 24 0 4 0 4) 1 4 (h.1 21 4)) 25 0 5 0 12) 26 0 6 0 12) 27 0 7 0 12) 28 0 8 0 12) → EvV G d mX2_copy [.inr (.inr (some 9)), .inr (.inr (some 29))] h1 (fun h2 => EvV G d mX10_copy [.inr (.inr (some 13)), .inr (.inr (some 33))] h2 (fun h3 => EvV G d mX10_copy [.inr (.inr (some 16)), .inr (.inr (some 36))] h3 (fun h4 => Q (sI (sI (cpI (sI (cpI h4 39 0 19 0 50) 1 13 (h4.1 21 13)) 40 0 20 0 20) 1 15 (h4.1 21 15)) 1 16 (h4.1 21 16)))))) : EvV G (d + 1) mX9_copy [.inr (.inr (some 1)), .inr (.inr (some 21))] h Q := by
  refine Ev.of rfl (fun _ => Nat.le_of_ble_eq_true rfl) ?_
  show Rn G (d + 1) 0 0 mX9_copy 0 [(0, .inr (.inr (some 1))), (1, .inr (.inr (some 21)))] [] SH h (QV Q)
  refine rn_aload_n dX9_copy_0 rfl rfl ?_
  refine rn_aload_n dX9_copy_1 rfl rfl ?_
  refine rn_get (v := .inl (h.1 21 0)) dX9_copy_2 fl_X9_60 rfl rfl rfl ?_
  refine rn_putI dX9_copy_5 fl_X9_60 rfl rfl (Or.inl rfl) rfl rfl ?_
  refine rn_aload_n dX9_copy_8 rfl rfl ?_
  refine rn_get (v := .inr (.inr (some 22))) dX9_copy_9 fl_X9_9 rfl rfl (congrArg (fun z => (Sum.inr (Sum.inr z) : MV)) (rf_21_1 hR)) ?_
  refine rn_iconst (v := 0) dX9_copy_12 (by decide) ?_
  refine rn_aload_n dX9_copy_13 rfl rfl ?_
  refine rn_get (v := .inr (.inr (some 2))) dX9_copy_14 fl_X9_9 rfl rfl (congrArg (fun z => (Sum.inr (Sum.inr z) : MV)) (rf_1_1 hR)) ?_
  refine rn_iconst (v := 0) dX9_copy_17 (by decide) ?_
  refine rn_iconst (v := 4) dX9_copy_18 (by decide) ?_
  refine rn_copy (sp' := 0) (dp' := 0) (n' := 4) dX9_copy_19 cp_X9_63 rfl rfl (by decide) (by decide) (by decide) (by decide) (by decide) (by decide) (by decide) (by decide) (Nat.le_of_ble_eq_true rfl) ?_
  refine rn_aload_n dX9_copy_22 rfl rfl ?_
  refine rn_get (v := .inr (.inr (some 23))) dX9_copy_23 fl_X9_15 rfl rfl (congrArg (fun z => (Sum.inr (Sum.inr z) : MV)) (rf_21_2 hR)) ?_
  refine rn_iconst (v := 0) dX9_copy_26 (by decide) ?_
  refine rn_aload_n dX9_copy_27 rfl rfl ?_
  refine rn_get (v := .inr (.inr (some 3))) dX9_copy_28 fl_X9_15 rfl rfl (congrArg (fun z => (Sum.inr (Sum.inr z) : MV)) (rf_1_2 hR)) ?_
  refine rn_iconst (v := 0) dX9_copy_31 (by decide) ?_
  refine rn_iconst (v := 4) dX9_copy_32 (by decide) ?_
  refine rn_copy (sp' := 0) (dp' := 0) (n' := 4) dX9_copy_33 cp_X9_63 rfl rfl (by decide) (by decide) (by decide) (by decide) (by decide) (by decide) (by decide) (by decide) (Nat.le_of_ble_eq_true rfl) ?_
  refine rn_aload_n dX9_copy_36 rfl rfl ?_
  refine rn_get (v := .inr (.inr (some 24))) dX9_copy_37 fl_X9_18 rfl rfl (congrArg (fun z => (Sum.inr (Sum.inr z) : MV)) (rf_21_3 hR)) ?_
  refine rn_iconst (v := 0) dX9_copy_40 (by decide) ?_
  refine rn_aload_n dX9_copy_41 rfl rfl ?_
  refine rn_get (v := .inr (.inr (some 4))) dX9_copy_42 fl_X9_18 rfl rfl (congrArg (fun z => (Sum.inr (Sum.inr z) : MV)) (rf_1_3 hR)) ?_
  refine rn_iconst (v := 0) dX9_copy_45 (by decide) ?_
  refine rn_iconst (v := 4) dX9_copy_46 (by decide) ?_
  refine rn_copy (sp' := 0) (dp' := 0) (n' := 4) dX9_copy_47 cp_X9_63 rfl rfl (by decide) (by decide) (by decide) (by decide) (by decide) (by decide) (by decide) (by decide) (Nat.le_of_ble_eq_true rfl) ?_
  refine rn_aload_n dX9_copy_50 rfl rfl ?_
  refine rn_aload_n dX9_copy_51 rfl rfl ?_
  refine rn_get (v := .inl (h.1 21 4)) dX9_copy_52 fl_X9_69 rfl rfl rfl ?_
  refine rn_putI dX9_copy_55 fl_X9_69 rfl rfl (Or.inl rfl) rfl rfl ?_
  refine rn_aload_n dX9_copy_58 rfl rfl ?_
  refine rn_get (v := .inr (.inr (some 25))) dX9_copy_59 fl_X9_21 rfl rfl (congrArg (fun z => (Sum.inr (Sum.inr z) : MV)) (rf_21_5 hR)) ?_
  refine rn_iconst (v := 0) dX9_copy_62 (by decide) ?_
  refine rn_aload_n dX9_copy_63 rfl rfl ?_
  refine rn_get (v := .inr (.inr (some 5))) dX9_copy_64 fl_X9_21 rfl rfl (congrArg (fun z => (Sum.inr (Sum.inr z) : MV)) (rf_1_5 hR)) ?_
  refine rn_iconst (v := 0) dX9_copy_67 (by decide) ?_
  refine rn_bipush (v := 12) dX9_copy_68 (by decide) ?_
  refine rn_copy (sp' := 0) (dp' := 0) (n' := 12) dX9_copy_70 cp_X9_63 rfl rfl (by decide) (by decide) (by decide) (by decide) (by decide) (by decide) (by decide) (by decide) (Nat.le_of_ble_eq_true rfl) ?_
  refine rn_aload_n dX9_copy_73 rfl rfl ?_
  refine rn_get (v := .inr (.inr (some 26))) dX9_copy_74 fl_X9_24 rfl rfl (congrArg (fun z => (Sum.inr (Sum.inr z) : MV)) (rf_21_6 hR)) ?_
  refine rn_iconst (v := 0) dX9_copy_77 (by decide) ?_
  refine rn_aload_n dX9_copy_78 rfl rfl ?_
  refine rn_get (v := .inr (.inr (some 6))) dX9_copy_79 fl_X9_24 rfl rfl (congrArg (fun z => (Sum.inr (Sum.inr z) : MV)) (rf_1_6 hR)) ?_
  refine rn_iconst (v := 0) dX9_copy_82 (by decide) ?_
  refine rn_bipush (v := 12) dX9_copy_83 (by decide) ?_
  refine rn_copy (sp' := 0) (dp' := 0) (n' := 12) dX9_copy_85 cp_X9_63 rfl rfl (by decide) (by decide) (by decide) (by decide) (by decide) (by decide) (by decide) (by decide) (Nat.le_of_ble_eq_true rfl) ?_
  refine rn_aload_n dX9_copy_88 rfl rfl ?_
  refine rn_get (v := .inr (.inr (some 27))) dX9_copy_89 fl_X9_27 rfl rfl (congrArg (fun z => (Sum.inr (Sum.inr z) : MV)) (rf_21_7 hR)) ?_
  refine rn_iconst (v := 0) dX9_copy_92 (by decide) ?_
  refine rn_aload_n dX9_copy_93 rfl rfl ?_
  refine rn_get (v := .inr (.inr (some 7))) dX9_copy_94 fl_X9_27 rfl rfl (congrArg (fun z => (Sum.inr (Sum.inr z) : MV)) (rf_1_7 hR)) ?_
  refine rn_iconst (v := 0) dX9_copy_97 (by decide) ?_
  refine rn_bipush (v := 12) dX9_copy_98 (by decide) ?_
  refine rn_copy (sp' := 0) (dp' := 0) (n' := 12) dX9_copy_100 cp_X9_63 rfl rfl (by decide) (by decide) (by decide) (by decide) (by decide) (by decide) (by decide) (by decide) (Nat.le_of_ble_eq_true rfl) ?_
  refine rn_aload_n dX9_copy_103 rfl rfl ?_
  refine rn_get (v := .inr (.inr (some 28))) dX9_copy_104 fl_X9_30 rfl rfl (congrArg (fun z => (Sum.inr (Sum.inr z) : MV)) (rf_21_8 hR)) ?_
  refine rn_iconst (v := 0) dX9_copy_107 (by decide) ?_
  refine rn_aload_n dX9_copy_108 rfl rfl ?_
  refine rn_get (v := .inr (.inr (some 8))) dX9_copy_109 fl_X9_30 rfl rfl (congrArg (fun z => (Sum.inr (Sum.inr z) : MV)) (rf_1_8 hR)) ?_
  refine rn_iconst (v := 0) dX9_copy_112 (by decide) ?_
  refine rn_bipush (v := 12) dX9_copy_113 (by decide) ?_
  refine rn_copy (sp' := 0) (dp' := 0) (n' := 12) dX9_copy_115 cp_X9_63 rfl rfl (by decide) (by decide) (by decide) (by decide) (by decide) (by decide) (by decide) (by decide) (Nat.le_of_ble_eq_true rfl) ?_
  obtain ⟨h1, eh1⟩ : ∃ z, z = (cpI (cpI (cpI (cpI (sI (cpI (cpI (cpI (sI h 1 0 (h.1 21 0)) 22 0 2 0 4) 23 0 3 0 4) 24 0 4 0 4) 1 4 (h.1 21 4)) 25 0 5 0 12) 26 0 6 0 12) 27 0 7 0 12) 28 0 8 0 12) := ⟨_, rfl⟩
  show Rn G (d + 1) 0 0 mX9_copy 118 [(0, .inr (.inr (some 1))), (1, .inr (.inr (some 21)))] [] SH (cpI (cpI (cpI (cpI (sI (cpI (cpI (cpI (sI h 1 0 (h.1 21 0)) 22 0 2 0 4) 23 0 3 0 4) 24 0 4 0 4) 1 4 (h.1 21 4)) 25 0 5 0 12) 26 0 6 0 12) 27 0 7 0 12) 28 0 8 0 12) (QV Q)
  rw [← eh1]
  replace V := V h1 eh1
  have Rh1 : RF h1 := by rw [eh1]; exact hR
  refine rn_aload_n dX9_copy_118 rfl rfl ?_
  refine rn_get (v := .inr (.inr (some 9))) dX9_copy_119 fl_X9_36 rfl rfl (congrArg (fun z => (Sum.inr (Sum.inr z) : MV)) (rf_1_9 Rh1)) ?_
  refine rn_aload_n dX9_copy_122 rfl rfl ?_
  refine rn_get (v := .inr (.inr (some 29))) dX9_copy_123 fl_X9_36 rfl rfl (congrArg (fun z => (Sum.inr (Sum.inr z) : MV)) (rf_21_9 Rh1)) ?_
  refine rn_cV (M' := mX2_copy) (n := 1) (av := [.inr (.inr (some 29))]) (S := []) (rc := 0) (rs := 0) (mc := 0) (ms := 0) (a := 9) (ci := 2) (r := (RX2, TX2, 8)) dX9_copy_126 pa_X2_copy (Nat.le_refl _) rfl (Nat.le_of_ble_eq_true rfl) ml_X9_72 im_X2_copy se_X2_copy rfl rfl rfl (Ev.mono V ?_)
  rintro v sh1 h2 ⟨rfl, Rh2, rfl, V⟩
  show Rn G (d + 1) 0 0 mX9_copy 129 [(0, .inr (.inr (some 1))), (1, .inr (.inr (some 21)))] [] SH h2 (QV Q)
  refine rn_aload_n dX9_copy_129 rfl rfl ?_
  refine rn_get (v := .inr (.inr (some 13))) dX9_copy_130 fl_X9_43 rfl rfl (congrArg (fun z => (Sum.inr (Sum.inr z) : MV)) (rf_1_10 Rh2)) ?_
  refine rn_aload_n dX9_copy_133 rfl rfl ?_
  refine rn_get (v := .inr (.inr (some 33))) dX9_copy_134 fl_X9_43 rfl rfl (congrArg (fun z => (Sum.inr (Sum.inr z) : MV)) (rf_21_10 Rh2)) ?_
  refine rn_cV (M' := mX10_copy) (n := 1) (av := [.inr (.inr (some 33))]) (S := []) (rc := 0) (rs := 0) (mc := 0) (ms := 0) (a := 13) (ci := 9) (r := (RX10, TX10, 3)) dX9_copy_137 pa_X10_copy (Nat.le_refl _) rfl (Nat.le_of_ble_eq_true rfl) ml_X9_76 im_X10_copy se_X10_copy rfl rfl rfl (Ev.mono V ?_)
  rintro v sh1 h3 ⟨rfl, Rh3, rfl, V⟩
  show Rn G (d + 1) 0 0 mX9_copy 140 [(0, .inr (.inr (some 1))), (1, .inr (.inr (some 21)))] [] SH h3 (QV Q)
  refine rn_aload_n dX9_copy_140 rfl rfl ?_
  refine rn_get (v := .inr (.inr (some 16))) dX9_copy_141 fl_X9_47 rfl rfl (congrArg (fun z => (Sum.inr (Sum.inr z) : MV)) (rf_1_11 Rh3)) ?_
  refine rn_aload_n dX9_copy_144 rfl rfl ?_
  refine rn_get (v := .inr (.inr (some 36))) dX9_copy_145 fl_X9_47 rfl rfl (congrArg (fun z => (Sum.inr (Sum.inr z) : MV)) (rf_21_11 Rh3)) ?_
  refine rn_cV (M' := mX10_copy) (n := 1) (av := [.inr (.inr (some 36))]) (S := []) (rc := 0) (rs := 0) (mc := 0) (ms := 0) (a := 16) (ci := 9) (r := (RX10, TX10, 3)) dX9_copy_148 pa_X10_copy (Nat.le_refl _) rfl (Nat.le_of_ble_eq_true rfl) ml_X9_76 im_X10_copy se_X10_copy rfl rfl rfl (Ev.mono V ?_)
  rintro v sh1 h4 ⟨rfl, Rh4, rfl, V⟩
  show Rn G (d + 1) 0 0 mX9_copy 151 [(0, .inr (.inr (some 1))), (1, .inr (.inr (some 21)))] [] SH h4 (QV Q)
  refine rn_aload_n dX9_copy_151 rfl rfl ?_
  refine rn_get (v := .inr (.inr (some 39))) dX9_copy_152 fl_X9_50 rfl rfl (congrArg (fun z => (Sum.inr (Sum.inr z) : MV)) (rf_21_12 Rh4)) ?_
  refine rn_iconst (v := 0) dX9_copy_155 (by decide) ?_
  refine rn_aload_n dX9_copy_156 rfl rfl ?_
  refine rn_get (v := .inr (.inr (some 19))) dX9_copy_157 fl_X9_50 rfl rfl (congrArg (fun z => (Sum.inr (Sum.inr z) : MV)) (rf_1_12 Rh4)) ?_
  refine rn_iconst (v := 0) dX9_copy_160 (by decide) ?_
  refine rn_bipush (v := 50) dX9_copy_161 (by decide) ?_
  refine rn_copy (sp' := 0) (dp' := 0) (n' := 50) dX9_copy_163 cp_X9_63 rfl rfl (by decide) (by decide) (by decide) (by decide) (by decide) (by decide) (by decide) (by decide) (Nat.le_of_ble_eq_true rfl) ?_
  refine rn_aload_n dX9_copy_166 rfl rfl ?_
  refine rn_aload_n dX9_copy_167 rfl rfl ?_
  refine rn_get (v := .inl (h4.1 21 13)) dX9_copy_168 fl_X9_79 rfl rfl rfl ?_
  refine rn_putI dX9_copy_171 fl_X9_79 rfl rfl (Or.inl rfl) rfl rfl ?_
  refine rn_aload_n dX9_copy_174 rfl rfl ?_
  refine rn_get (v := .inr (.inr (some 40))) dX9_copy_175 fl_X9_53 rfl rfl (congrArg (fun z => (Sum.inr (Sum.inr z) : MV)) (rf_21_14 Rh4)) ?_
  refine rn_iconst (v := 0) dX9_copy_178 (by decide) ?_
  refine rn_aload_n dX9_copy_179 rfl rfl ?_
  refine rn_get (v := .inr (.inr (some 20))) dX9_copy_180 fl_X9_53 rfl rfl (congrArg (fun z => (Sum.inr (Sum.inr z) : MV)) (rf_1_14 Rh4)) ?_
  refine rn_iconst (v := 0) dX9_copy_183 (by decide) ?_
  refine rn_bipush (v := 20) dX9_copy_184 (by decide) ?_
  refine rn_copy (sp' := 0) (dp' := 0) (n' := 20) dX9_copy_186 cp_X9_63 rfl rfl (by decide) (by decide) (by decide) (by decide) (by decide) (by decide) (by decide) (by decide) (Nat.le_of_ble_eq_true rfl) ?_
  refine rn_aload_n dX9_copy_189 rfl rfl ?_
  refine rn_aload_n dX9_copy_190 rfl rfl ?_
  refine rn_get (v := .inl (h4.1 21 15)) dX9_copy_191 fl_X9_82 rfl rfl rfl ?_
  refine rn_putI dX9_copy_194 fl_X9_82 rfl rfl (Or.inl rfl) rfl rfl ?_
  refine rn_aload_n dX9_copy_197 rfl rfl ?_
  refine rn_aload_n dX9_copy_198 rfl rfl ?_
  refine rn_get (v := .inl (h4.1 21 16)) dX9_copy_199 fl_X9_56 rfl rfl rfl ?_
  refine rn_putI dX9_copy_202 fl_X9_56 rfl rfl (Or.inl rfl) rfl rfl ?_
  exact rn_vret dX9_copy_205 rfl ⟨rfl, Rh4, rfl, V⟩
set_option maxRecDepth 100000 in
set_option maxHeartbeats 4000000 in
theorem vc_X9_copyb {G : GT} {d : Nat}   {h : Hp} {Q : Hp → Prop} (hR : RF h) (V : ∀ h1 : Hp, h1 = (cpI (cpI (cpI (cpI (sI (cpI (cpI (cpI (sI h 21 0 (h.1 1 0)) 2 0 22 0 4) 3 0 23 0 4) 4 0 24 0 4) 21 4 (h.1 1 4)) 5 0 25 0 12) 6 0 26 0 12) 7 0 27 0 12) 8 0 28 0 12) → EvV G d mX2_copy [.inr (.inr (some 29)), .inr (.inr (some 9))] h1 (fun h2 => EvV G d mX10_copy [.inr (.inr (some 33)), .inr (.inr (some 13))] h2 (fun h3 => EvV G d mX10_copy [.inr (.inr (some 36)), .inr (.inr (some 16))] h3 (fun h4 => Q (sI (sI (cpI (sI (cpI h4 19 0 39 0 50) 21 13 (h4.1 1 13)) 20 0 40 0 20) 21 15 (h4.1 1 15)) 21 16 (h4.1 1 16)))))) : EvV G (d + 1) mX9_copy [.inr (.inr (some 21)), .inr (.inr (some 1))] h Q := by
  refine Ev.of rfl (fun _ => Nat.le_of_ble_eq_true rfl) ?_
  show Rn G (d + 1) 0 0 mX9_copy 0 [(0, .inr (.inr (some 21))), (1, .inr (.inr (some 1)))] [] SH h (QV Q)
  refine rn_aload_n dX9_copy_0 rfl rfl ?_
  refine rn_aload_n dX9_copy_1 rfl rfl ?_
  refine rn_get (v := .inl (h.1 1 0)) dX9_copy_2 fl_X9_60 rfl rfl rfl ?_
  refine rn_putI dX9_copy_5 fl_X9_60 rfl rfl (Or.inl rfl) rfl rfl ?_
  refine rn_aload_n dX9_copy_8 rfl rfl ?_
  refine rn_get (v := .inr (.inr (some 2))) dX9_copy_9 fl_X9_9 rfl rfl (congrArg (fun z => (Sum.inr (Sum.inr z) : MV)) (rf_1_1 hR)) ?_
  refine rn_iconst (v := 0) dX9_copy_12 (by decide) ?_
  refine rn_aload_n dX9_copy_13 rfl rfl ?_
  refine rn_get (v := .inr (.inr (some 22))) dX9_copy_14 fl_X9_9 rfl rfl (congrArg (fun z => (Sum.inr (Sum.inr z) : MV)) (rf_21_1 hR)) ?_
  refine rn_iconst (v := 0) dX9_copy_17 (by decide) ?_
  refine rn_iconst (v := 4) dX9_copy_18 (by decide) ?_
  refine rn_copy (sp' := 0) (dp' := 0) (n' := 4) dX9_copy_19 cp_X9_63 rfl rfl (by decide) (by decide) (by decide) (by decide) (by decide) (by decide) (by decide) (by decide) (Nat.le_of_ble_eq_true rfl) ?_
  refine rn_aload_n dX9_copy_22 rfl rfl ?_
  refine rn_get (v := .inr (.inr (some 3))) dX9_copy_23 fl_X9_15 rfl rfl (congrArg (fun z => (Sum.inr (Sum.inr z) : MV)) (rf_1_2 hR)) ?_
  refine rn_iconst (v := 0) dX9_copy_26 (by decide) ?_
  refine rn_aload_n dX9_copy_27 rfl rfl ?_
  refine rn_get (v := .inr (.inr (some 23))) dX9_copy_28 fl_X9_15 rfl rfl (congrArg (fun z => (Sum.inr (Sum.inr z) : MV)) (rf_21_2 hR)) ?_
  refine rn_iconst (v := 0) dX9_copy_31 (by decide) ?_
  refine rn_iconst (v := 4) dX9_copy_32 (by decide) ?_
  refine rn_copy (sp' := 0) (dp' := 0) (n' := 4) dX9_copy_33 cp_X9_63 rfl rfl (by decide) (by decide) (by decide) (by decide) (by decide) (by decide) (by decide) (by decide) (Nat.le_of_ble_eq_true rfl) ?_
  refine rn_aload_n dX9_copy_36 rfl rfl ?_
  refine rn_get (v := .inr (.inr (some 4))) dX9_copy_37 fl_X9_18 rfl rfl (congrArg (fun z => (Sum.inr (Sum.inr z) : MV)) (rf_1_3 hR)) ?_
  refine rn_iconst (v := 0) dX9_copy_40 (by decide) ?_
  refine rn_aload_n dX9_copy_41 rfl rfl ?_
  refine rn_get (v := .inr (.inr (some 24))) dX9_copy_42 fl_X9_18 rfl rfl (congrArg (fun z => (Sum.inr (Sum.inr z) : MV)) (rf_21_3 hR)) ?_
  refine rn_iconst (v := 0) dX9_copy_45 (by decide) ?_
  refine rn_iconst (v := 4) dX9_copy_46 (by decide) ?_
  refine rn_copy (sp' := 0) (dp' := 0) (n' := 4) dX9_copy_47 cp_X9_63 rfl rfl (by decide) (by decide) (by decide) (by decide) (by decide) (by decide) (by decide) (by decide) (Nat.le_of_ble_eq_true rfl) ?_
  refine rn_aload_n dX9_copy_50 rfl rfl ?_
  refine rn_aload_n dX9_copy_51 rfl rfl ?_
  refine rn_get (v := .inl (h.1 1 4)) dX9_copy_52 fl_X9_69 rfl rfl rfl ?_
  refine rn_putI dX9_copy_55 fl_X9_69 rfl rfl (Or.inl rfl) rfl rfl ?_
  refine rn_aload_n dX9_copy_58 rfl rfl ?_
  refine rn_get (v := .inr (.inr (some 5))) dX9_copy_59 fl_X9_21 rfl rfl (congrArg (fun z => (Sum.inr (Sum.inr z) : MV)) (rf_1_5 hR)) ?_
  refine rn_iconst (v := 0) dX9_copy_62 (by decide) ?_
  refine rn_aload_n dX9_copy_63 rfl rfl ?_
  refine rn_get (v := .inr (.inr (some 25))) dX9_copy_64 fl_X9_21 rfl rfl (congrArg (fun z => (Sum.inr (Sum.inr z) : MV)) (rf_21_5 hR)) ?_
  refine rn_iconst (v := 0) dX9_copy_67 (by decide) ?_
  refine rn_bipush (v := 12) dX9_copy_68 (by decide) ?_
  refine rn_copy (sp' := 0) (dp' := 0) (n' := 12) dX9_copy_70 cp_X9_63 rfl rfl (by decide) (by decide) (by decide) (by decide) (by decide) (by decide) (by decide) (by decide) (Nat.le_of_ble_eq_true rfl) ?_
  refine rn_aload_n dX9_copy_73 rfl rfl ?_
  refine rn_get (v := .inr (.inr (some 6))) dX9_copy_74 fl_X9_24 rfl rfl (congrArg (fun z => (Sum.inr (Sum.inr z) : MV)) (rf_1_6 hR)) ?_
  refine rn_iconst (v := 0) dX9_copy_77 (by decide) ?_
  refine rn_aload_n dX9_copy_78 rfl rfl ?_
  refine rn_get (v := .inr (.inr (some 26))) dX9_copy_79 fl_X9_24 rfl rfl (congrArg (fun z => (Sum.inr (Sum.inr z) : MV)) (rf_21_6 hR)) ?_
  refine rn_iconst (v := 0) dX9_copy_82 (by decide) ?_
  refine rn_bipush (v := 12) dX9_copy_83 (by decide) ?_
  refine rn_copy (sp' := 0) (dp' := 0) (n' := 12) dX9_copy_85 cp_X9_63 rfl rfl (by decide) (by decide) (by decide) (by decide) (by decide) (by decide) (by decide) (by decide) (Nat.le_of_ble_eq_true rfl) ?_
  refine rn_aload_n dX9_copy_88 rfl rfl ?_
  refine rn_get (v := .inr (.inr (some 7))) dX9_copy_89 fl_X9_27 rfl rfl (congrArg (fun z => (Sum.inr (Sum.inr z) : MV)) (rf_1_7 hR)) ?_
  refine rn_iconst (v := 0) dX9_copy_92 (by decide) ?_
  refine rn_aload_n dX9_copy_93 rfl rfl ?_
  refine rn_get (v := .inr (.inr (some 27))) dX9_copy_94 fl_X9_27 rfl rfl (congrArg (fun z => (Sum.inr (Sum.inr z) : MV)) (rf_21_7 hR)) ?_
  refine rn_iconst (v := 0) dX9_copy_97 (by decide) ?_
  refine rn_bipush (v := 12) dX9_copy_98 (by decide) ?_
  refine rn_copy (sp' := 0) (dp' := 0) (n' := 12) dX9_copy_100 cp_X9_63 rfl rfl (by decide) (by decide) (by decide) (by decide) (by decide) (by decide) (by decide) (by decide) (Nat.le_of_ble_eq_true rfl) ?_
  refine rn_aload_n dX9_copy_103 rfl rfl ?_
  refine rn_get (v := .inr (.inr (some 8))) dX9_copy_104 fl_X9_30 rfl rfl (congrArg (fun z => (Sum.inr (Sum.inr z) : MV)) (rf_1_8 hR)) ?_
  refine rn_iconst (v := 0) dX9_copy_107 (by decide) ?_
  refine rn_aload_n dX9_copy_108 rfl rfl ?_
  refine rn_get (v := .inr (.inr (some 28))) dX9_copy_109 fl_X9_30 rfl rfl (congrArg (fun z => (Sum.inr (Sum.inr z) : MV)) (rf_21_8 hR)) ?_
  refine rn_iconst (v := 0) dX9_copy_112 (by decide) ?_
  refine rn_bipush (v := 12) dX9_copy_113 (by decide) ?_
  refine rn_copy (sp' := 0) (dp' := 0) (n' := 12) dX9_copy_115 cp_X9_63 rfl rfl (by decide) (by decide) (by decide) (by decide) (by decide) (by decide) (by decide) (by decide) (Nat.le_of_ble_eq_true rfl) ?_
  obtain ⟨h1, eh1⟩ : ∃ z, z = (cpI (cpI (cpI (cpI (sI (cpI (cpI (cpI (sI h 21 0 (h.1 1 0)) 2 0 22 0 4) 3 0 23 0 4) 4 0 24 0 4) 21 4 (h.1 1 4)) 5 0 25 0 12) 6 0 26 0 12) 7 0 27 0 12) 8 0 28 0 12) := ⟨_, rfl⟩
  show Rn G (d + 1) 0 0 mX9_copy 118 [(0, .inr (.inr (some 21))), (1, .inr (.inr (some 1)))] [] SH (cpI (cpI (cpI (cpI (sI (cpI (cpI (cpI (sI h 21 0 (h.1 1 0)) 2 0 22 0 4) 3 0 23 0 4) 4 0 24 0 4) 21 4 (h.1 1 4)) 5 0 25 0 12) 6 0 26 0 12) 7 0 27 0 12) 8 0 28 0 12) (QV Q)
  rw [← eh1]
  replace V := V h1 eh1
  have Rh1 : RF h1 := by rw [eh1]; exact hR
  refine rn_aload_n dX9_copy_118 rfl rfl ?_
  refine rn_get (v := .inr (.inr (some 29))) dX9_copy_119 fl_X9_36 rfl rfl (congrArg (fun z => (Sum.inr (Sum.inr z) : MV)) (rf_21_9 Rh1)) ?_
  refine rn_aload_n dX9_copy_122 rfl rfl ?_
  refine rn_get (v := .inr (.inr (some 9))) dX9_copy_123 fl_X9_36 rfl rfl (congrArg (fun z => (Sum.inr (Sum.inr z) : MV)) (rf_1_9 Rh1)) ?_
  refine rn_cV (M' := mX2_copy) (n := 1) (av := [.inr (.inr (some 9))]) (S := []) (rc := 0) (rs := 0) (mc := 0) (ms := 0) (a := 29) (ci := 2) (r := (RX2, TX2, 8)) dX9_copy_126 pa_X2_copy (Nat.le_refl _) rfl (Nat.le_of_ble_eq_true rfl) ml_X9_72 im_X2_copy se_X2_copy rfl rfl rfl (Ev.mono V ?_)
  rintro v sh1 h2 ⟨rfl, Rh2, rfl, V⟩
  show Rn G (d + 1) 0 0 mX9_copy 129 [(0, .inr (.inr (some 21))), (1, .inr (.inr (some 1)))] [] SH h2 (QV Q)
  refine rn_aload_n dX9_copy_129 rfl rfl ?_
  refine rn_get (v := .inr (.inr (some 33))) dX9_copy_130 fl_X9_43 rfl rfl (congrArg (fun z => (Sum.inr (Sum.inr z) : MV)) (rf_21_10 Rh2)) ?_
  refine rn_aload_n dX9_copy_133 rfl rfl ?_
  refine rn_get (v := .inr (.inr (some 13))) dX9_copy_134 fl_X9_43 rfl rfl (congrArg (fun z => (Sum.inr (Sum.inr z) : MV)) (rf_1_10 Rh2)) ?_
  refine rn_cV (M' := mX10_copy) (n := 1) (av := [.inr (.inr (some 13))]) (S := []) (rc := 0) (rs := 0) (mc := 0) (ms := 0) (a := 33) (ci := 9) (r := (RX10, TX10, 3)) dX9_copy_137 pa_X10_copy (Nat.le_refl _) rfl (Nat.le_of_ble_eq_true rfl) ml_X9_76 im_X10_copy se_X10_copy rfl rfl rfl (Ev.mono V ?_)
  rintro v sh1 h3 ⟨rfl, Rh3, rfl, V⟩
  show Rn G (d + 1) 0 0 mX9_copy 140 [(0, .inr (.inr (some 21))), (1, .inr (.inr (some 1)))] [] SH h3 (QV Q)
  refine rn_aload_n dX9_copy_140 rfl rfl ?_
  refine rn_get (v := .inr (.inr (some 36))) dX9_copy_141 fl_X9_47 rfl rfl (congrArg (fun z => (Sum.inr (Sum.inr z) : MV)) (rf_21_11 Rh3)) ?_
  refine rn_aload_n dX9_copy_144 rfl rfl ?_
  refine rn_get (v := .inr (.inr (some 16))) dX9_copy_145 fl_X9_47 rfl rfl (congrArg (fun z => (Sum.inr (Sum.inr z) : MV)) (rf_1_11 Rh3)) ?_
  refine rn_cV (M' := mX10_copy) (n := 1) (av := [.inr (.inr (some 16))]) (S := []) (rc := 0) (rs := 0) (mc := 0) (ms := 0) (a := 36) (ci := 9) (r := (RX10, TX10, 3)) dX9_copy_148 pa_X10_copy (Nat.le_refl _) rfl (Nat.le_of_ble_eq_true rfl) ml_X9_76 im_X10_copy se_X10_copy rfl rfl rfl (Ev.mono V ?_)
  rintro v sh1 h4 ⟨rfl, Rh4, rfl, V⟩
  show Rn G (d + 1) 0 0 mX9_copy 151 [(0, .inr (.inr (some 21))), (1, .inr (.inr (some 1)))] [] SH h4 (QV Q)
  refine rn_aload_n dX9_copy_151 rfl rfl ?_
  refine rn_get (v := .inr (.inr (some 19))) dX9_copy_152 fl_X9_50 rfl rfl (congrArg (fun z => (Sum.inr (Sum.inr z) : MV)) (rf_1_12 Rh4)) ?_
  refine rn_iconst (v := 0) dX9_copy_155 (by decide) ?_
  refine rn_aload_n dX9_copy_156 rfl rfl ?_
  refine rn_get (v := .inr (.inr (some 39))) dX9_copy_157 fl_X9_50 rfl rfl (congrArg (fun z => (Sum.inr (Sum.inr z) : MV)) (rf_21_12 Rh4)) ?_
  refine rn_iconst (v := 0) dX9_copy_160 (by decide) ?_
  refine rn_bipush (v := 50) dX9_copy_161 (by decide) ?_
  refine rn_copy (sp' := 0) (dp' := 0) (n' := 50) dX9_copy_163 cp_X9_63 rfl rfl (by decide) (by decide) (by decide) (by decide) (by decide) (by decide) (by decide) (by decide) (Nat.le_of_ble_eq_true rfl) ?_
  refine rn_aload_n dX9_copy_166 rfl rfl ?_
  refine rn_aload_n dX9_copy_167 rfl rfl ?_
  refine rn_get (v := .inl (h4.1 1 13)) dX9_copy_168 fl_X9_79 rfl rfl rfl ?_
  refine rn_putI dX9_copy_171 fl_X9_79 rfl rfl (Or.inl rfl) rfl rfl ?_
  refine rn_aload_n dX9_copy_174 rfl rfl ?_
  refine rn_get (v := .inr (.inr (some 20))) dX9_copy_175 fl_X9_53 rfl rfl (congrArg (fun z => (Sum.inr (Sum.inr z) : MV)) (rf_1_14 Rh4)) ?_
  refine rn_iconst (v := 0) dX9_copy_178 (by decide) ?_
  refine rn_aload_n dX9_copy_179 rfl rfl ?_
  refine rn_get (v := .inr (.inr (some 40))) dX9_copy_180 fl_X9_53 rfl rfl (congrArg (fun z => (Sum.inr (Sum.inr z) : MV)) (rf_21_14 Rh4)) ?_
  refine rn_iconst (v := 0) dX9_copy_183 (by decide) ?_
  refine rn_bipush (v := 20) dX9_copy_184 (by decide) ?_
  refine rn_copy (sp' := 0) (dp' := 0) (n' := 20) dX9_copy_186 cp_X9_63 rfl rfl (by decide) (by decide) (by decide) (by decide) (by decide) (by decide) (by decide) (by decide) (Nat.le_of_ble_eq_true rfl) ?_
  refine rn_aload_n dX9_copy_189 rfl rfl ?_
  refine rn_aload_n dX9_copy_190 rfl rfl ?_
  refine rn_get (v := .inl (h4.1 1 15)) dX9_copy_191 fl_X9_82 rfl rfl rfl ?_
  refine rn_putI dX9_copy_194 fl_X9_82 rfl rfl (Or.inl rfl) rfl rfl ?_
  refine rn_aload_n dX9_copy_197 rfl rfl ?_
  refine rn_aload_n dX9_copy_198 rfl rfl ?_
  refine rn_get (v := .inl (h4.1 1 16)) dX9_copy_199 fl_X9_56 rfl rfl rfl ?_
  refine rn_putI dX9_copy_202 fl_X9_56 rfl rfl (Or.inl rfl) rfl rfl ?_
  exact rn_vret dX9_copy_205 rfl ⟨rfl, Rh4, rfl, V⟩
set_option maxRecDepth 100000 in
set_option maxHeartbeats 4000000 in
theorem vc_X9_hasParty {G : GT} {d : Nat} {a1 : Int32}  {h : Hp} {Q : Int32 → Hp → Prop} (hR : RF h) (V : ((a1 < 0 → Q 0 h) ∧ (¬ a1 < 0 → ((h.1 1 0 ≤ a1 → Q 0 h) ∧ (¬ h.1 1 0 ≤ a1 → ((4 ≤ a1 → Q 0 h) ∧ (¬ 4 ≤ a1 → Q 1 h))))))) : EvI G (d + 1) mX9_hasParty [.inr (.inr (some 1)), .inl a1] h Q := by
  refine Ev.of rfl (fun _ => Nat.le_of_ble_eq_true rfl) ?_
  show Rn G (d + 1) 0 0 mX9_hasParty 0 [(0, .inr (.inr (some 1))), (1, .inl a1)] [] SH h (QI Q)
  refine rn_iload_n dX9_hasParty_0 rfl rfl ?_
  refine rn_if_lt (tgt := 21) dX9_hasParty_1 (by decide) (fun c1 => ?_) (fun c1 => ?_)
  · replace V := V.1 c1
    refine rn_iconst (v := 0) dX9_hasParty_21 (by decide) ?_
    exact rn_zret dX9_hasParty_22 rfl (by decide) ⟨rfl, hR, _, rfl, V⟩
  · replace V := V.2 c1
    refine rn_iload_n dX9_hasParty_4 rfl rfl ?_
    refine rn_aload_n dX9_hasParty_5 rfl rfl ?_
    refine rn_get (v := .inl (h.1 1 0)) dX9_hasParty_6 fl_X9_60 rfl rfl rfl ?_
    refine rn_icmp_ge (tgt := 21) dX9_hasParty_9 (by decide) (fun c2 => ?_) (fun c2 => ?_)
    · replace V := V.1 c2
      refine rn_iconst (v := 0) dX9_hasParty_21 (by decide) ?_
      exact rn_zret dX9_hasParty_22 rfl (by decide) ⟨rfl, hR, _, rfl, V⟩
    · replace V := V.2 c2
      refine rn_iload_n dX9_hasParty_12 rfl rfl ?_
      refine rn_iconst (v := 4) dX9_hasParty_13 (by decide) ?_
      refine rn_icmp_ge (tgt := 21) dX9_hasParty_14 (by decide) (fun c3 => ?_) (fun c3 => ?_)
      · replace V := V.1 c3
        refine rn_iconst (v := 0) dX9_hasParty_21 (by decide) ?_
        exact rn_zret dX9_hasParty_22 rfl (by decide) ⟨rfl, hR, _, rfl, V⟩
      · replace V := V.2 c3
        refine rn_iconst (v := 1) dX9_hasParty_17 (by decide) ?_
        refine rn_goto (tgt := 22) dX9_hasParty_18 (by decide) ?_
        exact rn_zret dX9_hasParty_22 rfl (by decide) ⟨rfl, hR, _, rfl, V⟩
set_option maxRecDepth 100000 in
set_option maxHeartbeats 4000000 in
theorem vc_X9_hasWord {G : GT} {d : Nat} {a1 : Int32}  {h : Hp} {Q : Int32 → Hp → Prop} (hR : RF h) (V : ((a1 < 0 → Q 0 h) ∧ (¬ a1 < 0 → ((h.1 1 4 ≤ a1 → Q 0 h) ∧ (¬ h.1 1 4 ≤ a1 → ((12 ≤ a1 → Q 0 h) ∧ (¬ 12 ≤ a1 → Q 1 h))))))) : EvI G (d + 1) mX9_hasWord [.inr (.inr (some 1)), .inl a1] h Q := by
  refine Ev.of rfl (fun _ => Nat.le_of_ble_eq_true rfl) ?_
  show Rn G (d + 1) 0 0 mX9_hasWord 0 [(0, .inr (.inr (some 1))), (1, .inl a1)] [] SH h (QI Q)
  refine rn_iload_n dX9_hasWord_0 rfl rfl ?_
  refine rn_if_lt (tgt := 22) dX9_hasWord_1 (by decide) (fun c1 => ?_) (fun c1 => ?_)
  · replace V := V.1 c1
    refine rn_iconst (v := 0) dX9_hasWord_22 (by decide) ?_
    exact rn_zret dX9_hasWord_23 rfl (by decide) ⟨rfl, hR, _, rfl, V⟩
  · replace V := V.2 c1
    refine rn_iload_n dX9_hasWord_4 rfl rfl ?_
    refine rn_aload_n dX9_hasWord_5 rfl rfl ?_
    refine rn_get (v := .inl (h.1 1 4)) dX9_hasWord_6 fl_X9_69 rfl rfl rfl ?_
    refine rn_icmp_ge (tgt := 22) dX9_hasWord_9 (by decide) (fun c2 => ?_) (fun c2 => ?_)
    · replace V := V.1 c2
      refine rn_iconst (v := 0) dX9_hasWord_22 (by decide) ?_
      exact rn_zret dX9_hasWord_23 rfl (by decide) ⟨rfl, hR, _, rfl, V⟩
    · replace V := V.2 c2
      refine rn_iload_n dX9_hasWord_12 rfl rfl ?_
      refine rn_bipush (v := 12) dX9_hasWord_13 (by decide) ?_
      refine rn_icmp_ge (tgt := 22) dX9_hasWord_15 (by decide) (fun c3 => ?_) (fun c3 => ?_)
      · replace V := V.1 c3
        refine rn_iconst (v := 0) dX9_hasWord_22 (by decide) ?_
        exact rn_zret dX9_hasWord_23 rfl (by decide) ⟨rfl, hR, _, rfl, V⟩
      · replace V := V.2 c3
        refine rn_iconst (v := 1) dX9_hasWord_18 (by decide) ?_
        refine rn_goto (tgt := 23) dX9_hasWord_19 (by decide) ?_
        exact rn_zret dX9_hasWord_23 rfl (by decide) ⟨rfl, hR, _, rfl, V⟩
set_option maxRecDepth 100000 in
set_option maxHeartbeats 4000000 in
theorem vc_X9_sets {G : GT} {d : Nat}   {h : Hp} {Q : Int32 → Hp → Prop} (hR : RF h) (V : Q (1 <<< ((h.1 1 0) &&& 31)) h) : EvI G (d + 1) mX9_sets [.inr (.inr (some 1))] h Q := by
  refine Ev.of rfl (fun _ => Nat.le_of_ble_eq_true rfl) ?_
  show Rn G (d + 1) 0 0 mX9_sets 0 [(0, .inr (.inr (some 1)))] [] SH h (QI Q)
  refine rn_iconst (v := 1) dX9_sets_0 (by decide) ?_
  refine rn_aload_n dX9_sets_1 rfl rfl ?_
  refine rn_get (v := .inl (h.1 1 0)) dX9_sets_2 fl_X9_60 rfl rfl rfl ?_
  refine rn_ishl dX9_sets_5 ?_
  exact rn_iret dX9_sets_6 rfl ⟨rfl, hR, _, rfl, V⟩
set_option maxRecDepth 100000 in
set_option maxHeartbeats 4000000 in
theorem vc_X9_addParty {G : GT} {d : Nat} {a1 : Int32} {a2 : Int32}  {h : Hp} {Q : Int32 → Hp → Prop} (hR : RF h) (V : EvI G d mX11_within [.inl (h.1 1 0), .inl 0, .inl 3] h (fun x2 h1 => ((¬ x2 = 0 → vp_in (h.1 1 0) 4 ∧ vp_in (h.1 1 0) 4 ∧ vp_in (h.1 1 0) 4 ∧ ∀ h4 : Hp, h4 = (sI (sI (sI (sI h1 1 0 (h1.1 1 0 + 1)) 2 (Int32.toNatClampNeg (h.1 1 0)) (a1 / 10)) 3 (Int32.toNatClampNeg (h.1 1 0)) (a1 - a1 / 10 * 10)) 4 (Int32.toNatClampNeg (h.1 1 0)) a2) → vp_in (h.1 1 0) 4 ∧ vp_in (h.1 1 0) 4 ∧ Q (h.1 1 0) (sI (sI h4 10 (Int32.toNatClampNeg (h.1 1 0)) 0) 11 (Int32.toNatClampNeg (h.1 1 0)) 0)) ∧ (x2 = 0 → Q (-1) h1)))) : EvI G (d + 1) mX9_addParty [.inr (.inr (some 1)), .inl a1, .inl a2] h Q := by
  refine Ev.of rfl (fun _ => Nat.le_of_ble_eq_true rfl) ?_
  show Rn G (d + 1) 0 0 mX9_addParty 0 [(0, .inr (.inr (some 1))), (1, .inl a1), (2, .inl a2)] [] SH h (QI Q)
  refine rn_aload_n dX9_addParty_0 rfl rfl ?_
  refine rn_get (v := .inl (h.1 1 0)) dX9_addParty_1 fl_X9_60 rfl rfl rfl ?_
  refine rn_istore_n (L' := [(3, .inl (h.1 1 0)), (0, .inr (.inr (some 1))), (1, .inl a1), (2, .inl a2)]) dX9_addParty_4 rfl (Nat.le_of_ble_eq_true rfl) rfl ?_
  refine rn_iload_n dX9_addParty_5 rfl rfl ?_
  refine rn_iconst (v := 0) dX9_addParty_6 (by decide) ?_
  refine rn_iconst (v := 3) dX9_addParty_7 (by decide) ?_
  refine rn_cSN (M' := mX11_within) (n := 3) (av := [.inl (h.1 1 0), .inl 0, .inl 3]) (S := []) (rc := 0) (rs := 0) (mc := 0) (ms := 0) dX9_addParty_8 pa_X11_within (Nat.le_refl _) rfl (Nat.le_of_ble_eq_true rfl) ml_X9_85 ss_X11_within rfl (Ev.mono V ?_)
  rintro v sh1 h1 ⟨rfl, Rh1, x2, rfl, V⟩
  show Rn G (d + 1) 0 0 mX9_addParty 11 [(3, .inl (h.1 1 0)), (0, .inr (.inr (some 1))), (1, .inl a1), (2, .inl a2)] [.inl x2] SH h1 (QI Q)
  refine rn_if_ne (tgt := 16) dX9_addParty_11 (by decide) (fun c3 => ?_) (fun c3 => ?_)
  · replace V := V.1 c3
    refine rn_aload_n dX9_addParty_16 rfl rfl ?_
    refine rn_dup dX9_addParty_17 rfl ?_
    refine rn_get (v := .inl (h1.1 1 0)) dX9_addParty_18 fl_X9_60 rfl rfl rfl ?_
    refine rn_iconst (v := 1) dX9_addParty_21 (by decide) ?_
    refine rn_iadd dX9_addParty_22 ?_
    refine rn_putI dX9_addParty_23 fl_X9_60 rfl rfl (Or.inl rfl) rfl rfl ?_
    refine rn_aload_n dX9_addParty_26 rfl rfl ?_
    refine rn_get (v := .inr (.inr (some 2))) dX9_addParty_27 fl_X9_9 rfl rfl (congrArg (fun z => (Sum.inr (Sum.inr z) : MV)) (rf_1_1 Rh1)) ?_
    refine rn_iload_n dX9_addParty_30 rfl rfl ?_
    refine rn_iload_n dX9_addParty_31 rfl rfl ?_
    refine rn_bipush (v := 10) dX9_addParty_32 (by decide) ?_
    refine rn_idiv dX9_addParty_34 (by decide) ?_
    obtain ⟨g0, V⟩ := V
    refine rn_iast (k := (Int32.toNatClampNeg (h.1 1 0))) dX9_addParty_35 rfl rfl g0 ?_
    refine rn_aload_n dX9_addParty_36 rfl rfl ?_
    refine rn_get (v := .inr (.inr (some 3))) dX9_addParty_37 fl_X9_15 rfl rfl (congrArg (fun z => (Sum.inr (Sum.inr z) : MV)) (rf_1_2 Rh1)) ?_
    refine rn_iload_n dX9_addParty_40 rfl rfl ?_
    refine rn_iload_n dX9_addParty_41 rfl rfl ?_
    refine rn_bipush (v := 10) dX9_addParty_42 (by decide) ?_
    refine rn_irem dX9_addParty_44 (by decide) ?_
    obtain ⟨g0, V⟩ := V
    refine rn_iast (k := (Int32.toNatClampNeg (h.1 1 0))) dX9_addParty_45 rfl rfl g0 ?_
    refine rn_aload_n dX9_addParty_46 rfl rfl ?_
    refine rn_get (v := .inr (.inr (some 4))) dX9_addParty_47 fl_X9_18 rfl rfl (congrArg (fun z => (Sum.inr (Sum.inr z) : MV)) (rf_1_3 Rh1)) ?_
    refine rn_iload_n dX9_addParty_50 rfl rfl ?_
    refine rn_iload_n dX9_addParty_51 rfl rfl ?_
    obtain ⟨g0, V⟩ := V
    refine rn_iast (k := (Int32.toNatClampNeg (h.1 1 0))) dX9_addParty_52 rfl rfl g0 ?_
    obtain ⟨h4, eh4⟩ : ∃ z, z = (sI (sI (sI (sI h1 1 0 (h1.1 1 0 + 1)) 2 (Int32.toNatClampNeg (h.1 1 0)) (a1 / 10)) 3 (Int32.toNatClampNeg (h.1 1 0)) (a1 - a1 / 10 * 10)) 4 (Int32.toNatClampNeg (h.1 1 0)) a2) := ⟨_, rfl⟩
    show Rn G (d + 1) 0 0 mX9_addParty 53 [(3, .inl (h.1 1 0)), (0, .inr (.inr (some 1))), (1, .inl a1), (2, .inl a2)] [] SH (sI (sI (sI (sI h1 1 0 (h1.1 1 0 + 1)) 2 (Int32.toNatClampNeg (h.1 1 0)) (a1 / 10)) 3 (Int32.toNatClampNeg (h.1 1 0)) (a1 - a1 / 10 * 10)) 4 (Int32.toNatClampNeg (h.1 1 0)) a2) (QI Q)
    rw [← eh4]
    replace V := V h4 eh4
    have Rh4 : RF h4 := by rw [eh4]; exact Rh1
    refine rn_aload_n dX9_addParty_53 rfl rfl ?_
    refine rn_get (v := .inr (.inr (some 9))) dX9_addParty_54 fl_X9_36 rfl rfl (congrArg (fun z => (Sum.inr (Sum.inr z) : MV)) (rf_1_9 Rh4)) ?_
    refine rn_get (v := .inr (.inr (some 10))) dX9_addParty_57 fl_X9_89 rfl rfl (congrArg (fun z => (Sum.inr (Sum.inr z) : MV)) (rf_9_0 Rh4)) ?_
    refine rn_iload_n dX9_addParty_60 rfl rfl ?_
    refine rn_iconst (v := 0) dX9_addParty_61 (by decide) ?_
    obtain ⟨g0, V⟩ := V
    refine rn_iast (k := (Int32.toNatClampNeg (h.1 1 0))) dX9_addParty_62 rfl rfl g0 ?_
    refine rn_aload_n dX9_addParty_63 rfl rfl ?_
    refine rn_get (v := .inr (.inr (some 9))) dX9_addParty_64 fl_X9_36 rfl rfl (congrArg (fun z => (Sum.inr (Sum.inr z) : MV)) (rf_1_9 Rh4)) ?_
    refine rn_get (v := .inr (.inr (some 11))) dX9_addParty_67 fl_X9_92 rfl rfl (congrArg (fun z => (Sum.inr (Sum.inr z) : MV)) (rf_9_1 Rh4)) ?_
    refine rn_iload_n dX9_addParty_70 rfl rfl ?_
    refine rn_iconst (v := 0) dX9_addParty_71 (by decide) ?_
    obtain ⟨g0, V⟩ := V
    refine rn_iast (k := (Int32.toNatClampNeg (h.1 1 0))) dX9_addParty_72 rfl rfl g0 ?_
    refine rn_iload_n dX9_addParty_73 rfl rfl ?_
    exact rn_iret dX9_addParty_74 rfl ⟨rfl, Rh4, _, rfl, V⟩
  · replace V := V.2 c3
    refine rn_iconst (v := (-1)) dX9_addParty_14 (by decide) ?_
    exact rn_iret dX9_addParty_15 rfl ⟨rfl, Rh1, _, rfl, V⟩
set_option maxRecDepth 100000 in
set_option maxHeartbeats 4000000 in
theorem vc_X9_addWord {G : GT} {d : Nat} {a1 : Int32} {a2 : Int32} {a3 : Int32} {a4 : Int32}  {h : Hp} {Q : Int32 → Hp → Prop} (hR : RF h) (V : EvI G d mX11_within [.inl (h.1 1 4), .inl 0, .inl 11] h (fun x2 h1 => ((¬ x2 = 0 → vp_in (h.1 1 4) 12 ∧ vp_in (h.1 1 4) 12 ∧ vp_in (h.1 1 4) 12 ∧ ∀ h4 : Hp, h4 = (sI (sI (sI (sI h1 1 4 (h1.1 1 4 + 1)) 5 (Int32.toNatClampNeg (h.1 1 4)) a1) 6 (Int32.toNatClampNeg (h.1 1 4)) a2) 7 (Int32.toNatClampNeg (h.1 1 4)) a3) → vp_in (h.1 1 4) 12 ∧ vp_in (h.1 1 4) 12 ∧ Q (h.1 1 4) (sI (sI h4 8 (Int32.toNatClampNeg (h.1 1 4)) a4) 12 (Int32.toNatClampNeg (h.1 1 4)) 0)) ∧ (x2 = 0 → Q (-1) h1)))) : EvI G (d + 1) mX9_addWord [.inr (.inr (some 1)), .inl a1, .inl a2, .inl a3, .inl a4] h Q := by
  refine Ev.of rfl (fun _ => Nat.le_of_ble_eq_true rfl) ?_
  show Rn G (d + 1) 0 0 mX9_addWord 0 [(0, .inr (.inr (some 1))), (1, .inl a1), (2, .inl a2), (3, .inl a3), (4, .inl a4)] [] SH h (QI Q)
  refine rn_aload_n dX9_addWord_0 rfl rfl ?_
  refine rn_get (v := .inl (h.1 1 4)) dX9_addWord_1 fl_X9_69 rfl rfl rfl ?_
  refine rn_istore (L' := [(5, .inl (h.1 1 4)), (0, .inr (.inr (some 1))), (1, .inl a1), (2, .inl a2), (3, .inl a3), (4, .inl a4)]) dX9_addWord_4 (Nat.le_of_ble_eq_true rfl) rfl ?_
  refine rn_iload dX9_addWord_6 rfl ?_
  refine rn_iconst (v := 0) dX9_addWord_8 (by decide) ?_
  refine rn_bipush (v := 11) dX9_addWord_9 (by decide) ?_
  refine rn_cSN (M' := mX11_within) (n := 3) (av := [.inl (h.1 1 4), .inl 0, .inl 11]) (S := []) (rc := 0) (rs := 0) (mc := 0) (ms := 0) dX9_addWord_11 pa_X11_within (Nat.le_refl _) rfl (Nat.le_of_ble_eq_true rfl) ml_X9_85 ss_X11_within rfl (Ev.mono V ?_)
  rintro v sh1 h1 ⟨rfl, Rh1, x2, rfl, V⟩
  show Rn G (d + 1) 0 0 mX9_addWord 14 [(5, .inl (h.1 1 4)), (0, .inr (.inr (some 1))), (1, .inl a1), (2, .inl a2), (3, .inl a3), (4, .inl a4)] [.inl x2] SH h1 (QI Q)
  refine rn_if_ne (tgt := 19) dX9_addWord_14 (by decide) (fun c3 => ?_) (fun c3 => ?_)
  · replace V := V.1 c3
    refine rn_aload_n dX9_addWord_19 rfl rfl ?_
    refine rn_dup dX9_addWord_20 rfl ?_
    refine rn_get (v := .inl (h1.1 1 4)) dX9_addWord_21 fl_X9_69 rfl rfl rfl ?_
    refine rn_iconst (v := 1) dX9_addWord_24 (by decide) ?_
    refine rn_iadd dX9_addWord_25 ?_
    refine rn_putI dX9_addWord_26 fl_X9_69 rfl rfl (Or.inl rfl) rfl rfl ?_
    refine rn_aload_n dX9_addWord_29 rfl rfl ?_
    refine rn_get (v := .inr (.inr (some 5))) dX9_addWord_30 fl_X9_21 rfl rfl (congrArg (fun z => (Sum.inr (Sum.inr z) : MV)) (rf_1_5 Rh1)) ?_
    refine rn_iload dX9_addWord_33 rfl ?_
    refine rn_iload_n dX9_addWord_35 rfl rfl ?_
    obtain ⟨g0, V⟩ := V
    refine rn_iast (k := (Int32.toNatClampNeg (h.1 1 4))) dX9_addWord_36 rfl rfl g0 ?_
    refine rn_aload_n dX9_addWord_37 rfl rfl ?_
    refine rn_get (v := .inr (.inr (some 6))) dX9_addWord_38 fl_X9_24 rfl rfl (congrArg (fun z => (Sum.inr (Sum.inr z) : MV)) (rf_1_6 Rh1)) ?_
    refine rn_iload dX9_addWord_41 rfl ?_
    refine rn_iload_n dX9_addWord_43 rfl rfl ?_
    obtain ⟨g0, V⟩ := V
    refine rn_iast (k := (Int32.toNatClampNeg (h.1 1 4))) dX9_addWord_44 rfl rfl g0 ?_
    refine rn_aload_n dX9_addWord_45 rfl rfl ?_
    refine rn_get (v := .inr (.inr (some 7))) dX9_addWord_46 fl_X9_27 rfl rfl (congrArg (fun z => (Sum.inr (Sum.inr z) : MV)) (rf_1_7 Rh1)) ?_
    refine rn_iload dX9_addWord_49 rfl ?_
    refine rn_iload_n dX9_addWord_51 rfl rfl ?_
    obtain ⟨g0, V⟩ := V
    refine rn_iast (k := (Int32.toNatClampNeg (h.1 1 4))) dX9_addWord_52 rfl rfl g0 ?_
    obtain ⟨h4, eh4⟩ : ∃ z, z = (sI (sI (sI (sI h1 1 4 (h1.1 1 4 + 1)) 5 (Int32.toNatClampNeg (h.1 1 4)) a1) 6 (Int32.toNatClampNeg (h.1 1 4)) a2) 7 (Int32.toNatClampNeg (h.1 1 4)) a3) := ⟨_, rfl⟩
    show Rn G (d + 1) 0 0 mX9_addWord 53 [(5, .inl (h.1 1 4)), (0, .inr (.inr (some 1))), (1, .inl a1), (2, .inl a2), (3, .inl a3), (4, .inl a4)] [] SH (sI (sI (sI (sI h1 1 4 (h1.1 1 4 + 1)) 5 (Int32.toNatClampNeg (h.1 1 4)) a1) 6 (Int32.toNatClampNeg (h.1 1 4)) a2) 7 (Int32.toNatClampNeg (h.1 1 4)) a3) (QI Q)
    rw [← eh4]
    replace V := V h4 eh4
    have Rh4 : RF h4 := by rw [eh4]; exact Rh1
    refine rn_aload_n dX9_addWord_53 rfl rfl ?_
    refine rn_get (v := .inr (.inr (some 8))) dX9_addWord_54 fl_X9_30 rfl rfl (congrArg (fun z => (Sum.inr (Sum.inr z) : MV)) (rf_1_8 Rh4)) ?_
    refine rn_iload dX9_addWord_57 rfl ?_
    refine rn_iload dX9_addWord_59 rfl ?_
    obtain ⟨g0, V⟩ := V
    refine rn_iast (k := (Int32.toNatClampNeg (h.1 1 4))) dX9_addWord_61 rfl rfl g0 ?_
    refine rn_aload_n dX9_addWord_62 rfl rfl ?_
    refine rn_get (v := .inr (.inr (some 9))) dX9_addWord_63 fl_X9_36 rfl rfl (congrArg (fun z => (Sum.inr (Sum.inr z) : MV)) (rf_1_9 Rh4)) ?_
    refine rn_get (v := .inr (.inr (some 12))) dX9_addWord_66 fl_X9_95 rfl rfl (congrArg (fun z => (Sum.inr (Sum.inr z) : MV)) (rf_9_2 Rh4)) ?_
    refine rn_iload dX9_addWord_69 rfl ?_
    refine rn_iconst (v := 0) dX9_addWord_71 (by decide) ?_
    obtain ⟨g0, V⟩ := V
    refine rn_iast (k := (Int32.toNatClampNeg (h.1 1 4))) dX9_addWord_72 rfl rfl g0 ?_
    refine rn_iload dX9_addWord_73 rfl ?_
    exact rn_iret dX9_addWord_75 rfl ⟨rfl, Rh4, _, rfl, V⟩
  · replace V := V.2 c3
    refine rn_iconst (v := (-1)) dX9_addWord_17 (by decide) ?_
    exact rn_iret dX9_addWord_18 rfl ⟨rfl, Rh1, _, rfl, V⟩
set_option maxRecDepth 100000 in
set_option maxHeartbeats 4000000 in
theorem vc_X9_runs {G : GT} {d : Nat} {a1 : Int32}  {h : Hp} {Q : Int32 → Hp → Prop} (hR : RF h) (V : EvI G d mX9_hasParty [.inr (.inr (some 1)), .inl a1] h (fun x2 h1 => ((x2 = 0 → Q 1 h1) ∧ (¬ x2 = 0 → vp_in a1 4 ∧ vp_in a1 4 ∧ EvI G d mX4_runs [.inl (h1.1 2 (Int32.toNatClampNeg a1)), .inl (h1.1 3 (Int32.toNatClampNeg a1))] h1 (fun x5 h4 => Q x5 h4))))) : EvI G (d + 1) mX9_runs [.inr (.inr (some 1)), .inl a1] h Q := by
  refine Ev.of rfl (fun _ => Nat.le_of_ble_eq_true rfl) ?_
  show Rn G (d + 1) 0 0 mX9_runs 0 [(0, .inr (.inr (some 1))), (1, .inl a1)] [] SH h (QI Q)
  refine rn_aload_n dX9_runs_0 rfl rfl ?_
  refine rn_iload_n dX9_runs_1 rfl rfl ?_
  refine rn_cV (M' := mX9_hasParty) (n := 1) (av := [.inl a1]) (S := []) (rc := 0) (rs := 0) (mc := 0) (ms := 0) (a := 1) (ci := 8) (r := (RX9, TX9, 17)) dX9_runs_2 pa_X9_hasParty (Nat.le_refl _) rfl (Nat.le_of_ble_eq_true rfl) ml_X9_98 im_X9_hasParty se_X9_hasParty rfl rfl rfl (Ev.mono V ?_)
  rintro v sh1 h1 ⟨rfl, Rh1, x2, rfl, V⟩
  show Rn G (d + 1) 0 0 mX9_runs 5 [(0, .inr (.inr (some 1))), (1, .inl a1)] [.inl x2] SH h1 (QI Q)
  refine rn_if_eq (tgt := 26) dX9_runs_5 (by decide) (fun c3 => ?_) (fun c3 => ?_)
  · replace V := V.1 c3
    refine rn_iconst (v := 1) dX9_runs_26 (by decide) ?_
    exact rn_iret dX9_runs_27 rfl ⟨rfl, Rh1, _, rfl, V⟩
  · replace V := V.2 c3
    refine rn_aload_n dX9_runs_8 rfl rfl ?_
    refine rn_get (v := .inr (.inr (some 2))) dX9_runs_9 fl_X9_9 rfl rfl (congrArg (fun z => (Sum.inr (Sum.inr z) : MV)) (rf_1_1 Rh1)) ?_
    refine rn_iload_n dX9_runs_12 rfl rfl ?_
    obtain ⟨g0, V⟩ := V
    refine rn_iald (k := (Int32.toNatClampNeg a1)) dX9_runs_13 rfl rfl g0 ?_
    refine rn_aload_n dX9_runs_14 rfl rfl ?_
    refine rn_get (v := .inr (.inr (some 3))) dX9_runs_15 fl_X9_15 rfl rfl (congrArg (fun z => (Sum.inr (Sum.inr z) : MV)) (rf_1_2 Rh1)) ?_
    refine rn_iload_n dX9_runs_18 rfl rfl ?_
    obtain ⟨g0, V⟩ := V
    refine rn_iald (k := (Int32.toNatClampNeg a1)) dX9_runs_19 rfl rfl g0 ?_
    refine rn_cS (M' := mX4_runs) (n := 2) (av := [.inl (h1.1 2 (Int32.toNatClampNeg a1)), .inl (h1.1 3 (Int32.toNatClampNeg a1))]) (S := []) (rc := 0) (rs := 0) (mc := 0) (ms := 0) dX9_runs_20 pa_X4_runs (Nat.le_refl _) rfl (Nat.le_of_ble_eq_true rfl) ml_X9_102 ss_X4_runs rfl (Ev.mono V ?_)
    rintro v sh1 h4 ⟨rfl, Rh4, x5, rfl, V⟩
    show Rn G (d + 1) 0 0 mX9_runs 23 [(0, .inr (.inr (some 1))), (1, .inl a1)] [.inl x5] SH h4 (QI Q)
    refine rn_goto (tgt := 27) dX9_runs_23 (by decide) ?_
    exact rn_iret dX9_runs_27 rfl ⟨rfl, Rh4, _, rfl, V⟩
set_option maxRecDepth 100000 in
set_option maxHeartbeats 4000000 in
theorem vc_X9_drips {G : GT} {d : Nat} {a1 : Int32}  {h : Hp} {Q : Int32 → Hp → Prop} (hR : RF h) (V : EvI G d mX9_hasParty [.inr (.inr (some 1)), .inl a1] h (fun x2 h1 => ((x2 = 0 → Q 0 h1) ∧ (¬ x2 = 0 → vp_in a1 4 ∧ vp_in a1 4 ∧ EvI G d mX4_drips [.inl (h1.1 2 (Int32.toNatClampNeg a1)), .inl (h1.1 3 (Int32.toNatClampNeg a1))] h1 (fun x5 h4 => Q x5 h4))))) : EvI G (d + 1) mX9_drips [.inr (.inr (some 1)), .inl a1] h Q := by
  refine Ev.of rfl (fun _ => Nat.le_of_ble_eq_true rfl) ?_
  show Rn G (d + 1) 0 0 mX9_drips 0 [(0, .inr (.inr (some 1))), (1, .inl a1)] [] SH h (QI Q)
  refine rn_aload_n dX9_drips_0 rfl rfl ?_
  refine rn_iload_n dX9_drips_1 rfl rfl ?_
  refine rn_cV (M' := mX9_hasParty) (n := 1) (av := [.inl a1]) (S := []) (rc := 0) (rs := 0) (mc := 0) (ms := 0) (a := 1) (ci := 8) (r := (RX9, TX9, 17)) dX9_drips_2 pa_X9_hasParty (Nat.le_refl _) rfl (Nat.le_of_ble_eq_true rfl) ml_X9_98 im_X9_hasParty se_X9_hasParty rfl rfl rfl (Ev.mono V ?_)
  rintro v sh1 h1 ⟨rfl, Rh1, x2, rfl, V⟩
  show Rn G (d + 1) 0 0 mX9_drips 5 [(0, .inr (.inr (some 1))), (1, .inl a1)] [.inl x2] SH h1 (QI Q)
  refine rn_if_eq (tgt := 26) dX9_drips_5 (by decide) (fun c3 => ?_) (fun c3 => ?_)
  · replace V := V.1 c3
    refine rn_iconst (v := 0) dX9_drips_26 (by decide) ?_
    exact rn_iret dX9_drips_27 rfl ⟨rfl, Rh1, _, rfl, V⟩
  · replace V := V.2 c3
    refine rn_aload_n dX9_drips_8 rfl rfl ?_
    refine rn_get (v := .inr (.inr (some 2))) dX9_drips_9 fl_X9_9 rfl rfl (congrArg (fun z => (Sum.inr (Sum.inr z) : MV)) (rf_1_1 Rh1)) ?_
    refine rn_iload_n dX9_drips_12 rfl rfl ?_
    obtain ⟨g0, V⟩ := V
    refine rn_iald (k := (Int32.toNatClampNeg a1)) dX9_drips_13 rfl rfl g0 ?_
    refine rn_aload_n dX9_drips_14 rfl rfl ?_
    refine rn_get (v := .inr (.inr (some 3))) dX9_drips_15 fl_X9_15 rfl rfl (congrArg (fun z => (Sum.inr (Sum.inr z) : MV)) (rf_1_2 Rh1)) ?_
    refine rn_iload_n dX9_drips_18 rfl rfl ?_
    obtain ⟨g0, V⟩ := V
    refine rn_iald (k := (Int32.toNatClampNeg a1)) dX9_drips_19 rfl rfl g0 ?_
    refine rn_cS (M' := mX4_drips) (n := 2) (av := [.inl (h1.1 2 (Int32.toNatClampNeg a1)), .inl (h1.1 3 (Int32.toNatClampNeg a1))]) (S := []) (rc := 0) (rs := 0) (mc := 0) (ms := 0) dX9_drips_20 pa_X4_drips (Nat.le_refl _) rfl (Nat.le_of_ble_eq_true rfl) ml_X9_108 ss_X4_drips rfl (Ev.mono V ?_)
    rintro v sh1 h4 ⟨rfl, Rh4, x5, rfl, V⟩
    show Rn G (d + 1) 0 0 mX9_drips 23 [(0, .inr (.inr (some 1))), (1, .inl a1)] [.inl x5] SH h4 (QI Q)
    refine rn_goto (tgt := 27) dX9_drips_23 (by decide) ?_
    exact rn_iret dX9_drips_27 rfl ⟨rfl, Rh4, _, rfl, V⟩
def Rg_X9_saidOf_4 (G : GT) (d : Nat) (l1 : Int32) (l2 : Int32) (l3 : Int32) (h : Hp) (Q : Int32 → Hp → Prop) : Prop := Rn G (d + 1) 0 0 mX9_saidOf 4 [(0, .inr (.inr (some 1))), (1, .inl l1), (2, .inl l2), (3, .inl l3)] [] SH h (QI Q)
set_option maxRecDepth 100000 in
set_option maxHeartbeats 4000000 in
theorem vc_X9_saidOf_4 {G : GT} {d : Nat} {l1 : Int32} {l2 : Int32} {l3 : Int32}  {h : Hp} {Q : Int32 → Hp → Prop} (hR : RF h) (V : ((h.1 1 4 ≤ l3 → Q l2 h) ∧ (¬ h.1 1 4 ≤ l3 → ((12 ≤ l3 → Q l2 h) ∧ (¬ 12 ≤ l3 → vp_in l3 12 ∧ ((¬ h.1 5 (Int32.toNatClampNeg l3) = l1 → Rg_X9_saidOf_4 G d l1 l2 (l3 + 1) h Q) ∧ (h.1 5 (Int32.toNatClampNeg l3) = l1 → vp_in l3 12 ∧ ((¬ h.1 12 (Int32.toNatClampNeg l3) = 1 → Rg_X9_saidOf_4 G d l1 l2 (l3 + 1) h Q) ∧ (h.1 12 (Int32.toNatClampNeg l3) = 1 → Rg_X9_saidOf_4 G d l1 (l2 + 1) (l3 + 1) h Q))))))))) : Rg_X9_saidOf_4 G d l1 l2 l3 h Q := by
  show Rn G (d + 1) 0 0 mX9_saidOf 4 [(0, .inr (.inr (some 1))), (1, .inl l1), (2, .inl l2), (3, .inl l3)] [] SH h (QI Q)
  refine rn_iload_n dX9_saidOf_4 rfl rfl ?_
  refine rn_aload_n dX9_saidOf_5 rfl rfl ?_
  refine rn_get (v := .inl (h.1 1 4)) dX9_saidOf_6 fl_X9_69 rfl rfl rfl ?_
  refine rn_icmp_ge (tgt := 50) dX9_saidOf_9 (by decide) (fun c1 => ?_) (fun c1 => ?_)
  · replace V := V.1 c1
    refine rn_iload_n dX9_saidOf_50 rfl rfl ?_
    exact rn_iret dX9_saidOf_51 rfl ⟨rfl, hR, _, rfl, V⟩
  · replace V := V.2 c1
    refine rn_iload_n dX9_saidOf_12 rfl rfl ?_
    refine rn_bipush (v := 12) dX9_saidOf_13 (by decide) ?_
    refine rn_icmp_ge (tgt := 50) dX9_saidOf_15 (by decide) (fun c2 => ?_) (fun c2 => ?_)
    · replace V := V.1 c2
      refine rn_iload_n dX9_saidOf_50 rfl rfl ?_
      exact rn_iret dX9_saidOf_51 rfl ⟨rfl, hR, _, rfl, V⟩
    · replace V := V.2 c2
      refine rn_aload_n dX9_saidOf_18 rfl rfl ?_
      refine rn_get (v := .inr (.inr (some 5))) dX9_saidOf_19 fl_X9_21 rfl rfl (congrArg (fun z => (Sum.inr (Sum.inr z) : MV)) (rf_1_5 hR)) ?_
      refine rn_iload_n dX9_saidOf_22 rfl rfl ?_
      obtain ⟨g0, V⟩ := V
      refine rn_iald (k := (Int32.toNatClampNeg l3)) dX9_saidOf_23 rfl rfl g0 ?_
      refine rn_iload_n dX9_saidOf_24 rfl rfl ?_
      refine rn_icmp_ne (tgt := 44) dX9_saidOf_25 (by decide) (fun c3 => ?_) (fun c3 => ?_)
      · replace V := V.1 c3
        refine rn_iinc (L' := [(3, .inl (l3 + 1)), (0, .inr (.inr (some 1))), (1, .inl l1), (2, .inl l2)]) dX9_saidOf_44 rfl (v := (l3 + 1)) rfl (Nat.le_of_ble_eq_true rfl) rfl ?_
        refine rn_goto (tgt := 4) dX9_saidOf_47 (by decide) ?_
        refine rn_sub [1, 2, 3, 0] (L' := [(0, .inr (.inr (some 1))), (1, .inl l1), (2, .inl l2), (3, .inl (l3 + 1))]) rfl ?_
        exact V
      · replace V := V.2 c3
        refine rn_aload_n dX9_saidOf_28 rfl rfl ?_
        refine rn_get (v := .inr (.inr (some 9))) dX9_saidOf_29 fl_X9_36 rfl rfl (congrArg (fun z => (Sum.inr (Sum.inr z) : MV)) (rf_1_9 hR)) ?_
        refine rn_get (v := .inr (.inr (some 12))) dX9_saidOf_32 fl_X9_95 rfl rfl (congrArg (fun z => (Sum.inr (Sum.inr z) : MV)) (rf_9_2 hR)) ?_
        refine rn_iload_n dX9_saidOf_35 rfl rfl ?_
        obtain ⟨g0, V⟩ := V
        refine rn_iald (k := (Int32.toNatClampNeg l3)) dX9_saidOf_36 rfl rfl g0 ?_
        refine rn_iconst (v := 1) dX9_saidOf_37 (by decide) ?_
        refine rn_icmp_ne (tgt := 44) dX9_saidOf_38 (by decide) (fun c4 => ?_) (fun c4 => ?_)
        · replace V := V.1 c4
          refine rn_iinc (L' := [(3, .inl (l3 + 1)), (0, .inr (.inr (some 1))), (1, .inl l1), (2, .inl l2)]) dX9_saidOf_44 rfl (v := (l3 + 1)) rfl (Nat.le_of_ble_eq_true rfl) rfl ?_
          refine rn_goto (tgt := 4) dX9_saidOf_47 (by decide) ?_
          refine rn_sub [1, 2, 3, 0] (L' := [(0, .inr (.inr (some 1))), (1, .inl l1), (2, .inl l2), (3, .inl (l3 + 1))]) rfl ?_
          exact V
        · replace V := V.2 c4
          refine rn_iinc (L' := [(2, .inl (l2 + 1)), (0, .inr (.inr (some 1))), (1, .inl l1), (3, .inl l3)]) dX9_saidOf_41 rfl (v := (l2 + 1)) rfl (Nat.le_of_ble_eq_true rfl) rfl ?_
          refine rn_iinc (L' := [(3, .inl (l3 + 1)), (2, .inl (l2 + 1)), (0, .inr (.inr (some 1))), (1, .inl l1)]) dX9_saidOf_44 rfl (v := (l3 + 1)) rfl (Nat.le_of_ble_eq_true rfl) rfl ?_
          refine rn_goto (tgt := 4) dX9_saidOf_47 (by decide) ?_
          refine rn_sub [2, 3, 1, 0] (L' := [(0, .inr (.inr (some 1))), (1, .inl l1), (2, .inl (l2 + 1)), (3, .inl (l3 + 1))]) rfl ?_
          exact V
set_option maxRecDepth 100000 in
set_option maxHeartbeats 4000000 in
theorem vc_X9_saidOf {G : GT} {d : Nat} {a1 : Int32}  {h : Hp} {Q : Int32 → Hp → Prop} (hR : RF h) (V : Rg_X9_saidOf_4 G d a1 0 0 h Q) : EvI G (d + 1) mX9_saidOf [.inr (.inr (some 1)), .inl a1] h Q := by
  refine Ev.of rfl (fun _ => Nat.le_of_ble_eq_true rfl) ?_
  show Rn G (d + 1) 0 0 mX9_saidOf 0 [(0, .inr (.inr (some 1))), (1, .inl a1)] [] SH h (QI Q)
  refine rn_iconst (v := 0) dX9_saidOf_0 (by decide) ?_
  refine rn_istore_n (L' := [(2, .inl 0), (0, .inr (.inr (some 1))), (1, .inl a1)]) dX9_saidOf_1 rfl (Nat.le_of_ble_eq_true rfl) rfl ?_
  refine rn_iconst (v := 0) dX9_saidOf_2 (by decide) ?_
  refine rn_istore_n (L' := [(3, .inl 0), (2, .inl 0), (0, .inr (.inr (some 1))), (1, .inl a1)]) dX9_saidOf_3 rfl (Nat.le_of_ble_eq_true rfl) rfl ?_
  refine rn_sub [2, 3, 1, 0] (L' := [(0, .inr (.inr (some 1))), (1, .inl a1), (2, .inl 0), (3, .inl 0)]) rfl ?_
  exact V
def Rg_X9_waterOf_4 (G : GT) (d : Nat) (l1 : Int32) (l2 : Int32) (l3 : Int32) (h : Hp) (Q : Int32 → Hp → Prop) : Prop := Rn G (d + 1) 0 0 mX9_waterOf 4 [(0, .inr (.inr (some 1))), (1, .inl l1), (2, .inl l2), (3, .inl l3)] [] SH h (QI Q)
set_option maxRecDepth 100000 in
set_option maxHeartbeats 4000000 in
theorem vc_X9_waterOf_4 {G : GT} {d : Nat} {l1 : Int32} {l2 : Int32} {l3 : Int32}  {h : Hp} {Q : Int32 → Hp → Prop} (hR : RF h) (V : ((h.1 1 0 ≤ l3 → Q l2 h) ∧ (¬ h.1 1 0 ≤ l3 → ((4 ≤ l3 → Q l2 h) ∧ (¬ 4 ≤ l3 → ((¬ ((l1 >>> (l3 &&& 31)) &&& 1) = 1 → Rg_X9_waterOf_4 G d l1 l2 (l3 + 1) h Q) ∧ (((l1 >>> (l3 &&& 31)) &&& 1) = 1 → vp_in l3 4 ∧ Rg_X9_waterOf_4 G d l1 (l2 + h.1 10 (Int32.toNatClampNeg l3)) (l3 + 1) h Q))))))) : Rg_X9_waterOf_4 G d l1 l2 l3 h Q := by
  show Rn G (d + 1) 0 0 mX9_waterOf 4 [(0, .inr (.inr (some 1))), (1, .inl l1), (2, .inl l2), (3, .inl l3)] [] SH h (QI Q)
  refine rn_iload_n dX9_waterOf_4 rfl rfl ?_
  refine rn_aload_n dX9_waterOf_5 rfl rfl ?_
  refine rn_get (v := .inl (h.1 1 0)) dX9_waterOf_6 fl_X9_60 rfl rfl rfl ?_
  refine rn_icmp_ge (tgt := 44) dX9_waterOf_9 (by decide) (fun c1 => ?_) (fun c1 => ?_)
  · replace V := V.1 c1
    refine rn_iload_n dX9_waterOf_44 rfl rfl ?_
    exact rn_iret dX9_waterOf_45 rfl ⟨rfl, hR, _, rfl, V⟩
  · replace V := V.2 c1
    refine rn_iload_n dX9_waterOf_12 rfl rfl ?_
    refine rn_iconst (v := 4) dX9_waterOf_13 (by decide) ?_
    refine rn_icmp_ge (tgt := 44) dX9_waterOf_14 (by decide) (fun c2 => ?_) (fun c2 => ?_)
    · replace V := V.1 c2
      refine rn_iload_n dX9_waterOf_44 rfl rfl ?_
      exact rn_iret dX9_waterOf_45 rfl ⟨rfl, hR, _, rfl, V⟩
    · replace V := V.2 c2
      refine rn_iload_n dX9_waterOf_17 rfl rfl ?_
      refine rn_iload_n dX9_waterOf_18 rfl rfl ?_
      refine rn_ishr dX9_waterOf_19 ?_
      refine rn_iconst (v := 1) dX9_waterOf_20 (by decide) ?_
      refine rn_iand dX9_waterOf_21 ?_
      refine rn_iconst (v := 1) dX9_waterOf_22 (by decide) ?_
      refine rn_icmp_ne (tgt := 38) dX9_waterOf_23 (by decide) (fun c3 => ?_) (fun c3 => ?_)
      · replace V := V.1 c3
        refine rn_iinc (L' := [(3, .inl (l3 + 1)), (0, .inr (.inr (some 1))), (1, .inl l1), (2, .inl l2)]) dX9_waterOf_38 rfl (v := (l3 + 1)) rfl (Nat.le_of_ble_eq_true rfl) rfl ?_
        refine rn_goto (tgt := 4) dX9_waterOf_41 (by decide) ?_
        refine rn_sub [1, 2, 3, 0] (L' := [(0, .inr (.inr (some 1))), (1, .inl l1), (2, .inl l2), (3, .inl (l3 + 1))]) rfl ?_
        exact V
      · replace V := V.2 c3
        refine rn_iload_n dX9_waterOf_26 rfl rfl ?_
        refine rn_aload_n dX9_waterOf_27 rfl rfl ?_
        refine rn_get (v := .inr (.inr (some 9))) dX9_waterOf_28 fl_X9_36 rfl rfl (congrArg (fun z => (Sum.inr (Sum.inr z) : MV)) (rf_1_9 hR)) ?_
        refine rn_get (v := .inr (.inr (some 10))) dX9_waterOf_31 fl_X9_89 rfl rfl (congrArg (fun z => (Sum.inr (Sum.inr z) : MV)) (rf_9_0 hR)) ?_
        refine rn_iload_n dX9_waterOf_34 rfl rfl ?_
        obtain ⟨g0, V⟩ := V
        refine rn_iald (k := (Int32.toNatClampNeg l3)) dX9_waterOf_35 rfl rfl g0 ?_
        refine rn_iadd dX9_waterOf_36 ?_
        refine rn_istore_n (L' := [(2, .inl (l2 + h.1 10 (Int32.toNatClampNeg l3))), (0, .inr (.inr (some 1))), (1, .inl l1), (3, .inl l3)]) dX9_waterOf_37 rfl (Nat.le_of_ble_eq_true rfl) rfl ?_
        refine rn_iinc (L' := [(3, .inl (l3 + 1)), (2, .inl (l2 + h.1 10 (Int32.toNatClampNeg l3))), (0, .inr (.inr (some 1))), (1, .inl l1)]) dX9_waterOf_38 rfl (v := (l3 + 1)) rfl (Nat.le_of_ble_eq_true rfl) rfl ?_
        refine rn_goto (tgt := 4) dX9_waterOf_41 (by decide) ?_
        refine rn_sub [2, 3, 1, 0] (L' := [(0, .inr (.inr (some 1))), (1, .inl l1), (2, .inl (l2 + h.1 10 (Int32.toNatClampNeg l3))), (3, .inl (l3 + 1))]) rfl ?_
        exact V
set_option maxRecDepth 100000 in
set_option maxHeartbeats 4000000 in
theorem vc_X9_waterOf {G : GT} {d : Nat} {a1 : Int32}  {h : Hp} {Q : Int32 → Hp → Prop} (hR : RF h) (V : Rg_X9_waterOf_4 G d a1 0 0 h Q) : EvI G (d + 1) mX9_waterOf [.inr (.inr (some 1)), .inl a1] h Q := by
  refine Ev.of rfl (fun _ => Nat.le_of_ble_eq_true rfl) ?_
  show Rn G (d + 1) 0 0 mX9_waterOf 0 [(0, .inr (.inr (some 1))), (1, .inl a1)] [] SH h (QI Q)
  refine rn_iconst (v := 0) dX9_waterOf_0 (by decide) ?_
  refine rn_istore_n (L' := [(2, .inl 0), (0, .inr (.inr (some 1))), (1, .inl a1)]) dX9_waterOf_1 rfl (Nat.le_of_ble_eq_true rfl) rfl ?_
  refine rn_iconst (v := 0) dX9_waterOf_2 (by decide) ?_
  refine rn_istore_n (L' := [(3, .inl 0), (2, .inl 0), (0, .inr (.inr (some 1))), (1, .inl a1)]) dX9_waterOf_3 rfl (Nat.le_of_ble_eq_true rfl) rfl ?_
  refine rn_sub [2, 3, 1, 0] (L' := [(0, .inr (.inr (some 1))), (1, .inl a1), (2, .inl 0), (3, .inl 0)]) rfl ?_
  exact V
set_option maxRecDepth 100000 in
set_option maxHeartbeats 4000000 in
theorem vc_X9_earBy {G : GT} {d : Nat} {a1 : Int32} {a2 : Int32} {a3 : Int32}  {h : Hp} {Q : Int32 → Hp → Prop} (hR : RF h) (V : EvI G d mX10_isThere [.inr (.inr (some 13))] h (fun x2 h1 => ((x2 = 0 → EvI G d mX11_held [.inl a1, .inl 0, .inl 999] h1 (fun x5 h4 => Q x5 h4)) ∧ (¬ x2 = 0 → EvI G d mX10_value [.inr (.inr (some 13)), .inl a1, .inl a2, .inl a3] h1 (fun x7 h6 => EvI G d mX11_held [.inl x7, .inl 0, .inl 999] h6 (fun x9 h8 => Q x9 h8)))))) : EvI G (d + 1) mX9_earBy [.inr (.inr (some 1)), .inl a1, .inl a2, .inl a3] h Q := by
  refine Ev.of rfl (fun _ => Nat.le_of_ble_eq_true rfl) ?_
  show Rn G (d + 1) 0 0 mX9_earBy 0 [(0, .inr (.inr (some 1))), (1, .inl a1), (2, .inl a2), (3, .inl a3)] [] SH h (QI Q)
  refine rn_aload_n dX9_earBy_0 rfl rfl ?_
  refine rn_get (v := .inr (.inr (some 13))) dX9_earBy_1 fl_X9_43 rfl rfl (congrArg (fun z => (Sum.inr (Sum.inr z) : MV)) (rf_1_10 hR)) ?_
  refine rn_cV (M' := mX10_isThere) (n := 0) (av := []) (S := []) (rc := 0) (rs := 0) (mc := 0) (ms := 0) (a := 13) (ci := 9) (r := (RX10, TX10, 3)) dX9_earBy_4 pa_X10_isThere (Nat.le_refl _) rfl (Nat.le_of_ble_eq_true rfl) ml_X9_111 im_X10_isThere se_X10_isThere rfl rfl rfl (Ev.mono V ?_)
  rintro v sh1 h1 ⟨rfl, Rh1, x2, rfl, V⟩
  show Rn G (d + 1) 0 0 mX9_earBy 7 [(0, .inr (.inr (some 1))), (1, .inl a1), (2, .inl a2), (3, .inl a3)] [.inl x2] SH h1 (QI Q)
  refine rn_if_eq (tgt := 23) dX9_earBy_7 (by decide) (fun c3 => ?_) (fun c3 => ?_)
  · replace V := V.1 c3
    refine rn_iload_n dX9_earBy_23 rfl rfl ?_
    refine rn_iconst (v := 0) dX9_earBy_24 (by decide) ?_
    refine rn_sipush (v := 999) dX9_earBy_25 (by decide) ?_
    refine rn_cSN (M' := mX11_held) (n := 3) (av := [.inl a1, .inl 0, .inl 999]) (S := []) (rc := 0) (rs := 0) (mc := 0) (ms := 0) dX9_earBy_28 pa_X11_held (Nat.le_refl _) rfl (Nat.le_of_ble_eq_true rfl) ml_X9_119 ss_X11_held rfl (Ev.mono V ?_)
    rintro v sh1 h4 ⟨rfl, Rh4, x5, rfl, V⟩
    show Rn G (d + 1) 0 0 mX9_earBy 31 [(0, .inr (.inr (some 1))), (1, .inl a1), (2, .inl a2), (3, .inl a3)] [.inl x5] SH h4 (QI Q)
    exact rn_iret dX9_earBy_31 rfl ⟨rfl, Rh4, _, rfl, V⟩
  · replace V := V.2 c3
    refine rn_aload_n dX9_earBy_10 rfl rfl ?_
    refine rn_get (v := .inr (.inr (some 13))) dX9_earBy_11 fl_X9_43 rfl rfl (congrArg (fun z => (Sum.inr (Sum.inr z) : MV)) (rf_1_10 Rh1)) ?_
    refine rn_iload_n dX9_earBy_14 rfl rfl ?_
    refine rn_iload_n dX9_earBy_15 rfl rfl ?_
    refine rn_iload_n dX9_earBy_16 rfl rfl ?_
    refine rn_cV (M' := mX10_value) (n := 3) (av := [.inl a1, .inl a2, .inl a3]) (S := []) (rc := 0) (rs := 0) (mc := 0) (ms := 0) (a := 13) (ci := 9) (r := (RX10, TX10, 3)) dX9_earBy_17 pa_X10_value (Nat.le_refl _) rfl (Nat.le_of_ble_eq_true rfl) ml_X9_115 im_X10_value se_X10_value rfl rfl rfl (Ev.mono V ?_)
    rintro v sh1 h6 ⟨rfl, Rh6, x7, rfl, V⟩
    show Rn G (d + 1) 0 0 mX9_earBy 20 [(0, .inr (.inr (some 1))), (1, .inl a1), (2, .inl a2), (3, .inl a3)] [.inl x7] SH h6 (QI Q)
    refine rn_goto (tgt := 24) dX9_earBy_20 (by decide) ?_
    refine rn_iconst (v := 0) dX9_earBy_24 (by decide) ?_
    refine rn_sipush (v := 999) dX9_earBy_25 (by decide) ?_
    refine rn_cSN (M' := mX11_held) (n := 3) (av := [.inl x7, .inl 0, .inl 999]) (S := []) (rc := 0) (rs := 0) (mc := 0) (ms := 0) dX9_earBy_28 pa_X11_held (Nat.le_refl _) rfl (Nat.le_of_ble_eq_true rfl) ml_X9_119 ss_X11_held rfl (Ev.mono V ?_)
    rintro v sh1 h8 ⟨rfl, Rh8, x9, rfl, V⟩
    show Rn G (d + 1) 0 0 mX9_earBy 31 [(0, .inr (.inr (some 1))), (1, .inl a1), (2, .inl a2), (3, .inl a3)] [.inl x9] SH h8 (QI Q)
    exact rn_iret dX9_earBy_31 rfl ⟨rfl, Rh8, _, rfl, V⟩
set_option maxRecDepth 100000 in
set_option maxHeartbeats 4000000 in
theorem vc_X9_spillBy {G : GT} {d : Nat} {a1 : Int32} {a2 : Int32} {a3 : Int32}  {h : Hp} {Q : Int32 → Hp → Prop} (hR : RF h) (V : EvI G d mX10_isThere [.inr (.inr (some 16))] h (fun x2 h1 => ((x2 = 0 → EvI G d mX11_held [.inl ((a1 * a3) / 50), .inl 0, .inl a1] h1 (fun x5 h4 => Q x5 h4)) ∧ (¬ x2 = 0 → EvI G d mX10_value [.inr (.inr (some 16)), .inl a1, .inl a2, .inl a3] h1 (fun x7 h6 => EvI G d mX11_held [.inl x7, .inl 0, .inl a1] h6 (fun x9 h8 => Q x9 h8)))))) : EvI G (d + 1) mX9_spillBy [.inr (.inr (some 1)), .inl a1, .inl a2, .inl a3] h Q := by
  refine Ev.of rfl (fun _ => Nat.le_of_ble_eq_true rfl) ?_
  show Rn G (d + 1) 0 0 mX9_spillBy 0 [(0, .inr (.inr (some 1))), (1, .inl a1), (2, .inl a2), (3, .inl a3)] [] SH h (QI Q)
  refine rn_aload_n dX9_spillBy_0 rfl rfl ?_
  refine rn_get (v := .inr (.inr (some 16))) dX9_spillBy_1 fl_X9_47 rfl rfl (congrArg (fun z => (Sum.inr (Sum.inr z) : MV)) (rf_1_11 hR)) ?_
  refine rn_cV (M' := mX10_isThere) (n := 0) (av := []) (S := []) (rc := 0) (rs := 0) (mc := 0) (ms := 0) (a := 16) (ci := 9) (r := (RX10, TX10, 3)) dX9_spillBy_4 pa_X10_isThere (Nat.le_refl _) rfl (Nat.le_of_ble_eq_true rfl) ml_X9_111 im_X10_isThere se_X10_isThere rfl rfl rfl (Ev.mono V ?_)
  rintro v sh1 h1 ⟨rfl, Rh1, x2, rfl, V⟩
  show Rn G (d + 1) 0 0 mX9_spillBy 7 [(0, .inr (.inr (some 1))), (1, .inl a1), (2, .inl a2), (3, .inl a3)] [.inl x2] SH h1 (QI Q)
  refine rn_if_eq (tgt := 23) dX9_spillBy_7 (by decide) (fun c3 => ?_) (fun c3 => ?_)
  · replace V := V.1 c3
    refine rn_iload_n dX9_spillBy_23 rfl rfl ?_
    refine rn_iload_n dX9_spillBy_24 rfl rfl ?_
    refine rn_imul dX9_spillBy_25 ?_
    refine rn_bipush (v := 50) dX9_spillBy_26 (by decide) ?_
    refine rn_idiv dX9_spillBy_28 (by decide) ?_
    refine rn_istore (L' := [(4, .inl ((a1 * a3) / 50)), (0, .inr (.inr (some 1))), (1, .inl a1), (2, .inl a2), (3, .inl a3)]) dX9_spillBy_29 (Nat.le_of_ble_eq_true rfl) rfl ?_
    refine rn_iload dX9_spillBy_31 rfl ?_
    refine rn_iconst (v := 0) dX9_spillBy_33 (by decide) ?_
    refine rn_iload_n dX9_spillBy_34 rfl rfl ?_
    refine rn_cSN (M' := mX11_held) (n := 3) (av := [.inl ((a1 * a3) / 50), .inl 0, .inl a1]) (S := []) (rc := 0) (rs := 0) (mc := 0) (ms := 0) dX9_spillBy_35 pa_X11_held (Nat.le_refl _) rfl (Nat.le_of_ble_eq_true rfl) ml_X9_119 ss_X11_held rfl (Ev.mono V ?_)
    rintro v sh1 h4 ⟨rfl, Rh4, x5, rfl, V⟩
    show Rn G (d + 1) 0 0 mX9_spillBy 38 [(4, .inl ((a1 * a3) / 50)), (0, .inr (.inr (some 1))), (1, .inl a1), (2, .inl a2), (3, .inl a3)] [.inl x5] SH h4 (QI Q)
    exact rn_iret dX9_spillBy_38 rfl ⟨rfl, Rh4, _, rfl, V⟩
  · replace V := V.2 c3
    refine rn_aload_n dX9_spillBy_10 rfl rfl ?_
    refine rn_get (v := .inr (.inr (some 16))) dX9_spillBy_11 fl_X9_47 rfl rfl (congrArg (fun z => (Sum.inr (Sum.inr z) : MV)) (rf_1_11 Rh1)) ?_
    refine rn_iload_n dX9_spillBy_14 rfl rfl ?_
    refine rn_iload_n dX9_spillBy_15 rfl rfl ?_
    refine rn_iload_n dX9_spillBy_16 rfl rfl ?_
    refine rn_cV (M' := mX10_value) (n := 3) (av := [.inl a1, .inl a2, .inl a3]) (S := []) (rc := 0) (rs := 0) (mc := 0) (ms := 0) (a := 16) (ci := 9) (r := (RX10, TX10, 3)) dX9_spillBy_17 pa_X10_value (Nat.le_refl _) rfl (Nat.le_of_ble_eq_true rfl) ml_X9_115 im_X10_value se_X10_value rfl rfl rfl (Ev.mono V ?_)
    rintro v sh1 h6 ⟨rfl, Rh6, x7, rfl, V⟩
    show Rn G (d + 1) 0 0 mX9_spillBy 20 [(0, .inr (.inr (some 1))), (1, .inl a1), (2, .inl a2), (3, .inl a3)] [.inl x7] SH h6 (QI Q)
    refine rn_goto (tgt := 29) dX9_spillBy_20 (by decide) ?_
    refine rn_istore (L' := [(4, .inl x7), (0, .inr (.inr (some 1))), (1, .inl a1), (2, .inl a2), (3, .inl a3)]) dX9_spillBy_29 (Nat.le_of_ble_eq_true rfl) rfl ?_
    refine rn_iload dX9_spillBy_31 rfl ?_
    refine rn_iconst (v := 0) dX9_spillBy_33 (by decide) ?_
    refine rn_iload_n dX9_spillBy_34 rfl rfl ?_
    refine rn_cSN (M' := mX11_held) (n := 3) (av := [.inl x7, .inl 0, .inl a1]) (S := []) (rc := 0) (rs := 0) (mc := 0) (ms := 0) dX9_spillBy_35 pa_X11_held (Nat.le_refl _) rfl (Nat.le_of_ble_eq_true rfl) ml_X9_119 ss_X11_held rfl (Ev.mono V ?_)
    rintro v sh1 h8 ⟨rfl, Rh8, x9, rfl, V⟩
    show Rn G (d + 1) 0 0 mX9_spillBy 38 [(4, .inl x7), (0, .inr (.inr (some 1))), (1, .inl a1), (2, .inl a2), (3, .inl a3)] [.inl x9] SH h8 (QI Q)
    exact rn_iret dX9_spillBy_38 rfl ⟨rfl, Rh8, _, rfl, V⟩
set_option maxRecDepth 100000 in
set_option maxHeartbeats 4000000 in
theorem vc_X9_speaker {G : GT} {d : Nat} {a1 : Nat} (ha1 : SH[a1]? = some (.inl 2)) {h : Hp} {Q : Int32 → Hp → Prop} (hR : RF h) (V : EvI G d mX9_hasWord [.inr (.inr (some 1)), .inl (h.1 a1 6)] h (fun x2 h1 => ((x2 = 0 → Q (-1) h1) ∧ (¬ x2 = 0 → vp_in (h1.1 a1 6) 12 ∧ Q (h1.1 5 (Int32.toNatClampNeg (h1.1 a1 6))) h1)))) : EvI G (d + 1) mX9_speaker [.inr (.inr (some 1)), .inr (.inr (some a1))] h Q := by
  refine Ev.of rfl (fun _ => Nat.le_of_ble_eq_true rfl) ?_
  show Rn G (d + 1) 0 0 mX9_speaker 0 [(0, .inr (.inr (some 1))), (1, .inr (.inr (some a1)))] [] SH h (QI Q)
  refine rn_aload_n dX9_speaker_0 rfl rfl ?_
  refine rn_aload_n dX9_speaker_1 rfl rfl ?_
  refine rn_get (v := .inl (h.1 a1 6)) dX9_speaker_2 fl_X9_122 ha1 rfl rfl ?_
  refine rn_cV (M' := mX9_hasWord) (n := 1) (av := [.inl (h.1 a1 6)]) (S := []) (rc := 0) (rs := 0) (mc := 0) (ms := 0) (a := 1) (ci := 8) (r := (RX9, TX9, 17)) dX9_speaker_5 pa_X9_hasWord (Nat.le_refl _) rfl (Nat.le_of_ble_eq_true rfl) ml_X9_125 im_X9_hasWord se_X9_hasWord rfl rfl rfl (Ev.mono V ?_)
  rintro v sh1 h1 ⟨rfl, Rh1, x2, rfl, V⟩
  show Rn G (d + 1) 0 0 mX9_speaker 8 [(0, .inr (.inr (some 1))), (1, .inr (.inr (some a1)))] [.inl x2] SH h1 (QI Q)
  refine rn_if_eq (tgt := 23) dX9_speaker_8 (by decide) (fun c3 => ?_) (fun c3 => ?_)
  · replace V := V.1 c3
    refine rn_iconst (v := (-1)) dX9_speaker_23 (by decide) ?_
    exact rn_iret dX9_speaker_24 rfl ⟨rfl, Rh1, _, rfl, V⟩
  · replace V := V.2 c3
    refine rn_aload_n dX9_speaker_11 rfl rfl ?_
    refine rn_get (v := .inr (.inr (some 5))) dX9_speaker_12 fl_X9_21 rfl rfl (congrArg (fun z => (Sum.inr (Sum.inr z) : MV)) (rf_1_5 Rh1)) ?_
    refine rn_aload_n dX9_speaker_15 rfl rfl ?_
    refine rn_get (v := .inl (h1.1 a1 6)) dX9_speaker_16 fl_X9_122 ha1 rfl rfl ?_
    obtain ⟨g0, V⟩ := V
    refine rn_iald (k := (Int32.toNatClampNeg (h1.1 a1 6))) dX9_speaker_19 rfl rfl g0 ?_
    refine rn_goto (tgt := 24) dX9_speaker_20 (by decide) ?_
    exact rn_iret dX9_speaker_24 rfl ⟨rfl, Rh1, _, rfl, V⟩
set_option maxRecDepth 100000 in
set_option maxHeartbeats 4000000 in
theorem vc_X9_isFree {G : GT} {d : Nat} {a1 : Nat} {a2 : Int32} (ha1 : SH[a1]? = some (.inl 2)) {h : Hp} {Q : Int32 → Hp → Prop} (hR : RF h) (V : EvI G d mX9_hasWord [.inr (.inr (some 1)), .inl a2] h (fun x2 h1 => ((¬ x2 = 0 → vp_in a2 12 ∧ EvI G d mX9_hasWord [.inr (.inr (some 1)), .inl (h1.1 8 (Int32.toNatClampNeg a2))] h1 (fun x5 h4 => ((x5 = 0 → Q 1 h4) ∧ (¬ x5 = 0 → vp_in (h1.1 8 (Int32.toNatClampNeg a2)) 12 ∧ ((¬ h4.1 (a1 + 3) (Int32.toNatClampNeg (h1.1 8 (Int32.toNatClampNeg a2))) = 1 → Q 0 h4) ∧ (h4.1 (a1 + 3) (Int32.toNatClampNeg (h1.1 8 (Int32.toNatClampNeg a2))) = 1 → Q 1 h4)))))) ∧ (x2 = 0 → Q 0 h1)))) : EvI G (d + 1) mX9_isFree [.inr (.inr (some 1)), .inr (.inr (some a1)), .inl a2] h Q := by
  refine Ev.of rfl (fun _ => Nat.le_of_ble_eq_true rfl) ?_
  show Rn G (d + 1) 0 0 mX9_isFree 0 [(0, .inr (.inr (some 1))), (1, .inr (.inr (some a1))), (2, .inl a2)] [] SH h (QI Q)
  refine rn_aload_n dX9_isFree_0 rfl rfl ?_
  refine rn_iload_n dX9_isFree_1 rfl rfl ?_
  refine rn_cV (M' := mX9_hasWord) (n := 1) (av := [.inl a2]) (S := []) (rc := 0) (rs := 0) (mc := 0) (ms := 0) (a := 1) (ci := 8) (r := (RX9, TX9, 17)) dX9_isFree_2 pa_X9_hasWord (Nat.le_refl _) rfl (Nat.le_of_ble_eq_true rfl) ml_X9_125 im_X9_hasWord se_X9_hasWord rfl rfl rfl (Ev.mono V ?_)
  rintro v sh1 h1 ⟨rfl, Rh1, x2, rfl, V⟩
  show Rn G (d + 1) 0 0 mX9_isFree 5 [(0, .inr (.inr (some 1))), (1, .inr (.inr (some a1))), (2, .inl a2)] [.inl x2] SH h1 (QI Q)
  refine rn_if_ne (tgt := 10) dX9_isFree_5 (by decide) (fun c3 => ?_) (fun c3 => ?_)
  · replace V := V.1 c3
    refine rn_aload_n dX9_isFree_10 rfl rfl ?_
    refine rn_get (v := .inr (.inr (some 8))) dX9_isFree_11 fl_X9_30 rfl rfl (congrArg (fun z => (Sum.inr (Sum.inr z) : MV)) (rf_1_8 Rh1)) ?_
    refine rn_iload_n dX9_isFree_14 rfl rfl ?_
    obtain ⟨g0, V⟩ := V
    refine rn_iald (k := (Int32.toNatClampNeg a2)) dX9_isFree_15 rfl rfl g0 ?_
    refine rn_istore_n (L' := [(3, .inl (h1.1 8 (Int32.toNatClampNeg a2))), (0, .inr (.inr (some 1))), (1, .inr (.inr (some a1))), (2, .inl a2)]) dX9_isFree_16 rfl (Nat.le_of_ble_eq_true rfl) rfl ?_
    refine rn_aload_n dX9_isFree_17 rfl rfl ?_
    refine rn_iload_n dX9_isFree_18 rfl rfl ?_
    refine rn_cV (M' := mX9_hasWord) (n := 1) (av := [.inl (h1.1 8 (Int32.toNatClampNeg a2))]) (S := []) (rc := 0) (rs := 0) (mc := 0) (ms := 0) (a := 1) (ci := 8) (r := (RX9, TX9, 17)) dX9_isFree_19 pa_X9_hasWord (Nat.le_refl _) rfl (Nat.le_of_ble_eq_true rfl) ml_X9_125 im_X9_hasWord se_X9_hasWord rfl rfl rfl (Ev.mono V ?_)
    rintro v sh1 h4 ⟨rfl, Rh4, x5, rfl, V⟩
    show Rn G (d + 1) 0 0 mX9_isFree 22 [(3, .inl (h1.1 8 (Int32.toNatClampNeg a2))), (0, .inr (.inr (some 1))), (1, .inr (.inr (some a1))), (2, .inl a2)] [.inl x5] SH h4 (QI Q)
    refine rn_if_eq (tgt := 35) dX9_isFree_22 (by decide) (fun c6 => ?_) (fun c6 => ?_)
    · replace V := V.1 c6
      refine rn_iconst (v := 1) dX9_isFree_35 (by decide) ?_
      refine rn_goto (tgt := 40) dX9_isFree_36 (by decide) ?_
      exact rn_zret dX9_isFree_40 rfl (by decide) ⟨rfl, Rh4, _, rfl, V⟩
    · replace V := V.2 c6
      refine rn_aload_n dX9_isFree_25 rfl rfl ?_
      refine rn_get (v := .inr (.inr (some (a1 + 3)))) dX9_isFree_26 fl_X9_95 ha1 rfl (congrArg (fun z => (Sum.inr (Sum.inr z) : MV)) (fl_how Rh4 ha1)) ?_
      refine rn_iload_n dX9_isFree_29 rfl rfl ?_
      obtain ⟨g0, V⟩ := V
      refine rn_iald (k := (Int32.toNatClampNeg (h1.1 8 (Int32.toNatClampNeg a2)))) dX9_isFree_30 (fl_sh3 ha1) rfl g0 ?_
      refine rn_iconst (v := 1) dX9_isFree_31 (by decide) ?_
      refine rn_icmp_ne (tgt := 39) dX9_isFree_32 (by decide) (fun c7 => ?_) (fun c7 => ?_)
      · replace V := V.1 c7
        refine rn_iconst (v := 0) dX9_isFree_39 (by decide) ?_
        exact rn_zret dX9_isFree_40 rfl (by decide) ⟨rfl, Rh4, _, rfl, V⟩
      · replace V := V.2 c7
        refine rn_iconst (v := 1) dX9_isFree_35 (by decide) ?_
        refine rn_goto (tgt := 40) dX9_isFree_36 (by decide) ?_
        exact rn_zret dX9_isFree_40 rfl (by decide) ⟨rfl, Rh4, _, rfl, V⟩
  · replace V := V.2 c3
    refine rn_iconst (v := 0) dX9_isFree_8 (by decide) ?_
    exact rn_zret dX9_isFree_9 rfl (by decide) ⟨rfl, Rh1, _, rfl, V⟩
set_option maxRecDepth 100000 in
set_option maxHeartbeats 4000000 in
theorem vc_X9_maySay {G : GT} {d : Nat} {a1 : Nat} {a2 : Int32} (ha1 : SH[a1]? = some (.inl 2)) {h : Hp} {Q : Int32 → Hp → Prop} (hR : RF h) (V : ((¬ h.1 a1 6 = (-1) → Q 0 h) ∧ (h.1 a1 6 = (-1) → EvI G d mX9_hasWord [.inr (.inr (some 1)), .inl a2] h (fun x3 h2 => ((x3 = 0 → Q 0 h2) ∧ (¬ x3 = 0 → vp_in a2 12 ∧ ((¬ h2.1 (a1 + 3) (Int32.toNatClampNeg a2) = 0 → Q 0 h2) ∧ (h2.1 (a1 + 3) (Int32.toNatClampNeg a2) = 0 → EvI G d mX9_isFree [.inr (.inr (some 1)), .inr (.inr (some a1)), .inl a2] h2 (fun x7 h6 => ((x7 = 0 → Q 0 h6) ∧ (¬ x7 = 0 → Q 1 h6))))))))))) : EvI G (d + 1) mX9_maySay [.inr (.inr (some 1)), .inr (.inr (some a1)), .inl a2] h Q := by
  refine Ev.of rfl (fun _ => Nat.le_of_ble_eq_true rfl) ?_
  show Rn G (d + 1) 0 0 mX9_maySay 0 [(0, .inr (.inr (some 1))), (1, .inr (.inr (some a1))), (2, .inl a2)] [] SH h (QI Q)
  refine rn_aload_n dX9_maySay_0 rfl rfl ?_
  refine rn_get (v := .inl (h.1 a1 6)) dX9_maySay_1 fl_X9_122 ha1 rfl rfl ?_
  refine rn_iconst (v := (-1)) dX9_maySay_4 (by decide) ?_
  refine rn_icmp_ne (tgt := 38) dX9_maySay_5 (by decide) (fun c1 => ?_) (fun c1 => ?_)
  · replace V := V.1 c1
    refine rn_iconst (v := 0) dX9_maySay_38 (by decide) ?_
    exact rn_zret dX9_maySay_39 rfl (by decide) ⟨rfl, hR, _, rfl, V⟩
  · replace V := V.2 c1
    refine rn_aload_n dX9_maySay_8 rfl rfl ?_
    refine rn_iload_n dX9_maySay_9 rfl rfl ?_
    refine rn_cV (M' := mX9_hasWord) (n := 1) (av := [.inl a2]) (S := []) (rc := 0) (rs := 0) (mc := 0) (ms := 0) (a := 1) (ci := 8) (r := (RX9, TX9, 17)) dX9_maySay_10 pa_X9_hasWord (Nat.le_refl _) rfl (Nat.le_of_ble_eq_true rfl) ml_X9_125 im_X9_hasWord se_X9_hasWord rfl rfl rfl (Ev.mono V ?_)
    rintro v sh1 h2 ⟨rfl, Rh2, x3, rfl, V⟩
    show Rn G (d + 1) 0 0 mX9_maySay 13 [(0, .inr (.inr (some 1))), (1, .inr (.inr (some a1))), (2, .inl a2)] [.inl x3] SH h2 (QI Q)
    refine rn_if_eq (tgt := 38) dX9_maySay_13 (by decide) (fun c4 => ?_) (fun c4 => ?_)
    · replace V := V.1 c4
      refine rn_iconst (v := 0) dX9_maySay_38 (by decide) ?_
      exact rn_zret dX9_maySay_39 rfl (by decide) ⟨rfl, Rh2, _, rfl, V⟩
    · replace V := V.2 c4
      refine rn_aload_n dX9_maySay_16 rfl rfl ?_
      refine rn_get (v := .inr (.inr (some (a1 + 3)))) dX9_maySay_17 fl_X9_95 ha1 rfl (congrArg (fun z => (Sum.inr (Sum.inr z) : MV)) (fl_how Rh2 ha1)) ?_
      refine rn_iload_n dX9_maySay_20 rfl rfl ?_
      obtain ⟨g0, V⟩ := V
      refine rn_iald (k := (Int32.toNatClampNeg a2)) dX9_maySay_21 (fl_sh3 ha1) rfl g0 ?_
      refine rn_if_ne (tgt := 38) dX9_maySay_22 (by decide) (fun c5 => ?_) (fun c5 => ?_)
      · replace V := V.1 c5
        refine rn_iconst (v := 0) dX9_maySay_38 (by decide) ?_
        exact rn_zret dX9_maySay_39 rfl (by decide) ⟨rfl, Rh2, _, rfl, V⟩
      · replace V := V.2 c5
        refine rn_aload_n dX9_maySay_25 rfl rfl ?_
        refine rn_aload_n dX9_maySay_26 rfl rfl ?_
        refine rn_iload_n dX9_maySay_27 rfl rfl ?_
        refine rn_cV (M' := mX9_isFree) (n := 2) (av := [.inr (.inr (some a1)), .inl a2]) (S := []) (rc := 0) (rs := 0) (mc := 0) (ms := 0) (a := 1) (ci := 8) (r := (RX9, TX9, 17)) dX9_maySay_28 pa_X9_isFree (Nat.le_refl _) rfl (Nat.le_of_ble_eq_true rfl) ml_X9_128 im_X9_isFree se_X9_isFree rfl rfl rfl (Ev.mono V ?_)
        rintro v sh1 h6 ⟨rfl, Rh6, x7, rfl, V⟩
        show Rn G (d + 1) 0 0 mX9_maySay 31 [(0, .inr (.inr (some 1))), (1, .inr (.inr (some a1))), (2, .inl a2)] [.inl x7] SH h6 (QI Q)
        refine rn_if_eq (tgt := 38) dX9_maySay_31 (by decide) (fun c8 => ?_) (fun c8 => ?_)
        · replace V := V.1 c8
          refine rn_iconst (v := 0) dX9_maySay_38 (by decide) ?_
          exact rn_zret dX9_maySay_39 rfl (by decide) ⟨rfl, Rh6, _, rfl, V⟩
        · replace V := V.2 c8
          refine rn_iconst (v := 1) dX9_maySay_34 (by decide) ?_
          refine rn_goto (tgt := 39) dX9_maySay_35 (by decide) ?_
          exact rn_zret dX9_maySay_39 rfl (by decide) ⟨rfl, Rh6, _, rfl, V⟩
set_option maxRecDepth 100000 in
set_option maxHeartbeats 4000000 in
theorem vc_X9_begin {G : GT} {d : Nat} {a1 : Nat} {a2 : Int32} (ha1 : SH[a1]? = some (.inl 2)) {h : Hp} {Q : Hp → Prop} (hR : RF h) (V : EvI G d mX9_hasWord [.inr (.inr (some 1)), .inl a2] h (fun x2 h1 => ((x2 = 0 → Q h1) ∧ (¬ x2 = 0 → vp_in a2 12 ∧ Q (sI (sI h1 a1 6 a2) a1 7 ((sI h1 a1 6 a2).1 6 (Int32.toNatClampNeg a2))))))) : EvV G (d + 1) mX9_begin [.inr (.inr (some 1)), .inr (.inr (some a1)), .inl a2] h Q := by
  refine Ev.of rfl (fun _ => Nat.le_of_ble_eq_true rfl) ?_
  show Rn G (d + 1) 0 0 mX9_begin 0 [(0, .inr (.inr (some 1))), (1, .inr (.inr (some a1))), (2, .inl a2)] [] SH h (QV Q)
  refine rn_aload_n dX9_begin_0 rfl rfl ?_
  refine rn_iload_n dX9_begin_1 rfl rfl ?_
  refine rn_cV (M' := mX9_hasWord) (n := 1) (av := [.inl a2]) (S := []) (rc := 0) (rs := 0) (mc := 0) (ms := 0) (a := 1) (ci := 8) (r := (RX9, TX9, 17)) dX9_begin_2 pa_X9_hasWord (Nat.le_refl _) rfl (Nat.le_of_ble_eq_true rfl) ml_X9_125 im_X9_hasWord se_X9_hasWord rfl rfl rfl (Ev.mono V ?_)
  rintro v sh1 h1 ⟨rfl, Rh1, x2, rfl, V⟩
  show Rn G (d + 1) 0 0 mX9_begin 5 [(0, .inr (.inr (some 1))), (1, .inr (.inr (some a1))), (2, .inl a2)] [.inl x2] SH h1 (QV Q)
  refine rn_if_eq (tgt := 23) dX9_begin_5 (by decide) (fun c3 => ?_) (fun c3 => ?_)
  · replace V := V.1 c3
    exact rn_vret dX9_begin_23 rfl ⟨rfl, Rh1, rfl, V⟩
  · replace V := V.2 c3
    refine rn_aload_n dX9_begin_8 rfl rfl ?_
    refine rn_iload_n dX9_begin_9 rfl rfl ?_
    refine rn_putI dX9_begin_10 fl_X9_122 ha1 rfl (Or.inl rfl) rfl rfl ?_
    refine rn_aload_n dX9_begin_13 rfl rfl ?_
    refine rn_aload_n dX9_begin_14 rfl rfl ?_
    refine rn_get (v := .inr (.inr (some 6))) dX9_begin_15 fl_X9_24 rfl rfl (congrArg (fun z => (Sum.inr (Sum.inr z) : MV)) (rf_1_6 Rh1)) ?_
    refine rn_iload_n dX9_begin_18 rfl rfl ?_
    obtain ⟨g0, V⟩ := V
    refine rn_iald (k := (Int32.toNatClampNeg a2)) dX9_begin_19 rfl rfl g0 ?_
    refine rn_putI dX9_begin_20 fl_X9_132 ha1 rfl (Or.inl rfl) rfl rfl ?_
    exact rn_vret dX9_begin_23 rfl ⟨rfl, Rh1, rfl, V⟩
set_option maxRecDepth 100000 in
set_option maxHeartbeats 4000000 in
theorem vc_X9_tillEnd {G : GT} {d : Nat} {a1 : Nat} (ha1 : SH[a1]? = some (.inl 2)) {h : Hp} {Q : Int32 → Hp → Prop} (hR : RF h) (V : EvI G d mX9_speaker [.inr (.inr (some 1)), .inr (.inr (some a1))] h (fun x2 h1 => EvI G d mX9_hasParty [.inr (.inr (some 1)), .inl x2] h1 (fun x4 h3 => ((¬ x4 = 0 → vp_in x2 4 ∧ EvI G d mX9_runs [.inr (.inr (some 1)), .inl x2] h3 (fun x7 h6 => EvI G d mX11_quotient [.inl (h3.1 (a1 + 1) (Int32.toNatClampNeg x2)), .inl x7] h6 (fun x9 h8 => ((x9 < h8.1 a1 7 → Q (x9 + 1) h8) ∧ (¬ x9 < h8.1 a1 7 → Q (h8.1 a1 7) h8))))) ∧ (x4 = 0 → Q 0 h3))))) : EvI G (d + 1) mX9_tillEnd [.inr (.inr (some 1)), .inr (.inr (some a1))] h Q := by
  refine Ev.of rfl (fun _ => Nat.le_of_ble_eq_true rfl) ?_
  show Rn G (d + 1) 0 0 mX9_tillEnd 0 [(0, .inr (.inr (some 1))), (1, .inr (.inr (some a1)))] [] SH h (QI Q)
  refine rn_aload_n dX9_tillEnd_0 rfl rfl ?_
  refine rn_aload_n dX9_tillEnd_1 rfl rfl ?_
  refine rn_cV (M' := mX9_speaker) (n := 1) (av := [.inr (.inr (some a1))]) (S := []) (rc := 0) (rs := 0) (mc := 0) (ms := 0) (a := 1) (ci := 8) (r := (RX9, TX9, 17)) dX9_tillEnd_2 pa_X9_speaker (Nat.le_refl _) rfl (Nat.le_of_ble_eq_true rfl) ml_X9_135 im_X9_speaker se_X9_speaker rfl rfl rfl (Ev.mono V ?_)
  rintro v sh1 h1 ⟨rfl, Rh1, x2, rfl, V⟩
  show Rn G (d + 1) 0 0 mX9_tillEnd 5 [(0, .inr (.inr (some 1))), (1, .inr (.inr (some a1)))] [.inl x2] SH h1 (QI Q)
  refine rn_istore_n (L' := [(2, .inl x2), (0, .inr (.inr (some 1))), (1, .inr (.inr (some a1)))]) dX9_tillEnd_5 rfl (Nat.le_of_ble_eq_true rfl) rfl ?_
  refine rn_aload_n dX9_tillEnd_6 rfl rfl ?_
  refine rn_iload_n dX9_tillEnd_7 rfl rfl ?_
  refine rn_cV (M' := mX9_hasParty) (n := 1) (av := [.inl x2]) (S := []) (rc := 0) (rs := 0) (mc := 0) (ms := 0) (a := 1) (ci := 8) (r := (RX9, TX9, 17)) dX9_tillEnd_8 pa_X9_hasParty (Nat.le_refl _) rfl (Nat.le_of_ble_eq_true rfl) ml_X9_98 im_X9_hasParty se_X9_hasParty rfl rfl rfl (Ev.mono V ?_)
  rintro v sh1 h3 ⟨rfl, Rh3, x4, rfl, V⟩
  show Rn G (d + 1) 0 0 mX9_tillEnd 11 [(2, .inl x2), (0, .inr (.inr (some 1))), (1, .inr (.inr (some a1)))] [.inl x4] SH h3 (QI Q)
  refine rn_if_ne (tgt := 16) dX9_tillEnd_11 (by decide) (fun c5 => ?_) (fun c5 => ?_)
  · replace V := V.1 c5
    refine rn_aload_n dX9_tillEnd_16 rfl rfl ?_
    refine rn_get (v := .inr (.inr (some (a1 + 1)))) dX9_tillEnd_17 fl_X9_89 ha1 rfl (congrArg (fun z => (Sum.inr (Sum.inr z) : MV)) (fl_water Rh3 ha1)) ?_
    refine rn_iload_n dX9_tillEnd_20 rfl rfl ?_
    obtain ⟨g0, V⟩ := V
    refine rn_iald (k := (Int32.toNatClampNeg x2)) dX9_tillEnd_21 (fl_sh1 ha1) rfl g0 ?_
    refine rn_aload_n dX9_tillEnd_22 rfl rfl ?_
    refine rn_iload_n dX9_tillEnd_23 rfl rfl ?_
    refine rn_cV (M' := mX9_runs) (n := 1) (av := [.inl x2]) (S := [.inl (h3.1 (a1 + 1) (Int32.toNatClampNeg x2))]) (rc := 0) (rs := 0) (mc := 0) (ms := 0) (a := 1) (ci := 8) (r := (RX9, TX9, 17)) dX9_tillEnd_24 pa_X9_runs (Nat.le_refl _) rfl (Nat.le_of_ble_eq_true rfl) ml_X9_139 im_X9_runs se_X9_runs rfl rfl rfl (Ev.mono V ?_)
    rintro v sh1 h6 ⟨rfl, Rh6, x7, rfl, V⟩
    show Rn G (d + 1) 0 0 mX9_tillEnd 27 [(2, .inl x2), (0, .inr (.inr (some 1))), (1, .inr (.inr (some a1)))] [.inl x7, .inl (h3.1 (a1 + 1) (Int32.toNatClampNeg x2))] SH h6 (QI Q)
    refine rn_cSN (M' := mX11_quotient) (n := 2) (av := [.inl (h3.1 (a1 + 1) (Int32.toNatClampNeg x2)), .inl x7]) (S := []) (rc := 0) (rs := 0) (mc := 0) (ms := 0) dX9_tillEnd_27 pa_X11_quotient (Nat.le_refl _) rfl (Nat.le_of_ble_eq_true rfl) ml_X9_142 ss_X11_quotient rfl (Ev.mono V ?_)
    rintro v sh1 h8 ⟨rfl, Rh8, x9, rfl, V⟩
    show Rn G (d + 1) 0 0 mX9_tillEnd 30 [(2, .inl x2), (0, .inr (.inr (some 1))), (1, .inr (.inr (some a1)))] [.inl x9] SH h8 (QI Q)
    refine rn_istore_n (L' := [(3, .inl x9), (2, .inl x2), (0, .inr (.inr (some 1))), (1, .inr (.inr (some a1)))]) dX9_tillEnd_30 rfl (Nat.le_of_ble_eq_true rfl) rfl ?_
    refine rn_iload_n dX9_tillEnd_31 rfl rfl ?_
    refine rn_aload_n dX9_tillEnd_32 rfl rfl ?_
    refine rn_get (v := .inl (h8.1 a1 7)) dX9_tillEnd_33 fl_X9_132 ha1 rfl rfl ?_
    refine rn_icmp_lt (tgt := 46) dX9_tillEnd_36 (by decide) (fun c10 => ?_) (fun c10 => ?_)
    · replace V := V.1 c10
      refine rn_iload_n dX9_tillEnd_46 rfl rfl ?_
      refine rn_iconst (v := 1) dX9_tillEnd_47 (by decide) ?_
      refine rn_iadd dX9_tillEnd_48 ?_
      exact rn_iret dX9_tillEnd_49 rfl ⟨rfl, Rh8, _, rfl, V⟩
    · replace V := V.2 c10
      refine rn_aload_n dX9_tillEnd_39 rfl rfl ?_
      refine rn_get (v := .inl (h8.1 a1 7)) dX9_tillEnd_40 fl_X9_132 ha1 rfl rfl ?_
      refine rn_goto (tgt := 49) dX9_tillEnd_43 (by decide) ?_
      exact rn_iret dX9_tillEnd_49 rfl ⟨rfl, Rh8, _, rfl, V⟩
  · replace V := V.2 c5
    refine rn_iconst (v := 0) dX9_tillEnd_14 (by decide) ?_
    exact rn_iret dX9_tillEnd_15 rfl ⟨rfl, Rh3, _, rfl, V⟩
set_option maxRecDepth 100000 in
set_option maxHeartbeats 4000000 in
theorem vc_X9_pass {G : GT} {d : Nat} {a1 : Nat} {a2 : Int32} (ha1 : SH[a1]? = some (.inl 2)) {h : Hp} {Q : Hp → Prop} (hR : RF h) (V : ((h.1 a1 5 = 0 → EvI G d mX9_speaker [.inr (.inr (some 1)), .inr (.inr (some a1))] (sI h a1 3 (h.1 a1 3 + a2)) (fun x3 h2 => EvI G d mX9_tillEnd [.inr (.inr (some 1)), .inr (.inr (some a1))] h2 (fun x5 h4 => EvI G d mX9_hasWord [.inr (.inr (some 1)), .inl (h.1 a1 6)] h4 (fun x7 h6 => ((x7 = 0 → ((a2 ≤ (if x5 < a2 then x5 else a2) → Q h6) ∧ (¬ a2 ≤ (if x5 < a2 then x5 else a2) → EvV G d mX9_drain [.inr (.inr (some 1)), .inr (.inr (some a1)), .inl (a2 - (if x5 < a2 then x5 else a2))] h6 (fun h10 => Q h10)))) ∧ (¬ x7 = 0 → EvI G d mX9_hasParty [.inr (.inr (some 1)), .inl x3] h6 (fun x12 h11 => ((x12 = 0 → ((a2 ≤ (if x5 < a2 then x5 else a2) → Q h11) ∧ (¬ a2 ≤ (if x5 < a2 then x5 else a2) → EvV G d mX9_drain [.inr (.inr (some 1)), .inr (.inr (some a1)), .inl (a2 - (if x5 < a2 then x5 else a2))] h11 (fun h15 => Q h15)))) ∧ (¬ x12 = 0 → (((if x5 < a2 then x5 else a2) ≤ 0 → ((a2 ≤ (if x5 < a2 then x5 else a2) → Q h11) ∧ (¬ a2 ≤ (if x5 < a2 then x5 else a2) → EvV G d mX9_drain [.inr (.inr (some 1)), .inr (.inr (some a1)), .inl (a2 - (if x5 < a2 then x5 else a2))] h11 (fun h18 => Q h18)))) ∧ (¬ (if x5 < a2 then x5 else a2) ≤ 0 → vp_in x3 4 ∧ EvI G d mX9_runs [.inr (.inr (some 1)), .inl x3] h11 (fun x20 h19 => ((((if x5 < a2 then x5 else a2) * x20) ≤ h11.1 (a1 + 1) (Int32.toNatClampNeg x3) → EvV G d mX9_drain [.inr (.inr (some 1)), .inr (.inr (some a1)), .inl (if x5 < a2 then x5 else a2)] h19 (fun h22 => ((0 < (h22.1 a1 7 - (if x5 < a2 then x5 else a2)) → ((a2 ≤ (if x5 < a2 then x5 else a2) → Q (sI h22 a1 7 (h22.1 a1 7 - (if x5 < a2 then x5 else a2)))) ∧ (¬ a2 ≤ (if x5 < a2 then x5 else a2) → EvV G d mX9_drain [.inr (.inr (some 1)), .inr (.inr (some a1)), .inl (a2 - (if x5 < a2 then x5 else a2))] (sI h22 a1 7 (h22.1 a1 7 - (if x5 < a2 then x5 else a2))) (fun h26 => Q h26)))) ∧ (¬ 0 < (h22.1 a1 7 - (if x5 < a2 then x5 else a2)) → vp_in x3 4 ∧ vp_in (h.1 a1 6) 12 ∧ vp_in (h.1 a1 6) 12 ∧ EvI G d mX9_earBy [.inr (.inr (some 1)), .inl ((sI h22 a1 7 (h22.1 a1 7 - (if x5 < a2 then x5 else a2))).1 7 (Int32.toNatClampNeg (h.1 a1 6))), .inl ((sI h22 a1 7 (h22.1 a1 7 - (if x5 < a2 then x5 else a2))).1 6 (Int32.toNatClampNeg (h.1 a1 6))), .inl ((sI h22 a1 7 (h22.1 a1 7 - (if x5 < a2 then x5 else a2))).1 (a1 + 2) (Int32.toNatClampNeg x3))] (sI h22 a1 7 (h22.1 a1 7 - (if x5 < a2 then x5 else a2))) (fun x28 h27 => vp_in x3 4 ∧ ∀ h29 : Hp, h29 = (sI h27 (a1 + 2) (Int32.toNatClampNeg x3) (if ((sI h22 a1 7 (h22.1 a1 7 - (if x5 < a2 then x5 else a2))).1 (a1 + 2) (Int32.toNatClampNeg x3) + x28) < 99999 then ((sI h22 a1 7 (h22.1 a1 7 - (if x5 < a2 then x5 else a2))).1 (a1 + 2) (Int32.toNatClampNeg x3) + x28) else 99999)) → EvV G d mX2_end [.inr (.inr (some a1)), .inl (h.1 a1 6), .inl 1] h29 (fun h30 => ((a2 ≤ (if x5 < a2 then x5 else a2) → Q h30) ∧ (¬ a2 ≤ (if x5 < a2 then x5 else a2) → EvV G d mX9_drain [.inr (.inr (some 1)), .inr (.inr (some a1)), .inl (a2 - (if x5 < a2 then x5 else a2))] h30 (fun h32 => Q h32))))))))) ∧ (¬ ((if x5 < a2 then x5 else a2) * x20) ≤ h11.1 (a1 + 1) (Int32.toNatClampNeg x3) → EvV G d mX9_drain [.inr (.inr (some 1)), .inr (.inr (some a1)), .inl (if x5 < a2 then x5 else a2)] h19 (fun h33 => EvV G d mX2_end [.inr (.inr (some a1)), .inl (h.1 a1 6), .inl 2] (sI h33 a1 7 (h33.1 a1 7 - (if x5 < a2 then x5 else a2))) (fun h35 => ((a2 ≤ (if x5 < a2 then x5 else a2) → Q h35) ∧ (¬ a2 ≤ (if x5 < a2 then x5 else a2) → EvV G d mX9_drain [.inr (.inr (some 1)), .inr (.inr (some a1)), .inl (a2 - (if x5 < a2 then x5 else a2))] h35 (fun h37 => Q h37))))))))))))))))))) ∧ (¬ h.1 a1 5 = 0 → Q (sI h a1 3 (h.1 a1 3 + a2))))) : EvV G (d + 1) mX9_pass [.inr (.inr (some 1)), .inr (.inr (some a1)), .inl a2] h Q := by
  refine Ev.of rfl (fun _ => Nat.le_of_ble_eq_true rfl) ?_
  show Rn G (d + 1) 0 0 mX9_pass 0 [(0, .inr (.inr (some 1))), (1, .inr (.inr (some a1))), (2, .inl a2)] [] SH h (QV Q)
  refine rn_aload_n dX9_pass_0 rfl rfl ?_
  refine rn_dup dX9_pass_1 rfl ?_
  refine rn_get (v := .inl (h.1 a1 3)) dX9_pass_2 fl_X9_145 ha1 rfl rfl ?_
  refine rn_iload_n dX9_pass_5 rfl rfl ?_
  refine rn_iadd dX9_pass_6 ?_
  refine rn_putI dX9_pass_7 fl_X9_145 ha1 rfl (Or.inl rfl) rfl rfl ?_
  refine rn_aload_n dX9_pass_10 rfl rfl ?_
  refine rn_get (v := .inl (h.1 a1 5)) dX9_pass_11 fl_X9_148 ha1 rfl (by simp [fvM, sI, sL, sR, cpI]) ?_
  refine rn_if_eq (tgt := 18) dX9_pass_14 (by decide) (fun c1 => ?_) (fun c1 => ?_)
  · replace V := V.1 c1
    refine rn_aload_n dX9_pass_18 rfl rfl ?_
    refine rn_get (v := .inl (h.1 a1 6)) dX9_pass_19 fl_X9_122 ha1 rfl (by simp [fvM, sI, sL, sR, cpI]) ?_
    refine rn_istore_n (L' := [(3, .inl (h.1 a1 6)), (0, .inr (.inr (some 1))), (1, .inr (.inr (some a1))), (2, .inl a2)]) dX9_pass_22 rfl (Nat.le_of_ble_eq_true rfl) rfl ?_
    refine rn_aload_n dX9_pass_23 rfl rfl ?_
    refine rn_aload_n dX9_pass_24 rfl rfl ?_
    refine rn_cV (M' := mX9_speaker) (n := 1) (av := [.inr (.inr (some a1))]) (S := []) (rc := 0) (rs := 0) (mc := 0) (ms := 0) (a := 1) (ci := 8) (r := (RX9, TX9, 17)) dX9_pass_25 pa_X9_speaker (Nat.le_refl _) rfl (Nat.le_of_ble_eq_true rfl) ml_X9_135 im_X9_speaker se_X9_speaker rfl rfl rfl (Ev.mono V ?_)
    rintro v sh1 h2 ⟨rfl, Rh2, x3, rfl, V⟩
    show Rn G (d + 1) 0 0 mX9_pass 28 [(3, .inl (h.1 a1 6)), (0, .inr (.inr (some 1))), (1, .inr (.inr (some a1))), (2, .inl a2)] [.inl x3] SH h2 (QV Q)
    refine rn_istore (L' := [(4, .inl x3), (3, .inl (h.1 a1 6)), (0, .inr (.inr (some 1))), (1, .inr (.inr (some a1))), (2, .inl a2)]) dX9_pass_28 (Nat.le_of_ble_eq_true rfl) rfl ?_
    refine rn_iload_n dX9_pass_30 rfl rfl ?_
    refine rn_aload_n dX9_pass_31 rfl rfl ?_
    refine rn_aload_n dX9_pass_32 rfl rfl ?_
    refine rn_cV (M' := mX9_tillEnd) (n := 1) (av := [.inr (.inr (some a1))]) (S := [.inl a2]) (rc := 0) (rs := 0) (mc := 0) (ms := 0) (a := 1) (ci := 8) (r := (RX9, TX9, 17)) dX9_pass_33 pa_X9_tillEnd (Nat.le_refl _) rfl (Nat.le_of_ble_eq_true rfl) ml_X9_151 im_X9_tillEnd se_X9_tillEnd rfl rfl rfl (Ev.mono V ?_)
    rintro v sh1 h4 ⟨rfl, Rh4, x5, rfl, V⟩
    show Rn G (d + 1) 0 0 mX9_pass 36 [(4, .inl x3), (3, .inl (h.1 a1 6)), (0, .inr (.inr (some 1))), (1, .inr (.inr (some a1))), (2, .inl a2)] [.inl x5, .inl a2] SH h4 (QV Q)
    refine rn_mmin dX9_pass_36 ml_X9_154 (Nat.le_of_ble_eq_true rfl) ?_
    refine rn_istore (L' := [(5, .inl (if x5 < a2 then x5 else a2)), (4, .inl x3), (3, .inl (h.1 a1 6)), (0, .inr (.inr (some 1))), (1, .inr (.inr (some a1))), (2, .inl a2)]) dX9_pass_39 (Nat.le_of_ble_eq_true rfl) rfl ?_
    refine rn_aload_n dX9_pass_41 rfl rfl ?_
    refine rn_iload_n dX9_pass_42 rfl rfl ?_
    refine rn_cV (M' := mX9_hasWord) (n := 1) (av := [.inl (h.1 a1 6)]) (S := []) (rc := 0) (rs := 0) (mc := 0) (ms := 0) (a := 1) (ci := 8) (r := (RX9, TX9, 17)) dX9_pass_43 pa_X9_hasWord (Nat.le_refl _) rfl (Nat.le_of_ble_eq_true rfl) ml_X9_125 im_X9_hasWord se_X9_hasWord rfl rfl rfl (Ev.mono V ?_)
    rintro v sh1 h6 ⟨rfl, Rh6, x7, rfl, V⟩
    show Rn G (d + 1) 0 0 mX9_pass 46 [(5, .inl (if x5 < a2 then x5 else a2)), (4, .inl x3), (3, .inl (h.1 a1 6)), (0, .inr (.inr (some 1))), (1, .inr (.inr (some a1))), (2, .inl a2)] [.inl x7] SH h6 (QV Q)
    refine rn_if_eq (tgt := 176) dX9_pass_46 (by decide) (fun c8 => ?_) (fun c8 => ?_)
    · replace V := V.1 c8
      refine rn_iload_n dX9_pass_176 rfl rfl ?_
      refine rn_iload dX9_pass_177 rfl ?_
      refine rn_icmp_le (tgt := 191) dX9_pass_179 (by decide) (fun c9 => ?_) (fun c9 => ?_)
      · replace V := V.1 c9
        exact rn_vret dX9_pass_191 rfl ⟨rfl, Rh6, rfl, V⟩
      · replace V := V.2 c9
        refine rn_aload_n dX9_pass_182 rfl rfl ?_
        refine rn_aload_n dX9_pass_183 rfl rfl ?_
        refine rn_iload_n dX9_pass_184 rfl rfl ?_
        refine rn_iload dX9_pass_185 rfl ?_
        refine rn_isub dX9_pass_187 ?_
        refine rn_cV (M' := mX9_drain) (n := 2) (av := [.inr (.inr (some a1)), .inl (a2 - (if x5 < a2 then x5 else a2))]) (S := []) (rc := 0) (rs := 0) (mc := 0) (ms := 0) (a := 1) (ci := 8) (r := (RX9, TX9, 17)) dX9_pass_188 pa_X9_drain (Nat.le_refl _) rfl (Nat.le_of_ble_eq_true rfl) ml_X9_159 im_X9_drain se_X9_drain rfl rfl rfl (Ev.mono V ?_)
        rintro v sh1 h10 ⟨rfl, Rh10, rfl, V⟩
        show Rn G (d + 1) 0 0 mX9_pass 191 [(5, .inl (if x5 < a2 then x5 else a2)), (4, .inl x3), (3, .inl (h.1 a1 6)), (0, .inr (.inr (some 1))), (1, .inr (.inr (some a1))), (2, .inl a2)] [] SH h10 (QV Q)
        exact rn_vret dX9_pass_191 rfl ⟨rfl, Rh10, rfl, V⟩
    · replace V := V.2 c8
      refine rn_aload_n dX9_pass_49 rfl rfl ?_
      refine rn_iload dX9_pass_50 rfl ?_
      refine rn_cV (M' := mX9_hasParty) (n := 1) (av := [.inl x3]) (S := []) (rc := 0) (rs := 0) (mc := 0) (ms := 0) (a := 1) (ci := 8) (r := (RX9, TX9, 17)) dX9_pass_52 pa_X9_hasParty (Nat.le_refl _) rfl (Nat.le_of_ble_eq_true rfl) ml_X9_98 im_X9_hasParty se_X9_hasParty rfl rfl rfl (Ev.mono V ?_)
      rintro v sh1 h11 ⟨rfl, Rh11, x12, rfl, V⟩
      show Rn G (d + 1) 0 0 mX9_pass 55 [(5, .inl (if x5 < a2 then x5 else a2)), (4, .inl x3), (3, .inl (h.1 a1 6)), (0, .inr (.inr (some 1))), (1, .inr (.inr (some a1))), (2, .inl a2)] [.inl x12] SH h11 (QV Q)
      refine rn_if_eq (tgt := 176) dX9_pass_55 (by decide) (fun c13 => ?_) (fun c13 => ?_)
      · replace V := V.1 c13
        refine rn_iload_n dX9_pass_176 rfl rfl ?_
        refine rn_iload dX9_pass_177 rfl ?_
        refine rn_icmp_le (tgt := 191) dX9_pass_179 (by decide) (fun c14 => ?_) (fun c14 => ?_)
        · replace V := V.1 c14
          exact rn_vret dX9_pass_191 rfl ⟨rfl, Rh11, rfl, V⟩
        · replace V := V.2 c14
          refine rn_aload_n dX9_pass_182 rfl rfl ?_
          refine rn_aload_n dX9_pass_183 rfl rfl ?_
          refine rn_iload_n dX9_pass_184 rfl rfl ?_
          refine rn_iload dX9_pass_185 rfl ?_
          refine rn_isub dX9_pass_187 ?_
          refine rn_cV (M' := mX9_drain) (n := 2) (av := [.inr (.inr (some a1)), .inl (a2 - (if x5 < a2 then x5 else a2))]) (S := []) (rc := 0) (rs := 0) (mc := 0) (ms := 0) (a := 1) (ci := 8) (r := (RX9, TX9, 17)) dX9_pass_188 pa_X9_drain (Nat.le_refl _) rfl (Nat.le_of_ble_eq_true rfl) ml_X9_159 im_X9_drain se_X9_drain rfl rfl rfl (Ev.mono V ?_)
          rintro v sh1 h15 ⟨rfl, Rh15, rfl, V⟩
          show Rn G (d + 1) 0 0 mX9_pass 191 [(5, .inl (if x5 < a2 then x5 else a2)), (4, .inl x3), (3, .inl (h.1 a1 6)), (0, .inr (.inr (some 1))), (1, .inr (.inr (some a1))), (2, .inl a2)] [] SH h15 (QV Q)
          exact rn_vret dX9_pass_191 rfl ⟨rfl, Rh15, rfl, V⟩
      · replace V := V.2 c13
        refine rn_iload dX9_pass_58 rfl ?_
        refine rn_if_le (tgt := 176) dX9_pass_60 (by decide) (fun c16 => ?_) (fun c16 => ?_)
        · replace V := V.1 c16
          refine rn_iload_n dX9_pass_176 rfl rfl ?_
          refine rn_iload dX9_pass_177 rfl ?_
          refine rn_icmp_le (tgt := 191) dX9_pass_179 (by decide) (fun c17 => ?_) (fun c17 => ?_)
          · replace V := V.1 c17
            exact rn_vret dX9_pass_191 rfl ⟨rfl, Rh11, rfl, V⟩
          · replace V := V.2 c17
            refine rn_aload_n dX9_pass_182 rfl rfl ?_
            refine rn_aload_n dX9_pass_183 rfl rfl ?_
            refine rn_iload_n dX9_pass_184 rfl rfl ?_
            refine rn_iload dX9_pass_185 rfl ?_
            refine rn_isub dX9_pass_187 ?_
            refine rn_cV (M' := mX9_drain) (n := 2) (av := [.inr (.inr (some a1)), .inl (a2 - (if x5 < a2 then x5 else a2))]) (S := []) (rc := 0) (rs := 0) (mc := 0) (ms := 0) (a := 1) (ci := 8) (r := (RX9, TX9, 17)) dX9_pass_188 pa_X9_drain (Nat.le_refl _) rfl (Nat.le_of_ble_eq_true rfl) ml_X9_159 im_X9_drain se_X9_drain rfl rfl rfl (Ev.mono V ?_)
            rintro v sh1 h18 ⟨rfl, Rh18, rfl, V⟩
            show Rn G (d + 1) 0 0 mX9_pass 191 [(5, .inl (if x5 < a2 then x5 else a2)), (4, .inl x3), (3, .inl (h.1 a1 6)), (0, .inr (.inr (some 1))), (1, .inr (.inr (some a1))), (2, .inl a2)] [] SH h18 (QV Q)
            exact rn_vret dX9_pass_191 rfl ⟨rfl, Rh18, rfl, V⟩
        · replace V := V.2 c16
          refine rn_aload_n dX9_pass_63 rfl rfl ?_
          refine rn_get (v := .inr (.inr (some (a1 + 1)))) dX9_pass_64 fl_X9_89 ha1 rfl (congrArg (fun z => (Sum.inr (Sum.inr z) : MV)) (fl_water Rh11 ha1)) ?_
          refine rn_iload dX9_pass_67 rfl ?_
          obtain ⟨g0, V⟩ := V
          refine rn_iald (k := (Int32.toNatClampNeg x3)) dX9_pass_69 (fl_sh1 ha1) rfl g0 ?_
          refine rn_iload dX9_pass_70 rfl ?_
          refine rn_aload_n dX9_pass_72 rfl rfl ?_
          refine rn_iload dX9_pass_73 rfl ?_
          refine rn_cV (M' := mX9_runs) (n := 1) (av := [.inl x3]) (S := [.inl (if x5 < a2 then x5 else a2), .inl (h11.1 (a1 + 1) (Int32.toNatClampNeg x3))]) (rc := 0) (rs := 0) (mc := 0) (ms := 0) (a := 1) (ci := 8) (r := (RX9, TX9, 17)) dX9_pass_75 pa_X9_runs (Nat.le_refl _) rfl (Nat.le_of_ble_eq_true rfl) ml_X9_139 im_X9_runs se_X9_runs rfl rfl rfl (Ev.mono V ?_)
          rintro v sh1 h19 ⟨rfl, Rh19, x20, rfl, V⟩
          show Rn G (d + 1) 0 0 mX9_pass 78 [(5, .inl (if x5 < a2 then x5 else a2)), (4, .inl x3), (3, .inl (h.1 a1 6)), (0, .inr (.inr (some 1))), (1, .inr (.inr (some a1))), (2, .inl a2)] [.inl x20, .inl (if x5 < a2 then x5 else a2), .inl (h11.1 (a1 + 1) (Int32.toNatClampNeg x3))] SH h19 (QV Q)
          refine rn_imul dX9_pass_78 ?_
          refine rn_icmp_ge (tgt := 86) dX9_pass_79 (by decide) (fun c21 => ?_) (fun c21 => ?_)
          · replace V := V.1 c21
            refine rn_iconst (v := 0) dX9_pass_86 (by decide) ?_
            refine rn_istore (L' := [(6, .inl 0), (5, .inl (if x5 < a2 then x5 else a2)), (4, .inl x3), (3, .inl (h.1 a1 6)), (0, .inr (.inr (some 1))), (1, .inr (.inr (some a1))), (2, .inl a2)]) dX9_pass_87 (Nat.le_of_ble_eq_true rfl) rfl ?_
            refine rn_aload_n dX9_pass_89 rfl rfl ?_
            refine rn_aload_n dX9_pass_90 rfl rfl ?_
            refine rn_iload dX9_pass_91 rfl ?_
            refine rn_cV (M' := mX9_drain) (n := 2) (av := [.inr (.inr (some a1)), .inl (if x5 < a2 then x5 else a2)]) (S := []) (rc := 0) (rs := 0) (mc := 0) (ms := 0) (a := 1) (ci := 8) (r := (RX9, TX9, 17)) dX9_pass_93 pa_X9_drain (Nat.le_refl _) rfl (Nat.le_of_ble_eq_true rfl) ml_X9_159 im_X9_drain se_X9_drain rfl rfl rfl (Ev.mono V ?_)
            rintro v sh1 h22 ⟨rfl, Rh22, rfl, V⟩
            show Rn G (d + 1) 0 0 mX9_pass 96 [(6, .inl 0), (5, .inl (if x5 < a2 then x5 else a2)), (4, .inl x3), (3, .inl (h.1 a1 6)), (0, .inr (.inr (some 1))), (1, .inr (.inr (some a1))), (2, .inl a2)] [] SH h22 (QV Q)
            refine rn_aload_n dX9_pass_96 rfl rfl ?_
            refine rn_dup dX9_pass_97 rfl ?_
            refine rn_get (v := .inl (h22.1 a1 7)) dX9_pass_98 fl_X9_132 ha1 rfl rfl ?_
            refine rn_iload dX9_pass_101 rfl ?_
            refine rn_isub dX9_pass_103 ?_
            refine rn_putI dX9_pass_104 fl_X9_132 ha1 rfl (Or.inl rfl) rfl rfl ?_
            refine rn_iload dX9_pass_107 rfl ?_
            refine rn_if_eq (tgt := 121) dX9_pass_109 (by decide) (fun c23 => ?_) (fun c23 => ?_)
            rotate_left
            · exact absurd (by decide) c23
            refine rn_aload_n dX9_pass_121 rfl rfl ?_
            refine rn_get (v := .inl (h22.1 a1 7 - (if x5 < a2 then x5 else a2))) dX9_pass_122 fl_X9_132 ha1 rfl (by simp [fvM, sI, sL, sR, cpI]) ?_
            refine rn_if_gt (tgt := 176) dX9_pass_125 (by decide) (fun c24 => ?_) (fun c24 => ?_)
            · replace V := V.1 c24
              refine rn_iload_n dX9_pass_176 rfl rfl ?_
              refine rn_iload dX9_pass_177 rfl ?_
              refine rn_icmp_le (tgt := 191) dX9_pass_179 (by decide) (fun c25 => ?_) (fun c25 => ?_)
              · replace V := V.1 c25
                exact rn_vret dX9_pass_191 rfl ⟨rfl, Rh22, rfl, V⟩
              · replace V := V.2 c25
                refine rn_aload_n dX9_pass_182 rfl rfl ?_
                refine rn_aload_n dX9_pass_183 rfl rfl ?_
                refine rn_iload_n dX9_pass_184 rfl rfl ?_
                refine rn_iload dX9_pass_185 rfl ?_
                refine rn_isub dX9_pass_187 ?_
                refine rn_cV (M' := mX9_drain) (n := 2) (av := [.inr (.inr (some a1)), .inl (a2 - (if x5 < a2 then x5 else a2))]) (S := []) (rc := 0) (rs := 0) (mc := 0) (ms := 0) (a := 1) (ci := 8) (r := (RX9, TX9, 17)) dX9_pass_188 pa_X9_drain (Nat.le_refl _) rfl (Nat.le_of_ble_eq_true rfl) ml_X9_159 im_X9_drain se_X9_drain rfl rfl rfl (Ev.mono V ?_)
                rintro v sh1 h26 ⟨rfl, Rh26, rfl, V⟩
                show Rn G (d + 1) 0 0 mX9_pass 191 [(6, .inl 0), (5, .inl (if x5 < a2 then x5 else a2)), (4, .inl x3), (3, .inl (h.1 a1 6)), (0, .inr (.inr (some 1))), (1, .inr (.inr (some a1))), (2, .inl a2)] [] SH h26 (QV Q)
                exact rn_vret dX9_pass_191 rfl ⟨rfl, Rh26, rfl, V⟩
            · replace V := V.2 c24
              refine rn_aload_n dX9_pass_128 rfl rfl ?_
              refine rn_get (v := .inr (.inr (some (a1 + 2)))) dX9_pass_129 fl_X9_92 ha1 rfl (congrArg (fun z => (Sum.inr (Sum.inr z) : MV)) (fl_heard Rh22 ha1)) ?_
              refine rn_iload dX9_pass_132 rfl ?_
              obtain ⟨g0, V⟩ := V
              refine rn_iald (k := (Int32.toNatClampNeg x3)) dX9_pass_134 (fl_sh2 ha1) rfl g0 ?_
              refine rn_istore (L' := [(7, .inl ((sI h22 a1 7 (h22.1 a1 7 - (if x5 < a2 then x5 else a2))).1 (a1 + 2) (Int32.toNatClampNeg x3))), (6, .inl 0), (5, .inl (if x5 < a2 then x5 else a2)), (4, .inl x3), (3, .inl (h.1 a1 6)), (0, .inr (.inr (some 1))), (1, .inr (.inr (some a1))), (2, .inl a2)]) dX9_pass_135 (Nat.le_of_ble_eq_true rfl) rfl ?_
              refine rn_aload_n dX9_pass_137 rfl rfl ?_
              refine rn_get (v := .inr (.inr (some (a1 + 2)))) dX9_pass_138 fl_X9_92 ha1 rfl (congrArg (fun z => (Sum.inr (Sum.inr z) : MV)) (fl_heard Rh22 ha1)) ?_
              refine rn_iload dX9_pass_141 rfl ?_
              refine rn_ldc (v := 99999) dX9_pass_143 cw_X9_167 ?_
              refine rn_iload dX9_pass_145 rfl ?_
              refine rn_aload_n dX9_pass_147 rfl rfl ?_
              refine rn_aload_n dX9_pass_148 rfl rfl ?_
              refine rn_get (v := .inr (.inr (some 7))) dX9_pass_149 fl_X9_27 rfl rfl (congrArg (fun z => (Sum.inr (Sum.inr z) : MV)) (rf_1_7 Rh22)) ?_
              refine rn_iload_n dX9_pass_152 rfl rfl ?_
              obtain ⟨g0, V⟩ := V
              refine rn_iald (k := (Int32.toNatClampNeg (h.1 a1 6))) dX9_pass_153 rfl rfl g0 ?_
              refine rn_aload_n dX9_pass_154 rfl rfl ?_
              refine rn_get (v := .inr (.inr (some 6))) dX9_pass_155 fl_X9_24 rfl rfl (congrArg (fun z => (Sum.inr (Sum.inr z) : MV)) (rf_1_6 Rh22)) ?_
              refine rn_iload_n dX9_pass_158 rfl rfl ?_
              obtain ⟨g0, V⟩ := V
              refine rn_iald (k := (Int32.toNatClampNeg (h.1 a1 6))) dX9_pass_159 rfl rfl g0 ?_
              refine rn_iload dX9_pass_160 rfl ?_
              refine rn_cV (M' := mX9_earBy) (n := 3) (av := [.inl ((sI h22 a1 7 (h22.1 a1 7 - (if x5 < a2 then x5 else a2))).1 7 (Int32.toNatClampNeg (h.1 a1 6))), .inl ((sI h22 a1 7 (h22.1 a1 7 - (if x5 < a2 then x5 else a2))).1 6 (Int32.toNatClampNeg (h.1 a1 6))), .inl ((sI h22 a1 7 (h22.1 a1 7 - (if x5 < a2 then x5 else a2))).1 (a1 + 2) (Int32.toNatClampNeg x3))]) (S := [.inl ((sI h22 a1 7 (h22.1 a1 7 - (if x5 < a2 then x5 else a2))).1 (a1 + 2) (Int32.toNatClampNeg x3)), .inl 99999, .inl x3, .inr (.inr (some (a1 + 2)))]) (rc := 0) (rs := 0) (mc := 0) (ms := 0) (a := 1) (ci := 8) (r := (RX9, TX9, 17)) dX9_pass_162 pa_X9_earBy (Nat.le_refl _) rfl (Nat.le_of_ble_eq_true rfl) ml_X9_168 im_X9_earBy se_X9_earBy rfl rfl rfl (Ev.mono V ?_)
              rintro v sh1 h27 ⟨rfl, Rh27, x28, rfl, V⟩
              show Rn G (d + 1) 0 0 mX9_pass 165 [(7, .inl ((sI h22 a1 7 (h22.1 a1 7 - (if x5 < a2 then x5 else a2))).1 (a1 + 2) (Int32.toNatClampNeg x3))), (6, .inl 0), (5, .inl (if x5 < a2 then x5 else a2)), (4, .inl x3), (3, .inl (h.1 a1 6)), (0, .inr (.inr (some 1))), (1, .inr (.inr (some a1))), (2, .inl a2)] [.inl x28, .inl ((sI h22 a1 7 (h22.1 a1 7 - (if x5 < a2 then x5 else a2))).1 (a1 + 2) (Int32.toNatClampNeg x3)), .inl 99999, .inl x3, .inr (.inr (some (a1 + 2)))] SH h27 (QV Q)
              refine rn_iadd dX9_pass_165 ?_
              refine rn_mmin dX9_pass_166 ml_X9_154 (Nat.le_of_ble_eq_true rfl) ?_
              obtain ⟨g0, V⟩ := V
              refine rn_iast (k := (Int32.toNatClampNeg x3)) dX9_pass_169 (fl_sh2 ha1) rfl g0 ?_
              obtain ⟨h29, eh29⟩ : ∃ z, z = (sI h27 (a1 + 2) (Int32.toNatClampNeg x3) (if ((sI h22 a1 7 (h22.1 a1 7 - (if x5 < a2 then x5 else a2))).1 (a1 + 2) (Int32.toNatClampNeg x3) + x28) < 99999 then ((sI h22 a1 7 (h22.1 a1 7 - (if x5 < a2 then x5 else a2))).1 (a1 + 2) (Int32.toNatClampNeg x3) + x28) else 99999)) := ⟨_, rfl⟩
              show Rn G (d + 1) 0 0 mX9_pass 170 [(7, .inl ((sI h22 a1 7 (h22.1 a1 7 - (if x5 < a2 then x5 else a2))).1 (a1 + 2) (Int32.toNatClampNeg x3))), (6, .inl 0), (5, .inl (if x5 < a2 then x5 else a2)), (4, .inl x3), (3, .inl (h.1 a1 6)), (0, .inr (.inr (some 1))), (1, .inr (.inr (some a1))), (2, .inl a2)] [] SH (sI h27 (a1 + 2) (Int32.toNatClampNeg x3) (if ((sI h22 a1 7 (h22.1 a1 7 - (if x5 < a2 then x5 else a2))).1 (a1 + 2) (Int32.toNatClampNeg x3) + x28) < 99999 then ((sI h22 a1 7 (h22.1 a1 7 - (if x5 < a2 then x5 else a2))).1 (a1 + 2) (Int32.toNatClampNeg x3) + x28) else 99999)) (QV Q)
              rw [← eh29]
              replace V := V h29 eh29
              have Rh29 : RF h29 := by rw [eh29]; exact Rh27
              refine rn_aload_n dX9_pass_170 rfl rfl ?_
              refine rn_iload_n dX9_pass_171 rfl rfl ?_
              refine rn_iconst (v := 1) dX9_pass_172 (by decide) ?_
              refine rn_cV (M' := mX2_end) (n := 2) (av := [.inl (h.1 a1 6), .inl 1]) (S := []) (rc := 0) (rs := 0) (mc := 0) (ms := 0) (a := a1) (ci := 2) (r := (RX2, TX2, 8)) dX9_pass_173 pa_X2_end (Nat.le_refl _) rfl (Nat.le_of_ble_eq_true rfl) ml_X9_163 im_X2_end se_X2_end ha1 rfl rfl (Ev.mono V ?_)
              rintro v sh1 h30 ⟨rfl, Rh30, rfl, V⟩
              show Rn G (d + 1) 0 0 mX9_pass 176 [(7, .inl ((sI h22 a1 7 (h22.1 a1 7 - (if x5 < a2 then x5 else a2))).1 (a1 + 2) (Int32.toNatClampNeg x3))), (6, .inl 0), (5, .inl (if x5 < a2 then x5 else a2)), (4, .inl x3), (3, .inl (h.1 a1 6)), (0, .inr (.inr (some 1))), (1, .inr (.inr (some a1))), (2, .inl a2)] [] SH h30 (QV Q)
              refine rn_iload_n dX9_pass_176 rfl rfl ?_
              refine rn_iload dX9_pass_177 rfl ?_
              refine rn_icmp_le (tgt := 191) dX9_pass_179 (by decide) (fun c31 => ?_) (fun c31 => ?_)
              · replace V := V.1 c31
                exact rn_vret dX9_pass_191 rfl ⟨rfl, Rh30, rfl, V⟩
              · replace V := V.2 c31
                refine rn_aload_n dX9_pass_182 rfl rfl ?_
                refine rn_aload_n dX9_pass_183 rfl rfl ?_
                refine rn_iload_n dX9_pass_184 rfl rfl ?_
                refine rn_iload dX9_pass_185 rfl ?_
                refine rn_isub dX9_pass_187 ?_
                refine rn_cV (M' := mX9_drain) (n := 2) (av := [.inr (.inr (some a1)), .inl (a2 - (if x5 < a2 then x5 else a2))]) (S := []) (rc := 0) (rs := 0) (mc := 0) (ms := 0) (a := 1) (ci := 8) (r := (RX9, TX9, 17)) dX9_pass_188 pa_X9_drain (Nat.le_refl _) rfl (Nat.le_of_ble_eq_true rfl) ml_X9_159 im_X9_drain se_X9_drain rfl rfl rfl (Ev.mono V ?_)
                rintro v sh1 h32 ⟨rfl, Rh32, rfl, V⟩
                show Rn G (d + 1) 0 0 mX9_pass 191 [(7, .inl ((sI h22 a1 7 (h22.1 a1 7 - (if x5 < a2 then x5 else a2))).1 (a1 + 2) (Int32.toNatClampNeg x3))), (6, .inl 0), (5, .inl (if x5 < a2 then x5 else a2)), (4, .inl x3), (3, .inl (h.1 a1 6)), (0, .inr (.inr (some 1))), (1, .inr (.inr (some a1))), (2, .inl a2)] [] SH h32 (QV Q)
                exact rn_vret dX9_pass_191 rfl ⟨rfl, Rh32, rfl, V⟩
          · replace V := V.2 c21
            refine rn_iconst (v := 1) dX9_pass_82 (by decide) ?_
            refine rn_goto (tgt := 87) dX9_pass_83 (by decide) ?_
            refine rn_istore (L' := [(6, .inl 1), (5, .inl (if x5 < a2 then x5 else a2)), (4, .inl x3), (3, .inl (h.1 a1 6)), (0, .inr (.inr (some 1))), (1, .inr (.inr (some a1))), (2, .inl a2)]) dX9_pass_87 (Nat.le_of_ble_eq_true rfl) rfl ?_
            refine rn_aload_n dX9_pass_89 rfl rfl ?_
            refine rn_aload_n dX9_pass_90 rfl rfl ?_
            refine rn_iload dX9_pass_91 rfl ?_
            refine rn_cV (M' := mX9_drain) (n := 2) (av := [.inr (.inr (some a1)), .inl (if x5 < a2 then x5 else a2)]) (S := []) (rc := 0) (rs := 0) (mc := 0) (ms := 0) (a := 1) (ci := 8) (r := (RX9, TX9, 17)) dX9_pass_93 pa_X9_drain (Nat.le_refl _) rfl (Nat.le_of_ble_eq_true rfl) ml_X9_159 im_X9_drain se_X9_drain rfl rfl rfl (Ev.mono V ?_)
            rintro v sh1 h33 ⟨rfl, Rh33, rfl, V⟩
            show Rn G (d + 1) 0 0 mX9_pass 96 [(6, .inl 1), (5, .inl (if x5 < a2 then x5 else a2)), (4, .inl x3), (3, .inl (h.1 a1 6)), (0, .inr (.inr (some 1))), (1, .inr (.inr (some a1))), (2, .inl a2)] [] SH h33 (QV Q)
            refine rn_aload_n dX9_pass_96 rfl rfl ?_
            refine rn_dup dX9_pass_97 rfl ?_
            refine rn_get (v := .inl (h33.1 a1 7)) dX9_pass_98 fl_X9_132 ha1 rfl rfl ?_
            refine rn_iload dX9_pass_101 rfl ?_
            refine rn_isub dX9_pass_103 ?_
            refine rn_putI dX9_pass_104 fl_X9_132 ha1 rfl (Or.inl rfl) rfl rfl ?_
            refine rn_iload dX9_pass_107 rfl ?_
            refine rn_if_eq (tgt := 121) dX9_pass_109 (by decide) (fun c34 => ?_) (fun c34 => ?_)
            · exact absurd c34 (by decide)
            refine rn_aload_n dX9_pass_112 rfl rfl ?_
            refine rn_iload_n dX9_pass_113 rfl rfl ?_
            refine rn_iconst (v := 2) dX9_pass_114 (by decide) ?_
            refine rn_cV (M' := mX2_end) (n := 2) (av := [.inl (h.1 a1 6), .inl 2]) (S := []) (rc := 0) (rs := 0) (mc := 0) (ms := 0) (a := a1) (ci := 2) (r := (RX2, TX2, 8)) dX9_pass_115 pa_X2_end (Nat.le_refl _) rfl (Nat.le_of_ble_eq_true rfl) ml_X9_163 im_X2_end se_X2_end ha1 rfl rfl (Ev.mono V ?_)
            rintro v sh1 h35 ⟨rfl, Rh35, rfl, V⟩
            show Rn G (d + 1) 0 0 mX9_pass 118 [(6, .inl 1), (5, .inl (if x5 < a2 then x5 else a2)), (4, .inl x3), (3, .inl (h.1 a1 6)), (0, .inr (.inr (some 1))), (1, .inr (.inr (some a1))), (2, .inl a2)] [] SH h35 (QV Q)
            refine rn_goto (tgt := 176) dX9_pass_118 (by decide) ?_
            refine rn_iload_n dX9_pass_176 rfl rfl ?_
            refine rn_iload dX9_pass_177 rfl ?_
            refine rn_icmp_le (tgt := 191) dX9_pass_179 (by decide) (fun c36 => ?_) (fun c36 => ?_)
            · replace V := V.1 c36
              exact rn_vret dX9_pass_191 rfl ⟨rfl, Rh35, rfl, V⟩
            · replace V := V.2 c36
              refine rn_aload_n dX9_pass_182 rfl rfl ?_
              refine rn_aload_n dX9_pass_183 rfl rfl ?_
              refine rn_iload_n dX9_pass_184 rfl rfl ?_
              refine rn_iload dX9_pass_185 rfl ?_
              refine rn_isub dX9_pass_187 ?_
              refine rn_cV (M' := mX9_drain) (n := 2) (av := [.inr (.inr (some a1)), .inl (a2 - (if x5 < a2 then x5 else a2))]) (S := []) (rc := 0) (rs := 0) (mc := 0) (ms := 0) (a := 1) (ci := 8) (r := (RX9, TX9, 17)) dX9_pass_188 pa_X9_drain (Nat.le_refl _) rfl (Nat.le_of_ble_eq_true rfl) ml_X9_159 im_X9_drain se_X9_drain rfl rfl rfl (Ev.mono V ?_)
              rintro v sh1 h37 ⟨rfl, Rh37, rfl, V⟩
              show Rn G (d + 1) 0 0 mX9_pass 191 [(6, .inl 1), (5, .inl (if x5 < a2 then x5 else a2)), (4, .inl x3), (3, .inl (h.1 a1 6)), (0, .inr (.inr (some 1))), (1, .inr (.inr (some a1))), (2, .inl a2)] [] SH h37 (QV Q)
              exact rn_vret dX9_pass_191 rfl ⟨rfl, Rh37, rfl, V⟩
  · replace V := V.2 c1
    exact rn_vret dX9_pass_17 rfl ⟨rfl, hR, rfl, V⟩
def Rg_X9_drain_9 (G : GT) (d : Nat) (l1 : Nat) (l2 : Int32) (l3 : Int32) (l4 : Int32) (h : Hp) (Q : Hp → Prop) : Prop := Rn G (d + 1) 0 0 mX9_drain 9 [(0, .inr (.inr (some 1))), (1, .inr (.inr (some l1))), (2, .inl l2), (3, .inl l3), (4, .inl l4)] [] SH h (QV Q)
set_option maxRecDepth 100000 in
set_option maxHeartbeats 4000000 in
theorem vc_X9_drain_9 {G : GT} {d : Nat} {l1 : Nat} {l2 : Int32} {l3 : Int32} {l4 : Int32} (hl1 : SH[l1]? = some (.inl 2)) {h : Hp} {Q : Hp → Prop} (hR : RF h) (V : ((h.1 1 0 ≤ l4 → Q h) ∧ (¬ h.1 1 0 ≤ l4 → ((4 ≤ l4 → Q h) ∧ (¬ 4 ≤ l4 → ((¬ l4 = l3 → EvI G d mX9_drips [.inr (.inr (some 1)), .inl l4] h (fun x7 h6 => EvI G d mX2_lose [.inr (.inr (some l1)), .inl l4, .inl (l2 * x7)] h6 (fun x9 h8 => EvV G d mX2_floorGets [.inr (.inr (some l1)), .inl x9] h8 (fun h10 => Rg_X9_drain_9 G d l1 l2 l3 (l4 + 1) h10 Q)))) ∧ (l4 = l3 → EvI G d mX9_runs [.inr (.inr (some 1)), .inl l4] h (fun x12 h11 => EvI G d mX2_lose [.inr (.inr (some l1)), .inl l4, .inl (l2 * x12)] h11 (fun x14 h13 => EvV G d mX2_floorGets [.inr (.inr (some l1)), .inl x14] h13 (fun h15 => Rg_X9_drain_9 G d l1 l2 l3 (l4 + 1) h15 Q)))))))))) : Rg_X9_drain_9 G d l1 l2 l3 l4 h Q := by
  show Rn G (d + 1) 0 0 mX9_drain 9 [(0, .inr (.inr (some 1))), (1, .inr (.inr (some l1))), (2, .inl l2), (3, .inl l3), (4, .inl l4)] [] SH h (QV Q)
  refine rn_iload dX9_drain_9 rfl ?_
  refine rn_aload_n dX9_drain_11 rfl rfl ?_
  refine rn_get (v := .inl (h.1 1 0)) dX9_drain_12 fl_X9_60 rfl rfl rfl ?_
  refine rn_icmp_ge (tgt := 67) dX9_drain_15 (by decide) (fun c3 => ?_) (fun c3 => ?_)
  · replace V := V.1 c3
    exact rn_vret dX9_drain_67 rfl ⟨rfl, hR, rfl, V⟩
  · replace V := V.2 c3
    refine rn_iload dX9_drain_18 rfl ?_
    refine rn_iconst (v := 4) dX9_drain_20 (by decide) ?_
    refine rn_icmp_ge (tgt := 67) dX9_drain_21 (by decide) (fun c4 => ?_) (fun c4 => ?_)
    · replace V := V.1 c4
      exact rn_vret dX9_drain_67 rfl ⟨rfl, hR, rfl, V⟩
    · replace V := V.2 c4
      refine rn_iload_n dX9_drain_24 rfl rfl ?_
      refine rn_iload dX9_drain_25 rfl ?_
      refine rn_iload_n dX9_drain_27 rfl rfl ?_
      refine rn_icmp_ne (tgt := 40) dX9_drain_28 (by decide) (fun c5 => ?_) (fun c5 => ?_)
      · replace V := V.1 c5
        refine rn_aload_n dX9_drain_40 rfl rfl ?_
        refine rn_iload dX9_drain_41 rfl ?_
        refine rn_cV (M' := mX9_drips) (n := 1) (av := [.inl l4]) (S := [.inl l2]) (rc := 0) (rs := 0) (mc := 0) (ms := 0) (a := 1) (ci := 8) (r := (RX9, TX9, 17)) dX9_drain_43 pa_X9_drips (Nat.le_refl _) rfl (Nat.le_of_ble_eq_true rfl) ml_X9_171 im_X9_drips se_X9_drips rfl rfl rfl (Ev.mono V ?_)
        rintro v sh1 h6 ⟨rfl, Rh6, x7, rfl, V⟩
        show Rn G (d + 1) 0 0 mX9_drain 46 [(0, .inr (.inr (some 1))), (1, .inr (.inr (some l1))), (2, .inl l2), (3, .inl l3), (4, .inl l4)] [.inl x7, .inl l2] SH h6 (QV Q)
        refine rn_imul dX9_drain_46 ?_
        refine rn_istore (L' := [(5, .inl (l2 * x7)), (0, .inr (.inr (some 1))), (1, .inr (.inr (some l1))), (2, .inl l2), (3, .inl l3), (4, .inl l4)]) dX9_drain_47 (Nat.le_of_ble_eq_true rfl) rfl ?_
        refine rn_aload_n dX9_drain_49 rfl rfl ?_
        refine rn_aload_n dX9_drain_50 rfl rfl ?_
        refine rn_iload dX9_drain_51 rfl ?_
        refine rn_iload dX9_drain_53 rfl ?_
        refine rn_cV (M' := mX2_lose) (n := 2) (av := [.inl l4, .inl (l2 * x7)]) (S := [.inr (.inr (some l1))]) (rc := 0) (rs := 0) (mc := 0) (ms := 0) (a := l1) (ci := 2) (r := (RX2, TX2, 8)) dX9_drain_55 pa_X2_lose (Nat.le_refl _) rfl (Nat.le_of_ble_eq_true rfl) ml_X9_173 im_X2_lose se_X2_lose hl1 rfl rfl (Ev.mono V ?_)
        rintro v sh1 h8 ⟨rfl, Rh8, x9, rfl, V⟩
        show Rn G (d + 1) 0 0 mX9_drain 58 [(5, .inl (l2 * x7)), (0, .inr (.inr (some 1))), (1, .inr (.inr (some l1))), (2, .inl l2), (3, .inl l3), (4, .inl l4)] [.inl x9, .inr (.inr (some l1))] SH h8 (QV Q)
        refine rn_cV (M' := mX2_floorGets) (n := 1) (av := [.inl x9]) (S := []) (rc := 0) (rs := 0) (mc := 0) (ms := 0) (a := l1) (ci := 2) (r := (RX2, TX2, 8)) dX9_drain_58 pa_X2_floorGets (Nat.le_refl _) rfl (Nat.le_of_ble_eq_true rfl) ml_X9_176 im_X2_floorGets se_X2_floorGets hl1 rfl rfl (Ev.mono V ?_)
        rintro v sh1 h10 ⟨rfl, Rh10, rfl, V⟩
        show Rn G (d + 1) 0 0 mX9_drain 61 [(5, .inl (l2 * x7)), (0, .inr (.inr (some 1))), (1, .inr (.inr (some l1))), (2, .inl l2), (3, .inl l3), (4, .inl l4)] [] SH h10 (QV Q)
        refine rn_iinc (L' := [(4, .inl (l4 + 1)), (5, .inl (l2 * x7)), (0, .inr (.inr (some 1))), (1, .inr (.inr (some l1))), (2, .inl l2), (3, .inl l3)]) dX9_drain_61 rfl (v := (l4 + 1)) rfl (Nat.le_of_ble_eq_true rfl) rfl ?_
        refine rn_goto (tgt := 9) dX9_drain_64 (by decide) ?_
        refine rn_sub [2, 3, 4, 5, 0] (L' := [(0, .inr (.inr (some 1))), (1, .inr (.inr (some l1))), (2, .inl l2), (3, .inl l3), (4, .inl (l4 + 1))]) rfl ?_
        exact V
      · replace V := V.2 c5
        refine rn_aload_n dX9_drain_31 rfl rfl ?_
        refine rn_iload dX9_drain_32 rfl ?_
        refine rn_cV (M' := mX9_runs) (n := 1) (av := [.inl l4]) (S := [.inl l2]) (rc := 0) (rs := 0) (mc := 0) (ms := 0) (a := 1) (ci := 8) (r := (RX9, TX9, 17)) dX9_drain_34 pa_X9_runs (Nat.le_refl _) rfl (Nat.le_of_ble_eq_true rfl) ml_X9_139 im_X9_runs se_X9_runs rfl rfl rfl (Ev.mono V ?_)
        rintro v sh1 h11 ⟨rfl, Rh11, x12, rfl, V⟩
        show Rn G (d + 1) 0 0 mX9_drain 37 [(0, .inr (.inr (some 1))), (1, .inr (.inr (some l1))), (2, .inl l2), (3, .inl l3), (4, .inl l4)] [.inl x12, .inl l2] SH h11 (QV Q)
        refine rn_goto (tgt := 46) dX9_drain_37 (by decide) ?_
        refine rn_imul dX9_drain_46 ?_
        refine rn_istore (L' := [(5, .inl (l2 * x12)), (0, .inr (.inr (some 1))), (1, .inr (.inr (some l1))), (2, .inl l2), (3, .inl l3), (4, .inl l4)]) dX9_drain_47 (Nat.le_of_ble_eq_true rfl) rfl ?_
        refine rn_aload_n dX9_drain_49 rfl rfl ?_
        refine rn_aload_n dX9_drain_50 rfl rfl ?_
        refine rn_iload dX9_drain_51 rfl ?_
        refine rn_iload dX9_drain_53 rfl ?_
        refine rn_cV (M' := mX2_lose) (n := 2) (av := [.inl l4, .inl (l2 * x12)]) (S := [.inr (.inr (some l1))]) (rc := 0) (rs := 0) (mc := 0) (ms := 0) (a := l1) (ci := 2) (r := (RX2, TX2, 8)) dX9_drain_55 pa_X2_lose (Nat.le_refl _) rfl (Nat.le_of_ble_eq_true rfl) ml_X9_173 im_X2_lose se_X2_lose hl1 rfl rfl (Ev.mono V ?_)
        rintro v sh1 h13 ⟨rfl, Rh13, x14, rfl, V⟩
        show Rn G (d + 1) 0 0 mX9_drain 58 [(5, .inl (l2 * x12)), (0, .inr (.inr (some 1))), (1, .inr (.inr (some l1))), (2, .inl l2), (3, .inl l3), (4, .inl l4)] [.inl x14, .inr (.inr (some l1))] SH h13 (QV Q)
        refine rn_cV (M' := mX2_floorGets) (n := 1) (av := [.inl x14]) (S := []) (rc := 0) (rs := 0) (mc := 0) (ms := 0) (a := l1) (ci := 2) (r := (RX2, TX2, 8)) dX9_drain_58 pa_X2_floorGets (Nat.le_refl _) rfl (Nat.le_of_ble_eq_true rfl) ml_X9_176 im_X2_floorGets se_X2_floorGets hl1 rfl rfl (Ev.mono V ?_)
        rintro v sh1 h15 ⟨rfl, Rh15, rfl, V⟩
        show Rn G (d + 1) 0 0 mX9_drain 61 [(5, .inl (l2 * x12)), (0, .inr (.inr (some 1))), (1, .inr (.inr (some l1))), (2, .inl l2), (3, .inl l3), (4, .inl l4)] [] SH h15 (QV Q)
        refine rn_iinc (L' := [(4, .inl (l4 + 1)), (5, .inl (l2 * x12)), (0, .inr (.inr (some 1))), (1, .inr (.inr (some l1))), (2, .inl l2), (3, .inl l3)]) dX9_drain_61 rfl (v := (l4 + 1)) rfl (Nat.le_of_ble_eq_true rfl) rfl ?_
        refine rn_goto (tgt := 9) dX9_drain_64 (by decide) ?_
        refine rn_sub [2, 3, 4, 5, 0] (L' := [(0, .inr (.inr (some 1))), (1, .inr (.inr (some l1))), (2, .inl l2), (3, .inl l3), (4, .inl (l4 + 1))]) rfl ?_
        exact V
set_option maxRecDepth 100000 in
set_option maxHeartbeats 4000000 in
theorem vc_X9_drain {G : GT} {d : Nat} {a1 : Nat} {a2 : Int32} (ha1 : SH[a1]? = some (.inl 2)) {h : Hp} {Q : Hp → Prop} (hR : RF h) (V : EvI G d mX9_speaker [.inr (.inr (some 1)), .inr (.inr (some a1))] h (fun x2 h1 => Rg_X9_drain_9 G d a1 a2 x2 0 h1 Q)) : EvV G (d + 1) mX9_drain [.inr (.inr (some 1)), .inr (.inr (some a1)), .inl a2] h Q := by
  refine Ev.of rfl (fun _ => Nat.le_of_ble_eq_true rfl) ?_
  show Rn G (d + 1) 0 0 mX9_drain 0 [(0, .inr (.inr (some 1))), (1, .inr (.inr (some a1))), (2, .inl a2)] [] SH h (QV Q)
  refine rn_aload_n dX9_drain_0 rfl rfl ?_
  refine rn_aload_n dX9_drain_1 rfl rfl ?_
  refine rn_cV (M' := mX9_speaker) (n := 1) (av := [.inr (.inr (some a1))]) (S := []) (rc := 0) (rs := 0) (mc := 0) (ms := 0) (a := 1) (ci := 8) (r := (RX9, TX9, 17)) dX9_drain_2 pa_X9_speaker (Nat.le_refl _) rfl (Nat.le_of_ble_eq_true rfl) ml_X9_135 im_X9_speaker se_X9_speaker rfl rfl rfl (Ev.mono V ?_)
  rintro v sh1 h1 ⟨rfl, Rh1, x2, rfl, V⟩
  show Rn G (d + 1) 0 0 mX9_drain 5 [(0, .inr (.inr (some 1))), (1, .inr (.inr (some a1))), (2, .inl a2)] [.inl x2] SH h1 (QV Q)
  refine rn_istore_n (L' := [(3, .inl x2), (0, .inr (.inr (some 1))), (1, .inr (.inr (some a1))), (2, .inl a2)]) dX9_drain_5 rfl (Nat.le_of_ble_eq_true rfl) rfl ?_
  refine rn_iconst (v := 0) dX9_drain_6 (by decide) ?_
  refine rn_istore (L' := [(4, .inl 0), (3, .inl x2), (0, .inr (.inr (some 1))), (1, .inr (.inr (some a1))), (2, .inl a2)]) dX9_drain_7 (Nat.le_of_ble_eq_true rfl) rfl ?_
  refine rn_sub [2, 3, 4, 1, 0] (L' := [(0, .inr (.inr (some 1))), (1, .inr (.inr (some a1))), (2, .inl a2), (3, .inl x2), (4, .inl 0)]) rfl ?_
  exact V
set_option maxRecDepth 100000 in
set_option maxHeartbeats 4000000 in
theorem vc_X9_loseByDraws {G : GT} {d : Nat}   {h : Hp} {Q : Hp → Prop} (hR : RF h) (V : EvI G d mX9_draw [.inr (.inr (some 1))] h (fun x2 h1 => EvI G d mX9_draw [.inr (.inr (some 1))] h1 (fun x4 h3 => EvI G d mX9_hasParty [.inr (.inr (some 1)), .inl (x2 - x2 / 4 * 4)] h3 (fun x6 h5 => ((x6 = 0 → Q h5) ∧ (¬ x6 = 0 → EvI G d mX2_lose [.inr (.inr (some 9)), .inl (x2 - x2 / 4 * 4), .inl (x4 - x4 / 6 * 6)] h5 (fun x9 h8 => Q h8))))))) : EvV G (d + 1) mX9_loseByDraws [.inr (.inr (some 1))] h Q := by
  refine Ev.of rfl (fun _ => Nat.le_of_ble_eq_true rfl) ?_
  show Rn G (d + 1) 0 0 mX9_loseByDraws 0 [(0, .inr (.inr (some 1)))] [] SH h (QV Q)
  refine rn_aload_n dX9_loseByDraws_0 rfl rfl ?_
  refine rn_cV (M' := mX9_draw) (n := 0) (av := []) (S := []) (rc := 0) (rs := 0) (mc := 0) (ms := 0) (a := 1) (ci := 8) (r := (RX9, TX9, 17)) dX9_loseByDraws_1 pa_X9_draw (Nat.le_refl _) rfl (Nat.le_of_ble_eq_true rfl) ml_X9_180 im_X9_draw se_X9_draw rfl rfl rfl (Ev.mono V ?_)
  rintro v sh1 h1 ⟨rfl, Rh1, x2, rfl, V⟩
  show Rn G (d + 1) 0 0 mX9_loseByDraws 4 [(0, .inr (.inr (some 1)))] [.inl x2] SH h1 (QV Q)
  refine rn_iconst (v := 4) dX9_loseByDraws_4 (by decide) ?_
  refine rn_irem dX9_loseByDraws_5 (by decide) ?_
  refine rn_istore_n (L' := [(1, .inl (x2 - x2 / 4 * 4)), (0, .inr (.inr (some 1)))]) dX9_loseByDraws_6 rfl (Nat.le_of_ble_eq_true rfl) rfl ?_
  refine rn_aload_n dX9_loseByDraws_7 rfl rfl ?_
  refine rn_cV (M' := mX9_draw) (n := 0) (av := []) (S := []) (rc := 0) (rs := 0) (mc := 0) (ms := 0) (a := 1) (ci := 8) (r := (RX9, TX9, 17)) dX9_loseByDraws_8 pa_X9_draw (Nat.le_refl _) rfl (Nat.le_of_ble_eq_true rfl) ml_X9_180 im_X9_draw se_X9_draw rfl rfl rfl (Ev.mono V ?_)
  rintro v sh1 h3 ⟨rfl, Rh3, x4, rfl, V⟩
  show Rn G (d + 1) 0 0 mX9_loseByDraws 11 [(1, .inl (x2 - x2 / 4 * 4)), (0, .inr (.inr (some 1)))] [.inl x4] SH h3 (QV Q)
  refine rn_bipush (v := 6) dX9_loseByDraws_11 (by decide) ?_
  refine rn_irem dX9_loseByDraws_13 (by decide) ?_
  refine rn_istore_n (L' := [(2, .inl (x4 - x4 / 6 * 6)), (1, .inl (x2 - x2 / 4 * 4)), (0, .inr (.inr (some 1)))]) dX9_loseByDraws_14 rfl (Nat.le_of_ble_eq_true rfl) rfl ?_
  refine rn_aload_n dX9_loseByDraws_15 rfl rfl ?_
  refine rn_iload_n dX9_loseByDraws_16 rfl rfl ?_
  refine rn_cV (M' := mX9_hasParty) (n := 1) (av := [.inl (x2 - x2 / 4 * 4)]) (S := []) (rc := 0) (rs := 0) (mc := 0) (ms := 0) (a := 1) (ci := 8) (r := (RX9, TX9, 17)) dX9_loseByDraws_17 pa_X9_hasParty (Nat.le_refl _) rfl (Nat.le_of_ble_eq_true rfl) ml_X9_98 im_X9_hasParty se_X9_hasParty rfl rfl rfl (Ev.mono V ?_)
  rintro v sh1 h5 ⟨rfl, Rh5, x6, rfl, V⟩
  show Rn G (d + 1) 0 0 mX9_loseByDraws 20 [(2, .inl (x4 - x4 / 6 * 6)), (1, .inl (x2 - x2 / 4 * 4)), (0, .inr (.inr (some 1)))] [.inl x6] SH h5 (QV Q)
  refine rn_if_eq (tgt := 33) dX9_loseByDraws_20 (by decide) (fun c7 => ?_) (fun c7 => ?_)
  · replace V := V.1 c7
    exact rn_vret dX9_loseByDraws_33 rfl ⟨rfl, Rh5, rfl, V⟩
  · replace V := V.2 c7
    refine rn_aload_n dX9_loseByDraws_23 rfl rfl ?_
    refine rn_get (v := .inr (.inr (some 9))) dX9_loseByDraws_24 fl_X9_36 rfl rfl (congrArg (fun z => (Sum.inr (Sum.inr z) : MV)) (rf_1_9 Rh5)) ?_
    refine rn_iload_n dX9_loseByDraws_27 rfl rfl ?_
    refine rn_iload_n dX9_loseByDraws_28 rfl rfl ?_
    refine rn_cV (M' := mX2_lose) (n := 2) (av := [.inl (x2 - x2 / 4 * 4), .inl (x4 - x4 / 6 * 6)]) (S := []) (rc := 0) (rs := 0) (mc := 0) (ms := 0) (a := 9) (ci := 2) (r := (RX2, TX2, 8)) dX9_loseByDraws_29 pa_X2_lose (Nat.le_refl _) rfl (Nat.le_of_ble_eq_true rfl) ml_X9_173 im_X2_lose se_X2_lose rfl rfl rfl (Ev.mono V ?_)
    rintro v sh1 h8 ⟨rfl, Rh8, x9, rfl, V⟩
    show Rn G (d + 1) 0 0 mX9_loseByDraws 32 [(2, .inl (x4 - x4 / 6 * 6)), (1, .inl (x2 - x2 / 4 * 4)), (0, .inr (.inr (some 1)))] [.inl x9] SH h8 (QV Q)
    refine rn_pop dX9_loseByDraws_32 rfl ?_
    exact rn_vret dX9_loseByDraws_33 rfl ⟨rfl, Rh8, rfl, V⟩
set_option maxRecDepth 100000 in
set_option maxHeartbeats 4000000 in
theorem vc_X9_draw {G : GT} {d : Nat}   {h : Hp} {Q : Int32 → Hp → Prop} (hR : RF h) (V : Q ((Int32.toUInt32 ((h.1 1 16 * 1103515245) + 12345) >>> (Int32.toUInt32 8 &&& Int32.toUInt32 31)).toInt32) (sI h 1 16 ((h.1 1 16 * 1103515245) + 12345))) : EvI G (d + 1) mX9_draw [.inr (.inr (some 1))] h Q := by
  refine Ev.of rfl (fun _ => Nat.le_of_ble_eq_true rfl) ?_
  show Rn G (d + 1) 0 0 mX9_draw 0 [(0, .inr (.inr (some 1)))] [] SH h (QI Q)
  refine rn_aload_n dX9_draw_0 rfl rfl ?_
  refine rn_aload_n dX9_draw_1 rfl rfl ?_
  refine rn_get (v := .inl (h.1 1 16)) dX9_draw_2 fl_X9_56 rfl rfl rfl ?_
  refine rn_ldc (v := 1103515245) dX9_draw_5 cw_X9_184 ?_
  refine rn_imul dX9_draw_7 ?_
  refine rn_sipush (v := 12345) dX9_draw_8 (by decide) ?_
  refine rn_iadd dX9_draw_11 ?_
  refine rn_putI dX9_draw_12 fl_X9_56 rfl rfl (Or.inl rfl) rfl rfl ?_
  refine rn_aload_n dX9_draw_15 rfl rfl ?_
  refine rn_get (v := .inl ((h.1 1 16 * 1103515245) + 12345)) dX9_draw_16 fl_X9_56 rfl rfl rfl ?_
  refine rn_bipush (v := 8) dX9_draw_19 (by decide) ?_
  refine rn_iushr dX9_draw_21 ?_
  exact rn_iret dX9_draw_22 rfl ⟨rfl, hR, _, rfl, V⟩
