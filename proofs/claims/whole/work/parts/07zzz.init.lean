/-! THE CONSTRUCTORS: what each makes -/
theorem aw_I : Cond.arrayClass .int ∈ lw_g := lg_in (tk_1 (List.mem_of_getElem? (i := 90) (by decide +kernel))) rfl
theorem aw_L : Cond.arrayClass .long ∈ lw_g := lg_in (tk_2 (List.mem_of_getElem? (i := 91) (by decide +kernel))) rfl
theorem aw_F : Cond.arrayOver (.object RX2) ∈ lw_n := ln_in (tk_2 (List.mem_of_getElem? (i := 45) (by decide +kernel))) rfl
theorem aw_A : Cond.arrayOver (.array .int) ∈ lw_n := ln_in (tk_2 (List.mem_of_getElem? (i := 123) (by decide +kernel))) rfl
theorem cl_X1_9 : Cond.classLink RX1 9 RX2 ∈ lw_g := lg_in (tk_2 (List.mem_of_getElem? (i := 44) (by decide +kernel))) rfl
theorem cl_X6_9 : Cond.classLink RX6 9 RX10 ∈ lw_g := lg_in (tk_1 (List.mem_of_getElem? (i := 198) (by decide +kernel))) rfl
theorem cl_X8_18 : Cond.classLink RX8 18 ("[" ++ (FieldType.array .int).toString) ∈ lw_g := lg_in (tk_2 (List.mem_of_getElem? (i := 122) (by decide +kernel))) rfl
theorem cl_X9_33 : Cond.classLink RX9 33 RX2 ∈ lw_g := lg_in (tk_1 (List.mem_of_getElem? (i := 36) (by decide +kernel))) rfl
theorem cl_X9_40 : Cond.classLink RX9 40 RX10 ∈ lw_g := lg_in (tk_1 (List.mem_of_getElem? (i := 91) (by decide +kernel))) rfl
theorem cl_X11_19 : Cond.classLink RX11 19 RX2 ∈ lw_g := lg_in (tk_1 (List.mem_of_getElem? (i := 190) (by decide +kernel))) rfl
theorem cl_X11_26 : Cond.classLink RX11 26 RX6 ∈ lw_g := lg_in (tk_1 (List.mem_of_getElem? (i := 192) (by decide +kernel))) rfl
theorem cl_X11_33 : Cond.classLink RX11 33 RX5 ∈ lw_g := lg_in (tk_1 (List.mem_of_getElem? (i := 219) (by decide +kernel))) rfl
theorem cl_X11_40 : Cond.classLink RX11 40 RX3 ∈ lw_g := lg_in (tk_2 (List.mem_of_getElem? (i := 17) (by decide +kernel))) rfl
theorem cl_X11_47 : Cond.classLink RX11 47 RX1 ∈ lw_g := lg_in (tk_2 (List.mem_of_getElem? (i := 38) (by decide +kernel))) rfl
theorem cl_X11_54 : Cond.classLink RX11 54 RX7 ∈ lw_g := lg_in (tk_2 (List.mem_of_getElem? (i := 64) (by decide +kernel))) rfl
theorem cl_X11_61 : Cond.classLink RX11 61 RX0 ∈ lw_g := lg_in (tk_2 (List.mem_of_getElem? (i := 92) (by decide +kernel))) rfl
theorem cl_X11_68 : Cond.classLink RX11 68 RX8 ∈ lw_g := lg_in (tk_2 (List.mem_of_getElem? (i := 116) (by decide +kernel))) rfl
theorem cl_X11_7 : Cond.classLink RX11 7 RX9 ∈ lw_g := lg_in (tk_1 (List.mem_of_getElem? (i := 30) (by decide +kernel))) rfl
theorem cl_L_10 : Cond.classLink RL 10 RX12 ∈ lw_g := lg_in (tk_5 (List.mem_of_getElem? (i := 86) (by decide +kernel))) rfl
theorem cl_L_7 : Cond.classLink RL 7 RX11 ∈ lw_g := lg_in (tk_1 (List.mem_of_getElem? (i := 22) (by decide +kernel))) rfl
theorem iz_X0 : Cond.initialized RX0 ∈ lw_g := lg_in (tk_1 (List.mem_of_getElem? (i := 10) (by decide +kernel))) rfl
theorem iz_X1 : Cond.initialized RX1 ∈ lw_g := lg_in (tk_1 (List.mem_of_getElem? (i := 8) (by decide +kernel))) rfl
theorem iz_X2 : Cond.initialized RX2 ∈ lw_g := lg_in (tk_1 (List.mem_of_getElem? (i := 3) (by decide +kernel))) rfl
theorem iz_X3 : Cond.initialized RX3 ∈ lw_g := lg_in (tk_1 (List.mem_of_getElem? (i := 7) (by decide +kernel))) rfl
theorem iz_X5 : Cond.initialized RX5 ∈ lw_g := lg_in (tk_1 (List.mem_of_getElem? (i := 6) (by decide +kernel))) rfl
theorem iz_X6 : Cond.initialized RX6 ∈ lw_g := lg_in (tk_1 (List.mem_of_getElem? (i := 5) (by decide +kernel))) rfl
theorem iz_X7 : Cond.initialized RX7 ∈ lw_g := lg_in (tk_1 (List.mem_of_getElem? (i := 9) (by decide +kernel))) rfl
theorem iz_X8 : Cond.initialized RX8 ∈ lw_g := lg_in (tk_1 (List.mem_of_getElem? (i := 11) (by decide +kernel))) rfl
theorem iz_X9 : Cond.initialized RX9 ∈ lw_g := lg_in (tk_1 (List.mem_of_getElem? (i := 2) (by decide +kernel))) rfl
theorem iz_X10 : Cond.initialized RX10 ∈ lw_g := lg_in (tk_1 (List.mem_of_getElem? (i := 4) (by decide +kernel))) rfl
theorem iz_X11 : Cond.initialized RX11 ∈ lw_g := lg_in (tk_1 (List.mem_of_getElem? (i := 1) (by decide +kernel))) rfl
theorem iz_L : Cond.initialized RL ∈ lw_g := lg_in (tk_1 (List.mem_of_getElem? (i := 0) (by decide +kernel))) rfl
theorem iz_X12 : Cond.initialized RX12 ∈ lw_g := lg_in (tk_1 (List.mem_of_getElem? (i := 12) (by decide +kernel))) rfl
theorem iz_J11 : Cond.initialized RJ11 ∈ lw_g := lg_in (tk_1 (List.mem_of_getElem? (i := 20) (by decide +kernel))) rfl
theorem iz_J6 : Cond.initialized RJ6 ∈ lw_g := lg_in (tk_1 (List.mem_of_getElem? (i := 21) (by decide +kernel))) rfl
theorem iz_J9 : Cond.initialized RJ9 ∈ lw_g := lg_in (tk_1 (List.mem_of_getElem? (i := 14) (by decide +kernel))) rfl
theorem iz_J0 : Cond.initialized RJ0 ∈ lw_g := lg_in (tk_1 (List.mem_of_getElem? (i := 16) (by decide +kernel))) rfl
theorem iz_J1 : Cond.initialized RJ1 ∈ lw_g := lg_in (tk_1 (List.mem_of_getElem? (i := 17) (by decide +kernel))) rfl
theorem iz_J2 : Cond.initialized RJ2 ∈ lw_g := lg_in (tk_1 (List.mem_of_getElem? (i := 18) (by decide +kernel))) rfl
theorem iz_J10 : Cond.initialized RJ10 ∈ lw_g := lg_in (tk_1 (List.mem_of_getElem? (i := 15) (by decide +kernel))) rfl
theorem iz_J3 : Cond.initialized RJ3 ∈ lw_g := lg_in (tk_1 (List.mem_of_getElem? (i := 19) (by decide +kernel))) rfl
theorem in_X0 : Cond.instantiable RX0 5 ∈ lw_g := lg_in (tk_2 (List.mem_of_getElem? (i := 93) (by decide +kernel))) rfl
theorem in_X1 : Cond.instantiable RX1 5 ∈ lw_g := lg_in (tk_2 (List.mem_of_getElem? (i := 39) (by decide +kernel))) rfl
theorem in_X2 : Cond.instantiable RX2 8 ∈ lw_g := lg_in (tk_1 (List.mem_of_getElem? (i := 37) (by decide +kernel))) rfl
theorem in_X3 : Cond.instantiable RX3 4 ∈ lw_g := lg_in (tk_2 (List.mem_of_getElem? (i := 18) (by decide +kernel))) rfl
theorem in_X5 : Cond.instantiable RX5 9 ∈ lw_g := lg_in (tk_1 (List.mem_of_getElem? (i := 220) (by decide +kernel))) rfl
theorem in_X6 : Cond.instantiable RX6 5 ∈ lw_g := lg_in (tk_1 (List.mem_of_getElem? (i := 193) (by decide +kernel))) rfl
theorem in_X7 : Cond.instantiable RX7 6 ∈ lw_g := lg_in (tk_2 (List.mem_of_getElem? (i := 65) (by decide +kernel))) rfl
theorem in_X8 : Cond.instantiable RX8 3 ∈ lw_g := lg_in (tk_2 (List.mem_of_getElem? (i := 117) (by decide +kernel))) rfl
theorem in_X9 : Cond.instantiable RX9 17 ∈ lw_g := lg_in (tk_1 (List.mem_of_getElem? (i := 31) (by decide +kernel))) rfl
theorem in_X10 : Cond.instantiable RX10 3 ∈ lw_g := lg_in (tk_1 (List.mem_of_getElem? (i := 92) (by decide +kernel))) rfl
theorem in_X11 : Cond.instantiable RX11 12 ∈ lw_g := lg_in (tk_1 (List.mem_of_getElem? (i := 23) (by decide +kernel))) rfl
theorem in_X12 : Cond.instantiable RX12 38 ∈ lw_g := lg_in (tk_5 (List.mem_of_getElem? (i := 87) (by decide +kernel))) rfl
theorem df_X0 : ∀ k, k < 5 → defaultValue (tyX0 k) = tr0 ((fc 0).getD k 0) := by decide +kernel
theorem df_X1 : ∀ k, k < 5 → defaultValue (tyX1 k) = tr0 ((fc 1).getD k 0) := by decide +kernel
theorem df_X2 : ∀ k, k < 8 → defaultValue (tyX2 k) = tr0 ((fc 2).getD k 0) := by decide +kernel
theorem df_X3 : ∀ k, k < 4 → defaultValue (tyX3 k) = tr0 ((fc 3).getD k 0) := by decide +kernel
theorem df_X5 : ∀ k, k < 9 → defaultValue (tyX5 k) = tr0 ((fc 4).getD k 0) := by decide +kernel
theorem df_X6 : ∀ k, k < 5 → defaultValue (tyX6 k) = tr0 ((fc 5).getD k 0) := by decide +kernel
theorem df_X7 : ∀ k, k < 6 → defaultValue (tyX7 k) = tr0 ((fc 6).getD k 0) := by decide +kernel
theorem df_X8 : ∀ k, k < 3 → defaultValue (tyX8 k) = tr0 ((fc 7).getD k 0) := by decide +kernel
theorem df_X9 : ∀ k, k < 17 → defaultValue (tyX9 k) = tr0 ((fc 8).getD k 0) := by decide +kernel
theorem df_X10 : ∀ k, k < 3 → defaultValue (tyX10 k) = tr0 ((fc 9).getD k 0) := by decide +kernel
theorem df_X11 : ∀ k, k < 12 → defaultValue (tyX11 k) = tr0 ((fc 10).getD k 0) := by decide +kernel
theorem df_X12 : ∀ k, k < 38 → defaultValue (tyX12 k) = tr0 ((fc 11).getD k 0) := by decide +kernel
def hX10 (h : Hp) (a n : Nat) : Hp := (sR (zr (sR (zr h n) a 0 (some n)) (n + 1)) a 1 (some (n + 1)))
set_option maxRecDepth 100000 in
set_option maxHeartbeats 4000000 in
theorem ci_X10 {G : GT} {d a n : Nat} {sh sh' : List Sh} {h : Hp} {Q : Option MV → List Sh → Hp → Prop} (hs : sh[a]? = some (.inl 9)) (hl : sh.length = n) (hf : n + 300 < FB) (hsh : ((sh ++ [.inr (0, 50)]) ++ [.inr (0, 50)]) = sh') (k : Q none sh' (hX10 h a n)) : Ev G (d + 1) 2 100 mX10_init [.inr (.inr (some a))] sh h Q := by
  subst hsh
  refine Ev.of rfl (fun _ => Nat.le_of_ble_eq_true rfl) ?_
  show Rn G (d + 1) 2 100 mX10_init 0 [(0, .inr (.inr (some a)))] [] sh h Q
  refine rn_aload_n dX10_init_0 rfl rfl ?_
  refine rn_obj dX10_init_1 (by omega) (Nat.le_of_ble_eq_true rfl) ml_X10_3 oi_i oi_c ?_
  refine rn_aload_n dX10_init_4 rfl rfl ?_
  refine rn_bipush (v := 50) dX10_init_5 (by decide) ?_
  refine rn_newI (N := 50) (n := n) (rc := 1) (rs := 50) (sh' := (sh ++ [.inr (0, 50)])) dX10_init_7 (by decide) (by decide) (by decide) aw_I hl (by omega) rfl ?_
  refine rn_putR dX10_init_9 fl_X10_9 (app_l hs) rfl (Or.inr ⟨rfl, rfl, rfl⟩) rfl rfl ?_
  refine rn_aload_n dX10_init_12 rfl rfl ?_
  refine rn_bipush (v := 50) dX10_init_13 (by decide) ?_
  refine rn_newI (N := 50) (n := n + 1) (rc := 0) (rs := 0) (sh' := ((sh ++ [.inr (0, 50)]) ++ [.inr (0, 50)])) dX10_init_15 (by decide) (by decide) (by decide) aw_I (app_n hl) (by omega) rfl ?_
  refine rn_putR dX10_init_17 fl_X10_15 (app_l (app_l hs)) rfl (Or.inr ⟨rfl, rfl, rfl⟩) rfl rfl ?_
  exact rn_vret dX10_init_20 rfl k
def hX2 (h : Hp) (a n : Nat) : Hp := (sI (sR (zr (sR (zr (sR (zr h n) a 0 (some n)) (n + 1)) a 1 (some (n + 1))) (n + 2)) a 2 (some (n + 2))) a 6 (-1))
set_option maxRecDepth 100000 in
set_option maxHeartbeats 4000000 in
theorem ci_X2 {G : GT} {d a n : Nat} {sh sh' : List Sh} {h : Hp} {Q : Option MV → List Sh → Hp → Prop} (hs : sh[a]? = some (.inl 2)) (hl : sh.length = n) (hf : n + 300 < FB) (hsh : (((sh ++ [.inr (0, 4)]) ++ [.inr (0, 4)]) ++ [.inr (0, 12)]) = sh') (k : Q none sh' (hX2 h a n)) : Ev G (d + 1) 3 20 mX2_init [.inr (.inr (some a))] sh h Q := by
  subst hsh
  refine Ev.of rfl (fun _ => Nat.le_of_ble_eq_true rfl) ?_
  show Rn G (d + 1) 3 20 mX2_init 0 [(0, .inr (.inr (some a)))] [] sh h Q
  refine rn_aload_n dX2_init_0 rfl rfl ?_
  refine rn_obj dX2_init_1 (by omega) (Nat.le_of_ble_eq_true rfl) ml_X2_3 oi_i oi_c ?_
  refine rn_aload_n dX2_init_4 rfl rfl ?_
  refine rn_iconst (v := 4) dX2_init_5 (by decide) ?_
  refine rn_newI (N := 4) (n := n) (rc := 2) (rs := 16) (sh' := (sh ++ [.inr (0, 4)])) dX2_init_6 (by decide) (by decide) (by decide) aw_I hl (by omega) rfl ?_
  refine rn_putR dX2_init_8 fl_X2_9 (app_l hs) rfl (Or.inr ⟨rfl, rfl, rfl⟩) rfl rfl ?_
  refine rn_aload_n dX2_init_11 rfl rfl ?_
  refine rn_iconst (v := 4) dX2_init_12 (by decide) ?_
  refine rn_newI (N := 4) (n := n + 1) (rc := 1) (rs := 12) (sh' := ((sh ++ [.inr (0, 4)]) ++ [.inr (0, 4)])) dX2_init_13 (by decide) (by decide) (by decide) aw_I (app_n hl) (by omega) rfl ?_
  refine rn_putR dX2_init_15 fl_X2_15 (app_l (app_l hs)) rfl (Or.inr ⟨rfl, rfl, rfl⟩) rfl rfl ?_
  refine rn_aload_n dX2_init_18 rfl rfl ?_
  refine rn_bipush (v := 12) dX2_init_19 (by decide) ?_
  refine rn_newI (N := 12) (n := n + 2) (rc := 0) (rs := 0) (sh' := (((sh ++ [.inr (0, 4)]) ++ [.inr (0, 4)]) ++ [.inr (0, 12)])) dX2_init_21 (by decide) (by decide) (by decide) aw_I (app_n (app_n hl)) (by omega) rfl ?_
  refine rn_putR dX2_init_23 fl_X2_18 (app_l (app_l (app_l hs))) rfl (Or.inr ⟨rfl, rfl, rfl⟩) rfl rfl ?_
  refine rn_aload_n dX2_init_26 rfl rfl ?_
  refine rn_iconst (v := (-1)) dX2_init_27 (by decide) ?_
  refine rn_putI dX2_init_28 fl_X2_21 (app_l (app_l (app_l hs))) rfl (Or.inl rfl) rfl rfl ?_
  exact rn_vret dX2_init_31 rfl k
def hX5 (h : Hp) (a n : Nat) : Hp := (sR (zr (sR (zr (sR (zr h n) a 0 (some n)) (n + 1)) a 4 (some (n + 1))) (n + 2)) a 6 (some (n + 2)))
set_option maxRecDepth 100000 in
set_option maxHeartbeats 4000000 in
theorem ci_X5 {G : GT} {d a n : Nat} {sh sh' : List Sh} {h : Hp} {Q : Option MV → List Sh → Hp → Prop} (hs : sh[a]? = some (.inl 4)) (hl : sh.length = n) (hf : n + 300 < FB) (hsh : (((sh ++ [.inr (0, 5)]) ++ [.inr (0, 5)]) ++ [.inr (0, 5)]) = sh') (k : Q none sh' (hX5 h a n)) : Ev G (d + 1) 3 15 mX5_init [.inr (.inr (some a))] sh h Q := by
  subst hsh
  refine Ev.of rfl (fun _ => Nat.le_of_ble_eq_true rfl) ?_
  show Rn G (d + 1) 3 15 mX5_init 0 [(0, .inr (.inr (some a)))] [] sh h Q
  refine rn_aload_n dX5_init_0 rfl rfl ?_
  refine rn_obj dX5_init_1 (by omega) (Nat.le_of_ble_eq_true rfl) ml_X5_3 oi_i oi_c ?_
  refine rn_aload_n dX5_init_4 rfl rfl ?_
  refine rn_iconst (v := 5) dX5_init_5 (by decide) ?_
  refine rn_newI (N := 5) (n := n) (rc := 2) (rs := 10) (sh' := (sh ++ [.inr (0, 5)])) dX5_init_6 (by decide) (by decide) (by decide) aw_I hl (by omega) rfl ?_
  refine rn_putR dX5_init_8 fl_X5_9 (app_l hs) rfl (Or.inr ⟨rfl, rfl, rfl⟩) rfl rfl ?_
  refine rn_aload_n dX5_init_11 rfl rfl ?_
  refine rn_iconst (v := 5) dX5_init_12 (by decide) ?_
  refine rn_newI (N := 5) (n := n + 1) (rc := 1) (rs := 5) (sh' := ((sh ++ [.inr (0, 5)]) ++ [.inr (0, 5)])) dX5_init_13 (by decide) (by decide) (by decide) aw_I (app_n hl) (by omega) rfl ?_
  refine rn_putR dX5_init_15 fl_X5_15 (app_l (app_l hs)) rfl (Or.inr ⟨rfl, rfl, rfl⟩) rfl rfl ?_
  refine rn_aload_n dX5_init_18 rfl rfl ?_
  refine rn_iconst (v := 5) dX5_init_19 (by decide) ?_
  refine rn_newI (N := 5) (n := n + 2) (rc := 0) (rs := 0) (sh' := (((sh ++ [.inr (0, 5)]) ++ [.inr (0, 5)]) ++ [.inr (0, 5)])) dX5_init_20 (by decide) (by decide) (by decide) aw_I (app_n (app_n hl)) (by omega) rfl ?_
  refine rn_putR dX5_init_22 fl_X5_18 (app_l (app_l (app_l hs))) rfl (Or.inr ⟨rfl, rfl, rfl⟩) rfl rfl ?_
  exact rn_vret dX5_init_25 rfl k
def hX3 (h : Hp) (a n : Nat) : Hp := (sR (zr (sR (zr h n) a 0 (some n)) (n + 1)) a 2 (some (n + 1)))
set_option maxRecDepth 100000 in
set_option maxHeartbeats 4000000 in
theorem ci_X3 {G : GT} {d a n : Nat} {sh sh' : List Sh} {h : Hp} {Q : Option MV → List Sh → Hp → Prop} (hs : sh[a]? = some (.inl 3)) (hl : sh.length = n) (hf : n + 300 < FB) (hsh : ((sh ++ [.inr (0, 4)]) ++ [.inr (0, 16)]) = sh') (k : Q none sh' (hX3 h a n)) : Ev G (d + 1) 2 20 mX3_init [.inr (.inr (some a))] sh h Q := by
  subst hsh
  refine Ev.of rfl (fun _ => Nat.le_of_ble_eq_true rfl) ?_
  show Rn G (d + 1) 2 20 mX3_init 0 [(0, .inr (.inr (some a)))] [] sh h Q
  refine rn_aload_n dX3_init_0 rfl rfl ?_
  refine rn_obj dX3_init_1 (by omega) (Nat.le_of_ble_eq_true rfl) ml_X3_3 oi_i oi_c ?_
  refine rn_aload_n dX3_init_4 rfl rfl ?_
  refine rn_iconst (v := 4) dX3_init_5 (by decide) ?_
  refine rn_newI (N := 4) (n := n) (rc := 1) (rs := 16) (sh' := (sh ++ [.inr (0, 4)])) dX3_init_6 (by decide) (by decide) (by decide) aw_I hl (by omega) rfl ?_
  refine rn_putR dX3_init_8 fl_X3_9 (app_l hs) rfl (Or.inr ⟨rfl, rfl, rfl⟩) rfl rfl ?_
  refine rn_aload_n dX3_init_11 rfl rfl ?_
  refine rn_bipush (v := 16) dX3_init_12 (by decide) ?_
  refine rn_newI (N := 16) (n := n + 1) (rc := 0) (rs := 0) (sh' := ((sh ++ [.inr (0, 4)]) ++ [.inr (0, 16)])) dX3_init_14 (by decide) (by decide) (by decide) aw_I (app_n hl) (by omega) rfl ?_
  refine rn_putR dX3_init_16 fl_X3_15 (app_l (app_l hs)) rfl (Or.inr ⟨rfl, rfl, rfl⟩) rfl rfl ?_
  exact rn_vret dX3_init_19 rfl k
def hX7 (h : Hp) (a n : Nat) : Hp := (sR (zr (sR (zr (sR (zr (sR (zr h n) a 2 (some n)) (n + 1)) a 3 (some (n + 1))) (n + 2)) a 4 (some (n + 2))) (n + 3)) a 5 (some (n + 3)))
set_option maxRecDepth 100000 in
set_option maxHeartbeats 4000000 in
theorem ci_X7 {G : GT} {d a n : Nat} {sh sh' : List Sh} {h : Hp} {Q : Option MV → List Sh → Hp → Prop} (hs : sh[a]? = some (.inl 6)) (hl : sh.length = n) (hf : n + 300 < FB) (hsh : ((((sh ++ [.inr (0, 32)]) ++ [.inr (1, 32)]) ++ [.inr (0, 32)]) ++ [.inr (1, 32)]) = sh') (k : Q none sh' (hX7 h a n)) : Ev G (d + 1) 4 128 mX7_init [.inr (.inr (some a))] sh h Q := by
  subst hsh
  refine Ev.of rfl (fun _ => Nat.le_of_ble_eq_true rfl) ?_
  show Rn G (d + 1) 4 128 mX7_init 0 [(0, .inr (.inr (some a)))] [] sh h Q
  refine rn_aload_n dX7_init_0 rfl rfl ?_
  refine rn_obj dX7_init_1 (by omega) (Nat.le_of_ble_eq_true rfl) ml_X7_3 oi_i oi_c ?_
  refine rn_aload_n dX7_init_4 rfl rfl ?_
  refine rn_bipush (v := 32) dX7_init_5 (by decide) ?_
  refine rn_newI (N := 32) (n := n) (rc := 3) (rs := 96) (sh' := (sh ++ [.inr (0, 32)])) dX7_init_7 (by decide) (by decide) (by decide) aw_I hl (by omega) rfl ?_
  refine rn_putR dX7_init_9 fl_X7_9 (app_l hs) rfl (Or.inr ⟨rfl, rfl, rfl⟩) rfl rfl ?_
  refine rn_aload_n dX7_init_12 rfl rfl ?_
  refine rn_bipush (v := 32) dX7_init_13 (by decide) ?_
  refine rn_newL (N := 32) (n := n + 1) (rc := 2) (rs := 64) (sh' := ((sh ++ [.inr (0, 32)]) ++ [.inr (1, 32)])) dX7_init_15 (by decide) (by decide) (by decide) aw_L (app_n hl) (by omega) rfl ?_
  refine rn_putR dX7_init_17 fl_X7_15 (app_l (app_l hs)) rfl (Or.inr ⟨rfl, rfl, rfl⟩) rfl rfl ?_
  refine rn_aload_n dX7_init_20 rfl rfl ?_
  refine rn_bipush (v := 32) dX7_init_21 (by decide) ?_
  refine rn_newI (N := 32) (n := n + 2) (rc := 1) (rs := 32) (sh' := (((sh ++ [.inr (0, 32)]) ++ [.inr (1, 32)]) ++ [.inr (0, 32)])) dX7_init_23 (by decide) (by decide) (by decide) aw_I (app_n (app_n hl)) (by omega) rfl ?_
  refine rn_putR dX7_init_25 fl_X7_19 (app_l (app_l (app_l hs))) rfl (Or.inr ⟨rfl, rfl, rfl⟩) rfl rfl ?_
  refine rn_aload_n dX7_init_28 rfl rfl ?_
  refine rn_bipush (v := 32) dX7_init_29 (by decide) ?_
  refine rn_newL (N := 32) (n := n + 3) (rc := 0) (rs := 0) (sh' := ((((sh ++ [.inr (0, 32)]) ++ [.inr (1, 32)]) ++ [.inr (0, 32)]) ++ [.inr (1, 32)])) dX7_init_31 (by decide) (by decide) (by decide) aw_L (app_n (app_n (app_n hl))) (by omega) rfl ?_
  refine rn_putR dX7_init_33 fl_X7_22 (app_l (app_l (app_l (app_l hs)))) rfl (Or.inr ⟨rfl, rfl, rfl⟩) rfl rfl ?_
  exact rn_vret dX7_init_36 rfl k
def hX0 (h : Hp) (a n : Nat) : Hp := (sR (zr h n) a 0 (some n))
set_option maxRecDepth 100000 in
set_option maxHeartbeats 4000000 in
theorem ci_X0 {G : GT} {d a n : Nat} {sh sh' : List Sh} {h : Hp} {Q : Option MV → List Sh → Hp → Prop} (hs : sh[a]? = some (.inl 0)) (hl : sh.length = n) (hf : n + 300 < FB) (hsh : (sh ++ [.inr (0, 40)]) = sh') (k : Q none sh' (hX0 h a n)) : Ev G (d + 1) 1 40 mX0_init [.inr (.inr (some a))] sh h Q := by
  subst hsh
  refine Ev.of rfl (fun _ => Nat.le_of_ble_eq_true rfl) ?_
  show Rn G (d + 1) 1 40 mX0_init 0 [(0, .inr (.inr (some a)))] [] sh h Q
  refine rn_aload_n dX0_init_0 rfl rfl ?_
  refine rn_obj dX0_init_1 (by omega) (Nat.le_of_ble_eq_true rfl) ml_X0_3 oi_i oi_c ?_
  refine rn_aload_n dX0_init_4 rfl rfl ?_
  refine rn_bipush (v := 40) dX0_init_5 (by decide) ?_
  refine rn_newI (N := 40) (n := n) (rc := 0) (rs := 0) (sh' := (sh ++ [.inr (0, 40)])) dX0_init_7 (by decide) (by decide) (by decide) aw_I hl (by omega) rfl ?_
  refine rn_putR dX0_init_9 fl_X0_9 (app_l hs) rfl (Or.inr ⟨rfl, rfl, rfl⟩) rfl rfl ?_
  exact rn_vret dX0_init_12 rfl k
def hX9_1 (h : Hp) : Hp := (sI (sR (zr (sR (zr (sR (hX10 (zr (sR (hX10 (zr (sR (hX2 (zr (sR (zr (sR (zr (sR (zr (sR (zr (sR (zr (sR (zr (sR (zr h 2) 1 1 (some 2)) 3) 1 2 (some 3)) 4) 1 3 (some 4)) 5) 1 5 (some 5)) 6) 1 6 (some 6)) 7) 1 7 (some 7)) 8) 1 8 (some 8)) 9) 9 10) 1 9 (some 9)) 13) 13 14) 1 10 (some 13)) 16) 16 17) 1 11 (some 16)) 19) 1 12 (some 19)) 20) 1 14 (some 20)) 1 16 1)
set_option maxRecDepth 100000 in
set_option maxHeartbeats 4000000 in
theorem ci_X9_1 {G : GT} {d : Nat} {h : Hp} {Q : Option MV → List Sh → Hp → Prop} (k : Q none (SH.take 21) (hX9_1 h)) : Ev G (d + 2) 19 364 mX9_init [.inr (.inr (some 1))] (SH.take 2) h Q := by
  refine Ev.of rfl (fun _ => Nat.le_of_ble_eq_true rfl) ?_
  show Rn G (d + 2) 19 364 mX9_init 0 [(0, .inr (.inr (some 1)))] [] (SH.take 2) h Q
  refine rn_aload_n dX9_init_0 rfl rfl ?_
  refine rn_obj dX9_init_1 (by omega) (Nat.le_of_ble_eq_true rfl) ml_X9_3 oi_i oi_c ?_
  refine rn_aload_n dX9_init_4 rfl rfl ?_
  refine rn_iconst (v := 4) dX9_init_5 (by decide) ?_
  refine rn_newI (N := 4) (n := 2) (rc := 18) (rs := 360) (sh' := (SH.take 3)) dX9_init_6 (by decide) (by decide) (by decide) aw_I rfl (by decide) rfl ?_
  refine rn_putR dX9_init_8 fl_X9_9 rfl rfl (Or.inr ⟨rfl, rfl, rfl⟩) rfl rfl ?_
  refine rn_aload_n dX9_init_11 rfl rfl ?_
  refine rn_iconst (v := 4) dX9_init_12 (by decide) ?_
  refine rn_newI (N := 4) (n := 3) (rc := 17) (rs := 356) (sh' := (SH.take 4)) dX9_init_13 (by decide) (by decide) (by decide) aw_I rfl (by decide) rfl ?_
  refine rn_putR dX9_init_15 fl_X9_15 rfl rfl (Or.inr ⟨rfl, rfl, rfl⟩) rfl rfl ?_
  refine rn_aload_n dX9_init_18 rfl rfl ?_
  refine rn_iconst (v := 4) dX9_init_19 (by decide) ?_
  refine rn_newI (N := 4) (n := 4) (rc := 16) (rs := 352) (sh' := (SH.take 5)) dX9_init_20 (by decide) (by decide) (by decide) aw_I rfl (by decide) rfl ?_
  refine rn_putR dX9_init_22 fl_X9_18 rfl rfl (Or.inr ⟨rfl, rfl, rfl⟩) rfl rfl ?_
  refine rn_aload_n dX9_init_25 rfl rfl ?_
  refine rn_bipush (v := 12) dX9_init_26 (by decide) ?_
  refine rn_newI (N := 12) (n := 5) (rc := 15) (rs := 340) (sh' := (SH.take 6)) dX9_init_28 (by decide) (by decide) (by decide) aw_I rfl (by decide) rfl ?_
  refine rn_putR dX9_init_30 fl_X9_21 rfl rfl (Or.inr ⟨rfl, rfl, rfl⟩) rfl rfl ?_
  refine rn_aload_n dX9_init_33 rfl rfl ?_
  refine rn_bipush (v := 12) dX9_init_34 (by decide) ?_
  refine rn_newI (N := 12) (n := 6) (rc := 14) (rs := 328) (sh' := (SH.take 7)) dX9_init_36 (by decide) (by decide) (by decide) aw_I rfl (by decide) rfl ?_
  refine rn_putR dX9_init_38 fl_X9_24 rfl rfl (Or.inr ⟨rfl, rfl, rfl⟩) rfl rfl ?_
  refine rn_aload_n dX9_init_41 rfl rfl ?_
  refine rn_bipush (v := 12) dX9_init_42 (by decide) ?_
  refine rn_newI (N := 12) (n := 7) (rc := 13) (rs := 316) (sh' := (SH.take 8)) dX9_init_44 (by decide) (by decide) (by decide) aw_I rfl (by decide) rfl ?_
  refine rn_putR dX9_init_46 fl_X9_27 rfl rfl (Or.inr ⟨rfl, rfl, rfl⟩) rfl rfl ?_
  refine rn_aload_n dX9_init_49 rfl rfl ?_
  refine rn_bipush (v := 12) dX9_init_50 (by decide) ?_
  refine rn_newI (N := 12) (n := 8) (rc := 12) (rs := 304) (sh' := (SH.take 9)) dX9_init_52 (by decide) (by decide) (by decide) aw_I rfl (by decide) rfl ?_
  refine rn_putR dX9_init_54 fl_X9_30 rfl rfl (Or.inr ⟨rfl, rfl, rfl⟩) rfl rfl ?_
  refine rn_aload_n dX9_init_57 rfl rfl ?_
  refine rn_new (ci := 2) (N := 8) (CC := RX2) (T := TX2) (ty := tyX2) (n := 9) (rc := 11) (rs := 296) (sh' := (SH.take 10)) dX9_init_58 rfl us_X2 rfl tyX2_ok df_X2 cl_X9_33 in_X2 iz_X2 rfl (by decide) rfl ?_
  refine rn_dup dX9_init_61 rfl ?_
  refine rn_cIN (M' := mX2_init) (n := 0) (av := []) (S := [.inr (.inr (some (9))), .inr (.inr (some (1)))]) (rc := 8) (rs := 276) (mc := 3) (ms := 20) (a := 9) dX9_init_62 pa_X2_init (Nat.le_refl _) rfl (Nat.le_of_ble_eq_true rfl) ml_X9_35 im_X2_init rfl rfl rfl (ci_X2 (a := 9) (n := 10) (sh := (SH.take 10)) (sh' := (SH.take 13)) rfl rfl (by decide) rfl ?_)
  show Rn G (d + 2) 8 276 mX9_init 65 _ [.inr (.inr (some (9))), .inr (.inr (some (1)))] (SH.take 13) _ Q
  refine rn_putR dX9_init_65 fl_X9_36 rfl rfl (Or.inr ⟨rfl, rfl, rfl⟩) rfl rfl ?_
  refine rn_aload_n dX9_init_68 rfl rfl ?_
  refine rn_new (ci := 9) (N := 3) (CC := RX10) (T := TX10) (ty := tyX10) (n := 13) (rc := 7) (rs := 273) (sh' := (SH.take 14)) dX9_init_69 rfl us_X10 rfl tyX10_ok df_X10 cl_X9_40 in_X10 iz_X10 rfl (by decide) rfl ?_
  refine rn_dup dX9_init_72 rfl ?_
  refine rn_cIN (M' := mX10_init) (n := 0) (av := []) (S := [.inr (.inr (some (13))), .inr (.inr (some (1)))]) (rc := 5) (rs := 173) (mc := 2) (ms := 100) (a := 13) dX9_init_73 pa_X10_init (Nat.le_refl _) rfl (Nat.le_of_ble_eq_true rfl) ml_X9_42 im_X10_init rfl rfl rfl (ci_X10 (a := 13) (n := 14) (sh := (SH.take 14)) (sh' := (SH.take 16)) rfl rfl (by decide) rfl ?_)
  show Rn G (d + 2) 5 173 mX9_init 76 _ [.inr (.inr (some (13))), .inr (.inr (some (1)))] (SH.take 16) _ Q
  refine rn_putR dX9_init_76 fl_X9_43 rfl rfl (Or.inr ⟨rfl, rfl, rfl⟩) rfl rfl ?_
  refine rn_aload_n dX9_init_79 rfl rfl ?_
  refine rn_new (ci := 9) (N := 3) (CC := RX10) (T := TX10) (ty := tyX10) (n := 16) (rc := 4) (rs := 170) (sh' := (SH.take 17)) dX9_init_80 rfl us_X10 rfl tyX10_ok df_X10 cl_X9_40 in_X10 iz_X10 rfl (by decide) rfl ?_
  refine rn_dup dX9_init_83 rfl ?_
  refine rn_cIN (M' := mX10_init) (n := 0) (av := []) (S := [.inr (.inr (some (16))), .inr (.inr (some (1)))]) (rc := 2) (rs := 70) (mc := 2) (ms := 100) (a := 16) dX9_init_84 pa_X10_init (Nat.le_refl _) rfl (Nat.le_of_ble_eq_true rfl) ml_X9_42 im_X10_init rfl rfl rfl (ci_X10 (a := 16) (n := 17) (sh := (SH.take 17)) (sh' := (SH.take 19)) rfl rfl (by decide) rfl ?_)
  show Rn G (d + 2) 2 70 mX9_init 87 _ [.inr (.inr (some (16))), .inr (.inr (some (1)))] (SH.take 19) _ Q
  refine rn_putR dX9_init_87 fl_X9_47 rfl rfl (Or.inr ⟨rfl, rfl, rfl⟩) rfl rfl ?_
  refine rn_aload_n dX9_init_90 rfl rfl ?_
  refine rn_bipush (v := 50) dX9_init_91 (by decide) ?_
  refine rn_newI (N := 50) (n := 19) (rc := 1) (rs := 20) (sh' := (SH.take 20)) dX9_init_93 (by decide) (by decide) (by decide) aw_I rfl (by decide) rfl ?_
  refine rn_putR dX9_init_95 fl_X9_50 rfl rfl (Or.inr ⟨rfl, rfl, rfl⟩) rfl rfl ?_
  refine rn_aload_n dX9_init_98 rfl rfl ?_
  refine rn_bipush (v := 20) dX9_init_99 (by decide) ?_
  refine rn_newI (N := 20) (n := 20) (rc := 0) (rs := 0) (sh' := (SH.take 21)) dX9_init_101 (by decide) (by decide) (by decide) aw_I rfl (by decide) rfl ?_
  refine rn_putR dX9_init_103 fl_X9_53 rfl rfl (Or.inr ⟨rfl, rfl, rfl⟩) rfl rfl ?_
  refine rn_aload_n dX9_init_106 rfl rfl ?_
  refine rn_iconst (v := 1) dX9_init_107 (by decide) ?_
  refine rn_putI dX9_init_108 fl_X9_56 rfl rfl (Or.inl rfl) rfl rfl ?_
  exact rn_vret dX9_init_111 rfl k
def hX9_21 (h : Hp) : Hp := (sI (sR (zr (sR (zr (sR (hX10 (zr (sR (hX10 (zr (sR (hX2 (zr (sR (zr (sR (zr (sR (zr (sR (zr (sR (zr (sR (zr (sR (zr h 22) 21 1 (some 22)) 23) 21 2 (some 23)) 24) 21 3 (some 24)) 25) 21 5 (some 25)) 26) 21 6 (some 26)) 27) 21 7 (some 27)) 28) 21 8 (some 28)) 29) 29 30) 21 9 (some 29)) 33) 33 34) 21 10 (some 33)) 36) 36 37) 21 11 (some 36)) 39) 21 12 (some 39)) 40) 21 14 (some 40)) 21 16 1)
set_option maxRecDepth 100000 in
set_option maxHeartbeats 4000000 in
theorem ci_X9_21 {G : GT} {d : Nat} {h : Hp} {Q : Option MV → List Sh → Hp → Prop} (k : Q none (SH.take 41) (hX9_21 h)) : Ev G (d + 2) 19 364 mX9_init [.inr (.inr (some 21))] (SH.take 22) h Q := by
  refine Ev.of rfl (fun _ => Nat.le_of_ble_eq_true rfl) ?_
  show Rn G (d + 2) 19 364 mX9_init 0 [(0, .inr (.inr (some 21)))] [] (SH.take 22) h Q
  refine rn_aload_n dX9_init_0 rfl rfl ?_
  refine rn_obj dX9_init_1 (by omega) (Nat.le_of_ble_eq_true rfl) ml_X9_3 oi_i oi_c ?_
  refine rn_aload_n dX9_init_4 rfl rfl ?_
  refine rn_iconst (v := 4) dX9_init_5 (by decide) ?_
  refine rn_newI (N := 4) (n := 22) (rc := 18) (rs := 360) (sh' := (SH.take 23)) dX9_init_6 (by decide) (by decide) (by decide) aw_I rfl (by decide) rfl ?_
  refine rn_putR dX9_init_8 fl_X9_9 rfl rfl (Or.inr ⟨rfl, rfl, rfl⟩) rfl rfl ?_
  refine rn_aload_n dX9_init_11 rfl rfl ?_
  refine rn_iconst (v := 4) dX9_init_12 (by decide) ?_
  refine rn_newI (N := 4) (n := 23) (rc := 17) (rs := 356) (sh' := (SH.take 24)) dX9_init_13 (by decide) (by decide) (by decide) aw_I rfl (by decide) rfl ?_
  refine rn_putR dX9_init_15 fl_X9_15 rfl rfl (Or.inr ⟨rfl, rfl, rfl⟩) rfl rfl ?_
  refine rn_aload_n dX9_init_18 rfl rfl ?_
  refine rn_iconst (v := 4) dX9_init_19 (by decide) ?_
  refine rn_newI (N := 4) (n := 24) (rc := 16) (rs := 352) (sh' := (SH.take 25)) dX9_init_20 (by decide) (by decide) (by decide) aw_I rfl (by decide) rfl ?_
  refine rn_putR dX9_init_22 fl_X9_18 rfl rfl (Or.inr ⟨rfl, rfl, rfl⟩) rfl rfl ?_
  refine rn_aload_n dX9_init_25 rfl rfl ?_
  refine rn_bipush (v := 12) dX9_init_26 (by decide) ?_
  refine rn_newI (N := 12) (n := 25) (rc := 15) (rs := 340) (sh' := (SH.take 26)) dX9_init_28 (by decide) (by decide) (by decide) aw_I rfl (by decide) rfl ?_
  refine rn_putR dX9_init_30 fl_X9_21 rfl rfl (Or.inr ⟨rfl, rfl, rfl⟩) rfl rfl ?_
  refine rn_aload_n dX9_init_33 rfl rfl ?_
  refine rn_bipush (v := 12) dX9_init_34 (by decide) ?_
  refine rn_newI (N := 12) (n := 26) (rc := 14) (rs := 328) (sh' := (SH.take 27)) dX9_init_36 (by decide) (by decide) (by decide) aw_I rfl (by decide) rfl ?_
  refine rn_putR dX9_init_38 fl_X9_24 rfl rfl (Or.inr ⟨rfl, rfl, rfl⟩) rfl rfl ?_
  refine rn_aload_n dX9_init_41 rfl rfl ?_
  refine rn_bipush (v := 12) dX9_init_42 (by decide) ?_
  refine rn_newI (N := 12) (n := 27) (rc := 13) (rs := 316) (sh' := (SH.take 28)) dX9_init_44 (by decide) (by decide) (by decide) aw_I rfl (by decide) rfl ?_
  refine rn_putR dX9_init_46 fl_X9_27 rfl rfl (Or.inr ⟨rfl, rfl, rfl⟩) rfl rfl ?_
  refine rn_aload_n dX9_init_49 rfl rfl ?_
  refine rn_bipush (v := 12) dX9_init_50 (by decide) ?_
  refine rn_newI (N := 12) (n := 28) (rc := 12) (rs := 304) (sh' := (SH.take 29)) dX9_init_52 (by decide) (by decide) (by decide) aw_I rfl (by decide) rfl ?_
  refine rn_putR dX9_init_54 fl_X9_30 rfl rfl (Or.inr ⟨rfl, rfl, rfl⟩) rfl rfl ?_
  refine rn_aload_n dX9_init_57 rfl rfl ?_
  refine rn_new (ci := 2) (N := 8) (CC := RX2) (T := TX2) (ty := tyX2) (n := 29) (rc := 11) (rs := 296) (sh' := (SH.take 30)) dX9_init_58 rfl us_X2 rfl tyX2_ok df_X2 cl_X9_33 in_X2 iz_X2 rfl (by decide) rfl ?_
  refine rn_dup dX9_init_61 rfl ?_
  refine rn_cIN (M' := mX2_init) (n := 0) (av := []) (S := [.inr (.inr (some (29))), .inr (.inr (some (21)))]) (rc := 8) (rs := 276) (mc := 3) (ms := 20) (a := 29) dX9_init_62 pa_X2_init (Nat.le_refl _) rfl (Nat.le_of_ble_eq_true rfl) ml_X9_35 im_X2_init rfl rfl rfl (ci_X2 (a := 29) (n := 30) (sh := (SH.take 30)) (sh' := (SH.take 33)) rfl rfl (by decide) rfl ?_)
  show Rn G (d + 2) 8 276 mX9_init 65 _ [.inr (.inr (some (29))), .inr (.inr (some (21)))] (SH.take 33) _ Q
  refine rn_putR dX9_init_65 fl_X9_36 rfl rfl (Or.inr ⟨rfl, rfl, rfl⟩) rfl rfl ?_
  refine rn_aload_n dX9_init_68 rfl rfl ?_
  refine rn_new (ci := 9) (N := 3) (CC := RX10) (T := TX10) (ty := tyX10) (n := 33) (rc := 7) (rs := 273) (sh' := (SH.take 34)) dX9_init_69 rfl us_X10 rfl tyX10_ok df_X10 cl_X9_40 in_X10 iz_X10 rfl (by decide) rfl ?_
  refine rn_dup dX9_init_72 rfl ?_
  refine rn_cIN (M' := mX10_init) (n := 0) (av := []) (S := [.inr (.inr (some (33))), .inr (.inr (some (21)))]) (rc := 5) (rs := 173) (mc := 2) (ms := 100) (a := 33) dX9_init_73 pa_X10_init (Nat.le_refl _) rfl (Nat.le_of_ble_eq_true rfl) ml_X9_42 im_X10_init rfl rfl rfl (ci_X10 (a := 33) (n := 34) (sh := (SH.take 34)) (sh' := (SH.take 36)) rfl rfl (by decide) rfl ?_)
  show Rn G (d + 2) 5 173 mX9_init 76 _ [.inr (.inr (some (33))), .inr (.inr (some (21)))] (SH.take 36) _ Q
  refine rn_putR dX9_init_76 fl_X9_43 rfl rfl (Or.inr ⟨rfl, rfl, rfl⟩) rfl rfl ?_
  refine rn_aload_n dX9_init_79 rfl rfl ?_
  refine rn_new (ci := 9) (N := 3) (CC := RX10) (T := TX10) (ty := tyX10) (n := 36) (rc := 4) (rs := 170) (sh' := (SH.take 37)) dX9_init_80 rfl us_X10 rfl tyX10_ok df_X10 cl_X9_40 in_X10 iz_X10 rfl (by decide) rfl ?_
  refine rn_dup dX9_init_83 rfl ?_
  refine rn_cIN (M' := mX10_init) (n := 0) (av := []) (S := [.inr (.inr (some (36))), .inr (.inr (some (21)))]) (rc := 2) (rs := 70) (mc := 2) (ms := 100) (a := 36) dX9_init_84 pa_X10_init (Nat.le_refl _) rfl (Nat.le_of_ble_eq_true rfl) ml_X9_42 im_X10_init rfl rfl rfl (ci_X10 (a := 36) (n := 37) (sh := (SH.take 37)) (sh' := (SH.take 39)) rfl rfl (by decide) rfl ?_)
  show Rn G (d + 2) 2 70 mX9_init 87 _ [.inr (.inr (some (36))), .inr (.inr (some (21)))] (SH.take 39) _ Q
  refine rn_putR dX9_init_87 fl_X9_47 rfl rfl (Or.inr ⟨rfl, rfl, rfl⟩) rfl rfl ?_
  refine rn_aload_n dX9_init_90 rfl rfl ?_
  refine rn_bipush (v := 50) dX9_init_91 (by decide) ?_
  refine rn_newI (N := 50) (n := 39) (rc := 1) (rs := 20) (sh' := (SH.take 40)) dX9_init_93 (by decide) (by decide) (by decide) aw_I rfl (by decide) rfl ?_
  refine rn_putR dX9_init_95 fl_X9_50 rfl rfl (Or.inr ⟨rfl, rfl, rfl⟩) rfl rfl ?_
  refine rn_aload_n dX9_init_98 rfl rfl ?_
  refine rn_bipush (v := 20) dX9_init_99 (by decide) ?_
  refine rn_newI (N := 20) (n := 40) (rc := 0) (rs := 0) (sh' := (SH.take 41)) dX9_init_101 (by decide) (by decide) (by decide) aw_I rfl (by decide) rfl ?_
  refine rn_putR dX9_init_103 fl_X9_53 rfl rfl (Or.inr ⟨rfl, rfl, rfl⟩) rfl rfl ?_
  refine rn_aload_n dX9_init_106 rfl rfl ?_
  refine rn_iconst (v := 1) dX9_init_107 (by decide) ?_
  refine rn_putI dX9_init_108 fl_X9_56 rfl rfl (Or.inl rfl) rfl rfl ?_
  exact rn_vret dX9_init_111 rfl k
def hX6_45 (h : Hp) : Hp := (sR (sR (hX10 (zr h 46) 46 47) 45 0 (some 46)) 45 4 (some (FB + 2)))
set_option maxRecDepth 100000 in
set_option maxHeartbeats 4000000 in
theorem ci_X6_45 {G : GT} {d : Nat} {h : Hp} {Q : Option MV → List Sh → Hp → Prop} (k : Q none (SH.take 49) (hX6_45 h)) : Ev G (d + 2) 3 103 mX6_init [.inr (.inr (some 45))] (SH.take 46) h Q := by
  refine Ev.of rfl (fun _ => Nat.le_of_ble_eq_true rfl) ?_
  show Rn G (d + 2) 3 103 mX6_init 0 [(0, .inr (.inr (some 45)))] [] (SH.take 46) h Q
  refine rn_aload_n dX6_init_0 rfl rfl ?_
  refine rn_obj dX6_init_1 (by omega) (Nat.le_of_ble_eq_true rfl) ml_X6_3 oi_i oi_c ?_
  refine rn_aload_n dX6_init_4 rfl rfl ?_
  refine rn_new (ci := 9) (N := 3) (CC := RX10) (T := TX10) (ty := tyX10) (n := 46) (rc := 2) (rs := 100) (sh' := (SH.take 47)) dX6_init_5 rfl us_X10 rfl tyX10_ok df_X10 cl_X6_9 in_X10 iz_X10 rfl (by decide) rfl ?_
  refine rn_dup dX6_init_8 rfl ?_
  refine rn_cIN (M' := mX10_init) (n := 0) (av := []) (S := [.inr (.inr (some (46))), .inr (.inr (some (45)))]) (rc := 0) (rs := 0) (mc := 2) (ms := 100) (a := 46) dX6_init_9 pa_X10_init (Nat.le_refl _) rfl (Nat.le_of_ble_eq_true rfl) ml_X6_11 im_X10_init rfl rfl rfl (ci_X10 (a := 46) (n := 47) (sh := (SH.take 47)) (sh' := (SH.take 49)) rfl rfl (by decide) rfl ?_)
  show Rn G (d + 2) 0 0 mX6_init 12 _ [.inr (.inr (some (46))), .inr (.inr (some (45)))] (SH.take 49) _ Q
  refine rn_putR dX6_init_12 fl_X6_12 rfl rfl (Or.inr ⟨rfl, rfl, rfl⟩) rfl rfl ?_
  refine rn_aload_n dX6_init_15 rfl rfl ?_
  refine rn_str2 dX6_init_16 rfl ?_
  refine rn_putR dX6_init_18 fl_X6_20 rfl rfl (Or.inl rfl) rfl rfl ?_
  exact rn_vret dX6_init_21 rfl k
def hX8_85 (h : Hp) : Hp := (sR (mz (sR (zr (sR (zr h 86) 85 0 (some 86)) 87) 85 1 (some 87)) 88) 85 2 (some 88))
set_option maxRecDepth 100000 in
set_option maxHeartbeats 4000000 in
theorem ci_X8_85 {G : GT} {d : Nat} {h : Hp} {Q : Option MV → List Sh → Hp → Prop} (k : Q none (SH.take 93) (hX8_85 h)) : Ev G (d + 1) 7 172 mX8_init [.inr (.inr (some 85))] (SH.take 86) h Q := by
  refine Ev.of rfl (fun _ => Nat.le_of_ble_eq_true rfl) ?_
  show Rn G (d + 1) 7 172 mX8_init 0 [(0, .inr (.inr (some 85)))] [] (SH.take 86) h Q
  refine rn_aload_n dX8_init_0 rfl rfl ?_
  refine rn_obj dX8_init_1 (by omega) (Nat.le_of_ble_eq_true rfl) ml_X8_3 oi_i oi_c ?_
  refine rn_aload_n dX8_init_4 rfl rfl ?_
  refine rn_iconst (v := 4) dX8_init_5 (by decide) ?_
  refine rn_newI (N := 4) (n := 86) (rc := 6) (rs := 168) (sh' := (SH.take 87)) dX8_init_6 (by decide) (by decide) (by decide) aw_I rfl (by decide) rfl ?_
  refine rn_putR dX8_init_8 fl_X8_9 rfl rfl (Or.inr ⟨rfl, rfl, rfl⟩) rfl rfl ?_
  refine rn_aload_n dX8_init_11 rfl rfl ?_
  refine rn_iconst (v := 4) dX8_init_12 (by decide) ?_
  refine rn_newI (N := 4) (n := 87) (rc := 5) (rs := 164) (sh' := (SH.take 88)) dX8_init_13 (by decide) (by decide) (by decide) aw_I rfl (by decide) rfl ?_
  refine rn_putR dX8_init_15 fl_X8_15 rfl rfl (Or.inr ⟨rfl, rfl, rfl⟩) rfl rfl ?_
  refine rn_aload_n dX8_init_18 rfl rfl ?_
  refine rn_iconst (v := 4) dX8_init_19 (by decide) ?_
  refine rn_bipush (v := 40) dX8_init_20 (by decide) ?_
  refine rn_mna (n := 88) (rc := 0) (rs := 0) (sh' := (SH.take 93)) dX8_init_22 cl_X8_18 aw_I aw_A rfl (by decide) rfl ?_
  refine rn_putR dX8_init_26 fl_X8_20 rfl rfl (Or.inr ⟨rfl, rfl, rfl⟩) rfl rfl ?_
  exact rn_vret dX8_init_29 rfl k
def hX1_56 (h : Hp) : Hp := (sR (hX2 (zr (sR (hX2 (zr (sR (hX2 (zr (sR (hX2 (zr (sR (hX2 (zr (sR (zr h 57) 56 1 (some 57)) 58) 58 59) 57 0 (some 58)) 62) 62 63) 57 1 (some 62)) 66) 66 67) 57 2 (some 66)) 70) 70 71) 57 3 (some 70)) 74) 74 75) 57 4 (some 74))
set_option maxRecDepth 100000 in
set_option maxHeartbeats 4000000 in
theorem ci_X1_56 {G : GT} {d : Nat} {h : Hp} {Q : Option MV → List Sh → Hp → Prop} (k : Q none (SH.take 78) (hX1_56 h)) : Ev G (d + 2) 21 145 mX1_init [.inr (.inr (some 56))] (SH.take 57) h Q := by
  refine Ev.of rfl (fun _ => Nat.le_of_ble_eq_true rfl) ?_
  show Rn G (d + 2) 21 145 mX1_init 0 [(0, .inr (.inr (some 56)))] [] (SH.take 57) h Q
  refine rn_aload_n dX1_init_0 rfl rfl ?_
  refine rn_obj dX1_init_1 (by omega) (Nat.le_of_ble_eq_true rfl) ml_X1_3 oi_i oi_c ?_
  refine rn_aload_n dX1_init_4 rfl rfl ?_
  refine rn_iconst (v := 5) dX1_init_5 (by decide) ?_
  refine rn_newF (N := 5) (n := 57) (rc := 20) (rs := 140) (sh' := (SH.take 58)) dX1_init_6 (by decide) (by decide) (by decide) cl_X1_9 aw_F rfl (by decide) rfl ?_
  refine rn_putR dX1_init_9 fl_X1_11 rfl rfl (Or.inr ⟨rfl, rfl, rfl⟩) rfl rfl ?_
  refine rn_iconst (v := 0) dX1_init_12 (by decide) ?_
  refine rn_istore_n (L' := [(1, .inl 0), (0, .inr (.inr (some 56)))]) dX1_init_13 rfl (Nat.le_of_ble_eq_true rfl) rfl ?_
  refine rn_iload_n dX1_init_14 rfl rfl ?_
  refine rn_aload_n dX1_init_15 rfl rfl ?_
  refine rn_get (v := .inr (.inr (some 57))) dX1_init_16 fl_X1_11 rfl rfl rfl ?_
  refine rn_alen (v := 5) dX1_init_19 rfl (by decide) (by decide) ?_
  refine rn_icmp_ge (tgt := 42) dX1_init_20 (by decide) (fun c => absurd c (by decide)) (fun c => ?_)
  refine rn_aload_n dX1_init_23 rfl rfl ?_
  refine rn_get (v := .inr (.inr (some 57))) dX1_init_24 fl_X1_11 rfl rfl rfl ?_
  refine rn_iload_n dX1_init_27 rfl rfl ?_
  refine rn_new (ci := 2) (N := 8) (CC := RX2) (T := TX2) (ty := tyX2) (n := 58) (rc := 19) (rs := 132) (sh' := (SH.take 59)) dX1_init_28 rfl us_X2 rfl tyX2_ok df_X2 cl_X1_9 in_X2 iz_X2 rfl (by decide) rfl ?_
  refine rn_dup dX1_init_31 rfl ?_
  refine rn_cIN (M' := mX2_init) (n := 0) (av := []) (S := [.inr (.inr (some (58))), .inl 0, .inr (.inr (some (57)))]) (rc := 16) (rs := 112) (mc := 3) (ms := 20) (a := 58) dX1_init_32 pa_X2_init (Nat.le_refl _) rfl (Nat.le_of_ble_eq_true rfl) ml_X1_17 im_X2_init rfl rfl rfl (ci_X2 (a := 58) (n := 59) (sh := (SH.take 59)) (sh' := (SH.take 62)) rfl rfl (by decide) rfl ?_)
  show Rn G (d + 2) 16 112 mX1_init 35 _ [.inr (.inr (some (58))), .inl 0, .inr (.inr (some (57)))] (SH.take 62) _ Q
  refine rn_astF (N := 5) (k0 := 0) dX1_init_35 rfl rfl (by decide) (fun q => absurd q (by decide)) ?_
  refine rn_iinc (L' := [(1, .inl 1), (0, .inr (.inr (some 56)))]) dX1_init_36 rfl (v := 1) rfl (Nat.le_of_ble_eq_true rfl) rfl ?_
  refine rn_goto (tgt := 14) dX1_init_39 (by decide) ?_
  refine rn_iload_n dX1_init_14 rfl rfl ?_
  refine rn_aload_n dX1_init_15 rfl rfl ?_
  refine rn_get (v := .inr (.inr (some 57))) dX1_init_16 fl_X1_11 rfl rfl rfl ?_
  refine rn_alen (v := 5) dX1_init_19 rfl (by decide) (by decide) ?_
  refine rn_icmp_ge (tgt := 42) dX1_init_20 (by decide) (fun c => absurd c (by decide)) (fun c => ?_)
  refine rn_aload_n dX1_init_23 rfl rfl ?_
  refine rn_get (v := .inr (.inr (some 57))) dX1_init_24 fl_X1_11 rfl rfl rfl ?_
  refine rn_iload_n dX1_init_27 rfl rfl ?_
  refine rn_new (ci := 2) (N := 8) (CC := RX2) (T := TX2) (ty := tyX2) (n := 62) (rc := 15) (rs := 104) (sh' := (SH.take 63)) dX1_init_28 rfl us_X2 rfl tyX2_ok df_X2 cl_X1_9 in_X2 iz_X2 rfl (by decide) rfl ?_
  refine rn_dup dX1_init_31 rfl ?_
  refine rn_cIN (M' := mX2_init) (n := 0) (av := []) (S := [.inr (.inr (some (62))), .inl 1, .inr (.inr (some (57)))]) (rc := 12) (rs := 84) (mc := 3) (ms := 20) (a := 62) dX1_init_32 pa_X2_init (Nat.le_refl _) rfl (Nat.le_of_ble_eq_true rfl) ml_X1_17 im_X2_init rfl rfl rfl (ci_X2 (a := 62) (n := 63) (sh := (SH.take 63)) (sh' := (SH.take 66)) rfl rfl (by decide) rfl ?_)
  show Rn G (d + 2) 12 84 mX1_init 35 _ [.inr (.inr (some (62))), .inl 1, .inr (.inr (some (57)))] (SH.take 66) _ Q
  refine rn_astF (N := 5) (k0 := 1) dX1_init_35 rfl rfl (by decide) (fun q => absurd q (by decide)) ?_
  refine rn_iinc (L' := [(1, .inl 2), (0, .inr (.inr (some 56)))]) dX1_init_36 rfl (v := 2) rfl (Nat.le_of_ble_eq_true rfl) rfl ?_
  refine rn_goto (tgt := 14) dX1_init_39 (by decide) ?_
  refine rn_iload_n dX1_init_14 rfl rfl ?_
  refine rn_aload_n dX1_init_15 rfl rfl ?_
  refine rn_get (v := .inr (.inr (some 57))) dX1_init_16 fl_X1_11 rfl rfl rfl ?_
  refine rn_alen (v := 5) dX1_init_19 rfl (by decide) (by decide) ?_
  refine rn_icmp_ge (tgt := 42) dX1_init_20 (by decide) (fun c => absurd c (by decide)) (fun c => ?_)
  refine rn_aload_n dX1_init_23 rfl rfl ?_
  refine rn_get (v := .inr (.inr (some 57))) dX1_init_24 fl_X1_11 rfl rfl rfl ?_
  refine rn_iload_n dX1_init_27 rfl rfl ?_
  refine rn_new (ci := 2) (N := 8) (CC := RX2) (T := TX2) (ty := tyX2) (n := 66) (rc := 11) (rs := 76) (sh' := (SH.take 67)) dX1_init_28 rfl us_X2 rfl tyX2_ok df_X2 cl_X1_9 in_X2 iz_X2 rfl (by decide) rfl ?_
  refine rn_dup dX1_init_31 rfl ?_
  refine rn_cIN (M' := mX2_init) (n := 0) (av := []) (S := [.inr (.inr (some (66))), .inl 2, .inr (.inr (some (57)))]) (rc := 8) (rs := 56) (mc := 3) (ms := 20) (a := 66) dX1_init_32 pa_X2_init (Nat.le_refl _) rfl (Nat.le_of_ble_eq_true rfl) ml_X1_17 im_X2_init rfl rfl rfl (ci_X2 (a := 66) (n := 67) (sh := (SH.take 67)) (sh' := (SH.take 70)) rfl rfl (by decide) rfl ?_)
  show Rn G (d + 2) 8 56 mX1_init 35 _ [.inr (.inr (some (66))), .inl 2, .inr (.inr (some (57)))] (SH.take 70) _ Q
  refine rn_astF (N := 5) (k0 := 2) dX1_init_35 rfl rfl (by decide) (fun q => absurd q (by decide)) ?_
  refine rn_iinc (L' := [(1, .inl 3), (0, .inr (.inr (some 56)))]) dX1_init_36 rfl (v := 3) rfl (Nat.le_of_ble_eq_true rfl) rfl ?_
  refine rn_goto (tgt := 14) dX1_init_39 (by decide) ?_
  refine rn_iload_n dX1_init_14 rfl rfl ?_
  refine rn_aload_n dX1_init_15 rfl rfl ?_
  refine rn_get (v := .inr (.inr (some 57))) dX1_init_16 fl_X1_11 rfl rfl rfl ?_
  refine rn_alen (v := 5) dX1_init_19 rfl (by decide) (by decide) ?_
  refine rn_icmp_ge (tgt := 42) dX1_init_20 (by decide) (fun c => absurd c (by decide)) (fun c => ?_)
  refine rn_aload_n dX1_init_23 rfl rfl ?_
  refine rn_get (v := .inr (.inr (some 57))) dX1_init_24 fl_X1_11 rfl rfl rfl ?_
  refine rn_iload_n dX1_init_27 rfl rfl ?_
  refine rn_new (ci := 2) (N := 8) (CC := RX2) (T := TX2) (ty := tyX2) (n := 70) (rc := 7) (rs := 48) (sh' := (SH.take 71)) dX1_init_28 rfl us_X2 rfl tyX2_ok df_X2 cl_X1_9 in_X2 iz_X2 rfl (by decide) rfl ?_
  refine rn_dup dX1_init_31 rfl ?_
  refine rn_cIN (M' := mX2_init) (n := 0) (av := []) (S := [.inr (.inr (some (70))), .inl 3, .inr (.inr (some (57)))]) (rc := 4) (rs := 28) (mc := 3) (ms := 20) (a := 70) dX1_init_32 pa_X2_init (Nat.le_refl _) rfl (Nat.le_of_ble_eq_true rfl) ml_X1_17 im_X2_init rfl rfl rfl (ci_X2 (a := 70) (n := 71) (sh := (SH.take 71)) (sh' := (SH.take 74)) rfl rfl (by decide) rfl ?_)
  show Rn G (d + 2) 4 28 mX1_init 35 _ [.inr (.inr (some (70))), .inl 3, .inr (.inr (some (57)))] (SH.take 74) _ Q
  refine rn_astF (N := 5) (k0 := 3) dX1_init_35 rfl rfl (by decide) (fun q => absurd q (by decide)) ?_
  refine rn_iinc (L' := [(1, .inl 4), (0, .inr (.inr (some 56)))]) dX1_init_36 rfl (v := 4) rfl (Nat.le_of_ble_eq_true rfl) rfl ?_
  refine rn_goto (tgt := 14) dX1_init_39 (by decide) ?_
  refine rn_iload_n dX1_init_14 rfl rfl ?_
  refine rn_aload_n dX1_init_15 rfl rfl ?_
  refine rn_get (v := .inr (.inr (some 57))) dX1_init_16 fl_X1_11 rfl rfl rfl ?_
  refine rn_alen (v := 5) dX1_init_19 rfl (by decide) (by decide) ?_
  refine rn_icmp_ge (tgt := 42) dX1_init_20 (by decide) (fun c => absurd c (by decide)) (fun c => ?_)
  refine rn_aload_n dX1_init_23 rfl rfl ?_
  refine rn_get (v := .inr (.inr (some 57))) dX1_init_24 fl_X1_11 rfl rfl rfl ?_
  refine rn_iload_n dX1_init_27 rfl rfl ?_
  refine rn_new (ci := 2) (N := 8) (CC := RX2) (T := TX2) (ty := tyX2) (n := 74) (rc := 3) (rs := 20) (sh' := (SH.take 75)) dX1_init_28 rfl us_X2 rfl tyX2_ok df_X2 cl_X1_9 in_X2 iz_X2 rfl (by decide) rfl ?_
  refine rn_dup dX1_init_31 rfl ?_
  refine rn_cIN (M' := mX2_init) (n := 0) (av := []) (S := [.inr (.inr (some (74))), .inl 4, .inr (.inr (some (57)))]) (rc := 0) (rs := 0) (mc := 3) (ms := 20) (a := 74) dX1_init_32 pa_X2_init (Nat.le_refl _) rfl (Nat.le_of_ble_eq_true rfl) ml_X1_17 im_X2_init rfl rfl rfl (ci_X2 (a := 74) (n := 75) (sh := (SH.take 75)) (sh' := (SH.take 78)) rfl rfl (by decide) rfl ?_)
  show Rn G (d + 2) 0 0 mX1_init 35 _ [.inr (.inr (some (74))), .inl 4, .inr (.inr (some (57)))] (SH.take 78) _ Q
  refine rn_astF (N := 5) (k0 := 4) dX1_init_35 rfl rfl (by decide) (fun q => absurd q (by decide)) ?_
  refine rn_iinc (L' := [(1, .inl 5), (0, .inr (.inr (some 56)))]) dX1_init_36 rfl (v := 5) rfl (Nat.le_of_ble_eq_true rfl) rfl ?_
  refine rn_goto (tgt := 14) dX1_init_39 (by decide) ?_
  refine rn_iload_n dX1_init_14 rfl rfl ?_
  refine rn_aload_n dX1_init_15 rfl rfl ?_
  refine rn_get (v := .inr (.inr (some 57))) dX1_init_16 fl_X1_11 rfl rfl rfl ?_
  refine rn_alen (v := 5) dX1_init_19 rfl (by decide) (by decide) ?_
  refine rn_icmp_ge (tgt := 42) dX1_init_20 (by decide) (fun c => ?_) (fun c => absurd (by decide) c)
  exact rn_vret dX1_init_42 rfl k
def hX11_0 (h : Hp) : Hp := (sR (zr (sR (hX8_85 (zr (sR (hX0 (zr (sR (hX7 (zr (sR (hX1_56 (zr (sR (hX3 (zr (sR (hX5 (zr (sR (hX6_45 (zr (sR (hX2 (zr (sR (hX9_21 (zr (sR (hX9_1 (zr h 1)) 0 0 (some 1)) 21)) 0 1 (some 21)) 41) 41 42) 0 3 (some 41)) 45)) 0 4 (some 45)) 49) 49 50) 0 5 (some 49)) 53) 53 54) 0 6 (some 53)) 56)) 0 7 (some 56)) 78) 78 79) 0 8 (some 78)) 83) 83 84) 0 9 (some 83)) 85)) 0 10 (some 85)) 93) 0 11 (some 93))
set_option maxRecDepth 100000 in
set_option maxHeartbeats 4000000 in
theorem ci_X11_0 {G : GT} {d : Nat} {h : Hp} {Q : Option MV → List Sh → Hp → Prop} (k : Q none (SH.take 94) (hX11_0 h)) : Ev G (d + 3) 93 1456 mX11_init [.inr (.inr (some 0))] (SH.take 1) h Q := by
  refine Ev.of rfl (fun _ => Nat.le_of_ble_eq_true rfl) ?_
  show Rn G (d + 3) 93 1456 mX11_init 0 [(0, .inr (.inr (some 0)))] [] (SH.take 1) h Q
  refine rn_aload_n dX11_init_0 rfl rfl ?_
  refine rn_obj dX11_init_1 (by omega) (Nat.le_of_ble_eq_true rfl) ml_X11_1 oi_i oi_c ?_
  refine rn_aload_n dX11_init_4 rfl rfl ?_
  refine rn_new (ci := 8) (N := 17) (CC := RX9) (T := TX9) (ty := tyX9) (n := 1) (rc := 92) (rs := 1439) (sh' := (SH.take 2)) dX11_init_5 rfl us_X9 rfl tyX9_ok df_X9 cl_X11_7 in_X9 iz_X9 rfl (by decide) rfl ?_
  refine rn_dup dX11_init_8 rfl ?_
  refine rn_cIN (M' := mX9_init) (n := 0) (av := []) (S := [.inr (.inr (some (1))), .inr (.inr (some (0)))]) (rc := 73) (rs := 1075) (mc := 19) (ms := 364) (a := 1) dX11_init_9 pa_X9_init (Nat.le_refl _) rfl (Nat.le_of_ble_eq_true rfl) ml_X11_9 im_X9_init rfl rfl rfl (ci_X9_1 ?_)
  show Rn G (d + 3) 73 1075 mX11_init 12 _ [.inr (.inr (some (1))), .inr (.inr (some (0)))] (SH.take 21) _ Q
  refine rn_putR dX11_init_12 fl_X11_10 rfl rfl (Or.inr ⟨rfl, rfl, rfl⟩) rfl rfl ?_
  refine rn_aload_n dX11_init_15 rfl rfl ?_
  refine rn_new (ci := 8) (N := 17) (CC := RX9) (T := TX9) (ty := tyX9) (n := 21) (rc := 72) (rs := 1058) (sh' := (SH.take 22)) dX11_init_16 rfl us_X9 rfl tyX9_ok df_X9 cl_X11_7 in_X9 iz_X9 rfl (by decide) rfl ?_
  refine rn_dup dX11_init_19 rfl ?_
  refine rn_cIN (M' := mX9_init) (n := 0) (av := []) (S := [.inr (.inr (some (21))), .inr (.inr (some (0)))]) (rc := 53) (rs := 694) (mc := 19) (ms := 364) (a := 21) dX11_init_20 pa_X9_init (Nat.le_refl _) rfl (Nat.le_of_ble_eq_true rfl) ml_X11_9 im_X9_init rfl rfl rfl (ci_X9_21 ?_)
  show Rn G (d + 3) 53 694 mX11_init 23 _ [.inr (.inr (some (21))), .inr (.inr (some (0)))] (SH.take 41) _ Q
  refine rn_putR dX11_init_23 fl_X11_16 rfl rfl (Or.inr ⟨rfl, rfl, rfl⟩) rfl rfl ?_
  refine rn_aload_n dX11_init_26 rfl rfl ?_
  refine rn_new (ci := 2) (N := 8) (CC := RX2) (T := TX2) (ty := tyX2) (n := 41) (rc := 52) (rs := 686) (sh' := (SH.take 42)) dX11_init_27 rfl us_X2 rfl tyX2_ok df_X2 cl_X11_19 in_X2 iz_X2 rfl (by decide) rfl ?_
  refine rn_dup dX11_init_30 rfl ?_
  refine rn_cIN (M' := mX2_init) (n := 0) (av := []) (S := [.inr (.inr (some (41))), .inr (.inr (some (0)))]) (rc := 49) (rs := 666) (mc := 3) (ms := 20) (a := 41) dX11_init_31 pa_X2_init (Nat.le_refl _) rfl (Nat.le_of_ble_eq_true rfl) ml_X11_21 im_X2_init rfl rfl rfl (ci_X2 (a := 41) (n := 42) (sh := (SH.take 42)) (sh' := (SH.take 45)) rfl rfl (by decide) rfl ?_)
  show Rn G (d + 3) 49 666 mX11_init 34 _ [.inr (.inr (some (41))), .inr (.inr (some (0)))] (SH.take 45) _ Q
  refine rn_putR dX11_init_34 fl_X11_22 rfl rfl (Or.inr ⟨rfl, rfl, rfl⟩) rfl rfl ?_
  refine rn_aload_n dX11_init_37 rfl rfl ?_
  refine rn_new (ci := 5) (N := 5) (CC := RX6) (T := TX6) (ty := tyX6) (n := 45) (rc := 48) (rs := 661) (sh' := (SH.take 46)) dX11_init_38 rfl us_X6 rfl tyX6_ok df_X6 cl_X11_26 in_X6 iz_X6 rfl (by decide) rfl ?_
  refine rn_dup dX11_init_41 rfl ?_
  refine rn_cIN (M' := mX6_init) (n := 0) (av := []) (S := [.inr (.inr (some (45))), .inr (.inr (some (0)))]) (rc := 45) (rs := 558) (mc := 3) (ms := 103) (a := 45) dX11_init_42 pa_X6_init (Nat.le_refl _) rfl (Nat.le_of_ble_eq_true rfl) ml_X11_28 im_X6_init rfl rfl rfl (ci_X6_45 ?_)
  show Rn G (d + 3) 45 558 mX11_init 45 _ [.inr (.inr (some (45))), .inr (.inr (some (0)))] (SH.take 49) _ Q
  refine rn_putR dX11_init_45 fl_X11_29 rfl rfl (Or.inr ⟨rfl, rfl, rfl⟩) rfl rfl ?_
  refine rn_aload_n dX11_init_48 rfl rfl ?_
  refine rn_new (ci := 4) (N := 9) (CC := RX5) (T := TX5) (ty := tyX5) (n := 49) (rc := 44) (rs := 549) (sh' := (SH.take 50)) dX11_init_49 rfl us_X5 rfl tyX5_ok df_X5 cl_X11_33 in_X5 iz_X5 rfl (by decide) rfl ?_
  refine rn_dup dX11_init_52 rfl ?_
  refine rn_cIN (M' := mX5_init) (n := 0) (av := []) (S := [.inr (.inr (some (49))), .inr (.inr (some (0)))]) (rc := 41) (rs := 534) (mc := 3) (ms := 15) (a := 49) dX11_init_53 pa_X5_init (Nat.le_refl _) rfl (Nat.le_of_ble_eq_true rfl) ml_X11_35 im_X5_init rfl rfl rfl (ci_X5 (a := 49) (n := 50) (sh := (SH.take 50)) (sh' := (SH.take 53)) rfl rfl (by decide) rfl ?_)
  show Rn G (d + 3) 41 534 mX11_init 56 _ [.inr (.inr (some (49))), .inr (.inr (some (0)))] (SH.take 53) _ Q
  refine rn_putR dX11_init_56 fl_X11_36 rfl rfl (Or.inr ⟨rfl, rfl, rfl⟩) rfl rfl ?_
  refine rn_aload_n dX11_init_59 rfl rfl ?_
  refine rn_new (ci := 3) (N := 4) (CC := RX3) (T := TX3) (ty := tyX3) (n := 53) (rc := 40) (rs := 530) (sh' := (SH.take 54)) dX11_init_60 rfl us_X3 rfl tyX3_ok df_X3 cl_X11_40 in_X3 iz_X3 rfl (by decide) rfl ?_
  refine rn_dup dX11_init_63 rfl ?_
  refine rn_cIN (M' := mX3_init) (n := 0) (av := []) (S := [.inr (.inr (some (53))), .inr (.inr (some (0)))]) (rc := 38) (rs := 510) (mc := 2) (ms := 20) (a := 53) dX11_init_64 pa_X3_init (Nat.le_refl _) rfl (Nat.le_of_ble_eq_true rfl) ml_X11_42 im_X3_init rfl rfl rfl (ci_X3 (a := 53) (n := 54) (sh := (SH.take 54)) (sh' := (SH.take 56)) rfl rfl (by decide) rfl ?_)
  show Rn G (d + 3) 38 510 mX11_init 67 _ [.inr (.inr (some (53))), .inr (.inr (some (0)))] (SH.take 56) _ Q
  refine rn_putR dX11_init_67 fl_X11_43 rfl rfl (Or.inr ⟨rfl, rfl, rfl⟩) rfl rfl ?_
  refine rn_aload_n dX11_init_70 rfl rfl ?_
  refine rn_new (ci := 1) (N := 5) (CC := RX1) (T := TX1) (ty := tyX1) (n := 56) (rc := 37) (rs := 505) (sh' := (SH.take 57)) dX11_init_71 rfl us_X1 rfl tyX1_ok df_X1 cl_X11_47 in_X1 iz_X1 rfl (by decide) rfl ?_
  refine rn_dup dX11_init_74 rfl ?_
  refine rn_cI (M' := mX1_init) (n := 0) (av := []) (S := [.inr (.inr (some (56))), .inr (.inr (some (0)))]) (rc := 16) (rs := 360) (mc := 21) (ms := 145) (a := 56) dX11_init_75 pa_X1_init (Nat.le_refl _) rfl (Nat.le_of_ble_eq_true rfl) ml_X11_49 im_X1_init rfl rfl rfl (ci_X1_56 ?_)
  show Rn G (d + 3) 16 360 mX11_init 78 _ [.inr (.inr (some (56))), .inr (.inr (some (0)))] (SH.take 78) _ Q
  refine rn_putR dX11_init_78 fl_X11_50 rfl rfl (Or.inr ⟨rfl, rfl, rfl⟩) rfl rfl ?_
  refine rn_aload_n dX11_init_81 rfl rfl ?_
  refine rn_new (ci := 6) (N := 6) (CC := RX7) (T := TX7) (ty := tyX7) (n := 78) (rc := 15) (rs := 354) (sh' := (SH.take 79)) dX11_init_82 rfl us_X7 rfl tyX7_ok df_X7 cl_X11_54 in_X7 iz_X7 rfl (by decide) rfl ?_
  refine rn_dup dX11_init_85 rfl ?_
  refine rn_cIN (M' := mX7_init) (n := 0) (av := []) (S := [.inr (.inr (some (78))), .inr (.inr (some (0)))]) (rc := 11) (rs := 226) (mc := 4) (ms := 128) (a := 78) dX11_init_86 pa_X7_init (Nat.le_refl _) rfl (Nat.le_of_ble_eq_true rfl) ml_X11_56 im_X7_init rfl rfl rfl (ci_X7 (a := 78) (n := 79) (sh := (SH.take 79)) (sh' := (SH.take 83)) rfl rfl (by decide) rfl ?_)
  show Rn G (d + 3) 11 226 mX11_init 89 _ [.inr (.inr (some (78))), .inr (.inr (some (0)))] (SH.take 83) _ Q
  refine rn_putR dX11_init_89 fl_X11_57 rfl rfl (Or.inr ⟨rfl, rfl, rfl⟩) rfl rfl ?_
  refine rn_aload_n dX11_init_92 rfl rfl ?_
  refine rn_new (ci := 0) (N := 5) (CC := RX0) (T := TX0) (ty := tyX0) (n := 83) (rc := 10) (rs := 221) (sh' := (SH.take 84)) dX11_init_93 rfl us_X0 rfl tyX0_ok df_X0 cl_X11_61 in_X0 iz_X0 rfl (by decide) rfl ?_
  refine rn_dup dX11_init_96 rfl ?_
  refine rn_cIN (M' := mX0_init) (n := 0) (av := []) (S := [.inr (.inr (some (83))), .inr (.inr (some (0)))]) (rc := 9) (rs := 181) (mc := 1) (ms := 40) (a := 83) dX11_init_97 pa_X0_init (Nat.le_refl _) rfl (Nat.le_of_ble_eq_true rfl) ml_X11_63 im_X0_init rfl rfl rfl (ci_X0 (a := 83) (n := 84) (sh := (SH.take 84)) (sh' := (SH.take 85)) rfl rfl (by decide) rfl ?_)
  show Rn G (d + 3) 9 181 mX11_init 100 _ [.inr (.inr (some (83))), .inr (.inr (some (0)))] (SH.take 85) _ Q
  refine rn_putR dX11_init_100 fl_X11_64 rfl rfl (Or.inr ⟨rfl, rfl, rfl⟩) rfl rfl ?_
  refine rn_aload_n dX11_init_103 rfl rfl ?_
  refine rn_new (ci := 7) (N := 3) (CC := RX8) (T := TX8) (ty := tyX8) (n := 85) (rc := 8) (rs := 178) (sh' := (SH.take 86)) dX11_init_104 rfl us_X8 rfl tyX8_ok df_X8 cl_X11_68 in_X8 iz_X8 rfl (by decide) rfl ?_
  refine rn_dup dX11_init_107 rfl ?_
  refine rn_cIN (M' := mX8_init) (n := 0) (av := []) (S := [.inr (.inr (some (85))), .inr (.inr (some (0)))]) (rc := 1) (rs := 6) (mc := 7) (ms := 172) (a := 85) dX11_init_108 pa_X8_init (Nat.le_refl _) rfl (Nat.le_of_ble_eq_true rfl) ml_X11_70 im_X8_init rfl rfl rfl (ci_X8_85 ?_)
  show Rn G (d + 3) 1 6 mX11_init 111 _ [.inr (.inr (some (85))), .inr (.inr (some (0)))] (SH.take 93) _ Q
  refine rn_putR dX11_init_111 fl_X11_71 rfl rfl (Or.inr ⟨rfl, rfl, rfl⟩) rfl rfl ?_
  refine rn_aload_n dX11_init_114 rfl rfl ?_
  refine rn_bipush (v := 6) dX11_init_115 (by decide) ?_
  refine rn_newI (N := 6) (n := 93) (rc := 0) (rs := 0) (sh' := (SH.take 94)) dX11_init_117 (by decide) (by decide) (by decide) aw_I rfl (by decide) rfl ?_
  refine rn_putR dX11_init_119 fl_X11_75 rfl rfl (Or.inr ⟨rfl, rfl, rfl⟩) rfl rfl ?_
  exact rn_vret dX11_init_122 rfl k
def hX12_94 (h : Hp) : Hp := (sI (sR (zr (sR (zr (sR (zr (sR (zr (sR (zr (sR (zr (sR (zr (sR (zr (sR (zr (sR (zr (sR (zr (sR (zr (sR (zr (sR (zr (sR (zr (sR (zr (sR (zr (sR (zr (sR (zr (sR (zr (sR (zr (sR (zr (sR (zr h 95) 94 0 (some 95)) 96) 94 1 (some 96)) 97) 94 2 (some 97)) 98) 94 4 (some 98)) 99) 94 11 (some 99)) 100) 94 12 (some 100)) 101) 94 14 (some 101)) 102) 94 15 (some 102)) 103) 94 16 (some 103)) 104) 94 20 (some 104)) 105) 94 21 (some 105)) 106) 94 22 (some 106)) 107) 94 24 (some 107)) 108) 94 25 (some 108)) 109) 94 26 (some 109)) 110) 94 27 (some 110)) 111) 94 28 (some 111)) 112) 94 29 (some 112)) 113) 94 31 (some 113)) 114) 94 34 (some 114)) 115) 94 35 (some 115)) 116) 94 36 (some 116)) 117) 94 37 (some 117)) 95 2 1)
set_option maxRecDepth 100000 in
set_option maxHeartbeats 4000000 in
theorem ci_X12_94 {G : GT} {d : Nat} {h : Hp} {Q : Option MV → List Sh → Hp → Prop} (k : Q none (SH.take 118) (hX12_94 h)) : Ev G (d + 1) 23 1410 mX12_init [.inr (.inr (some 94))] (SH.take 95) h Q := by
  refine Ev.of rfl (fun _ => Nat.le_of_ble_eq_true rfl) ?_
  show Rn G (d + 1) 23 1410 mX12_init 0 [(0, .inr (.inr (some 94)))] [] (SH.take 95) h Q
  refine rn_aload_n dX12_init_0 rfl rfl ?_
  refine rn_obj dX12_init_1 (by omega) (Nat.le_of_ble_eq_true rfl) ml_X12_1 oi_i oi_c ?_
  refine rn_aload_n dX12_init_4 rfl rfl ?_
  refine rn_sipush (v := 264) dX12_init_5 (by decide) ?_
  refine rn_newI (N := 264) (n := 95) (rc := 22) (rs := 1146) (sh' := (SH.take 96)) dX12_init_8 (by decide) (by decide) (by decide) aw_I rfl (by decide) rfl ?_
  refine rn_putR dX12_init_10 fl_X12_7 rfl rfl (Or.inr ⟨rfl, rfl, rfl⟩) rfl rfl ?_
  refine rn_aload_n dX12_init_13 rfl rfl ?_
  refine rn_sipush (v := 264) dX12_init_14 (by decide) ?_
  refine rn_newI (N := 264) (n := 96) (rc := 21) (rs := 882) (sh' := (SH.take 97)) dX12_init_17 (by decide) (by decide) (by decide) aw_I rfl (by decide) rfl ?_
  refine rn_putR dX12_init_19 fl_X12_13 rfl rfl (Or.inr ⟨rfl, rfl, rfl⟩) rfl rfl ?_
  refine rn_aload_n dX12_init_22 rfl rfl ?_
  refine rn_bipush (v := 90) dX12_init_23 (by decide) ?_
  refine rn_newI (N := 90) (n := 97) (rc := 20) (rs := 792) (sh' := (SH.take 98)) dX12_init_25 (by decide) (by decide) (by decide) aw_I rfl (by decide) rfl ?_
  refine rn_putR dX12_init_27 fl_X12_16 rfl rfl (Or.inr ⟨rfl, rfl, rfl⟩) rfl rfl ?_
  refine rn_aload_n dX12_init_30 rfl rfl ?_
  refine rn_bipush (v := 6) dX12_init_31 (by decide) ?_
  refine rn_newI (N := 6) (n := 98) (rc := 19) (rs := 786) (sh' := (SH.take 99)) dX12_init_33 (by decide) (by decide) (by decide) aw_I rfl (by decide) rfl ?_
  refine rn_putR dX12_init_35 fl_X12_19 rfl rfl (Or.inr ⟨rfl, rfl, rfl⟩) rfl rfl ?_
  refine rn_aload_n dX12_init_38 rfl rfl ?_
  refine rn_iconst (v := 3) dX12_init_39 (by decide) ?_
  refine rn_newI (N := 3) (n := 99) (rc := 18) (rs := 783) (sh' := (SH.take 100)) dX12_init_40 (by decide) (by decide) (by decide) aw_I rfl (by decide) rfl ?_
  refine rn_putR dX12_init_42 fl_X12_22 rfl rfl (Or.inr ⟨rfl, rfl, rfl⟩) rfl rfl ?_
  refine rn_aload_n dX12_init_45 rfl rfl ?_
  refine rn_iconst (v := 5) dX12_init_46 (by decide) ?_
  refine rn_newI (N := 5) (n := 100) (rc := 17) (rs := 778) (sh' := (SH.take 101)) dX12_init_47 (by decide) (by decide) (by decide) aw_I rfl (by decide) rfl ?_
  refine rn_putR dX12_init_49 fl_X12_25 rfl rfl (Or.inr ⟨rfl, rfl, rfl⟩) rfl rfl ?_
  refine rn_aload_n dX12_init_52 rfl rfl ?_
  refine rn_bipush (v := 7) dX12_init_53 (by decide) ?_
  refine rn_newI (N := 7) (n := 101) (rc := 16) (rs := 771) (sh' := (SH.take 102)) dX12_init_55 (by decide) (by decide) (by decide) aw_I rfl (by decide) rfl ?_
  refine rn_putR dX12_init_57 fl_X12_28 rfl rfl (Or.inr ⟨rfl, rfl, rfl⟩) rfl rfl ?_
  refine rn_aload_n dX12_init_60 rfl rfl ?_
  refine rn_bipush (v := 7) dX12_init_61 (by decide) ?_
  refine rn_newI (N := 7) (n := 102) (rc := 15) (rs := 764) (sh' := (SH.take 103)) dX12_init_63 (by decide) (by decide) (by decide) aw_I rfl (by decide) rfl ?_
  refine rn_putR dX12_init_65 fl_X12_31 rfl rfl (Or.inr ⟨rfl, rfl, rfl⟩) rfl rfl ?_
  refine rn_aload_n dX12_init_68 rfl rfl ?_
  refine rn_bipush (v := 7) dX12_init_69 (by decide) ?_
  refine rn_newI (N := 7) (n := 103) (rc := 14) (rs := 757) (sh' := (SH.take 104)) dX12_init_71 (by decide) (by decide) (by decide) aw_I rfl (by decide) rfl ?_
  refine rn_putR dX12_init_73 fl_X12_34 rfl rfl (Or.inr ⟨rfl, rfl, rfl⟩) rfl rfl ?_
  refine rn_aload_n dX12_init_76 rfl rfl ?_
  refine rn_iconst (v := 5) dX12_init_77 (by decide) ?_
  refine rn_newI (N := 5) (n := 104) (rc := 13) (rs := 752) (sh' := (SH.take 105)) dX12_init_78 (by decide) (by decide) (by decide) aw_I rfl (by decide) rfl ?_
  refine rn_putR dX12_init_80 fl_X12_37 rfl rfl (Or.inr ⟨rfl, rfl, rfl⟩) rfl rfl ?_
  refine rn_aload_n dX12_init_83 rfl rfl ?_
  refine rn_bipush (v := 16) dX12_init_84 (by decide) ?_
  refine rn_newI (N := 16) (n := 105) (rc := 12) (rs := 736) (sh' := (SH.take 106)) dX12_init_86 (by decide) (by decide) (by decide) aw_I rfl (by decide) rfl ?_
  refine rn_putR dX12_init_88 fl_X12_40 rfl rfl (Or.inr ⟨rfl, rfl, rfl⟩) rfl rfl ?_
  refine rn_aload_n dX12_init_91 rfl rfl ?_
  refine rn_iconst (v := 4) dX12_init_92 (by decide) ?_
  refine rn_newI (N := 4) (n := 106) (rc := 11) (rs := 732) (sh' := (SH.take 107)) dX12_init_93 (by decide) (by decide) (by decide) aw_I rfl (by decide) rfl ?_
  refine rn_putR dX12_init_95 fl_X12_43 rfl rfl (Or.inr ⟨rfl, rfl, rfl⟩) rfl rfl ?_
  refine rn_aload_n dX12_init_98 rfl rfl ?_
  refine rn_sipush (v := 450) dX12_init_99 (by decide) ?_
  refine rn_newI (N := 450) (n := 107) (rc := 10) (rs := 282) (sh' := (SH.take 108)) dX12_init_102 (by decide) (by decide) (by decide) aw_I rfl (by decide) rfl ?_
  refine rn_putR dX12_init_104 fl_X12_46 rfl rfl (Or.inr ⟨rfl, rfl, rfl⟩) rfl rfl ?_
  refine rn_aload_n dX12_init_107 rfl rfl ?_
  refine rn_bipush (v := 6) dX12_init_108 (by decide) ?_
  refine rn_newI (N := 6) (n := 108) (rc := 9) (rs := 276) (sh' := (SH.take 109)) dX12_init_110 (by decide) (by decide) (by decide) aw_I rfl (by decide) rfl ?_
  refine rn_putR dX12_init_112 fl_X12_49 rfl rfl (Or.inr ⟨rfl, rfl, rfl⟩) rfl rfl ?_
  refine rn_aload_n dX12_init_115 rfl rfl ?_
  refine rn_bipush (v := 6) dX12_init_116 (by decide) ?_
  refine rn_newI (N := 6) (n := 109) (rc := 8) (rs := 270) (sh' := (SH.take 110)) dX12_init_118 (by decide) (by decide) (by decide) aw_I rfl (by decide) rfl ?_
  refine rn_putR dX12_init_120 fl_X12_52 rfl rfl (Or.inr ⟨rfl, rfl, rfl⟩) rfl rfl ?_
  refine rn_aload_n dX12_init_123 rfl rfl ?_
  refine rn_bipush (v := 6) dX12_init_124 (by decide) ?_
  refine rn_newI (N := 6) (n := 110) (rc := 7) (rs := 264) (sh' := (SH.take 111)) dX12_init_126 (by decide) (by decide) (by decide) aw_I rfl (by decide) rfl ?_
  refine rn_putR dX12_init_128 fl_X12_55 rfl rfl (Or.inr ⟨rfl, rfl, rfl⟩) rfl rfl ?_
  refine rn_aload_n dX12_init_131 rfl rfl ?_
  refine rn_bipush (v := 6) dX12_init_132 (by decide) ?_
  refine rn_newI (N := 6) (n := 111) (rc := 6) (rs := 258) (sh' := (SH.take 112)) dX12_init_134 (by decide) (by decide) (by decide) aw_I rfl (by decide) rfl ?_
  refine rn_putR dX12_init_136 fl_X12_58 rfl rfl (Or.inr ⟨rfl, rfl, rfl⟩) rfl rfl ?_
  refine rn_aload_n dX12_init_139 rfl rfl ?_
  refine rn_bipush (v := 10) dX12_init_140 (by decide) ?_
  refine rn_newI (N := 10) (n := 112) (rc := 5) (rs := 248) (sh' := (SH.take 113)) dX12_init_142 (by decide) (by decide) (by decide) aw_I rfl (by decide) rfl ?_
  refine rn_putR dX12_init_144 fl_X12_61 rfl rfl (Or.inr ⟨rfl, rfl, rfl⟩) rfl rfl ?_
  refine rn_aload_n dX12_init_147 rfl rfl ?_
  refine rn_bipush (v := 40) dX12_init_148 (by decide) ?_
  refine rn_newI (N := 40) (n := 113) (rc := 4) (rs := 208) (sh' := (SH.take 114)) dX12_init_150 (by decide) (by decide) (by decide) aw_I rfl (by decide) rfl ?_
  refine rn_putR dX12_init_152 fl_X12_64 rfl rfl (Or.inr ⟨rfl, rfl, rfl⟩) rfl rfl ?_
  refine rn_aload_n dX12_init_155 rfl rfl ?_
  refine rn_iconst (v := 4) dX12_init_156 (by decide) ?_
  refine rn_newI (N := 4) (n := 114) (rc := 3) (rs := 204) (sh' := (SH.take 115)) dX12_init_157 (by decide) (by decide) (by decide) aw_I rfl (by decide) rfl ?_
  refine rn_putR dX12_init_159 fl_X12_67 rfl rfl (Or.inr ⟨rfl, rfl, rfl⟩) rfl rfl ?_
  refine rn_aload_n dX12_init_162 rfl rfl ?_
  refine rn_iconst (v := 4) dX12_init_163 (by decide) ?_
  refine rn_newI (N := 4) (n := 115) (rc := 2) (rs := 200) (sh' := (SH.take 116)) dX12_init_164 (by decide) (by decide) (by decide) aw_I rfl (by decide) rfl ?_
  refine rn_putR dX12_init_166 fl_X12_70 rfl rfl (Or.inr ⟨rfl, rfl, rfl⟩) rfl rfl ?_
  refine rn_aload_n dX12_init_169 rfl rfl ?_
  refine rn_sipush (v := 160) dX12_init_170 (by decide) ?_
  refine rn_newI (N := 160) (n := 116) (rc := 1) (rs := 40) (sh' := (SH.take 117)) dX12_init_173 (by decide) (by decide) (by decide) aw_I rfl (by decide) rfl ?_
  refine rn_putR dX12_init_175 fl_X12_73 rfl rfl (Or.inr ⟨rfl, rfl, rfl⟩) rfl rfl ?_
  refine rn_aload_n dX12_init_178 rfl rfl ?_
  refine rn_bipush (v := 40) dX12_init_179 (by decide) ?_
  refine rn_newI (N := 40) (n := 117) (rc := 0) (rs := 0) (sh' := (SH.take 118)) dX12_init_181 (by decide) (by decide) (by decide) aw_I rfl (by decide) rfl ?_
  refine rn_putR dX12_init_183 fl_X12_76 rfl rfl (Or.inr ⟨rfl, rfl, rfl⟩) rfl rfl ?_
  refine rn_aload_n dX12_init_186 rfl rfl ?_
  refine rn_get (v := .inr (.inr (some 95))) dX12_init_187 fl_X12_7 rfl rfl rfl ?_
  refine rn_iconst (v := 2) dX12_init_190 (by decide) ?_
  refine rn_iconst (v := 1) dX12_init_191 (by decide) ?_
  refine rn_iast (k := 2) dX12_init_192 rfl (by decide) (fun q => absurd q (by decide)) ?_
  exact rn_vret dX12_init_193 rfl k
