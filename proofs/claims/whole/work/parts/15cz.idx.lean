/-! String.indexOf over the two texts that lie outside the world -/
theorem sf_15 : Cond.fieldLink RJ0 15 "java/lang/String" "coder" "B" ∈ lw_g := lg_in (tk_7 (List.mem_of_getElem? (i := 136) (by decide +kernel))) rfl
theorem sf_9 : Cond.fieldLink RJ0 9 "java/lang/String" "value" "[B" ∈ lw_g := lg_in (tk_7 (List.mem_of_getElem? (i := 137) (by decide +kernel))) rfl
theorem sf_38 : Cond.fieldLink RJ0 38 "java/lang/String" "COMPACT_STRINGS" "Z" ∈ lw_g := lg_in (tk_3 (List.mem_of_getElem? (i := 231) (by decide +kernel))) rfl
def BYT (u : Nat) : List Int32 := if u = 0 then STR1 else STR2
theorem FOu {G : GT} {U : State} {H : Heap} {u : Nat} (hF : FO G U H) (hu : u < 2) : strO G (2 + u) (4 + u) U H ∧ va_T .byte (ga G (4 + u)) 3 (fun j => .int ((BYT u).getD j 0)) (gA G) U H := by
  rcases (show u = 0 ∨ u = 1 by omega) with rfl | rfl
  · exact hF.2.2.1
  · exact hF.2.2.2.1
section
variable {G : GT} {d rc rs : Nat} {M : MR} {pc : Nat} {L : List (Nat × MV)} {S : List MV} {sh : List Sh} {h : Hp} {Q : Option MV → List Sh → Hp → Prop} {u : Nat}
theorem tr_out (G : GT) (j : Nat) : tr G (.inr (.inr (some (FB + j)))) = .ref (ga G j) := by show Value.ref (adr G (FB + j)) = _; rw [adr_hi]
theorem rn_gcs (hd : decode M.2.1 pc = .ok (.getstatic 38, 3)) (hm : M.1.cls = RJ0) (k : Rn G d rc rs M (pc + 3) L (.inl 1 :: S) sh h Q) : Rn G d rc rs M pc L S sh h Q := by
  intro p e R s m args below meth c H locs cells slots ls Qc C h1 h2 hl hS hP hQ
  have K := k p e R s m args below meth c H locs cells slots ls Qc C h1 h2 hl hS hP hQ
  exact va_gets C.1 C.2.1 (FOl C).2.2.2.2.1 hS (by have := C.2.2.2.1; rw [hm] at this; exact this) (C.2.2.2.2.1 _ sf_38) (fun _ z => z) hd K
theorem rn_getC (hu : u < 2) (hd : decode M.2.1 pc = .ok (.getfield 15, 3)) (hm : M.1.cls = RJ0) (k : Rn G d rc rs M (pc + 3) L (.inl 0 :: S) sh h Q) : Rn G d rc rs M pc L (.inr (.inr (some (FB + (2 + u)))) :: S) sh h Q := by
  intro p e R s m args below meth c H locs cells slots ls Qc C h1 h2 hl hS hP hQ
  have K := k p e R s m args below meth c H locs cells slots ls Qc C h1 h2 hl hS hP hQ
  rw [List.map_cons, tr_out]
  exact vk_getf C.1 C.2.1 (FOu (FOl C) hu).1.2.1 hS (by have := C.2.2.2.1; rw [hm] at this; exact this) (C.2.2.2.2.1 _ sf_15) (fun _ z => z) hd K
theorem rn_getV (hu : u < 2) (hd : decode M.2.1 pc = .ok (.getfield 9, 3)) (hm : M.1.cls = RJ0) (k : Rn G d rc rs M (pc + 3) L (.inr (.inr (some (FB + (4 + u)))) :: S) sh h Q) : Rn G d rc rs M pc L (.inr (.inr (some (FB + (2 + u)))) :: S) sh h Q := by
  intro p e R s m args below meth c H locs cells slots ls Qc C h1 h2 hl hS hP hQ
  have K := k p e R s m args below meth c H locs cells slots ls Qc C h1 h2 hl hS hP hQ
  rw [List.map_cons, tr_out] at K ⊢
  exact vk_getf C.1 C.2.1 (FOu (FOl C) hu).1.2.2 hS (by have := C.2.2.2.1; rw [hm] at this; exact this) (C.2.2.2.2.1 _ sf_9) (fun _ z => z) hd K
theorem rn_alenY (hu : u < 2) (hd : decode M.2.1 pc = .ok (.arraylength, 1)) (k : Rn G d rc rs M (pc + 1) L (.inl 3 :: S) sh h Q) : Rn G d rc rs M pc L (.inr (.inr (some (FB + (4 + u)))) :: S) sh h Q := by
  intro p e R s m args below meth c H locs cells slots ls Qc C h1 h2 hl hS hP hQ
  have K := k p e R s m args below meth c H locs cells slots ls Qc C h1 h2 hl hS hP hQ
  rw [List.map_cons, tr_out]
  exact va_tlen C.1 C.2.1 (FOu (FOl C) hu).2 hS (by decide) hd K
theorem rn_baldY {k0 : Nat} {i : Int32} (hu : u < 2) (hd : decode M.2.1 pc = .ok (.baload, 1)) (hk : i.toNatClampNeg = k0) (hin : vp_in i 3) (k : Rn G d rc rs M (pc + 1) L (.inl ((BYT u).getD k0 0) :: S) sh h Q) : Rn G d rc rs M pc L (.inl i :: .inr (.inr (some (FB + (4 + u)))) :: S) sh h Q := by
  intro p e R s m args below meth c H locs cells slots ls Qc C h1 h2 hl hS hP hQ
  have K := k p e R s m args below meth c H locs cells slots ls Qc C h1 h2 hl hS hP hQ
  subst hk
  have hlt : i.toNatClampNeg < 3 := Nat.not_le.mp fun q => hin (Or.inr q)
  rw [List.map_cons, List.map_cons, tr_out]
  obtain ⟨cell, g1, g2, g3, g4, g5, g6, g7⟩ := (FOu (FOl C) hu).2.kept hS.2.1
  exact W.bald C.1 C.2.1 g1 g2 g3 (fun q => q.elim (fun z => hin (Or.inl z)) (fun z => by omega)) (g6 _ hlt) rfl rfl hd K
end
theorem i2b_eq {c b : Int32} (hc : 0 ≤ c.toInt ∧ c.toInt ≤ 255) (hb : 0 ≤ b.toInt ∧ b.toInt ≤ 127) : b = c.toInt8.toInt32 ↔ c = b := by
  have e : c.toInt8.toInt32.toInt = c.toInt.bmod 256 := by
    rw [Int8.toInt_toInt32, Int32.toInt_toInt8]
  rw [i_eq, i_eq, e, Int.bmod]
  split <;> omega
theorem nmI_of {u : Nat} {c : Int32} (hu : u < 2) (hc : 0 ≤ c.toInt ∧ c.toInt ≤ 255) : ((BYT u).getD 0 0 = c.toInt8.toInt32 → nmI u c = 0) ∧ (¬ (BYT u).getD 0 0 = c.toInt8.toInt32 → (BYT u).getD 1 0 = c.toInt8.toInt32 → nmI u c = 1) ∧ (¬ (BYT u).getD 0 0 = c.toInt8.toInt32 → ¬ (BYT u).getD 1 0 = c.toInt8.toInt32 → (BYT u).getD 2 0 = c.toInt8.toInt32 → nmI u c = 2) ∧ (¬ (BYT u).getD 0 0 = c.toInt8.toInt32 → ¬ (BYT u).getD 1 0 = c.toInt8.toInt32 → ¬ (BYT u).getD 2 0 = c.toInt8.toInt32 → nmI u c = -1) := by
  rcases (show u = 0 ∨ u = 1 by omega) with rfl | rfl
  · show ((119 : Int32) = _ → _) ∧ (¬ (119 : Int32) = _ → (108 : Int32) = _ → _) ∧ (¬ (119 : Int32) = _ → ¬ (108 : Int32) = _ → (104 : Int32) = _ → _) ∧ (¬ (119 : Int32) = _ → ¬ (108 : Int32) = _ → ¬ (104 : Int32) = _ → _)
    rw [i2b_eq hc (by decide), i2b_eq hc (by decide), i2b_eq hc (by decide)]
    unfold nmI
    rw [if_pos rfl]
    exact ⟨fun a => by rw [if_pos a], fun a b => by rw [if_neg a, if_pos b], fun a b e => by rw [if_neg a, if_neg b, if_pos e], fun a b e => by rw [if_neg a, if_neg b, if_neg e]⟩
  · show ((108 : Int32) = _ → _) ∧ (¬ (108 : Int32) = _ → (115 : Int32) = _ → _) ∧ (¬ (108 : Int32) = _ → ¬ (115 : Int32) = _ → (109 : Int32) = _ → _) ∧ (¬ (108 : Int32) = _ → ¬ (115 : Int32) = _ → ¬ (109 : Int32) = _ → _)
    rw [i2b_eq hc (by decide), i2b_eq hc (by decide), i2b_eq hc (by decide)]
    unfold nmI
    rw [if_neg (show ¬ (1 : Nat) = 0 by decide)]
    exact ⟨fun a => by rw [if_pos a], fun a b => by rw [if_neg a, if_pos b], fun a b e => by rw [if_neg a, if_neg b, if_pos e], fun a b e => by rw [if_neg a, if_neg b, if_neg e]⟩
section
variable {G : GT} {d u : Nat} {h : Hp} {Q : Int32 → Hp → Prop} {c : Int32}
theorem ev_isLatin1 (hR : RF h) (hu : u < 2) (k : Q 1 h) : EvI G (d + 1) mJ0_isLatin1_aae02 [.inr (.inr (some (FB + (2 + u))))] h Q := by
  refine Ev.of rfl (fun _ => Nat.le_of_ble_eq_true rfl) ?_
  show Rn G (d + 1) 0 0 mJ0_isLatin1_aae02 0 [(0, .inr (.inr (some (FB + (2 + u)))))] [] SH h (QI Q)
  refine rn_gcs dJ0_isLatin1_aae02_0 rfl ?_
  refine rn_if_eq (tgt := 17) dJ0_isLatin1_aae02_3 (by decide) (fun z => absurd z (by decide)) (fun _ => ?_)
  refine rn_aload_n dJ0_isLatin1_aae02_6 rfl rfl ?_
  refine rn_getC hu dJ0_isLatin1_aae02_7 rfl ?_
  refine rn_if_ne (tgt := 17) dJ0_isLatin1_aae02_10 (by decide) (fun z => absurd rfl z) (fun _ => ?_)
  refine rn_iconst (v := 1) dJ0_isLatin1_aae02_13 (by decide) ?_
  refine rn_goto (tgt := 18) dJ0_isLatin1_aae02_14 (by decide) ?_
  exact rn_zret (ty := .boolean) dJ0_isLatin1_aae02_18 rfl (by decide) ⟨rfl, hR, _, rfl, k⟩
theorem ev_coder (hR : RF h) (hu : u < 2) (k : Q 0 h) : EvI G (d + 1) mJ0_coder_7d493 [.inr (.inr (some (FB + (2 + u))))] h Q := by
  refine Ev.of rfl (fun _ => Nat.le_of_ble_eq_true rfl) ?_
  show Rn G (d + 1) 0 0 mJ0_coder_7d493 0 [(0, .inr (.inr (some (FB + (2 + u)))))] [] SH h (QI Q)
  refine rn_gcs dJ0_coder_7d493_0 rfl ?_
  refine rn_if_eq (tgt := 13) dJ0_coder_7d493_3 (by decide) (fun z => absurd z (by decide)) (fun _ => ?_)
  refine rn_aload_n dJ0_coder_7d493_6 rfl rfl ?_
  refine rn_getC hu dJ0_coder_7d493_7 rfl ?_
  refine rn_goto (tgt := 14) dJ0_coder_7d493_10 (by decide) ?_
  exact rn_zret (ty := .byte) dJ0_coder_7d493_14 rfl (by decide) ⟨rfl, hR, _, rfl, k⟩
theorem ev_strLen (hR : RF h) (hu : u < 2) (k : Q 3 h) : EvI G (d + 2) mJ0_length_8abf5 [.inr (.inr (some (FB + (2 + u))))] h Q := by
  refine Ev.of rfl (fun _ => Nat.le_of_ble_eq_true rfl) ?_
  show Rn G (d + 2) 0 0 mJ0_length_8abf5 0 [(0, .inr (.inr (some (FB + (2 + u)))))] [] SH h (QI Q)
  refine rn_aload_n dJ0_length_8abf5_0 rfl rfl ?_
  refine rn_getV hu dJ0_length_8abf5_1 rfl ?_
  refine rn_alenY hu dJ0_length_8abf5_4 ?_
  refine rn_aload_n dJ0_length_8abf5_5 rfl rfl ?_
  refine rn_cVF (M' := mJ0_coder_7d493) (n := 0) (av := []) (S := [.inl 3]) (rc := 0) (rs := 0) (mc := 0) (ms := 0) dJ0_length_8abf5_6 pa_J0_coder_7d493 (Nat.le_refl _) rfl (Nat.le_of_ble_eq_true rfl) ml_J0_335 im_J0_coder_7d493 se_J0_coder_7d493 (by omega) rfl (Ev.mono (ev_coder (Q := fun x h1 => x = 0 ∧ h1 = h) hR hu ⟨rfl, rfl⟩) ?_)
  rintro v sh1 h1 ⟨rfl, -, x, rfl, rfl, rfl⟩
  show Rn G (d + 2) 0 0 mJ0_length_8abf5 9 [(0, .inr (.inr (some (FB + (2 + u)))))] [.inl 0, .inl 3] SH h1 (QI Q)
  refine rn_ishr dJ0_length_8abf5_9 ?_
  have e : ((3 : Int32) >>> ((0 : Int32) &&& 31)) = 3 := by decide
  exact rn_iret dJ0_length_8abf5_10 rfl ⟨rfl, hR, _, rfl, by rw [e]; exact k⟩
theorem ev_canEnc (hR : RF h) (hc : 0 ≤ c.toInt ∧ c.toInt ≤ 255) (k : Q 1 h) : EvI G (d + 1) mJ1_canEncode_9a6ad [.inl c] h Q := by
  refine Ev.of rfl (fun _ => Nat.le_of_ble_eq_true rfl) ?_
  show Rn G (d + 1) 0 0 mJ1_canEncode_9a6ad 0 [(0, .inl c)] [] SH h (QI Q)
  refine rn_iload_n dJ1_canEncode_9a6ad_0 rfl rfl ?_
  refine rn_if_lt (tgt := 15) dJ1_canEncode_9a6ad_1 (by decide) (fun z => ?_) (fun _ => ?_)
  · exfalso
    rw [i_lt] at z
    simp only [Int32.reduceToInt] at z
    omega
  refine rn_iload_n dJ1_canEncode_9a6ad_4 rfl rfl ?_
  refine rn_sipush (v := 255) dJ1_canEncode_9a6ad_5 (by decide) ?_
  refine rn_icmp_gt (tgt := 15) dJ1_canEncode_9a6ad_8 (by decide) (fun z => ?_) (fun _ => ?_)
  · exfalso
    rw [i_lt] at z
    simp only [Int32.reduceToInt] at z
    omega
  refine rn_iconst (v := 1) dJ1_canEncode_9a6ad_11 (by decide) ?_
  refine rn_goto (tgt := 16) dJ1_canEncode_9a6ad_12 (by decide) ?_
  exact rn_zret (ty := .boolean) dJ1_canEncode_9a6ad_16 rfl (by decide) ⟨rfl, hR, _, rfl, k⟩
theorem rg_idx (hR : RF h) (hu : u < 2) {i : Nat} {iv iv' : Int32} (hi : iv.toNatClampNeg = i) (hin : vp_in iv 3) (hlt : ¬ (3 : Int32) ≤ iv) (hn : iv + Int32.ofInt 1 = iv') (k1 : (BYT u).getD i 0 = c.toInt8.toInt32 → Q iv h) (k2 : ¬ (BYT u).getD i 0 = c.toInt8.toInt32 → Rn G (d + 1) 0 0 mJ1_indexOfChar_4cfef 7 [(5, .inl iv'), (4, .inl c.toInt8.toInt32), (0, .inr (.inr (some (FB + (4 + u))))), (1, .inl c), (2, .inl 0), (3, .inl 3)] [] SH h (QI Q)) : Rn G (d + 1) 0 0 mJ1_indexOfChar_4cfef 7 [(5, .inl iv), (4, .inl c.toInt8.toInt32), (0, .inr (.inr (some (FB + (4 + u))))), (1, .inl c), (2, .inl 0), (3, .inl 3)] [] SH h (QI Q) := by
  refine rn_iload dJ1_indexOfChar_4cfef_7 rfl ?_
  refine rn_iload_n dJ1_indexOfChar_4cfef_9 rfl rfl ?_
  refine rn_icmp_ge (tgt := 31) dJ1_indexOfChar_4cfef_10 (by decide) (fun z => absurd z hlt) (fun _ => ?_)
  refine rn_aload_n dJ1_indexOfChar_4cfef_13 rfl rfl ?_
  refine rn_iload dJ1_indexOfChar_4cfef_14 rfl ?_
  refine rn_baldY hu dJ1_indexOfChar_4cfef_16 hi hin ?_
  refine rn_iload dJ1_indexOfChar_4cfef_17 rfl ?_
  refine rn_icmp_ne (tgt := 25) dJ1_indexOfChar_4cfef_19 (by decide) (fun z => ?_) (fun z => ?_)
  · refine rn_iinc (L' := [(5, .inl iv'), (4, .inl c.toInt8.toInt32), (0, .inr (.inr (some (FB + (4 + u))))), (1, .inl c), (2, .inl 0), (3, .inl 3)]) dJ1_indexOfChar_4cfef_25 rfl (v := iv') hn (Nat.le_of_ble_eq_true rfl) rfl ?_
    refine rn_goto (tgt := 7) dJ1_indexOfChar_4cfef_28 (by decide) ?_
    exact k2 z
  · refine rn_iload dJ1_indexOfChar_4cfef_22 rfl ?_
    exact rn_iret dJ1_indexOfChar_4cfef_24 rfl ⟨rfl, hR, _, rfl, k1 (by first | exact z | exact Classical.not_not.mp z)⟩
theorem ev_idxChar (hR : RF h) (hu : u < 2) (hc : 0 ≤ c.toInt ∧ c.toInt ≤ 255) (k : Q (nmI u c) h) : EvI G (d + 1) mJ1_indexOfChar_4cfef [.inr (.inr (some (FB + (4 + u)))), .inl c, .inl 0, .inl 3] h Q := by
  obtain ⟨n0, n1, n2, n3⟩ := nmI_of hu hc
  refine Ev.of rfl (fun _ => Nat.le_of_ble_eq_true rfl) ?_
  show Rn G (d + 1) 0 0 mJ1_indexOfChar_4cfef 0 [(0, .inr (.inr (some (FB + (4 + u))))), (1, .inl c), (2, .inl 0), (3, .inl 3)] [] SH h (QI Q)
  refine rn_iload_n dJ1_indexOfChar_4cfef_0 rfl rfl ?_
  refine rn_i2b dJ1_indexOfChar_4cfef_1 ?_
  refine rn_istore (L' := [(4, .inl c.toInt8.toInt32), (0, .inr (.inr (some (FB + (4 + u))))), (1, .inl c), (2, .inl 0), (3, .inl 3)]) dJ1_indexOfChar_4cfef_2 (Nat.le_of_ble_eq_true rfl) rfl ?_
  refine rn_iload_n dJ1_indexOfChar_4cfef_4 rfl rfl ?_
  refine rn_istore (L' := [(5, .inl 0), (4, .inl c.toInt8.toInt32), (0, .inr (.inr (some (FB + (4 + u))))), (1, .inl c), (2, .inl 0), (3, .inl 3)]) dJ1_indexOfChar_4cfef_5 (Nat.le_of_ble_eq_true rfl) rfl ?_
  refine rg_idx (i := 0) (iv := 0) (iv' := 1) hR hu (by decide) (fun q => absurd q (by decide)) (by decide) (by decide) (fun a => by rw [n0 a] at k; exact k) (fun a => ?_)
  refine rg_idx (i := 1) (iv := 1) (iv' := 2) hR hu (by decide) (fun q => absurd q (by decide)) (by decide) (by decide) (fun b => by rw [n1 a b] at k; exact k) (fun b => ?_)
  refine rg_idx (i := 2) (iv := 2) (iv' := 3) hR hu (by decide) (fun q => absurd q (by decide)) (by decide) (by decide) (fun e => by rw [n2 a b e] at k; exact k) (fun e => ?_)
  rw [n3 a b e] at k
  refine rn_iload dJ1_indexOfChar_4cfef_7 rfl ?_
  refine rn_iload_n dJ1_indexOfChar_4cfef_9 rfl rfl ?_
  refine rn_icmp_ge (tgt := 31) dJ1_indexOfChar_4cfef_10 (by decide) (fun _ => ?_) (fun z => absurd (by decide) z)
  refine rn_iconst (v := -1) dJ1_indexOfChar_4cfef_31 (by decide) ?_
  exact rn_iret dJ1_indexOfChar_4cfef_32 rfl ⟨rfl, hR, _, rfl, k⟩
theorem ev_idxL (hR : RF h) (hu : u < 2) (hc : 0 ≤ c.toInt ∧ c.toInt ≤ 255) (k : Q (nmI u c) h) : EvI G (d + 2) mJ1_indexOf_4cfef [.inr (.inr (some (FB + (4 + u)))), .inl c, .inl 0, .inl 3] h Q := by
  have e0 : (if (0 : Int32) < 0 then (0 : Int32) else 0) = 0 := by decide
  have e3 : (if (3 : Int32) < 3 then (3 : Int32) else 3) = 3 := by decide
  refine Ev.of rfl (fun _ => Nat.le_of_ble_eq_true rfl) ?_
  show Rn G (d + 2) 0 0 mJ1_indexOf_4cfef 0 [(0, .inr (.inr (some (FB + (4 + u))))), (1, .inl c), (2, .inl 0), (3, .inl 3)] [] SH h (QI Q)
  refine rn_iload_n dJ1_indexOf_4cfef_0 rfl rfl ?_
  refine rn_cS (M' := mJ1_canEncode_9a6ad) (n := 1) (av := [.inl c]) (S := []) (rc := 0) (rs := 0) (mc := 0) (ms := 0) dJ1_indexOf_4cfef_1 pa_J1_canEncode_9a6ad (Nat.le_refl _) rfl (Nat.le_of_ble_eq_true rfl) ml_J1_88 ss_J1_canEncode_9a6ad rfl (Ev.mono (ev_canEnc (Q := fun x h1 => x = 1 ∧ h1 = h) hR hc ⟨rfl, rfl⟩) ?_)
  rintro v sh1 h1 ⟨rfl, -, x, rfl, rfl, rfl⟩
  show Rn G (d + 2) 0 0 mJ1_indexOf_4cfef 4 [(0, .inr (.inr (some (FB + (4 + u))))), (1, .inl c), (2, .inl 0), (3, .inl 3)] [.inl 1] SH h1 (QI Q)
  refine rn_if_ne (tgt := 9) dJ1_indexOf_4cfef_4 (by decide) (fun _ => ?_) (fun z => by first | exact absurd z (by decide) | exact absurd (by decide) z)
  refine rn_iload_n dJ1_indexOf_4cfef_9 rfl rfl ?_
  refine rn_iconst (v := 0) dJ1_indexOf_4cfef_10 (by decide) ?_
  refine rn_mmax dJ1_indexOf_4cfef_11 ml_J1_92 (Nat.le_of_ble_eq_true rfl) ?_
  rw [e0]
  refine rn_istore_n (L' := [(2, .inl 0), (0, .inr (.inr (some (FB + (4 + u))))), (1, .inl c), (3, .inl 3)]) dJ1_indexOf_4cfef_14 rfl (Nat.le_of_ble_eq_true rfl) rfl ?_
  refine rn_iload_n dJ1_indexOf_4cfef_15 rfl rfl ?_
  refine rn_aload_n dJ1_indexOf_4cfef_16 rfl rfl ?_
  refine rn_alenY hu dJ1_indexOf_4cfef_17 ?_
  refine rn_mmin dJ1_indexOf_4cfef_18 ml_J1_38 (Nat.le_of_ble_eq_true rfl) ?_
  rw [e3]
  refine rn_istore_n (L' := [(3, .inl 3), (2, .inl 0), (0, .inr (.inr (some (FB + (4 + u))))), (1, .inl c)]) dJ1_indexOf_4cfef_21 rfl (Nat.le_of_ble_eq_true rfl) rfl ?_
  refine rn_iload_n dJ1_indexOf_4cfef_22 rfl rfl ?_
  refine rn_iload_n dJ1_indexOf_4cfef_23 rfl rfl ?_
  refine rn_icmp_lt (tgt := 29) dJ1_indexOf_4cfef_24 (by decide) (fun _ => ?_) (fun z => absurd (by decide) z)
  refine rn_aload_n dJ1_indexOf_4cfef_29 rfl rfl ?_
  refine rn_iload_n dJ1_indexOf_4cfef_30 rfl rfl ?_
  refine rn_iload_n dJ1_indexOf_4cfef_31 rfl rfl ?_
  refine rn_iload_n dJ1_indexOf_4cfef_32 rfl rfl ?_
  refine rn_cS (M' := mJ1_indexOfChar_4cfef) (n := 4) (av := [.inr (.inr (some (FB + (4 + u)))), .inl c, .inl 0, .inl 3]) (S := []) (rc := 0) (rs := 0) (mc := 0) (ms := 0) dJ1_indexOf_4cfef_33 pa_J1_indexOfChar_4cfef (Nat.le_refl _) rfl (Nat.le_of_ble_eq_true rfl) ml_J1_95 ss_J1_indexOfChar_4cfef rfl (Ev.mono (ev_idxChar (Q := fun x h2 => x = nmI u c ∧ h2 = h1) hR hu hc ⟨rfl, rfl⟩) ?_)
  rintro v sh2 h2 ⟨rfl, -, x, rfl, rfl, rfl⟩
  exact rn_iret dJ1_indexOf_4cfef_36 rfl ⟨rfl, hR, _, rfl, k⟩
theorem ev_idx2 (hR : RF h) (hu : u < 2) (hc : 0 ≤ c.toInt ∧ c.toInt ≤ 255) (k : Q (nmI u c) h) : EvI G (d + 3) mJ0_indexOf_7cf53 [.inr (.inr (some (FB + (2 + u)))), .inl c, .inl 0] h Q := by
  refine Ev.of rfl (fun _ => Nat.le_of_ble_eq_true rfl) ?_
  show Rn G (d + 3) 0 0 mJ0_indexOf_7cf53 0 [(0, .inr (.inr (some (FB + (2 + u))))), (1, .inl c), (2, .inl 0)] [] SH h (QI Q)
  refine rn_aload_n dJ0_indexOf_7cf53_0 rfl rfl ?_
  refine rn_cVF (M' := mJ0_isLatin1_aae02) (n := 0) (av := []) (S := []) (rc := 0) (rs := 0) (mc := 0) (ms := 0) dJ0_indexOf_7cf53_1 pa_J0_isLatin1_aae02 (Nat.le_refl _) rfl (Nat.le_of_ble_eq_true rfl) ml_J0_492 im_J0_isLatin1_aae02 se_J0_isLatin1_aae02 (by omega) rfl (Ev.mono (ev_isLatin1 (Q := fun x h1 => x = 1 ∧ h1 = h) hR hu ⟨rfl, rfl⟩) ?_)
  rintro v sh1 h1 ⟨rfl, -, x, rfl, rfl, rfl⟩
  show Rn G (d + 3) 0 0 mJ0_indexOf_7cf53 4 [(0, .inr (.inr (some (FB + (2 + u))))), (1, .inl c), (2, .inl 0)] [.inl 1] SH h1 (QI Q)
  refine rn_if_eq (tgt := 23) dJ0_indexOf_7cf53_4 (by decide) (fun z => absurd z (by decide)) (fun _ => ?_)
  refine rn_aload_n dJ0_indexOf_7cf53_7 rfl rfl ?_
  refine rn_getV hu dJ0_indexOf_7cf53_8 rfl ?_
  refine rn_iload_n dJ0_indexOf_7cf53_11 rfl rfl ?_
  refine rn_iload_n dJ0_indexOf_7cf53_12 rfl rfl ?_
  refine rn_aload_n dJ0_indexOf_7cf53_13 rfl rfl ?_
  refine rn_cVF (M' := mJ0_length_8abf5) (n := 0) (av := []) (S := [.inl 0, .inl c, .inr (.inr (some (FB + (4 + u))))]) (rc := 0) (rs := 0) (mc := 0) (ms := 0) dJ0_indexOf_7cf53_14 pa_J0_length_8abf5 (Nat.le_refl _) rfl (Nat.le_of_ble_eq_true rfl) ml_J0_505 im_J0_length_8abf5 se_J0_length_8abf5 (by omega) rfl (Ev.mono (ev_strLen (Q := fun x h2 => x = 3 ∧ h2 = h1) hR hu ⟨rfl, rfl⟩) ?_)
  rintro v sh2 h2 ⟨rfl, -, x, rfl, rfl, rfl⟩
  show Rn G (d + 3) 0 0 mJ0_indexOf_7cf53 17 [(0, .inr (.inr (some (FB + (2 + u))))), (1, .inl c), (2, .inl 0)] [.inl 3, .inl 0, .inl c, .inr (.inr (some (FB + (4 + u))))] SH h2 (QI Q)
  refine rn_cS (M' := mJ1_indexOf_4cfef) (n := 4) (av := [.inr (.inr (some (FB + (4 + u)))), .inl c, .inl 0, .inl 3]) (S := []) (rc := 0) (rs := 0) (mc := 0) (ms := 0) dJ0_indexOf_7cf53_17 pa_J1_indexOf_4cfef (Nat.le_refl _) rfl (Nat.le_of_ble_eq_true rfl) ml_J0_637 ss_J1_indexOf_4cfef rfl (Ev.mono (ev_idxL (Q := fun x h3 => x = nmI u c ∧ h3 = h2) hR hu hc ⟨rfl, rfl⟩) ?_)
  rintro v sh3 h3 ⟨rfl, -, x, rfl, rfl, rfl⟩
  show Rn G (d + 3) 0 0 mJ0_indexOf_7cf53 20 [(0, .inr (.inr (some (FB + (2 + u))))), (1, .inl c), (2, .inl 0)] [.inl (nmI u c)] SH h3 (QI Q)
  refine rn_goto (tgt := 36) dJ0_indexOf_7cf53_20 (by decide) ?_
  exact rn_iret dJ0_indexOf_7cf53_36 rfl ⟨rfl, hR, _, rfl, k⟩
theorem ev_idx1 (hR : RF h) (hd : 6 ≤ d) (hu : u < 2) (hc : 0 ≤ c.toInt ∧ c.toInt ≤ 255) (k : Q (nmI u c) h) : EvI G d mJ0_indexOf_0f7a4 [.inr (.inr (some (FB + 2 + u))), .inl c] h Q := by
  obtain ⟨e, rfl⟩ : ∃ e, d = e + 4 := ⟨d - 4, by omega⟩
  rw [show FB + 2 + u = FB + (2 + u) by omega]
  refine Ev.of rfl (fun _ => Nat.le_of_ble_eq_true rfl) ?_
  show Rn G (e + 4) 0 0 mJ0_indexOf_0f7a4 0 [(0, .inr (.inr (some (FB + (2 + u))))), (1, .inl c)] [] SH h (QI Q)
  refine rn_aload_n dJ0_indexOf_0f7a4_0 rfl rfl ?_
  refine rn_iload_n dJ0_indexOf_0f7a4_1 rfl rfl ?_
  refine rn_iconst (v := 0) dJ0_indexOf_0f7a4_2 (by decide) ?_
  refine rn_cVF (M' := mJ0_indexOf_7cf53) (n := 2) (av := [.inl c, .inl 0]) (S := []) (rc := 0) (rs := 0) (mc := 0) (ms := 0) dJ0_indexOf_0f7a4_3 pa_J0_indexOf_7cf53 (Nat.le_refl _) rfl (Nat.le_of_ble_eq_true rfl) ml_J0_633 im_J0_indexOf_7cf53 se_J0_indexOf_7cf53 (by omega) rfl (Ev.mono (ev_idx2 (Q := fun x h1 => x = nmI u c ∧ h1 = h) hR hu hc ⟨rfl, rfl⟩) ?_)
  rintro v sh1 h1 ⟨rfl, -, x, rfl, rfl, rfl⟩
  exact rn_iret dJ0_indexOf_0f7a4_6 rfl ⟨rfl, hR, _, rfl, k⟩
end
