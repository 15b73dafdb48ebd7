theorem mw_max : Cond.static Lib.Math.max.name ∈ lw_g ∧ Cond.initialized "java/lang/Math" ∈ lw_g ∧ Cond.code Lib.Math.max.name Lib.Math.max.code 2 (some .int) ∈ lw_g := ⟨lg_in (tk_3 (List.mem_of_getElem? (i := 132) (by decide +kernel))) rfl, lg_in (tk_1 (List.mem_of_getElem? (i := 14) (by decide +kernel))) rfl, lg_in (tk_3 (List.mem_of_getElem? (i := 133) (by decide +kernel))) rfl⟩
theorem rn_mmax {G : GT} {d rc rs : Nat} {M : MR} {pc : Nat} {L : List (Nat × MV)} {S : List MV} {sh : List Sh} {h : Hp} {Q : Option MV → List Sh → Hp → Prop} {x y : Int32} {idx : Nat} (hd : decode M.2.1 pc = .ok (.invokestatic idx, 3)) (hl : Cond.methodLink M.1.cls idx Lib.Math.max.name ∈ lw_g) (hst : (S.map catM).sum ≤ 8) (k : Rn G (d + 1) rc rs M (pc + 3) L (.inl (if x < y then y else x) :: S) sh h Q) : Rn G (d + 1) rc rs M pc L (.inl y :: .inl x :: S) sh h Q := by
  intro p e R s m args below meth c H locs cells slots ls Qc C h1 h2 hl0 hS hP hQ
  have hts := C.2.2.2.2.1
  have hfr := C.2.2.2.2.2.2.2.2.1
  have hlo := C.2.2.2.2.2.2.2.2.2.1
  exact va_mmax C.1 C.2.1 (by rw [C.2.2.1]; exact hl0.1.symm) C.2.2.2.1 (hts _ hl) (hts _ mw_max.1) (hts _ mw_max.2.1) (hts _ mw_max.2.2) (by omega) (by rw [cat_sum]; omega) (by omega) (by omega) hd (k p e R s m args below meth c H locs cells slots ls Qc C h1 h2 hl0 hS hP hQ)
theorem mw_min : Cond.static Lib.Math.min.name ∈ lw_g ∧ Cond.initialized "java/lang/Math" ∈ lw_g ∧ Cond.code Lib.Math.min.name Lib.Math.min.code 2 (some .int) ∈ lw_g := ⟨lg_in (tk_3 (List.mem_of_getElem? (i := 23) (by decide +kernel))) rfl, lg_in (tk_1 (List.mem_of_getElem? (i := 14) (by decide +kernel))) rfl, lg_in (tk_3 (List.mem_of_getElem? (i := 24) (by decide +kernel))) rfl⟩
theorem rn_mmin {G : GT} {d rc rs : Nat} {M : MR} {pc : Nat} {L : List (Nat × MV)} {S : List MV} {sh : List Sh} {h : Hp} {Q : Option MV → List Sh → Hp → Prop} {x y : Int32} {idx : Nat} (hd : decode M.2.1 pc = .ok (.invokestatic idx, 3)) (hl : Cond.methodLink M.1.cls idx Lib.Math.min.name ∈ lw_g) (hst : (S.map catM).sum ≤ 8) (k : Rn G (d + 1) rc rs M (pc + 3) L (.inl (if y < x then y else x) :: S) sh h Q) : Rn G (d + 1) rc rs M pc L (.inl y :: .inl x :: S) sh h Q := by
  intro p e R s m args below meth c H locs cells slots ls Qc C h1 h2 hl0 hS hP hQ
  have hts := C.2.2.2.2.1
  have hfr := C.2.2.2.2.2.2.2.2.1
  have hlo := C.2.2.2.2.2.2.2.2.2.1
  exact va_mmin C.1 C.2.1 (by rw [C.2.2.1]; exact hl0.1.symm) C.2.2.2.1 (hts _ hl) (hts _ mw_min.1) (hts _ mw_min.2.1) (hts _ mw_min.2.2) (by omega) (by rw [cat_sum]; omega) (by omega) (by omega) hd (k p e R s m args below meth c H locs cells slots ls Qc C h1 h2 hl0 hS hP hQ)
theorem mw_abs : Cond.static Lib.MathLoose.abs_long.x ∈ lw_g ∧ Cond.initialized "java/lang/Math" ∈ lw_g ∧ Cond.code Lib.MathLoose.abs_long.x Lib.MathLoose.abs_long.code 2 (some .long) ∈ lw_g := ⟨lg_in (tk_4 (List.mem_of_getElem? (i := 149) (by decide +kernel))) rfl, lg_in (tk_1 (List.mem_of_getElem? (i := 14) (by decide +kernel))) rfl, lg_in (tk_4 (List.mem_of_getElem? (i := 150) (by decide +kernel))) rfl⟩
theorem rn_mabs {G : GT} {d rc rs : Nat} {M : MR} {pc : Nat} {L : List (Nat × MV)} {S : List MV} {sh : List Sh} {h : Hp} {Q : Option MV → List Sh → Hp → Prop} {x : Int64} {idx : Nat} (hd : decode M.2.1 pc = .ok (.invokestatic idx, 3)) (hl : Cond.methodLink M.1.cls idx Lib.MathLoose.abs_long.x ∈ lw_g) (hst : (S.map catM).sum ≤ 8) (k : Rn G (d + 1) rc rs M (pc + 3) L (.inr (.inl (if 0 < x then x else -x)) :: S) sh h Q) : Rn G (d + 1) rc rs M pc L (.inr (.inl x) :: S) sh h Q := by
  intro p e R s m args below meth c H locs cells slots ls Qc C h1 h2 hl0 hS hP hQ
  have hts := C.2.2.2.2.1
  have hfr := C.2.2.2.2.2.2.2.2.1
  have hlo := C.2.2.2.2.2.2.2.2.2.1
  exact va_mabs_long C.1 C.2.1 (by rw [C.2.2.1]; exact hl0.1.symm) C.2.2.2.1 (hts _ hl) (hts _ mw_abs.1) (hts _ mw_abs.2.1) (hts _ mw_abs.2.2) (by omega) (by rw [cat_sum]; omega) (by omega) (by omega) hd (k p e R s m args below meth c H locs cells slots ls Qc C h1 h2 hl0 hS hP hQ)
theorem rn_alenB {G : GT} {d rc rs : Nat} {M : MR} {pc : Nat} {L : List (Nat × MV)} {S : List MV} {sh : List Sh} {h : Hp} {Q : Option MV → List Sh → Hp → Prop} (hd : decode M.2.1 pc = .ok (.arraylength, 1)) (kk : Rn G d rc rs M (pc + 1) L (.inl 28 :: S) sh h Q) : Rn G d rc rs M pc L (.inr (.inr (some (FB + 1))) :: S) sh h Q := by
  intro p e R s m args below meth c H locs cells slots ls Qc C h1 h2 hl hS hP hQ
  have e0 : tr G (.inr (.inr (some (FB + 1)))) = .ref (ga G 1) := by show Value.ref (adr G (FB + 1)) = _; rw [adr_hi]
  rw [List.map_cons, e0]
  exact va_tlen C.1 C.2.1 (FOl C).2.1.2 hS (by decide) hd (kk p e R s m args below meth c H locs cells slots ls Qc C h1 h2 hl hS hP hQ)
