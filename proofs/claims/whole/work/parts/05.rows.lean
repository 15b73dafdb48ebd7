/-! ROWS: an instruction a row, over Rn -/
theorem cellOf_congr {G : GT} {h h' : Hp} {a : Nat} (e : Sh) (h1 : h'.1 a = h.1 a) (h2 : h'.2.1 a = h.2.1 a) (h3 : h'.2.2 a = h.2.2 a) : cellOf G h' a e = cellOf G h a e := by
  have e1 : ∀ k t, fvM h' a k t = fvM h a k t := by
    intro k t
    rcases t with _ | _ | t
    · simp [fvM, h1]
    · simp [fvM, h2]
    · simp [fvM, h3]
  rcases e with ci | ⟨t, n⟩
  · simp [cellOf, fvs, e1]
  · rcases t with _ | _ | t
    · simp [cellOf, h1]
    · simp [cellOf, h2]
    · simp [cellOf, h3]
theorem Pw.set {G : GT} {sh : List Sh} {h h' : Hp} {H H1 : Heap} {a : Nat} {e : Sh} (P : Pw G sh h H) (he : sh[a]? = some e) (hn : va_at (gD G) vwCl (gb G + a, cellOf G h' a e) H1) (hz : H1.size = H.size) (oq : ∀ q, q ≠ gb G + a → H1[q]? = H[q]?)
    (hh : ∀ b, b ≠ a → h'.1 b = h.1 b ∧ h'.2.1 b = h.2.1 b ∧ h'.2.2 b = h.2.2 b) : Pw G sh h' H1 := by
  refine ⟨hz.trans P.1, P.2.1, fun b e' hb => ?_⟩
  by_cases hba : b = a
  · subst hba
    cases he.symm.trans hb
    exact hn
  · obtain ⟨g1, g2, g3⟩ := hh b hba
    rw [cellOf_congr e' g1 g2 g3]
    exact (P.2.2 b e' hb).kept (oq _ (by show gb G + b ≠ gb G + a; omega))
def sI (h : Hp) (a k : Nat) (v : Int32) : Hp := (fun b j => if b = a ∧ j = k then v else h.1 b j, h.2)
def sL (h : Hp) (a k : Nat) (v : Int64) : Hp := (h.1, (fun b j => if b = a ∧ j = k then v else h.2.1 b j, h.2.2))
def sR (h : Hp) (a k : Nat) (v : Option Nat) : Hp := (h.1, (h.2.1, fun b j => if b = a ∧ j = k then v else h.2.2 b j))
theorem sI_row (h : Hp) (a k : Nat) (v : Int32) : (sI h a k v).1 a = upd (h.1 a) k v := by funext j; simp [sI, upd]
theorem sL_row (h : Hp) (a k : Nat) (v : Int64) : (sL h a k v).2.1 a = vp_updL (h.2.1 a) k v := by funext j; simp [sL, vp_updL]
theorem sI_off {h : Hp} {a k : Nat} {v : Int32} {b : Nat} (hb : b ≠ a) : (sI h a k v).1 b = h.1 b ∧ (sI h a k v).2.1 b = h.2.1 b ∧ (sI h a k v).2.2 b = h.2.2 b := ⟨by funext j; simp [sI, hb], rfl, rfl⟩
theorem sL_off {h : Hp} {a k : Nat} {v : Int64} {b : Nat} (hb : b ≠ a) : (sL h a k v).1 b = h.1 b ∧ (sL h a k v).2.1 b = h.2.1 b ∧ (sL h a k v).2.2 b = h.2.2 b := ⟨rfl, by funext j; simp [sL, hb], rfl⟩
theorem sR_off {h : Hp} {a k : Nat} {v : Option Nat} {b : Nat} (hb : b ≠ a) : (sR h a k v).1 b = h.1 b ∧ (sR h a k v).2.1 b = h.2.1 b ∧ (sR h a k v).2.2 b = h.2.2 b := ⟨rfl, rfl, by funext j; simp [sR, hb]⟩
theorem fvs_set {G : GT} {h h' : Hp} {a ci k t : Nat} {v : MV} (hk : (fc ci)[k]? = some t) (hv : fvM h' a k t = v) (ho : ∀ j u, j ≠ k → fvM h' a j u = fvM h a j u) : fvs G h' a ci = (fvs G h a ci).set k (tr G v) := by
  have hl : k < (fc ci).length := (List.getElem?_eq_some_iff.mp hk).1
  apply List.ext_getElem?
  intro j
  rw [List.getElem?_set]
  by_cases hj : k = j
  · subst hj
    simp only [if_true, fvs, List.length_map, List.length_range, hl, List.getElem?_map, List.getElem?_range hl, Option.map_some]
    rw [show (fc ci).getD k 0 = t by simp [hk], hv]
  · simp only [if_neg hj, fvs, List.getElem?_map]
    cases hr : (List.range (fc ci).length)[j]? with
    | none => rfl
    | some z =>
      have hz : z = j := by
        have := List.getElem?_eq_some_iff.mp hr
        obtain ⟨g1, g2⟩ := this
        simpa using g2.symm
      subst hz
      simp only [Option.map_some]
      rw [ho z _ (fun q => hj q.symm)]
theorem fvs_at {G : GT} {h : Hp} {a ci k t : Nat} (hk : (fc ci)[k]? = some t) : (fvs G h a ci)[k]? = some (tr G (fvM h a k t)) := by
  have hl : k < (fc ci).length := (List.getElem?_eq_some_iff.mp hk).1
  simp only [fvs, List.getElem?_map, List.getElem?_range hl, Option.map_some]
  rw [show (fc ci).getD k 0 = t by simp [hk]]
theorem fvs_len {G : GT} {h : Hp} {a ci : Nat} : (fvs G h a ci).length = (fc ci).length := by simp [fvs]
theorem lv_in {G : GT} {ls : Array Slot} {n : Nat} {L : List (Nat × MV)} {i : Nat} {v : MV} (hl : lv_has ls n (L.map fun q => (q.1, tr G q.2))) (hL : L.lookup i = some v) : ls[i]? = some (.val (tr G v)) := by
  have hm : (i, v) ∈ L := by
    clear hl
    induction L with
    | nil => simp at hL
    | cons q L ih =>
      obtain ⟨a, b⟩ := q
      rw [List.lookup_cons] at hL
      cases hq : (i == a) with
      | true =>
        rw [hq] at hL
        have ha : i = a := by simpa using hq
        cases hL
        subst ha
        exact List.mem_cons_self
      | false =>
        rw [hq] at hL
        exact List.mem_cons_of_mem _ (ih hL)
  exact hl.2.2 (i, tr G v) (List.mem_map.mpr ⟨(i, v), hm, rfl⟩)
def setL (L : List (Nat × MV)) (i : Nat) (v : MV) : List (Nat × MV) := (i, v) :: L.filter (fun q => !(q.1 == i) && !(q.1 + 1 == i && catM q.2 == 2))
def setL2 (L : List (Nat × MV)) (i : Nat) (v : MV) : List (Nat × MV) := (i, v) :: L.filter (fun q => !(q.1 == i) && (!(q.1 == i + 1) && !(q.1 + 1 == i && catM q.2 == 2)))
theorem setL_map (G : GT) (L : List (Nat × MV)) (i : Nat) (v : MV) : (i, tr G v) :: (L.map fun q => (q.1, tr G q.2)).filter (fun q => !(q.1 == i) && !(q.1 + 1 == i && q.2.category == 2)) = (setL L i v).map fun q => (q.1, tr G q.2) := by
  unfold setL
  rw [List.map_cons, List.filter_map]
  congr 2
  apply List.filter_congr
  intro q _
  simp [tr_cat]
theorem setL2_map (G : GT) (L : List (Nat × MV)) (i : Nat) (v : MV) : (i, tr G v) :: (L.map fun q => (q.1, tr G q.2)).filter (fun q => !(q.1 == i) && (!(q.1 == i + 1) && !(q.1 + 1 == i && q.2.category == 2))) = (setL2 L i v).map fun q => (q.1, tr G q.2) := by
  unfold setL2
  rw [List.map_cons, List.filter_map]
  congr 2
  apply List.filter_congr
  intro q _
  simp [tr_cat]
theorem rn_sub {G : GT} {d rc rs : Nat} {M : MR} {pc : Nat} {L L' : List (Nat × MV)} {S : List MV} {sh : List Sh} {h : Hp} {Q : Option MV → List Sh → Hp → Prop} (ks : List Nat) (hl : ks.filterMap (fun k => L[k]?) = L') (k : Rn G d rc rs M pc L' S sh h Q) : Rn G d rc rs M pc L S sh h Q := by
  intro p e R s m args below meth c H locs cells slots ls Qc C h1 h2 hv hS hP hQ
  refine k p e R s m args below meth c H locs cells slots ls Qc C h1 h2 ⟨hv.1, hv.2.1, fun q hq => ?_⟩ hS hP hQ
  obtain ⟨x, hx, rfl⟩ := List.mem_map.mp hq
  rw [← hl] at hx
  obtain ⟨j, -, hj⟩ := List.mem_filterMap.mp hx
  exact hv.2.2 _ (List.mem_map.mpr ⟨x, List.mem_of_getElem? hj, rfl⟩)

theorem rn_iconst {G : GT} {d rc rs : Nat} {M : MR} {pc : Nat} {L : List (Nat × MV)} {S : List MV} {sh : List Sh} {h : Hp} {Q : Option MV → List Sh → Hp → Prop} {n : Int} {v : Int32} (hd : decode M.2.1 pc = .ok (.iconst n, 1)) (hv : Int32.ofInt n = v) (k : Rn G d rc rs M (pc + 1) L (.inl v :: S) sh h Q) : Rn G d rc rs M pc L (S) sh h Q := by
  intro p e R s m args below meth c H locs cells slots ls Qc C h1 h2 hl hS hP hQ
  exact lv_iconst C.1 C.2.1 hd hv (k p e R s m args below meth c H locs cells slots ls Qc C h1 h2 hl hS hP hQ)
theorem rn_bipush {G : GT} {d rc rs : Nat} {M : MR} {pc : Nat} {L : List (Nat × MV)} {S : List MV} {sh : List Sh} {h : Hp} {Q : Option MV → List Sh → Hp → Prop} {n : Int} {v : Int32} (hd : decode M.2.1 pc = .ok (.bipush n, 2)) (hv : (Int8.ofInt n).toInt32 = v) (k : Rn G d rc rs M (pc + 2) L (.inl v :: S) sh h Q) : Rn G d rc rs M pc L (S) sh h Q := by
  intro p e R s m args below meth c H locs cells slots ls Qc C h1 h2 hl hS hP hQ
  exact lv_bipush C.1 C.2.1 hd hv (k p e R s m args below meth c H locs cells slots ls Qc C h1 h2 hl hS hP hQ)
theorem rn_sipush {G : GT} {d rc rs : Nat} {M : MR} {pc : Nat} {L : List (Nat × MV)} {S : List MV} {sh : List Sh} {h : Hp} {Q : Option MV → List Sh → Hp → Prop} {n : Int} {v : Int32} (hd : decode M.2.1 pc = .ok (.sipush n, 3)) (hv : (Int16.ofInt n).toInt32 = v) (k : Rn G d rc rs M (pc + 3) L (.inl v :: S) sh h Q) : Rn G d rc rs M pc L (S) sh h Q := by
  intro p e R s m args below meth c H locs cells slots ls Qc C h1 h2 hl hS hP hQ
  exact lv_sipush C.1 C.2.1 hd hv (k p e R s m args below meth c H locs cells slots ls Qc C h1 h2 hl hS hP hQ)
theorem rn_lconst {G : GT} {d rc rs : Nat} {M : MR} {pc : Nat} {L : List (Nat × MV)} {S : List MV} {sh : List Sh} {h : Hp} {Q : Option MV → List Sh → Hp → Prop} {n : Fin 2} {v : Int64} (hd : decode M.2.1 pc = .ok (.lconst n, 1)) (hv : Int64.ofNat (n : Nat) = v) (k : Rn G d rc rs M (pc + 1) L (.inr (.inl v) :: S) sh h Q) : Rn G d rc rs M pc L (S) sh h Q := by
  intro p e R s m args below meth c H locs cells slots ls Qc C h1 h2 hl hS hP hQ
  exact lv_lconst C.1 C.2.1 hd hv (k p e R s m args below meth c H locs cells slots ls Qc C h1 h2 hl hS hP hQ)
theorem rn_ldc {G : GT} {d rc rs : Nat} {M : MR} {pc : Nat} {L : List (Nat × MV)} {S : List MV} {sh : List Sh} {h : Hp} {Q : Option MV → List Sh → Hp → Prop} {idx : Nat} {v : Int32} (hd : decode M.2.1 pc = .ok (.ldc idx, 2)) (hw : Cond.constant M.1.cls idx v ∈ lw_g) (k : Rn G d rc rs M (pc + 2) L (.inl v :: S) sh h Q) : Rn G d rc rs M pc L (S) sh h Q := by
  intro p e R s m args below meth c H locs cells slots ls Qc C h1 h2 hl hS hP hQ
  exact W.ldc C.1 C.2.1 C.2.2.2.1 (C.2.2.2.2.1 _ hw) rfl hd (k p e R s m args below meth c H locs cells slots ls Qc C h1 h2 hl hS hP hQ)
theorem rn_ldcw {G : GT} {d rc rs : Nat} {M : MR} {pc : Nat} {L : List (Nat × MV)} {S : List MV} {sh : List Sh} {h : Hp} {Q : Option MV → List Sh → Hp → Prop} {idx : Nat} {v : Int32} (hd : decode M.2.1 pc = .ok (.ldc_w idx, 3)) (hw : Cond.constant M.1.cls idx v ∈ lw_g) (k : Rn G d rc rs M (pc + 3) L (.inl v :: S) sh h Q) : Rn G d rc rs M pc L (S) sh h Q := by
  intro p e R s m args below meth c H locs cells slots ls Qc C h1 h2 hl hS hP hQ
  exact lv_ldcw C.1 C.2.1 C.2.2.2.1 (C.2.2.2.2.1 _ hw) hd (k p e R s m args below meth c H locs cells slots ls Qc C h1 h2 hl hS hP hQ)
theorem rn_ldc2 {G : GT} {d rc rs : Nat} {M : MR} {pc : Nat} {L : List (Nat × MV)} {S : List MV} {sh : List Sh} {h : Hp} {Q : Option MV → List Sh → Hp → Prop} {idx : Nat} {v : Int64} (hd : decode M.2.1 pc = .ok (.ldc2_w idx, 3)) (hw : Cond.constantLong M.1.cls idx v ∈ lw_g) (k : Rn G d rc rs M (pc + 3) L (.inr (.inl v) :: S) sh h Q) : Rn G d rc rs M pc L (S) sh h Q := by
  intro p e R s m args below meth c H locs cells slots ls Qc C h1 h2 hl hS hP hQ
  exact W.ldc2 C.1 C.2.1 C.2.2.2.1 (C.2.2.2.2.1 _ hw) rfl hd (k p e R s m args below meth c H locs cells slots ls Qc C h1 h2 hl hS hP hQ)
theorem rn_iload_n {G : GT} {d rc rs : Nat} {M : MR} {pc : Nat} {L : List (Nat × MV)} {S : List MV} {sh : List Sh} {h : Hp} {Q : Option MV → List Sh → Hp → Prop} {j : Fin 4} {i : Nat} {x : Int32} (hd : decode M.2.1 pc = .ok (.iload_n j, 1)) (hj : (j : Nat) = i) (hL : L.lookup i = some (.inl x)) (k : Rn G d rc rs M (pc + 1) L (.inl x :: S) sh h Q) : Rn G d rc rs M pc L (S) sh h Q := by
  intro p e R s m args below meth c H locs cells slots ls Qc C h1 h2 hl hS hP hQ
  exact lv_iload_n C.1 C.2.1 hd hj (lv_in hl hL) (k p e R s m args below meth c H locs cells slots ls Qc C h1 h2 hl hS hP hQ)
theorem rn_iload {G : GT} {d rc rs : Nat} {M : MR} {pc : Nat} {L : List (Nat × MV)} {S : List MV} {sh : List Sh} {h : Hp} {Q : Option MV → List Sh → Hp → Prop} {i : Nat} {x : Int32} (hd : decode M.2.1 pc = .ok (.iload i, 2)) (hL : L.lookup i = some (.inl x)) (k : Rn G d rc rs M (pc + 2) L (.inl x :: S) sh h Q) : Rn G d rc rs M pc L (S) sh h Q := by
  intro p e R s m args below meth c H locs cells slots ls Qc C h1 h2 hl hS hP hQ
  exact lv_iload C.1 C.2.1 hd (lv_in hl hL) (k p e R s m args below meth c H locs cells slots ls Qc C h1 h2 hl hS hP hQ)
theorem rn_istore_n {G : GT} {d rc rs : Nat} {M : MR} {pc : Nat} {L : List (Nat × MV)} {S : List MV} {sh : List Sh} {h : Hp} {Q : Option MV → List Sh → Hp → Prop} {j : Fin 4} {i : Nat} {x : Int32} {L' : List (Nat × MV)} (hd : decode M.2.1 pc = .ok (.istore_n j, 1)) (hj : (j : Nat) = i) (hn : i < M.2.2.1) (hL : setL L i (.inl x) = L') (k : Rn G d rc rs M (pc + 1) L' S sh h Q) : Rn G d rc rs M pc L (.inl x :: S) sh h Q := by
  intro p e R s m args below meth c H locs cells slots ls Qc C h1 h2 hl hS hP hQ
  refine lv_istore_n C.1 C.2.1 hd hj hl hn (setL_map G L i (.inl x)) (fun ls' hl' => ?_)
  rw [hL] at hl'
  exact k p e R s m args below meth c H locs cells slots ls' Qc C h1 h2 hl' hS hP hQ
theorem rn_istore {G : GT} {d rc rs : Nat} {M : MR} {pc : Nat} {L : List (Nat × MV)} {S : List MV} {sh : List Sh} {h : Hp} {Q : Option MV → List Sh → Hp → Prop} {i : Nat} {x : Int32} {L' : List (Nat × MV)} (hd : decode M.2.1 pc = .ok (.istore i, 2)) (hn : i < M.2.2.1) (hL : setL L i (.inl x) = L') (k : Rn G d rc rs M (pc + 2) L' S sh h Q) : Rn G d rc rs M pc L (.inl x :: S) sh h Q := by
  intro p e R s m args below meth c H locs cells slots ls Qc C h1 h2 hl hS hP hQ
  refine lv_istore C.1 C.2.1 hd hl hn (setL_map G L i (.inl x)) (fun ls' hl' => ?_)
  rw [hL] at hl'
  exact k p e R s m args below meth c H locs cells slots ls' Qc C h1 h2 hl' hS hP hQ
theorem rn_lload_n {G : GT} {d rc rs : Nat} {M : MR} {pc : Nat} {L : List (Nat × MV)} {S : List MV} {sh : List Sh} {h : Hp} {Q : Option MV → List Sh → Hp → Prop} {j : Fin 4} {i : Nat} {x : Int64} (hd : decode M.2.1 pc = .ok (.lload_n j, 1)) (hj : (j : Nat) = i) (hL : L.lookup i = some (.inr (.inl x))) (k : Rn G d rc rs M (pc + 1) L (.inr (.inl x) :: S) sh h Q) : Rn G d rc rs M pc L (S) sh h Q := by
  intro p e R s m args below meth c H locs cells slots ls Qc C h1 h2 hl hS hP hQ
  exact lv_lload_n C.1 C.2.1 hd hj (lv_in hl hL) (k p e R s m args below meth c H locs cells slots ls Qc C h1 h2 hl hS hP hQ)
theorem rn_lload {G : GT} {d rc rs : Nat} {M : MR} {pc : Nat} {L : List (Nat × MV)} {S : List MV} {sh : List Sh} {h : Hp} {Q : Option MV → List Sh → Hp → Prop} {i : Nat} {x : Int64} (hd : decode M.2.1 pc = .ok (.lload i, 2)) (hL : L.lookup i = some (.inr (.inl x))) (k : Rn G d rc rs M (pc + 2) L (.inr (.inl x) :: S) sh h Q) : Rn G d rc rs M pc L (S) sh h Q := by
  intro p e R s m args below meth c H locs cells slots ls Qc C h1 h2 hl hS hP hQ
  exact lv_lload C.1 C.2.1 hd (lv_in hl hL) (k p e R s m args below meth c H locs cells slots ls Qc C h1 h2 hl hS hP hQ)
theorem rn_lstore_n {G : GT} {d rc rs : Nat} {M : MR} {pc : Nat} {L : List (Nat × MV)} {S : List MV} {sh : List Sh} {h : Hp} {Q : Option MV → List Sh → Hp → Prop} {j : Fin 4} {i : Nat} {x : Int64} {L' : List (Nat × MV)} (hd : decode M.2.1 pc = .ok (.lstore_n j, 1)) (hj : (j : Nat) = i) (hn : i + 1 < M.2.2.1) (hL : setL2 L i (.inr (.inl x)) = L') (k : Rn G d rc rs M (pc + 1) L' S sh h Q) : Rn G d rc rs M pc L (.inr (.inl x) :: S) sh h Q := by
  intro p e R s m args below meth c H locs cells slots ls Qc C h1 h2 hl hS hP hQ
  refine lv_lstore_n C.1 C.2.1 hd hj hl hn (setL2_map G L i (.inr (.inl x))) (fun ls' hl' => ?_)
  rw [hL] at hl'
  exact k p e R s m args below meth c H locs cells slots ls' Qc C h1 h2 hl' hS hP hQ
theorem rn_lstore {G : GT} {d rc rs : Nat} {M : MR} {pc : Nat} {L : List (Nat × MV)} {S : List MV} {sh : List Sh} {h : Hp} {Q : Option MV → List Sh → Hp → Prop} {i : Nat} {x : Int64} {L' : List (Nat × MV)} (hd : decode M.2.1 pc = .ok (.lstore i, 2)) (hn : i + 1 < M.2.2.1) (hL : setL2 L i (.inr (.inl x)) = L') (k : Rn G d rc rs M (pc + 2) L' S sh h Q) : Rn G d rc rs M pc L (.inr (.inl x) :: S) sh h Q := by
  intro p e R s m args below meth c H locs cells slots ls Qc C h1 h2 hl hS hP hQ
  refine lv_lstore C.1 C.2.1 hd hl hn (setL2_map G L i (.inr (.inl x))) (fun ls' hl' => ?_)
  rw [hL] at hl'
  exact k p e R s m args below meth c H locs cells slots ls' Qc C h1 h2 hl' hS hP hQ
theorem rn_aload_n {G : GT} {d rc rs : Nat} {M : MR} {pc : Nat} {L : List (Nat × MV)} {S : List MV} {sh : List Sh} {h : Hp} {Q : Option MV → List Sh → Hp → Prop} {j : Fin 4} {i : Nat} {x : Nat} (hd : decode M.2.1 pc = .ok (.aload_n j, 1)) (hj : (j : Nat) = i) (hL : L.lookup i = some (.inr (.inr (some x)))) (k : Rn G d rc rs M (pc + 1) L (.inr (.inr (some x)) :: S) sh h Q) : Rn G d rc rs M pc L (S) sh h Q := by
  intro p e R s m args below meth c H locs cells slots ls Qc C h1 h2 hl hS hP hQ
  exact lv_aload_n C.1 C.2.1 hd hj (lv_in hl hL) (k p e R s m args below meth c H locs cells slots ls Qc C h1 h2 hl hS hP hQ)
theorem rn_aload {G : GT} {d rc rs : Nat} {M : MR} {pc : Nat} {L : List (Nat × MV)} {S : List MV} {sh : List Sh} {h : Hp} {Q : Option MV → List Sh → Hp → Prop} {i : Nat} {x : Nat} (hd : decode M.2.1 pc = .ok (.aload i, 2)) (hL : L.lookup i = some (.inr (.inr (some x)))) (k : Rn G d rc rs M (pc + 2) L (.inr (.inr (some x)) :: S) sh h Q) : Rn G d rc rs M pc L (S) sh h Q := by
  intro p e R s m args below meth c H locs cells slots ls Qc C h1 h2 hl hS hP hQ
  exact lv_aload C.1 C.2.1 hd (lv_in hl hL) (k p e R s m args below meth c H locs cells slots ls Qc C h1 h2 hl hS hP hQ)
theorem rn_astore_n {G : GT} {d rc rs : Nat} {M : MR} {pc : Nat} {L : List (Nat × MV)} {S : List MV} {sh : List Sh} {h : Hp} {Q : Option MV → List Sh → Hp → Prop} {j : Fin 4} {i : Nat} {x : Nat} {L' : List (Nat × MV)} (hd : decode M.2.1 pc = .ok (.astore_n j, 1)) (hj : (j : Nat) = i) (hn : i < M.2.2.1) (hL : setL L i (.inr (.inr (some x))) = L') (k : Rn G d rc rs M (pc + 1) L' S sh h Q) : Rn G d rc rs M pc L (.inr (.inr (some x)) :: S) sh h Q := by
  intro p e R s m args below meth c H locs cells slots ls Qc C h1 h2 hl hS hP hQ
  refine lv_astore_n C.1 C.2.1 hd hj hl hn (setL_map G L i (.inr (.inr (some x)))) (fun ls' hl' => ?_)
  rw [hL] at hl'
  exact k p e R s m args below meth c H locs cells slots ls' Qc C h1 h2 hl' hS hP hQ
theorem rn_astore {G : GT} {d rc rs : Nat} {M : MR} {pc : Nat} {L : List (Nat × MV)} {S : List MV} {sh : List Sh} {h : Hp} {Q : Option MV → List Sh → Hp → Prop} {i : Nat} {x : Nat} {L' : List (Nat × MV)} (hd : decode M.2.1 pc = .ok (.astore i, 2)) (hn : i < M.2.2.1) (hL : setL L i (.inr (.inr (some x))) = L') (k : Rn G d rc rs M (pc + 2) L' S sh h Q) : Rn G d rc rs M pc L (.inr (.inr (some x)) :: S) sh h Q := by
  intro p e R s m args below meth c H locs cells slots ls Qc C h1 h2 hl hS hP hQ
  refine lv_astore C.1 C.2.1 hd hl hn (setL_map G L i (.inr (.inr (some x)))) (fun ls' hl' => ?_)
  rw [hL] at hl'
  exact k p e R s m args below meth c H locs cells slots ls' Qc C h1 h2 hl' hS hP hQ
theorem rn_iinc {G : GT} {d rc rs : Nat} {M : MR} {pc : Nat} {L : List (Nat × MV)} {S : List MV} {sh : List Sh} {h : Hp} {Q : Option MV → List Sh → Hp → Prop} {i : Nat} {n : Int} {x v : Int32} {L' : List (Nat × MV)} (hd : decode M.2.1 pc = .ok (.iinc i n, 3)) (hx : L.lookup i = some (.inl x)) (hv : x + Int32.ofInt n = v) (hn : i < M.2.2.1) (hL : setL L i (.inl v) = L') (k : Rn G d rc rs M (pc + 3) L' S sh h Q) : Rn G d rc rs M pc L S sh h Q := by
  intro p e R s m args below meth c H locs cells slots ls Qc C h1 h2 hl hS hP hQ
  have hm := lv_in hl hx
  have hl2 : lv_has ls M.2.2.1 ((i, .int x) :: (L.map fun q => (q.1, tr G q.2))) := ⟨hl.1, hl.2.1, fun q hq => by
    rcases List.mem_cons.mp hq with rfl | hq
    · exact hm
    · exact hl.2.2 q hq⟩
  refine lv_iinc C.1 C.2.1 hd hl2 (k := 0) rfl hv hn (lv' := L'.map fun q => (q.1, tr G q.2)) ?_ (fun ls' hl' => ?_)
  · rw [← hL, ← setL_map]
    simp [tr]
  · exact k p e R s m args below meth c H locs cells slots ls' Qc C h1 h2 hl' hS hP hQ
theorem rn_iadd {G : GT} {d rc rs : Nat} {M : MR} {pc : Nat} {L : List (Nat × MV)} {S : List MV} {sh : List Sh} {h : Hp} {Q : Option MV → List Sh → Hp → Prop} {x y : Int32} (hd : decode M.2.1 pc = .ok (.iadd, 1)) (k : Rn G d rc rs M (pc + 1) L (.inl (x + y) :: S) sh h Q) : Rn G d rc rs M pc L (.inl y :: .inl x :: S) sh h Q := by
  intro p e R s m args below meth c H locs cells slots ls Qc C h1 h2 hl hS hP hQ
  exact lv_iadd C.1 C.2.1 hd (k p e R s m args below meth c H locs cells slots ls Qc C h1 h2 hl hS hP hQ)
theorem rn_isub {G : GT} {d rc rs : Nat} {M : MR} {pc : Nat} {L : List (Nat × MV)} {S : List MV} {sh : List Sh} {h : Hp} {Q : Option MV → List Sh → Hp → Prop} {x y : Int32} (hd : decode M.2.1 pc = .ok (.isub, 1)) (k : Rn G d rc rs M (pc + 1) L (.inl (x - y) :: S) sh h Q) : Rn G d rc rs M pc L (.inl y :: .inl x :: S) sh h Q := by
  intro p e R s m args below meth c H locs cells slots ls Qc C h1 h2 hl hS hP hQ
  exact lv_isub C.1 C.2.1 hd (k p e R s m args below meth c H locs cells slots ls Qc C h1 h2 hl hS hP hQ)
theorem rn_imul {G : GT} {d rc rs : Nat} {M : MR} {pc : Nat} {L : List (Nat × MV)} {S : List MV} {sh : List Sh} {h : Hp} {Q : Option MV → List Sh → Hp → Prop} {x y : Int32} (hd : decode M.2.1 pc = .ok (.imul, 1)) (k : Rn G d rc rs M (pc + 1) L (.inl (x * y) :: S) sh h Q) : Rn G d rc rs M pc L (.inl y :: .inl x :: S) sh h Q := by
  intro p e R s m args below meth c H locs cells slots ls Qc C h1 h2 hl hS hP hQ
  exact lv_imul C.1 C.2.1 hd (k p e R s m args below meth c H locs cells slots ls Qc C h1 h2 hl hS hP hQ)
theorem rn_iand {G : GT} {d rc rs : Nat} {M : MR} {pc : Nat} {L : List (Nat × MV)} {S : List MV} {sh : List Sh} {h : Hp} {Q : Option MV → List Sh → Hp → Prop} {x y : Int32} (hd : decode M.2.1 pc = .ok (.iand, 1)) (k : Rn G d rc rs M (pc + 1) L (.inl (x &&& y) :: S) sh h Q) : Rn G d rc rs M pc L (.inl y :: .inl x :: S) sh h Q := by
  intro p e R s m args below meth c H locs cells slots ls Qc C h1 h2 hl hS hP hQ
  exact lv_iand C.1 C.2.1 hd (k p e R s m args below meth c H locs cells slots ls Qc C h1 h2 hl hS hP hQ)
theorem rn_ior {G : GT} {d rc rs : Nat} {M : MR} {pc : Nat} {L : List (Nat × MV)} {S : List MV} {sh : List Sh} {h : Hp} {Q : Option MV → List Sh → Hp → Prop} {x y : Int32} (hd : decode M.2.1 pc = .ok (.ior, 1)) (k : Rn G d rc rs M (pc + 1) L (.inl (x ||| y) :: S) sh h Q) : Rn G d rc rs M pc L (.inl y :: .inl x :: S) sh h Q := by
  intro p e R s m args below meth c H locs cells slots ls Qc C h1 h2 hl hS hP hQ
  exact lv_ior C.1 C.2.1 hd (k p e R s m args below meth c H locs cells slots ls Qc C h1 h2 hl hS hP hQ)
theorem rn_ixor {G : GT} {d rc rs : Nat} {M : MR} {pc : Nat} {L : List (Nat × MV)} {S : List MV} {sh : List Sh} {h : Hp} {Q : Option MV → List Sh → Hp → Prop} {x y : Int32} (hd : decode M.2.1 pc = .ok (.ixor, 1)) (k : Rn G d rc rs M (pc + 1) L (.inl (x ^^^ y) :: S) sh h Q) : Rn G d rc rs M pc L (.inl y :: .inl x :: S) sh h Q := by
  intro p e R s m args below meth c H locs cells slots ls Qc C h1 h2 hl hS hP hQ
  exact lv_ixor C.1 C.2.1 hd (k p e R s m args below meth c H locs cells slots ls Qc C h1 h2 hl hS hP hQ)
theorem rn_ladd {G : GT} {d rc rs : Nat} {M : MR} {pc : Nat} {L : List (Nat × MV)} {S : List MV} {sh : List Sh} {h : Hp} {Q : Option MV → List Sh → Hp → Prop} {x y : Int64} (hd : decode M.2.1 pc = .ok (.ladd, 1)) (k : Rn G d rc rs M (pc + 1) L (.inr (.inl (x + y)) :: S) sh h Q) : Rn G d rc rs M pc L (.inr (.inl y) :: .inr (.inl x) :: S) sh h Q := by
  intro p e R s m args below meth c H locs cells slots ls Qc C h1 h2 hl hS hP hQ
  exact lv_ladd C.1 C.2.1 hd (k p e R s m args below meth c H locs cells slots ls Qc C h1 h2 hl hS hP hQ)
theorem rn_lsub {G : GT} {d rc rs : Nat} {M : MR} {pc : Nat} {L : List (Nat × MV)} {S : List MV} {sh : List Sh} {h : Hp} {Q : Option MV → List Sh → Hp → Prop} {x y : Int64} (hd : decode M.2.1 pc = .ok (.lsub, 1)) (k : Rn G d rc rs M (pc + 1) L (.inr (.inl (x - y)) :: S) sh h Q) : Rn G d rc rs M pc L (.inr (.inl y) :: .inr (.inl x) :: S) sh h Q := by
  intro p e R s m args below meth c H locs cells slots ls Qc C h1 h2 hl hS hP hQ
  exact lv_lsub C.1 C.2.1 hd (k p e R s m args below meth c H locs cells slots ls Qc C h1 h2 hl hS hP hQ)
theorem rn_lmul {G : GT} {d rc rs : Nat} {M : MR} {pc : Nat} {L : List (Nat × MV)} {S : List MV} {sh : List Sh} {h : Hp} {Q : Option MV → List Sh → Hp → Prop} {x y : Int64} (hd : decode M.2.1 pc = .ok (.lmul, 1)) (k : Rn G d rc rs M (pc + 1) L (.inr (.inl (x * y)) :: S) sh h Q) : Rn G d rc rs M pc L (.inr (.inl y) :: .inr (.inl x) :: S) sh h Q := by
  intro p e R s m args below meth c H locs cells slots ls Qc C h1 h2 hl hS hP hQ
  exact lv_lmul C.1 C.2.1 hd (k p e R s m args below meth c H locs cells slots ls Qc C h1 h2 hl hS hP hQ)
theorem rn_land {G : GT} {d rc rs : Nat} {M : MR} {pc : Nat} {L : List (Nat × MV)} {S : List MV} {sh : List Sh} {h : Hp} {Q : Option MV → List Sh → Hp → Prop} {x y : Int64} (hd : decode M.2.1 pc = .ok (.land, 1)) (k : Rn G d rc rs M (pc + 1) L (.inr (.inl (x &&& y)) :: S) sh h Q) : Rn G d rc rs M pc L (.inr (.inl y) :: .inr (.inl x) :: S) sh h Q := by
  intro p e R s m args below meth c H locs cells slots ls Qc C h1 h2 hl hS hP hQ
  exact lv_land C.1 C.2.1 hd (k p e R s m args below meth c H locs cells slots ls Qc C h1 h2 hl hS hP hQ)
theorem rn_lor {G : GT} {d rc rs : Nat} {M : MR} {pc : Nat} {L : List (Nat × MV)} {S : List MV} {sh : List Sh} {h : Hp} {Q : Option MV → List Sh → Hp → Prop} {x y : Int64} (hd : decode M.2.1 pc = .ok (.lor, 1)) (k : Rn G d rc rs M (pc + 1) L (.inr (.inl (x ||| y)) :: S) sh h Q) : Rn G d rc rs M pc L (.inr (.inl y) :: .inr (.inl x) :: S) sh h Q := by
  intro p e R s m args below meth c H locs cells slots ls Qc C h1 h2 hl hS hP hQ
  exact lv_lor C.1 C.2.1 hd (k p e R s m args below meth c H locs cells slots ls Qc C h1 h2 hl hS hP hQ)
theorem rn_idiv {G : GT} {d rc rs : Nat} {M : MR} {pc : Nat} {L : List (Nat × MV)} {S : List MV} {sh : List Sh} {h : Hp} {Q : Option MV → List Sh → Hp → Prop} {x y : Int32} (hd : decode M.2.1 pc = .ok (.idiv, 1)) (hne : ¬ y = 0) (k : Rn G d rc rs M (pc + 1) L (.inl (x / y) :: S) sh h Q) : Rn G d rc rs M pc L (.inl y :: .inl x :: S) sh h Q := by
  intro p e R s m args below meth c H locs cells slots ls Qc C h1 h2 hl hS hP hQ
  exact lv_idiv C.1 C.2.1 hd hne (k p e R s m args below meth c H locs cells slots ls Qc C h1 h2 hl hS hP hQ)
theorem rn_ldiv {G : GT} {d rc rs : Nat} {M : MR} {pc : Nat} {L : List (Nat × MV)} {S : List MV} {sh : List Sh} {h : Hp} {Q : Option MV → List Sh → Hp → Prop} {x y : Int64} (hd : decode M.2.1 pc = .ok (.ldiv, 1)) (hne : ¬ y = 0) (k : Rn G d rc rs M (pc + 1) L (.inr (.inl (x / y)) :: S) sh h Q) : Rn G d rc rs M pc L (.inr (.inl y) :: .inr (.inl x) :: S) sh h Q := by
  intro p e R s m args below meth c H locs cells slots ls Qc C h1 h2 hl hS hP hQ
  exact lv_ldiv C.1 C.2.1 hd hne (k p e R s m args below meth c H locs cells slots ls Qc C h1 h2 hl hS hP hQ)
theorem rn_irem {G : GT} {d rc rs : Nat} {M : MR} {pc : Nat} {L : List (Nat × MV)} {S : List MV} {sh : List Sh} {h : Hp} {Q : Option MV → List Sh → Hp → Prop} {x y : Int32} (hd : decode M.2.1 pc = .ok (.irem, 1)) (hne : ¬ y = 0) (k : Rn G d rc rs M (pc + 1) L (.inl (x - x / y * y) :: S) sh h Q) : Rn G d rc rs M pc L (.inl y :: .inl x :: S) sh h Q := by
  intro p e R s m args below meth c H locs cells slots ls Qc C h1 h2 hl hS hP hQ
  exact lv_irem C.1 C.2.1 hd hne (k p e R s m args below meth c H locs cells slots ls Qc C h1 h2 hl hS hP hQ)
theorem rn_lrem {G : GT} {d rc rs : Nat} {M : MR} {pc : Nat} {L : List (Nat × MV)} {S : List MV} {sh : List Sh} {h : Hp} {Q : Option MV → List Sh → Hp → Prop} {x y : Int64} (hd : decode M.2.1 pc = .ok (.lrem, 1)) (hne : ¬ y = 0) (k : Rn G d rc rs M (pc + 1) L (.inr (.inl (x - x / y * y)) :: S) sh h Q) : Rn G d rc rs M pc L (.inr (.inl y) :: .inr (.inl x) :: S) sh h Q := by
  intro p e R s m args below meth c H locs cells slots ls Qc C h1 h2 hl hS hP hQ
  exact lv_lrem C.1 C.2.1 hd hne (k p e R s m args below meth c H locs cells slots ls Qc C h1 h2 hl hS hP hQ)
theorem rn_ineg {G : GT} {d rc rs : Nat} {M : MR} {pc : Nat} {L : List (Nat × MV)} {S : List MV} {sh : List Sh} {h : Hp} {Q : Option MV → List Sh → Hp → Prop} {x : Int32} (hd : decode M.2.1 pc = .ok (.ineg, 1)) (k : Rn G d rc rs M (pc + 1) L (.inl (-x) :: S) sh h Q) : Rn G d rc rs M pc L (.inl x :: S) sh h Q := by
  intro p e R s m args below meth c H locs cells slots ls Qc C h1 h2 hl hS hP hQ
  exact lv_ineg C.1 C.2.1 hd (k p e R s m args below meth c H locs cells slots ls Qc C h1 h2 hl hS hP hQ)
theorem rn_lneg {G : GT} {d rc rs : Nat} {M : MR} {pc : Nat} {L : List (Nat × MV)} {S : List MV} {sh : List Sh} {h : Hp} {Q : Option MV → List Sh → Hp → Prop} {x : Int64} (hd : decode M.2.1 pc = .ok (.lneg, 1)) (k : Rn G d rc rs M (pc + 1) L (.inr (.inl (-x)) :: S) sh h Q) : Rn G d rc rs M pc L (.inr (.inl x) :: S) sh h Q := by
  intro p e R s m args below meth c H locs cells slots ls Qc C h1 h2 hl hS hP hQ
  exact lv_lneg C.1 C.2.1 hd (k p e R s m args below meth c H locs cells slots ls Qc C h1 h2 hl hS hP hQ)
theorem rn_ishl {G : GT} {d rc rs : Nat} {M : MR} {pc : Nat} {L : List (Nat × MV)} {S : List MV} {sh : List Sh} {h : Hp} {Q : Option MV → List Sh → Hp → Prop} {x y : Int32} (hd : decode M.2.1 pc = .ok (.ishl, 1)) (k : Rn G d rc rs M (pc + 1) L (.inl (x <<< (y &&& 31)) :: S) sh h Q) : Rn G d rc rs M pc L (.inl y :: .inl x :: S) sh h Q := by
  intro p e R s m args below meth c H locs cells slots ls Qc C h1 h2 hl hS hP hQ
  exact lv_ishl C.1 C.2.1 hd (k p e R s m args below meth c H locs cells slots ls Qc C h1 h2 hl hS hP hQ)
theorem rn_ishr {G : GT} {d rc rs : Nat} {M : MR} {pc : Nat} {L : List (Nat × MV)} {S : List MV} {sh : List Sh} {h : Hp} {Q : Option MV → List Sh → Hp → Prop} {x y : Int32} (hd : decode M.2.1 pc = .ok (.ishr, 1)) (k : Rn G d rc rs M (pc + 1) L (.inl (x >>> (y &&& 31)) :: S) sh h Q) : Rn G d rc rs M pc L (.inl y :: .inl x :: S) sh h Q := by
  intro p e R s m args below meth c H locs cells slots ls Qc C h1 h2 hl hS hP hQ
  exact lv_ishr C.1 C.2.1 hd (k p e R s m args below meth c H locs cells slots ls Qc C h1 h2 hl hS hP hQ)
theorem rn_iushr {G : GT} {d rc rs : Nat} {M : MR} {pc : Nat} {L : List (Nat × MV)} {S : List MV} {sh : List Sh} {h : Hp} {Q : Option MV → List Sh → Hp → Prop} {x y : Int32} (hd : decode M.2.1 pc = .ok (.iushr, 1)) (k : Rn G d rc rs M (pc + 1) L (.inl ((x.toUInt32 >>> (y.toUInt32 &&& Int32.toUInt32 31)).toInt32) :: S) sh h Q) : Rn G d rc rs M pc L (.inl y :: .inl x :: S) sh h Q := by
  intro p e R s m args below meth c H locs cells slots ls Qc C h1 h2 hl hS hP hQ
  exact lv_iushr C.1 C.2.1 hd rfl (k p e R s m args below meth c H locs cells slots ls Qc C h1 h2 hl hS hP hQ)
theorem rn_lushr {G : GT} {d rc rs : Nat} {M : MR} {pc : Nat} {L : List (Nat × MV)} {S : List MV} {sh : List Sh} {h : Hp} {Q : Option MV → List Sh → Hp → Prop} {x : Int64} {y : Int32} (hd : decode M.2.1 pc = .ok (.lushr, 1)) (k : Rn G d rc rs M (pc + 1) L (.inr (.inl ((x.toUInt64 >>> (y.toInt64.toUInt64 &&& Int64.toUInt64 63)).toInt64)) :: S) sh h Q) : Rn G d rc rs M pc L (.inl y :: .inr (.inl x) :: S) sh h Q := by
  intro p e R s m args below meth c H locs cells slots ls Qc C h1 h2 hl hS hP hQ
  exact lv_lushr C.1 C.2.1 hd rfl (k p e R s m args below meth c H locs cells slots ls Qc C h1 h2 hl hS hP hQ)
theorem rn_lshl {G : GT} {d rc rs : Nat} {M : MR} {pc : Nat} {L : List (Nat × MV)} {S : List MV} {sh : List Sh} {h : Hp} {Q : Option MV → List Sh → Hp → Prop} {x : Int64} {y : Int32} (hd : decode M.2.1 pc = .ok (.lshl, 1)) (k : Rn G d rc rs M (pc + 1) L (.inr (.inl (x <<< (y.toInt64 &&& 63))) :: S) sh h Q) : Rn G d rc rs M pc L (.inl y :: .inr (.inl x) :: S) sh h Q := by
  intro p e R s m args below meth c H locs cells slots ls Qc C h1 h2 hl hS hP hQ
  exact lv_lshl C.1 C.2.1 hd rfl (k p e R s m args below meth c H locs cells slots ls Qc C h1 h2 hl hS hP hQ)
theorem rn_lshr {G : GT} {d rc rs : Nat} {M : MR} {pc : Nat} {L : List (Nat × MV)} {S : List MV} {sh : List Sh} {h : Hp} {Q : Option MV → List Sh → Hp → Prop} {x : Int64} {y : Int32} (hd : decode M.2.1 pc = .ok (.lshr, 1)) (k : Rn G d rc rs M (pc + 1) L (.inr (.inl (x >>> (y.toInt64 &&& 63))) :: S) sh h Q) : Rn G d rc rs M pc L (.inl y :: .inr (.inl x) :: S) sh h Q := by
  intro p e R s m args below meth c H locs cells slots ls Qc C h1 h2 hl hS hP hQ
  exact lv_lshr C.1 C.2.1 hd rfl (k p e R s m args below meth c H locs cells slots ls Qc C h1 h2 hl hS hP hQ)
theorem rn_i2l {G : GT} {d rc rs : Nat} {M : MR} {pc : Nat} {L : List (Nat × MV)} {S : List MV} {sh : List Sh} {h : Hp} {Q : Option MV → List Sh → Hp → Prop} {x : Int32} (hd : decode M.2.1 pc = .ok (.i2l, 1)) (k : Rn G d rc rs M (pc + 1) L (.inr (.inl x.toInt64) :: S) sh h Q) : Rn G d rc rs M pc L (.inl x :: S) sh h Q := by
  intro p e R s m args below meth c H locs cells slots ls Qc C h1 h2 hl hS hP hQ
  exact lv_i2l C.1 C.2.1 hd rfl (k p e R s m args below meth c H locs cells slots ls Qc C h1 h2 hl hS hP hQ)
theorem rn_l2i {G : GT} {d rc rs : Nat} {M : MR} {pc : Nat} {L : List (Nat × MV)} {S : List MV} {sh : List Sh} {h : Hp} {Q : Option MV → List Sh → Hp → Prop} {x : Int64} (hd : decode M.2.1 pc = .ok (.l2i, 1)) (k : Rn G d rc rs M (pc + 1) L (.inl x.toInt32 :: S) sh h Q) : Rn G d rc rs M pc L (.inr (.inl x) :: S) sh h Q := by
  intro p e R s m args below meth c H locs cells slots ls Qc C h1 h2 hl hS hP hQ
  exact lv_l2i C.1 C.2.1 hd rfl (k p e R s m args below meth c H locs cells slots ls Qc C h1 h2 hl hS hP hQ)
theorem rn_i2b {G : GT} {d rc rs : Nat} {M : MR} {pc : Nat} {L : List (Nat × MV)} {S : List MV} {sh : List Sh} {h : Hp} {Q : Option MV → List Sh → Hp → Prop} {x : Int32} (hd : decode M.2.1 pc = .ok (.i2b, 1)) (k : Rn G d rc rs M (pc + 1) L (.inl x.toInt8.toInt32 :: S) sh h Q) : Rn G d rc rs M pc L (.inl x :: S) sh h Q := by
  intro p e R s m args below meth c H locs cells slots ls Qc C h1 h2 hl hS hP hQ
  exact lv_i2b C.1 C.2.1 hd rfl (k p e R s m args below meth c H locs cells slots ls Qc C h1 h2 hl hS hP hQ)
theorem rn_i2s {G : GT} {d rc rs : Nat} {M : MR} {pc : Nat} {L : List (Nat × MV)} {S : List MV} {sh : List Sh} {h : Hp} {Q : Option MV → List Sh → Hp → Prop} {x : Int32} (hd : decode M.2.1 pc = .ok (.i2s, 1)) (k : Rn G d rc rs M (pc + 1) L (.inl x.toInt16.toInt32 :: S) sh h Q) : Rn G d rc rs M pc L (.inl x :: S) sh h Q := by
  intro p e R s m args below meth c H locs cells slots ls Qc C h1 h2 hl hS hP hQ
  exact lv_i2s C.1 C.2.1 hd rfl (k p e R s m args below meth c H locs cells slots ls Qc C h1 h2 hl hS hP hQ)
theorem rn_i2c {G : GT} {d rc rs : Nat} {M : MR} {pc : Nat} {L : List (Nat × MV)} {S : List MV} {sh : List Sh} {h : Hp} {Q : Option MV → List Sh → Hp → Prop} {x : Int32} (hd : decode M.2.1 pc = .ok (.i2c, 1)) (k : Rn G d rc rs M (pc + 1) L (.inl (x.toUInt32 % 65536).toInt32 :: S) sh h Q) : Rn G d rc rs M pc L (.inl x :: S) sh h Q := by
  intro p e R s m args below meth c H locs cells slots ls Qc C h1 h2 hl hS hP hQ
  exact lv_i2c C.1 C.2.1 hd rfl (k p e R s m args below meth c H locs cells slots ls Qc C h1 h2 hl hS hP hQ)
theorem rn_lcmp {G : GT} {d rc rs : Nat} {M : MR} {pc : Nat} {L : List (Nat × MV)} {S : List MV} {sh : List Sh} {h : Hp} {Q : Option MV → List Sh → Hp → Prop} {x y : Int64} (hd : decode M.2.1 pc = .ok (.lcmp, 1)) (k : Rn G d rc rs M (pc + 1) L (.inl (lg_cmp x y) :: S) sh h Q) : Rn G d rc rs M pc L (.inr (.inl y) :: .inr (.inl x) :: S) sh h Q := by
  intro p e R s m args below meth c H locs cells slots ls Qc C h1 h2 hl hS hP hQ
  exact W.lcmp C.1 C.2.1 hd (k p e R s m args below meth c H locs cells slots ls Qc C h1 h2 hl hS hP hQ)
theorem rn_dup {G : GT} {d rc rs : Nat} {M : MR} {pc : Nat} {L : List (Nat × MV)} {S : List MV} {sh : List Sh} {h : Hp} {Q : Option MV → List Sh → Hp → Prop} {v : MV} (hd : decode M.2.1 pc = .ok (.dup, 1)) (hc : catM v = 1) (k : Rn G d rc rs M (pc + 1) L (v :: v :: S) sh h Q) : Rn G d rc rs M pc L (v :: S) sh h Q := by
  intro p e R s m args below meth c H locs cells slots ls Qc C h1 h2 hl hS hP hQ
  exact lv_dup C.1 C.2.1 hd ((tr_cat G v).trans hc) (k p e R s m args below meth c H locs cells slots ls Qc C h1 h2 hl hS hP hQ)
theorem rn_pop {G : GT} {d rc rs : Nat} {M : MR} {pc : Nat} {L : List (Nat × MV)} {S : List MV} {sh : List Sh} {h : Hp} {Q : Option MV → List Sh → Hp → Prop} {v : MV} (hd : decode M.2.1 pc = .ok (.pop, 1)) (hc : catM v = 1) (k : Rn G d rc rs M (pc + 1) L (S) sh h Q) : Rn G d rc rs M pc L (v :: S) sh h Q := by
  intro p e R s m args below meth c H locs cells slots ls Qc C h1 h2 hl hS hP hQ
  exact lv_pop C.1 C.2.1 hd ((tr_cat G v).trans hc) (k p e R s m args below meth c H locs cells slots ls Qc C h1 h2 hl hS hP hQ)
theorem rn_dup_x1 {G : GT} {d rc rs : Nat} {M : MR} {pc : Nat} {L : List (Nat × MV)} {S : List MV} {sh : List Sh} {h : Hp} {Q : Option MV → List Sh → Hp → Prop} {v u : MV} (hd : decode M.2.1 pc = .ok (.dup_x1, 1)) (hc : catM v = 1) (hc2 : catM u = 1) (k : Rn G d rc rs M (pc + 1) L (v :: u :: v :: S) sh h Q) : Rn G d rc rs M pc L (v :: u :: S) sh h Q := by
  intro p e R s m args below meth c H locs cells slots ls Qc C h1 h2 hl hS hP hQ
  exact lv_dup_x1 C.1 C.2.1 hd ((tr_cat G v).trans hc) ((tr_cat G u).trans hc2) (k p e R s m args below meth c H locs cells slots ls Qc C h1 h2 hl hS hP hQ)
theorem rn_dup2 {G : GT} {d rc rs : Nat} {M : MR} {pc : Nat} {L : List (Nat × MV)} {S : List MV} {sh : List Sh} {h : Hp} {Q : Option MV → List Sh → Hp → Prop} {v u : MV} (hd : decode M.2.1 pc = .ok (.dup2, 1)) (hc : catM v = 1) (hc2 : catM u = 1) (k : Rn G d rc rs M (pc + 1) L (v :: u :: v :: u :: S) sh h Q) : Rn G d rc rs M pc L (v :: u :: S) sh h Q := by
  intro p e R s m args below meth c H locs cells slots ls Qc C h1 h2 hl hS hP hQ
  exact lv_dup2_11 C.1 C.2.1 hd ((tr_cat G v).trans hc) ((tr_cat G u).trans hc2) (k p e R s m args below meth c H locs cells slots ls Qc C h1 h2 hl hS hP hQ)
theorem rn_if_eq {G : GT} {d rc rs : Nat} {M : MR} {pc : Nat} {L : List (Nat × MV)} {S : List MV} {sh : List Sh} {h : Hp} {Q : Option MV → List Sh → Hp → Prop} {x : Int32} {off : Int} {tgt : Nat} (hd : decode M.2.1 pc = .ok (.ifCond .eq off, 3)) (ht : (pc : Int) + off = (tgt : Int)) (kt : x = 0 → Rn G d rc rs M tgt L S sh h Q) (kf : ¬ x = 0 → Rn G d rc rs M (pc + 3) L S sh h Q) : Rn G d rc rs M pc L (.inl x :: S) sh h Q := by
  intro p e R s m args below meth c H locs cells slots ls Qc C h1 h2 hl hS hP hQ
  exact lv_if_eq C.1 C.2.1 hd ht (fun z => kt z p e R s m args below meth c H locs cells slots ls Qc C h1 h2 hl hS hP hQ) (fun z => kf z p e R s m args below meth c H locs cells slots ls Qc C h1 h2 hl hS hP hQ)
theorem rn_icmp_eq {G : GT} {d rc rs : Nat} {M : MR} {pc : Nat} {L : List (Nat × MV)} {S : List MV} {sh : List Sh} {h : Hp} {Q : Option MV → List Sh → Hp → Prop} {x y : Int32} {off : Int} {tgt : Nat} (hd : decode M.2.1 pc = .ok (.if_icmp .eq off, 3)) (ht : (pc : Int) + off = (tgt : Int)) (kt : x = y → Rn G d rc rs M tgt L S sh h Q) (kf : ¬ x = y → Rn G d rc rs M (pc + 3) L S sh h Q) : Rn G d rc rs M pc L (.inl y :: .inl x :: S) sh h Q := by
  intro p e R s m args below meth c H locs cells slots ls Qc C h1 h2 hl hS hP hQ
  exact lv_icmp_eq C.1 C.2.1 hd ht (fun z => kt z p e R s m args below meth c H locs cells slots ls Qc C h1 h2 hl hS hP hQ) (fun z => kf z p e R s m args below meth c H locs cells slots ls Qc C h1 h2 hl hS hP hQ)
theorem rn_if_ne {G : GT} {d rc rs : Nat} {M : MR} {pc : Nat} {L : List (Nat × MV)} {S : List MV} {sh : List Sh} {h : Hp} {Q : Option MV → List Sh → Hp → Prop} {x : Int32} {off : Int} {tgt : Nat} (hd : decode M.2.1 pc = .ok (.ifCond .ne off, 3)) (ht : (pc : Int) + off = (tgt : Int)) (kt : ¬ x = 0 → Rn G d rc rs M tgt L S sh h Q) (kf : x = 0 → Rn G d rc rs M (pc + 3) L S sh h Q) : Rn G d rc rs M pc L (.inl x :: S) sh h Q := by
  intro p e R s m args below meth c H locs cells slots ls Qc C h1 h2 hl hS hP hQ
  exact lv_if_ne C.1 C.2.1 hd ht (fun z => kt z p e R s m args below meth c H locs cells slots ls Qc C h1 h2 hl hS hP hQ) (fun z => kf z p e R s m args below meth c H locs cells slots ls Qc C h1 h2 hl hS hP hQ)
theorem rn_icmp_ne {G : GT} {d rc rs : Nat} {M : MR} {pc : Nat} {L : List (Nat × MV)} {S : List MV} {sh : List Sh} {h : Hp} {Q : Option MV → List Sh → Hp → Prop} {x y : Int32} {off : Int} {tgt : Nat} (hd : decode M.2.1 pc = .ok (.if_icmp .ne off, 3)) (ht : (pc : Int) + off = (tgt : Int)) (kt : ¬ x = y → Rn G d rc rs M tgt L S sh h Q) (kf : x = y → Rn G d rc rs M (pc + 3) L S sh h Q) : Rn G d rc rs M pc L (.inl y :: .inl x :: S) sh h Q := by
  intro p e R s m args below meth c H locs cells slots ls Qc C h1 h2 hl hS hP hQ
  exact lv_icmp_ne C.1 C.2.1 hd ht (fun z => kt z p e R s m args below meth c H locs cells slots ls Qc C h1 h2 hl hS hP hQ) (fun z => kf z p e R s m args below meth c H locs cells slots ls Qc C h1 h2 hl hS hP hQ)
theorem rn_if_lt {G : GT} {d rc rs : Nat} {M : MR} {pc : Nat} {L : List (Nat × MV)} {S : List MV} {sh : List Sh} {h : Hp} {Q : Option MV → List Sh → Hp → Prop} {x : Int32} {off : Int} {tgt : Nat} (hd : decode M.2.1 pc = .ok (.ifCond .lt off, 3)) (ht : (pc : Int) + off = (tgt : Int)) (kt : x < 0 → Rn G d rc rs M tgt L S sh h Q) (kf : ¬ x < 0 → Rn G d rc rs M (pc + 3) L S sh h Q) : Rn G d rc rs M pc L (.inl x :: S) sh h Q := by
  intro p e R s m args below meth c H locs cells slots ls Qc C h1 h2 hl hS hP hQ
  exact lv_if_lt C.1 C.2.1 hd ht (fun z => kt z p e R s m args below meth c H locs cells slots ls Qc C h1 h2 hl hS hP hQ) (fun z => kf z p e R s m args below meth c H locs cells slots ls Qc C h1 h2 hl hS hP hQ)
theorem rn_icmp_lt {G : GT} {d rc rs : Nat} {M : MR} {pc : Nat} {L : List (Nat × MV)} {S : List MV} {sh : List Sh} {h : Hp} {Q : Option MV → List Sh → Hp → Prop} {x y : Int32} {off : Int} {tgt : Nat} (hd : decode M.2.1 pc = .ok (.if_icmp .lt off, 3)) (ht : (pc : Int) + off = (tgt : Int)) (kt : x < y → Rn G d rc rs M tgt L S sh h Q) (kf : ¬ x < y → Rn G d rc rs M (pc + 3) L S sh h Q) : Rn G d rc rs M pc L (.inl y :: .inl x :: S) sh h Q := by
  intro p e R s m args below meth c H locs cells slots ls Qc C h1 h2 hl hS hP hQ
  exact lv_icmp_lt C.1 C.2.1 hd ht (fun z => kt z p e R s m args below meth c H locs cells slots ls Qc C h1 h2 hl hS hP hQ) (fun z => kf z p e R s m args below meth c H locs cells slots ls Qc C h1 h2 hl hS hP hQ)
theorem rn_if_ge {G : GT} {d rc rs : Nat} {M : MR} {pc : Nat} {L : List (Nat × MV)} {S : List MV} {sh : List Sh} {h : Hp} {Q : Option MV → List Sh → Hp → Prop} {x : Int32} {off : Int} {tgt : Nat} (hd : decode M.2.1 pc = .ok (.ifCond .ge off, 3)) (ht : (pc : Int) + off = (tgt : Int)) (kt : 0 ≤ x → Rn G d rc rs M tgt L S sh h Q) (kf : ¬ 0 ≤ x → Rn G d rc rs M (pc + 3) L S sh h Q) : Rn G d rc rs M pc L (.inl x :: S) sh h Q := by
  intro p e R s m args below meth c H locs cells slots ls Qc C h1 h2 hl hS hP hQ
  exact lv_if_ge C.1 C.2.1 hd ht (fun z => kt z p e R s m args below meth c H locs cells slots ls Qc C h1 h2 hl hS hP hQ) (fun z => kf z p e R s m args below meth c H locs cells slots ls Qc C h1 h2 hl hS hP hQ)
theorem rn_icmp_ge {G : GT} {d rc rs : Nat} {M : MR} {pc : Nat} {L : List (Nat × MV)} {S : List MV} {sh : List Sh} {h : Hp} {Q : Option MV → List Sh → Hp → Prop} {x y : Int32} {off : Int} {tgt : Nat} (hd : decode M.2.1 pc = .ok (.if_icmp .ge off, 3)) (ht : (pc : Int) + off = (tgt : Int)) (kt : y ≤ x → Rn G d rc rs M tgt L S sh h Q) (kf : ¬ y ≤ x → Rn G d rc rs M (pc + 3) L S sh h Q) : Rn G d rc rs M pc L (.inl y :: .inl x :: S) sh h Q := by
  intro p e R s m args below meth c H locs cells slots ls Qc C h1 h2 hl hS hP hQ
  exact lv_icmp_ge C.1 C.2.1 hd ht (fun z => kt z p e R s m args below meth c H locs cells slots ls Qc C h1 h2 hl hS hP hQ) (fun z => kf z p e R s m args below meth c H locs cells slots ls Qc C h1 h2 hl hS hP hQ)
theorem rn_if_gt {G : GT} {d rc rs : Nat} {M : MR} {pc : Nat} {L : List (Nat × MV)} {S : List MV} {sh : List Sh} {h : Hp} {Q : Option MV → List Sh → Hp → Prop} {x : Int32} {off : Int} {tgt : Nat} (hd : decode M.2.1 pc = .ok (.ifCond .gt off, 3)) (ht : (pc : Int) + off = (tgt : Int)) (kt : 0 < x → Rn G d rc rs M tgt L S sh h Q) (kf : ¬ 0 < x → Rn G d rc rs M (pc + 3) L S sh h Q) : Rn G d rc rs M pc L (.inl x :: S) sh h Q := by
  intro p e R s m args below meth c H locs cells slots ls Qc C h1 h2 hl hS hP hQ
  exact lv_if_gt C.1 C.2.1 hd ht (fun z => kt z p e R s m args below meth c H locs cells slots ls Qc C h1 h2 hl hS hP hQ) (fun z => kf z p e R s m args below meth c H locs cells slots ls Qc C h1 h2 hl hS hP hQ)
theorem rn_icmp_gt {G : GT} {d rc rs : Nat} {M : MR} {pc : Nat} {L : List (Nat × MV)} {S : List MV} {sh : List Sh} {h : Hp} {Q : Option MV → List Sh → Hp → Prop} {x y : Int32} {off : Int} {tgt : Nat} (hd : decode M.2.1 pc = .ok (.if_icmp .gt off, 3)) (ht : (pc : Int) + off = (tgt : Int)) (kt : y < x → Rn G d rc rs M tgt L S sh h Q) (kf : ¬ y < x → Rn G d rc rs M (pc + 3) L S sh h Q) : Rn G d rc rs M pc L (.inl y :: .inl x :: S) sh h Q := by
  intro p e R s m args below meth c H locs cells slots ls Qc C h1 h2 hl hS hP hQ
  exact lv_icmp_gt C.1 C.2.1 hd ht (fun z => kt z p e R s m args below meth c H locs cells slots ls Qc C h1 h2 hl hS hP hQ) (fun z => kf z p e R s m args below meth c H locs cells slots ls Qc C h1 h2 hl hS hP hQ)
theorem rn_if_le {G : GT} {d rc rs : Nat} {M : MR} {pc : Nat} {L : List (Nat × MV)} {S : List MV} {sh : List Sh} {h : Hp} {Q : Option MV → List Sh → Hp → Prop} {x : Int32} {off : Int} {tgt : Nat} (hd : decode M.2.1 pc = .ok (.ifCond .le off, 3)) (ht : (pc : Int) + off = (tgt : Int)) (kt : x ≤ 0 → Rn G d rc rs M tgt L S sh h Q) (kf : ¬ x ≤ 0 → Rn G d rc rs M (pc + 3) L S sh h Q) : Rn G d rc rs M pc L (.inl x :: S) sh h Q := by
  intro p e R s m args below meth c H locs cells slots ls Qc C h1 h2 hl hS hP hQ
  exact lv_if_le C.1 C.2.1 hd ht (fun z => kt z p e R s m args below meth c H locs cells slots ls Qc C h1 h2 hl hS hP hQ) (fun z => kf z p e R s m args below meth c H locs cells slots ls Qc C h1 h2 hl hS hP hQ)
theorem rn_icmp_le {G : GT} {d rc rs : Nat} {M : MR} {pc : Nat} {L : List (Nat × MV)} {S : List MV} {sh : List Sh} {h : Hp} {Q : Option MV → List Sh → Hp → Prop} {x y : Int32} {off : Int} {tgt : Nat} (hd : decode M.2.1 pc = .ok (.if_icmp .le off, 3)) (ht : (pc : Int) + off = (tgt : Int)) (kt : x ≤ y → Rn G d rc rs M tgt L S sh h Q) (kf : ¬ x ≤ y → Rn G d rc rs M (pc + 3) L S sh h Q) : Rn G d rc rs M pc L (.inl y :: .inl x :: S) sh h Q := by
  intro p e R s m args below meth c H locs cells slots ls Qc C h1 h2 hl hS hP hQ
  exact lv_icmp_le C.1 C.2.1 hd ht (fun z => kt z p e R s m args below meth c H locs cells slots ls Qc C h1 h2 hl hS hP hQ) (fun z => kf z p e R s m args below meth c H locs cells slots ls Qc C h1 h2 hl hS hP hQ)
theorem rn_goto {G : GT} {d rc rs : Nat} {M : MR} {pc : Nat} {L : List (Nat × MV)} {S : List MV} {sh : List Sh} {h : Hp} {Q : Option MV → List Sh → Hp → Prop} {off : Int} {tgt : Nat} (hd : decode M.2.1 pc = .ok (.goto off, 3)) (ht : (pc : Int) + off = (tgt : Int)) (k : Rn G d rc rs M tgt L S sh h Q) : Rn G d rc rs M pc L S sh h Q := by
  intro p e R s m args below meth c H locs cells slots ls Qc C h1 h2 hl hS hP hQ
  exact lv_goto C.1 C.2.1 hd ht (k p e R s m args below meth c H locs cells slots ls Qc C h1 h2 hl hS hP hQ)
theorem rn_ifnull {G : GT} {d rc rs : Nat} {M : MR} {pc : Nat} {L : List (Nat × MV)} {S : List MV} {sh : List Sh} {h : Hp} {Q : Option MV → List Sh → Hp → Prop} {x : Nat} {off : Int} (hd : decode M.2.1 pc = .ok (.ifnull off, 3)) (k : Rn G d rc rs M (pc + 3) L S sh h Q) : Rn G d rc rs M pc L (.inr (.inr (some x)) :: S) sh h Q := by
  intro p e R s m args below meth c H locs cells slots ls Qc C h1 h2 hl hS hP hQ
  exact lv_ifnull C.1 C.2.1 hd (k p e R s m args below meth c H locs cells slots ls Qc C h1 h2 hl hS hP hQ)
theorem rn_tsw {G : GT} {d rc rs : Nat} {M : MR} {pc : Nat} {L : List (Nat × MV)} {S : List MV} {sh : List Sh} {h : Hp} {Q : Option MV → List Sh → Hp → Prop} {dflt lo hi : Int} {offs : Array Int} {len : Nat} {x : Int32} {td : Nat} (tg : List Nat) (hd : decode M.2.1 pc = .ok (.tableswitch dflt lo hi offs, len)) (hn : lo + tg.length = hi + 1) (ht : (List.range tg.length).all (fun i => decide (offs[i]? = some ((tg.getD i 0 : Int) - pc))) = true) (htd : (pc : Int) + dflt = td)
    (kin : ∀ i : Nat, i < tg.length → x.toInt = lo + i → Rn G d rc rs M (tg.getD i 0) L S sh h Q) (kout : x.toInt < lo ∨ hi < x.toInt → Rn G d rc rs M td L S sh h Q) : Rn G d rc rs M pc L (.inl x :: S) sh h Q := by
  intro p e R s m args below meth c H locs cells slots ls Qc C h1 h2 hl hS hP hQ
  by_cases hx : x.toInt < lo ∨ hi < x.toInt
  · exact lv_tableOut C.1 C.2.1 hd hx htd (kout hx p e R s m args below meth c H locs cells slots ls Qc C h1 h2 hl hS hP hQ)
  · have hi1 : (x.toInt - lo).toNat < tg.length := by omega
    have e1 := of_decide_eq_true (List.all_eq_true.mp ht _ (List.mem_range.mpr hi1))
    exact lv_tableIn C.1 C.2.1 hd (by omega) (by omega) e1 (by omega) (kin _ hi1 (by omega) p e R s m args below meth c H locs cells slots ls Qc C h1 h2 hl hS hP hQ)
theorem rn_lsw {G : GT} {d rc rs : Nat} {M : MR} {pc : Nat} {L : List (Nat × MV)} {S : List MV} {sh : List Sh} {h : Hp} {Q : Option MV → List Sh → Hp → Prop} {dflt : Int} {ps : Array (Int × Int)} {len : Nat} {x : Int32} {off : Int} {tgt : Nat} (hd : decode M.2.1 pc = .ok (.lookupswitch dflt ps, len)) (hp : (ps.toList.zip (ps.toList.drop 1)).all (fun (a, next) => a.1 < next.1) = true) (ho : Op.lookupswitch.offset ps.toList dflt x.toInt = off) (ht : (pc : Int) + off = (tgt : Int)) (k : Rn G d rc rs M tgt L S sh h Q) : Rn G d rc rs M pc L (.inl x :: S) sh h Q := by
  intro p e R s m args below meth c H locs cells slots ls Qc C h1 h2 hl hS hP hQ
  exact lv_lookup C.1 C.2.1 hd hp ho ht (k p e R s m args below meth c H locs cells slots ls Qc C h1 h2 hl hS hP hQ)
