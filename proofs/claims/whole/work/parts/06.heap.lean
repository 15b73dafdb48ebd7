/-! ROWS over the heap, calls, ends -/
set_option maxRecDepth 100000 in
theorem goodIn_all : GoodIn lw_g lw_g := fun w hw => ⟨hw, good_of_word (List.mem_filter.mp hw).2⟩
/-- a field of an object of class ci, as the pool entry idx of the class own names it -/
def FLk (own : String) (idx ci k : Nat) (C : String) (T : u_T) (N : Nat) (ty : Nat → FieldType) : Prop := vwCl[ci]? = some (C, T, N) ∧ (∀ w ∈ u_ws C T N, w ∈ lw_g) ∧ k < N ∧ (fc ci).length = N ∧ (Cond.fieldLink own idx (T k).1 (T k).2.1 (T k).2.2.1) ∈ lw_g ∧ (∀ j, j < N → parseFieldDescriptor (T j).2.2.1 = some (ty j)) ∧ (∀ a, a < N → ∀ b, b < N → a ≠ b → (T a).2.1 ≠ (T b).2.1)
theorem pt_put {p : Program} {l : Launch} {e : Env} {R : Room} {s : State} {m : MethodId} {args : Array Value} {below : List Frame} {meth : Method} {c : Code} {H : Heap} {locs : List Loc} {cells slots : Nat} {Q : State → Prop} {cc : ByteArray} {pc : Nat} {ls : Array Slot} {rest : List Value} {D : va_G} {a : Nat} {tys : List (ClassId × FieldType)} {fs : List Value} {own : String} {idx ci k : Nat} {C : String} {T : u_T} {N : Nat} {ty : Nat → FieldType} (hexec : p.tables.exec = Jvm.exec) (hb : c.code = cc) (hts : ∀ w ∈ lw_g, w.before args s = true) (hown : s.vm.findClass own = some m.cls) (hK : va_K D vwCl tys s) (he : va_at D vwCl (a, .inr (ci, fs)) H) (F : FLk own idx ci k C T N ty) {v : Value}
    (hfin : (T k).2.2.2 = false ∨ ((T k).2.2.2 = true ∧ meth.name = "<init>" ∧ (T k).1 = own)) (hn : narrow (ty k) v = v) (hfit : fits (ty k) v = true) (hl : k < fs.length) (hdg : decode cc pc = .ok (.putfield idx, 3))
    (kk : ∀ (H1 : Heap) (j : Nat), va_at D vwCl (a, .inr (ci, fs.set k v)) H1 → H1.size = H.size → (∀ q, q ≠ a → H1[q]? = H[q]?) → W p l e R s m args below meth c H1 (locs ++ [⟨a, j⟩]) cells slots Q (F0 m (pc + 3) ls rest)) : W p l e R s m args below meth c H locs cells slots Q (F0 m pc ls (v :: .ref a :: rest)) := by
  obtain ⟨hc, hin, hk, -, hlink, hty, hnm⟩ := F
  have hap := va_apart (own := own) hts hin ty hty hnm hK hc
  obtain ⟨r, g1, cell, q1, q2, q3, q4⟩ := he
  have hr : r = (C, T, N) := Option.some.inj (g1.symm.trans hc)
  subst hr
  obtain ⟨hSl, hfc, kC, hkC, hkind⟩ := hK.1 ci _ hc
  obtain ⟨cf, kf, fi, f, hi, hsl⟩ := hSl k hk
  have hlay := hts _ (hin _ (u_in_lay hk))
  unfold u_lay at hlay
  have hst := (u_facts hfc hkC (u_lays hts hin hk) hi).1
  have fin : ∀ H' : Heap, H'[a]? = some (cell.setSlot f.slot v) → H'.size = H.size → (∀ q, q ≠ a → H'[q]? = H[q]?) → W p l e R s m args below meth c H' (locs ++ [⟨a, f.slot⟩]) cells slots Q (F0 m (pc + 3) ls rest) := by
    intro H' e1 e2 e3
    rw [hsl] at e1
    refine kk H' f.slot ⟨_, hc, t_OB.to (V := updV (vp_V fs) k v) ⟨_, e1, q2, q3, t_set q4 hap hk v⟩ (fun j _ => vp_updV_set hl v j)⟩ e2 e3
  rcases hfin with hfin | ⟨hfin, hin2, hdecl⟩
  · rw [if_neg (by rw [hfin]; decide)] at hlay
    have h6 := u_store hfc hkC hkind hlay hi (hty k hk) hn hfit
    exact W.putK hexec hb (f := f) ⟨hown, hts _ hlink, ⟨_, _, _, hi⟩, hst⟩ (by rw [q2]; exact h6) q1 q3 (by rw [hsl]; exact k2_hasslot (q4 k hk)) rfl rfl hdg fin
  · rw [if_pos hfin] at hlay
    have hcf : m.cls = cf := by
      obtain ⟨_, _, c', _, _, _, -, -, hf', -, -, -, hown2, -⟩ := Cond.laysFinal_spec hlay
      have e1 : c' = cf := by have := hi.symm.trans hf'; simp at this; exact this.1.symm
      rw [hdecl] at hown2
      rw [← e1]; exact Option.some.inj (hown.symm.trans hown2)
    have h6 := u_fits hfc hkC hkind (Or.inr hlay) hi (hty k hk) hn hfit
    exact W.putFinK hexec hb hown (hts _ hlink) hi hst hcf hin2 (by rw [q2]; exact h6) q1 q3 (by rw [hsl]; exact k2_hasslot (q4 k hk)) rfl rfl hdg fin
theorem one_P {D : va_G} {cl : List vw_C} {q : Nat × va_E} {H : Heap} (hh : va_at D cl q H) : va_P D cl [q] H := by
  intro k x hx
  have hz : k < 1 := (List.getElem?_eq_some_iff.mp hx).1
  rw [show k = 0 by omega] at hx
  cases hx
  exact hh
theorem adr_lo {G : GT} {a : Nat} (ha : a < FB) : adr G a = gb G + a := by unfold adr; rw [if_pos ha]
theorem adr_hi {G : GT} (j : Nat) : adr G (FB + j) = ga G j := by
  unfold adr
  rw [if_neg (by omega)]
  rw [Nat.add_sub_cancel_left]
theorem Pw.lt {G : GT} {sh : List Sh} {h : Hp} {H : Heap} {a : Nat} {e : Sh} (P : Pw G sh h H) (he : sh[a]? = some e) : a < FB := Nat.lt_trans (List.getElem?_eq_some_iff.mp he).1 P.2.1
theorem rn_get {G : GT} {d rc rs : Nat} {M : MR} {pc : Nat} {L : List (Nat × MV)} {S : List MV} {sh : List Sh} {h : Hp} {Q : Option MV → List Sh → Hp → Prop} {a idx ci k t : Nat} {CC : String} {T : u_T} {N : Nat} {ty : Nat → FieldType} {v : MV} (hd : decode M.2.1 pc = .ok (.getfield idx, 3)) (F : FLk M.1.cls idx ci k CC T N ty) (hs : sh[a]? = some (.inl ci)) (ht : (fc ci)[k]? = some t) (hv : fvM h a k t = v)
    (kk : Rn G d rc rs M (pc + 3) L (v :: S) sh h Q) : Rn G d rc rs M pc L (.inr (.inr (some a)) :: S) sh h Q := by
  intro p e R s m args below meth c H locs cells slots ls Qc C h1 h2 hl hS hP hQ
  have hE := hP.2.2 a _ hs
  have e0 : (S.map (tr G)) = (S.map (tr G)) := rfl
  show W _ _ _ _ _ _ _ _ _ _ _ _ _ _ _ (F0 m pc ls (.ref (adr G a) :: S.map (tr G)))
  rw [adr_lo (hP.lt hs)]
  exact va_get (D := gD G) (cl := vwCl) (v := tr G v) (C := CC) (T := T) (N := N) C.1 C.2.1 C.2.2.2.2.1 F.2.1 C.2.2.2.1 C.2.2.2.2.2.2.2.2.2.2.1 (one_P hE) 0 rfl F.1 k F.2.2.1 (C.2.2.2.2.1 _ F.2.2.2.2.1) (fun _ z => z) (by rw [← hv]; exact fvs_at ht) hd (kk p e R s m args below meth c H locs cells slots ls Qc C h1 h2 hl hS hP hQ)
theorem rn_putI {G : GT} {d rc rs : Nat} {M : MR} {pc : Nat} {L : List (Nat × MV)} {S : List MV} {sh : List Sh} {h : Hp} {Q : Option MV → List Sh → Hp → Prop} {a idx ci k : Nat} {CC : String} {T : u_T} {N : Nat} {ty : Nat → FieldType} {x : Int32} (hd : decode M.2.1 pc = .ok (.putfield idx, 3)) (F : FLk M.1.cls idx ci k CC T N ty) (hs : sh[a]? = some (.inl ci)) (ht : (fc ci)[k]? = some 0) (hfin : (T k).2.2.2 = false ∨ ((T k).2.2.2 = true ∧ M.1.name = "<init>" ∧ (T k).1 = M.1.cls)) (hn : narrow (ty k) (tr G (.inl x)) = tr G (.inl x)) (hf : fits (ty k) (tr G (.inl x)) = true)
    (kk : Rn G d rc rs M (pc + 3) L S sh (sI h a k x) Q) : Rn G d rc rs M pc L (.inl x :: .inr (.inr (some a)) :: S) sh h Q := by
  intro p e R s m args below meth c H locs cells slots ls Qc C h1 h2 hl hS hP hQ
  have hE := hP.2.2 a _ hs
  show W _ _ _ _ _ _ _ _ _ _ _ _ _ _ _ (F0 m pc ls (tr G (.inl x) :: .ref (adr G a) :: S.map (tr G)))
  rw [adr_lo (hP.lt hs)]
  refine pt_put (D := gD G) C.1 C.2.1 C.2.2.2.2.1 C.2.2.2.1 C.2.2.2.2.2.2.2.2.2.2.1 hE F (by rw [C.2.2.2.2.2.2.2.1]; exact hfin) hn hf (by rw [fvs_len, F.2.2.2.1]; exact F.2.2.1) hd (fun H1 j e1 z oq => ?_)
  refine kk p e R s m args below meth c H1 _ cells slots ls Qc C h1 h2 hl (hS.put z oq (Nat.le_add_right _ _)) (hP.set hs ?_ z oq (fun b hb => sI_off hb)) hQ
  show va_at (gD G) vwCl (gb G + a, .inr (ci, fvs G (sI h a k x) a ci)) H1
  rw [fvs_set ht (v := .inl x) (h := h) (by simp [fvM, sI]) (fun j u hj => by rcases u with _ | _ | u <;> simp [fvM, sI, hj])]
  exact e1
theorem rn_putL {G : GT} {d rc rs : Nat} {M : MR} {pc : Nat} {L : List (Nat × MV)} {S : List MV} {sh : List Sh} {h : Hp} {Q : Option MV → List Sh → Hp → Prop} {a idx ci k : Nat} {CC : String} {T : u_T} {N : Nat} {ty : Nat → FieldType} {x : Int64} (hd : decode M.2.1 pc = .ok (.putfield idx, 3)) (F : FLk M.1.cls idx ci k CC T N ty) (hs : sh[a]? = some (.inl ci)) (ht : (fc ci)[k]? = some 1) (hfin : (T k).2.2.2 = false ∨ ((T k).2.2.2 = true ∧ M.1.name = "<init>" ∧ (T k).1 = M.1.cls)) (hn : narrow (ty k) (tr G (.inr (.inl x))) = tr G (.inr (.inl x))) (hf : fits (ty k) (tr G (.inr (.inl x))) = true)
    (kk : Rn G d rc rs M (pc + 3) L S sh (sL h a k x) Q) : Rn G d rc rs M pc L (.inr (.inl x) :: .inr (.inr (some a)) :: S) sh h Q := by
  intro p e R s m args below meth c H locs cells slots ls Qc C h1 h2 hl hS hP hQ
  have hE := hP.2.2 a _ hs
  show W _ _ _ _ _ _ _ _ _ _ _ _ _ _ _ (F0 m pc ls (tr G (.inr (.inl x)) :: .ref (adr G a) :: S.map (tr G)))
  rw [adr_lo (hP.lt hs)]
  refine pt_put (D := gD G) C.1 C.2.1 C.2.2.2.2.1 C.2.2.2.1 C.2.2.2.2.2.2.2.2.2.2.1 hE F (by rw [C.2.2.2.2.2.2.2.1]; exact hfin) hn hf (by rw [fvs_len, F.2.2.2.1]; exact F.2.2.1) hd (fun H1 j e1 z oq => ?_)
  refine kk p e R s m args below meth c H1 _ cells slots ls Qc C h1 h2 hl (hS.put z oq (Nat.le_add_right _ _)) (hP.set hs ?_ z oq (fun b hb => sL_off hb)) hQ
  show va_at (gD G) vwCl (gb G + a, .inr (ci, fvs G (sL h a k x) a ci)) H1
  rw [fvs_set ht (v := .inr (.inl x)) (h := h) (by simp [fvM, sL]) (fun j u hj => by rcases u with _ | _ | u <;> simp [fvM, sL, hj])]
  exact e1
theorem rn_putR {G : GT} {d rc rs : Nat} {M : MR} {pc : Nat} {L : List (Nat × MV)} {S : List MV} {sh : List Sh} {h : Hp} {Q : Option MV → List Sh → Hp → Prop} {a idx ci k : Nat} {CC : String} {T : u_T} {N : Nat} {ty : Nat → FieldType} {x : Option Nat} (hd : decode M.2.1 pc = .ok (.putfield idx, 3)) (F : FLk M.1.cls idx ci k CC T N ty) (hs : sh[a]? = some (.inl ci)) (ht : (fc ci)[k]? = some 2) (hfin : (T k).2.2.2 = false ∨ ((T k).2.2.2 = true ∧ M.1.name = "<init>" ∧ (T k).1 = M.1.cls)) (hn : narrow (ty k) (tr G (.inr (.inr x))) = tr G (.inr (.inr x))) (hf : fits (ty k) (tr G (.inr (.inr x))) = true)
    (kk : Rn G d rc rs M (pc + 3) L S sh (sR h a k x) Q) : Rn G d rc rs M pc L (.inr (.inr x) :: .inr (.inr (some a)) :: S) sh h Q := by
  intro p e R s m args below meth c H locs cells slots ls Qc C h1 h2 hl hS hP hQ
  have hE := hP.2.2 a _ hs
  show W _ _ _ _ _ _ _ _ _ _ _ _ _ _ _ (F0 m pc ls (tr G (.inr (.inr x)) :: .ref (adr G a) :: S.map (tr G)))
  rw [adr_lo (hP.lt hs)]
  refine pt_put (D := gD G) C.1 C.2.1 C.2.2.2.2.1 C.2.2.2.1 C.2.2.2.2.2.2.2.2.2.2.1 hE F (by rw [C.2.2.2.2.2.2.2.1]; exact hfin) hn hf (by rw [fvs_len, F.2.2.2.1]; exact F.2.2.1) hd (fun H1 j e1 z oq => ?_)
  refine kk p e R s m args below meth c H1 _ cells slots ls Qc C h1 h2 hl (hS.put z oq (Nat.le_add_right _ _)) (hP.set hs ?_ z oq (fun b hb => sR_off hb)) hQ
  show va_at (gD G) vwCl (gb G + a, .inr (ci, fvs G (sR h a k x) a ci)) H1
  rw [fvs_set ht (v := .inr (.inr x)) (h := h) (by simp [fvM, sR]) (fun j u hj => by rcases u with _ | _ | u <;> simp [fvM, sR, hj])]
  exact e1
theorem rn_iald {G : GT} {d rc rs : Nat} {M : MR} {pc : Nat} {L : List (Nat × MV)} {S : List MV} {sh : List Sh} {h : Hp} {Q : Option MV → List Sh → Hp → Prop} {a n k : Nat} {i : Int32} (hd : decode M.2.1 pc = .ok (.iaload, 1)) (hs : sh[a]? = some (.inr (0, n))) (hk : i.toNatClampNeg = k) (hin : vp_in i n) (kk : Rn G d rc rs M (pc + 1) L (.inl (h.1 a k) :: S) sh h Q) : Rn G d rc rs M pc L (.inl i :: .inr (.inr (some a)) :: S) sh h Q := by
  intro p e R s m args below meth c H locs cells slots ls Qc C h1 h2 hl hS hP hQ
  have hE := hP.2.2 a _ hs
  show W _ _ _ _ _ _ _ _ _ _ _ _ _ _ _ (F0 m pc ls (.int i :: .ref (adr G a) :: S.map (tr G)))
  rw [adr_lo (hP.lt hs)]
  subst hk
  exact va_iald (D := gD G) (cl := vwCl) C.1 C.2.1 C.2.2.2.2.2.2.2.2.2.2.1 (one_P hE) 0 0 rfl rfl hin hd (kk p e R s m args below meth c H locs cells slots ls Qc C h1 h2 hl hS hP hQ)
theorem rn_lald {G : GT} {d rc rs : Nat} {M : MR} {pc : Nat} {L : List (Nat × MV)} {S : List MV} {sh : List Sh} {h : Hp} {Q : Option MV → List Sh → Hp → Prop} {a n k : Nat} {i : Int32} (hd : decode M.2.1 pc = .ok (.laload, 1)) (hs : sh[a]? = some (.inr (1, n))) (hk : i.toNatClampNeg = k) (hin : vp_in i n) (kk : Rn G d rc rs M (pc + 1) L (.inr (.inl (h.2.1 a k)) :: S) sh h Q) : Rn G d rc rs M pc L (.inl i :: .inr (.inr (some a)) :: S) sh h Q := by
  intro p e R s m args below meth c H locs cells slots ls Qc C h1 h2 hl hS hP hQ
  have hE := hP.2.2 a _ hs
  show W _ _ _ _ _ _ _ _ _ _ _ _ _ _ _ (F0 m pc ls (.int i :: .ref (adr G a) :: S.map (tr G)))
  rw [adr_lo (hP.lt hs)]
  subst hk
  exact va_lald (D := gD G) (cl := vwCl) C.1 C.2.1 C.2.2.2.2.2.2.2.2.2.2.1 (one_P hE) 0 1 rfl rfl hin hd (kk p e R s m args below meth c H locs cells slots ls Qc C h1 h2 hl hS hP hQ)
theorem rn_aald2 {G : GT} {d rc rs : Nat} {M : MR} {pc : Nat} {L : List (Nat × MV)} {S : List MV} {sh : List Sh} {h : Hp} {Q : Option MV → List Sh → Hp → Prop} {a n k : Nat} {i : Int32} {v : Option Nat} (hd : decode M.2.1 pc = .ok (.aaload, 1)) (hs : sh[a]? = some (.inr (2, n))) (hk : i.toNatClampNeg = k) (hin : vp_in i n) (hv : h.2.2 a k = v) (kk : Rn G d rc rs M (pc + 1) L (.inr (.inr v) :: S) sh h Q) : Rn G d rc rs M pc L (.inl i :: .inr (.inr (some a)) :: S) sh h Q := by
  intro p e R s m args below meth c H locs cells slots ls Qc C h1 h2 hl hS hP hQ
  have hE := hP.2.2 a _ hs
  show W _ _ _ _ _ _ _ _ _ _ _ _ _ _ _ (F0 m pc ls (.int i :: .ref (adr G a) :: S.map (tr G)))
  rw [adr_lo (hP.lt hs)]
  have hK := C.2.2.2.2.2.2.2.2.2.2.1
  have hlt : i.toNatClampNeg < n := Nat.not_le.mp fun q => hin (Or.inr q)
  subst hk
  subst hv
  exact W.aald (v := va_rf ((h.2.2 a i.toNatClampNeg).map (adr G))) (ty := .object RX2) C.1 C.2.1 hE ((hK.2 2 _ rfl).1 n (fun j => va_rf ((h.2.2 a j).map (adr G)))) rfl (fun q => by cases q) (by show ¬ (i < 0 ∨ (arrV _ _ _).slots.size ≤ _); rw [arrV_size]; exact hin) (by show (arrV _ _ _).slots[_]? = _; rw [arrV_read _ _ hlt]) rfl rfl hd (kk p e R s m args below meth c H locs cells slots ls Qc C h1 h2 hl hS hP hQ)
theorem rn_aald3 {G : GT} {d rc rs : Nat} {M : MR} {pc : Nat} {L : List (Nat × MV)} {S : List MV} {sh : List Sh} {h : Hp} {Q : Option MV → List Sh → Hp → Prop} {a n k : Nat} {i : Int32} {v : Option Nat} (hd : decode M.2.1 pc = .ok (.aaload, 1)) (hs : sh[a]? = some (.inr (3, n))) (hk : i.toNatClampNeg = k) (hin : vp_in i n) (hv : h.2.2 a k = v) (kk : Rn G d rc rs M (pc + 1) L (.inr (.inr v) :: S) sh h Q) : Rn G d rc rs M pc L (.inl i :: .inr (.inr (some a)) :: S) sh h Q := by
  intro p e R s m args below meth c H locs cells slots ls Qc C h1 h2 hl hS hP hQ
  have hE := hP.2.2 a _ hs
  show W _ _ _ _ _ _ _ _ _ _ _ _ _ _ _ (F0 m pc ls (.int i :: .ref (adr G a) :: S.map (tr G)))
  rw [adr_lo (hP.lt hs)]
  have hK := C.2.2.2.2.2.2.2.2.2.2.1
  have hlt : i.toNatClampNeg < n := Nat.not_le.mp fun q => hin (Or.inr q)
  subst hk
  subst hv
  exact W.aald (v := va_rf ((h.2.2 a i.toNatClampNeg).map (adr G))) (ty := .array .int) C.1 C.2.1 hE ((hK.2 3 _ rfl).1 n (fun j => va_rf ((h.2.2 a j).map (adr G)))) rfl (fun q => by cases q) (by show ¬ (i < 0 ∨ (arrV _ _ _).slots.size ≤ _); rw [arrV_size]; exact hin) (by show (arrV _ _ _).slots[_]? = _; rw [arrV_read _ _ hlt]) rfl rfl hd (kk p e R s m args below meth c H locs cells slots ls Qc C h1 h2 hl hS hP hQ)
theorem rn_iast {G : GT} {d rc rs : Nat} {M : MR} {pc : Nat} {L : List (Nat × MV)} {S : List MV} {sh : List Sh} {h : Hp} {Q : Option MV → List Sh → Hp → Prop} {a n k : Nat} {i : Int32} {x : Int32} (hd : decode M.2.1 pc = .ok (.iastore, 1)) (hs : sh[a]? = some (.inr (0, n))) (hk : i.toNatClampNeg = k) (hin : vp_in i n) (kk : Rn G d rc rs M (pc + 1) L S sh (sI h a k x) Q) : Rn G d rc rs M pc L (.inl x :: .inl i :: .inr (.inr (some a)) :: S) sh h Q := by
  intro p e R s m args below meth c H locs cells slots ls Qc C h1 h2 hl hS hP hQ
  have hE := hP.2.2 a _ hs
  show W _ _ _ _ _ _ _ _ _ _ _ _ _ _ _ (F0 m pc ls (.int x :: .int i :: .ref (adr G a) :: S.map (tr G)))
  rw [adr_lo (hP.lt hs)]
  subst hk
  have hK := C.2.2.2.2.2.2.2.2.2.2.1
  refine W.iast C.1 C.2.1 hE ((hK.2 0 _ rfl).1 n _) (fun q => by cases q) (by show ¬ (i < 0 ∨ (arrV _ _ _).slots.size ≤ _); rw [arrV_size]; exact hin) rfl rfl hd fun H1 e1 z oq => ?_
  refine kk p e R s m args below meth c H1 _ cells slots ls Qc C h1 h2 hl (hS.put z oq (Nat.le_add_right _ _)) (hP.set hs ?_ z oq (fun b hb => sI_off hb)) hQ
  show H1[gb G + a]? = some (vp_cell _ _)
  rw [e1]
  show some ((vp_cell _ _).setSlot _ _) = some (vp_cell _ _)
  rw [vp_cell_i, vp_cell_i, arrV_store, sI_row]
  congr 2
  funext q
  by_cases hq : q = i.toNatClampNeg
  · subst hq
    simp [updV, upd]
  · simp [updV, upd, hq]
theorem rn_last {G : GT} {d rc rs : Nat} {M : MR} {pc : Nat} {L : List (Nat × MV)} {S : List MV} {sh : List Sh} {h : Hp} {Q : Option MV → List Sh → Hp → Prop} {a n k : Nat} {i : Int32} {x : Int64} (hd : decode M.2.1 pc = .ok (.lastore, 1)) (hs : sh[a]? = some (.inr (1, n))) (hk : i.toNatClampNeg = k) (hin : vp_in i n) (kk : Rn G d rc rs M (pc + 1) L S sh (sL h a k x) Q) : Rn G d rc rs M pc L (.inr (.inl x) :: .inl i :: .inr (.inr (some a)) :: S) sh h Q := by
  intro p e R s m args below meth c H locs cells slots ls Qc C h1 h2 hl hS hP hQ
  have hE := hP.2.2 a _ hs
  show W _ _ _ _ _ _ _ _ _ _ _ _ _ _ _ (F0 m pc ls (.long x :: .int i :: .ref (adr G a) :: S.map (tr G)))
  rw [adr_lo (hP.lt hs)]
  subst hk
  have hK := C.2.2.2.2.2.2.2.2.2.2.1
  refine W.last C.1 C.2.1 hE ((hK.2 1 _ rfl).1 n _) (fun q => by cases q) (by show ¬ (i < 0 ∨ (arrV _ _ _).slots.size ≤ _); rw [arrV_size]; exact hin) rfl rfl hd fun H1 e1 z oq => ?_
  refine kk p e R s m args below meth c H1 _ cells slots ls Qc C h1 h2 hl (hS.put z oq (Nat.le_add_right _ _)) (hP.set hs ?_ z oq (fun b hb => sL_off hb)) hQ
  show H1[gb G + a]? = some (vp_cell _ _)
  rw [e1]
  show some ((vp_cell _ _).setSlot _ _) = some (vp_cell _ _)
  rw [vp_cell_l, vp_cell_l, arrV_store, sL_row]
  congr 2
  funext q
  by_cases hq : q = i.toNatClampNeg
  · subst hq
    simp [updV, vp_updL]
  · simp [updV, vp_updL, hq]
theorem rn_alen {G : GT} {d rc rs : Nat} {M : MR} {pc : Nat} {L : List (Nat × MV)} {S : List MV} {sh : List Sh} {h : Hp} {Q : Option MV → List Sh → Hp → Prop} {a t n : Nat} {v : Int32} (hd : decode M.2.1 pc = .ok (.arraylength, 1)) (hs : sh[a]? = some (.inr (t, n))) (ht : t < 4) (hv : Int32.ofNat n = v) (kk : Rn G d rc rs M (pc + 1) L (.inl v :: S) sh h Q) : Rn G d rc rs M pc L (.inr (.inr (some a)) :: S) sh h Q := by
  intro p e R s m args below meth c H locs cells slots ls Qc C h1 h2 hl hS hP hQ
  have hE := hP.2.2 a _ hs
  show W _ _ _ _ _ _ _ _ _ _ _ _ _ _ _ (F0 m pc ls (.ref (adr G a) :: S.map (tr G)))
  rw [adr_lo (hP.lt hs)]
  match t, ht, hs, hE with
  | 0, _, hs, hE => exact va_alen (D := gD G) (cl := vwCl) C.1 C.2.1 C.2.2.2.2.2.2.2.2.2.2.1 (one_P hE) 0 0 rfl rfl hv hd (kk p e R s m args below meth c H locs cells slots ls Qc C h1 h2 hl hS hP hQ)
  | 1, _, hs, hE => exact va_alen (D := gD G) (cl := vwCl) C.1 C.2.1 C.2.2.2.2.2.2.2.2.2.2.1 (one_P hE) 0 1 rfl rfl hv hd (kk p e R s m args below meth c H locs cells slots ls Qc C h1 h2 hl hS hP hQ)
  | 2, _, hs, hE => exact va_alen (D := gD G) (cl := vwCl) C.1 C.2.1 C.2.2.2.2.2.2.2.2.2.2.1 (one_P hE) 0 2 rfl rfl hv hd (kk p e R s m args below meth c H locs cells slots ls Qc C h1 h2 hl hS hP hQ)
  | 3, _, hs, hE => exact va_alen (D := gD G) (cl := vwCl) C.1 C.2.1 C.2.2.2.2.2.2.2.2.2.2.1 (one_P hE) 0 3 rfl rfl hv hd (kk p e R s m args below meth c H locs cells slots ls Qc C h1 h2 hl hS hP hQ)
theorem rn_iret {G : GT} {d rc rs : Nat} {M : MR} {pc : Nat} {L : List (Nat × MV)} {sh : List Sh} {h : Hp} {Q : Option MV → List Sh → Hp → Prop} {x : Int32} (hd : decode M.2.1 pc = .ok (.ireturn, 1)) (hr : M.2.2.2 = some .int) (k : Q (some (.inl x)) sh h) : Rn G d rc rs M pc L [.inl x] sh h Q := by
  intro p e R s m args below meth c H locs cells slots ls Qc C h1 h2 hl hS hP hQ
  refine W.widen (k := R.cells) (n := R.slots) (by omega) (by omega) ?_
  exact W.iret (v := x) C.1 C.2.1 (C.2.2.2.2.2.1.trans hr) (fun t ht hW => hQ _ sh h t k (hS.F ht) (by rw [ht]; exact hP)) hS.2.2 hd C.2.2.2.2.2.2.1
theorem rn_lret {G : GT} {d rc rs : Nat} {M : MR} {pc : Nat} {L : List (Nat × MV)} {sh : List Sh} {h : Hp} {Q : Option MV → List Sh → Hp → Prop} {x : Int64} (hd : decode M.2.1 pc = .ok (.lreturn, 1)) (hr : M.2.2.2 = some .long) (k : Q (some (.inr (.inl x))) sh h) : Rn G d rc rs M pc L [.inr (.inl x)] sh h Q := by
  intro p e R s m args below meth c H locs cells slots ls Qc C h1 h2 hl hS hP hQ
  refine W.widen (k := R.cells) (n := R.slots) (by omega) (by omega) ?_
  exact W.lret (v := x) C.1 C.2.1 (C.2.2.2.2.2.1.trans hr) (fun t ht hW => hQ _ sh h t k (hS.F ht) (by rw [ht]; exact hP)) hS.2.2 hd C.2.2.2.2.2.2.1
theorem rn_zret {G : GT} {d rc rs : Nat} {M : MR} {pc : Nat} {L : List (Nat × MV)} {sh : List Sh} {h : Hp} {Q : Option MV → List Sh → Hp → Prop} {x : Int32} {ty : FieldType} (hd : decode M.2.1 pc = .ok (.ireturn, 1)) (hr : M.2.2.2 = some ty) (hn : narrow ty (.int x) = .int x) (k : Q (some (.inl x)) sh h) : Rn G d rc rs M pc L [.inl x] sh h Q := by
  intro p e R s m args below meth c H locs cells slots ls Qc C h1 h2 hl hS hP hQ
  refine W.widen (k := R.cells) (n := R.slots) (by omega) (by omega) ?_
  exact W.zret (v := x) C.1 C.2.1 (C.2.2.2.2.2.1.trans hr) hn (fun t ht hW => hQ _ sh h t k (hS.F ht) (by rw [ht]; exact hP)) hS.2.2 hd C.2.2.2.2.2.2.1
theorem rn_vret {G : GT} {d rc rs : Nat} {M : MR} {pc : Nat} {L : List (Nat × MV)} {sh : List Sh} {h : Hp} {Q : Option MV → List Sh → Hp → Prop} (hd : decode M.2.1 pc = .ok (.return_, 1)) (hr : M.2.2.2 = none) (k : Q none sh h) : Rn G d rc rs M pc L [] sh h Q := by
  intro p e R s m args below meth c H locs cells slots ls Qc C h1 h2 hl hS hP hQ
  refine W.widen (k := R.cells) (n := R.slots) (by omega) (by omega) ?_
  exact W.vret C.1 C.2.1 (C.2.2.2.2.2.1.trans hr) (fun t ht hW => hQ _ sh h t k (hS.F ht) (by rw [ht]; exact hP)) hS.2.2 hd C.2.2.2.2.2.2.1
theorem all_good : GoodIn lw_g lw_g := goodIn_all
def lvA : Nat → List MV → List (Nat × MV)
  | _, [] => []
  | i, v :: vs => (i, v) :: lvA (if catM v = 2 then i + 2 else i + 1) vs
theorem lvA_map (G : GT) : ∀ (vs : List MV) (i : Nat), lv_args i (vs.map (tr G)) = (lvA i vs).map fun q => (q.1, tr G q.2)
  | [], _ => rfl
  | v :: vs, i => by
    simp only [List.map_cons, lv_args, lvA, tr_cat]
    rw [lvA_map G vs]
def lgn (vs : List MV) : Nat := (vs.map catM).sum
theorem Ev.of {G : GT} {d mc ms : Nat} {M : MR} {av : List MV} {sh : List Sh} {h : Hp} {Q : Option MV → List Sh → Hp → Prop} (hy : plainName M.1.cls = true) (hn : ∀ G : GT, (lg_sl (av.map (tr G))).length ≤ M.2.2.1) (k : Rn G d mc ms M 0 (lvA 0 av) [] sh h Q) : Ev G d mc ms M av sh h Q := by
  refine Met.ofW (cc := M.2.1) (maxL := M.2.2.1) (ret := M.2.2.2) (ws' := lw_g) hy rfl ?_
  intro p e s m args below meth c s₁ B hml hv
  obtain ⟨rfl, hP, hK, hF⟩ := hv
  have hts0 := atoms_spec (ws := wsM M) B.pre
  have hl := lv_entry (av.map (tr G)) (hn G)
  rw [lg_entry_eq]
  rw [lvA_map] at hl
  refine k p e _ s m _ below meth c s.heap [] 0 0 _ (QcE G Q) ⟨B.exec, B.bytes, hml, findClass_of_methodNamed B.named, fun w hw => hts0 w (List.mem_cons_of_mem _ hw), B.returns, B.notSynchronized, (name_of_methodNamed B.named B.method).1, Nat.le_refl _, Nat.le_refl _, hK, hF⟩ (by show 0 + mc ≤ mc; omega) (by show 0 + ms ≤ ms; omega) hl va_S.rf hP ?_
  intro v sh' h' t q1 q2 q3
  exact ⟨v, sh', h', rfl, q1, q2, q3⟩
theorem Ev.mono {G : GT} {d mc ms : Nat} {M : MR} {av : List MV} {sh : List Sh} {h : Hp} {Q Q' : Option MV → List Sh → Hp → Prop} (E : Ev G d mc ms M av sh h Q) (hq : ∀ v sh' h', Q v sh' h' → Q' v sh' h') : Ev G d mc ms M av sh h Q' := by
  unfold Ev Met at E ⊢
  refine MetFree.mono E (fun _ _ z => z) (fun _ _ _ _ _ z => z) ?_
  intro a st o t _ z
  exact ⟨by obtain ⟨⟨v, sh', h', q1, q2, q3⟩, -⟩ := z; exact ⟨v, sh', h', q1, hq _ _ _ q2, q3⟩, z.2⟩
theorem PcE_blind {G : GT} {av : List Value} {sh : List Sh} {h : Hp} : FrameBlind (va_Pc av (PcE G sh h)) := by
  intro a U g mk z
  obtain ⟨z1, z2, z3, z4⟩ := z
  refine ⟨z1, z2, va_K.moved (u := U) (U := U.calling g mk a) (Vm.Alike.refl U.vm) z3, FO.moved (u := U) (U := U.calling g mk a) (Vm.Alike.refl U.vm) (State.WarmedH.refl U) z4⟩
theorem PcE_here {G : GT} {sh : List Sh} {h : Hp} {s U : State} {H : Heap} {locs : List Loc} (hK : va_K (gD G) vwCl (tysL G) s) (hF : FO G s s.heap) (hS : va_S (gA G) s.heap H locs) (hP : Pw G sh h H) (hU : U.heap = H) (hW : s.WarmedH U.vm) : PcE G sh h U := by
  refine ⟨by rw [hU]; exact hP, va_K.moved hW.alike hK, ?_⟩
  rw [hU]
  exact FO.kept (FO.moved hW.alike hW hF) hS.2.1
/-- behind a call -/
theorem rn_back {G : GT} {d rc rs mc ms : Nat} {M : MR} {pc : Nat} {L : List (Nat × MV)} {S : List MV} {Q : Option MV → List Sh → Hp → Prop} {p : Program} {e : Env} {R : Room} {s : State} {m : MethodId} {args : Array Value} {below : List Frame} {meth : Method} {c : Code} {H : Heap} {locs : List Loc} {cells slots : Nat} {ls : Array Slot} {Qc : Array Value → State → Outcome → State → Prop} {st0 : List Value} {a : Array Value}
    (hr : va_Run p (gl G) e R s m args below meth c H locs cells slots mc ms (F0 m pc ls st0) (S.map (tr G)) (QcE G (fun v sh' h' => Rn G d rc rs M (pc + 3) L (v.toList ++ S) sh' h' Q) a) (gA G))
    (C : Cx G M d p R s m args meth c) (h1 : cells + (rc + mc) ≤ R.cells) (h2 : slots + (rs + ms) ≤ R.slots) (hl : lv_has ls M.2.2.1 (L.map fun q => (q.1, tr G q.2))) (hS : va_S (gA G) s.heap H locs)
    (hQ : ∀ (v : Option MV) (sh' : List Sh) (h' : Hp) (t : State), Q v sh' h' → va_F (gA G) s t → Pw G sh' h' t.heap → Qc args s (.returned (v.map (tr G))) t) :
    W p (gl G) e R s m args below meth c H locs cells slots (MQ below Qc args s R.cells R.slots (gA G)) (F0 m pc ls st0) := by
  intro T hT X
  obtain ⟨v, st₀, t, T', Lx, h0, X', hL, e1, e2, ⟨v', sh', h', hv, hk, hF, hPw⟩, st⟩ := hr T hT X
  have hv2 : v = v'.map (tr G) := by injection hv
  subst hv2
  obtain ⟨z1, z2⟩ := hF
  rw [h0] at z1 z2
  have hS' : va_S (gA G) s.heap T'.heap (locs ++ Lx) := ⟨Nat.le_trans hS.1 (by rw [e1]; exact z1), fun q g1 g2 => by rw [e1, z2 q (Nat.lt_of_lt_of_le g1 hS.1) g2]; exact hS.2.1 q g1 g2, fun q hq => by
    rcases List.mem_append.mp hq with hh | hh
    · exact hS.2.2 q hh
    · exact hL q hh⟩
  obtain ⟨t2, a1, b1⟩ := hk p e R s m args below meth c T'.heap _ (cells + mc) (slots + ms) ls Qc C (by omega) (by omega) hl hS' (by rw [e1]; exact hPw) hQ T' rfl X'
  refine ⟨t2, st t2 ?_, b1⟩
  have e5 : (v'.toList ++ S).map (tr G) = (v'.map (tr G)).toList ++ S.map (tr G) := by cases v' <;> simp
  rw [e5] at a1
  exact a1
theorem cat_sum (G : GT) (S : List MV) : ((S.map (tr G)).map fun v => v.category).sum = (S.map catM).sum := by
  rw [List.map_map]
  congr 1
  apply List.map_congr_left
  intro v _
  exact tr_cat G v
def pars (M : MR) (n : Nat) : Prop := (M.1.cls ≠ "java/lang/invoke/MethodHandle" ∧ M.1.cls ≠ "java/lang/invoke/VarHandle") ∧ (parseMethodDescriptor M.1.desc).map (fun d => d.parameters.length) = some n ∧ M.2.2.1 ≤ 20 ∧ Cond.code M.1 M.2.1 M.2.2.1 M.2.2.2 ∈ lw_g ∧ Cond.initialized M.1.cls ∈ lw_g
theorem callB_M {G : GT} {M M' : MR} {d d' mc ms n idx : Nat} {p : Program} {R : Room} {s : State} {m : MethodId} {args : Array Value} {meth : Method} {c : Code} (C : Cx G M d p R s m args meth c) (hp : pars M' n) (hd : d' + 1 ≤ d) (hl : Cond.methodLink M.1.cls idx M'.1 ∈ lw_g) : CallB R s args M.1.cls idx M'.1 M'.2.1 M'.2.2.1 M'.2.2.2 (wsM M') (rmM d' mc ms) mc ms n := by
  obtain ⟨g1, g2, g3, g4, g5⟩ := hp
  have hts := C.2.2.2.2.1
  have hfr := C.2.2.2.2.2.2.2.2.1
  have hlo := C.2.2.2.2.2.2.2.2.2.1
  refine ⟨rfl, rfl, by show d' + 1 ≤ R.frames; omega, by show 8 + (M'.2.2.1 + 11) + (40 * d' + 40) ≤ R.locals; omega, ?_, List.mem_cons_self, hts _ g4, hts _ g5, g1, fun sig hs => ?_, hts _ hl⟩
  · intro w hw
    rcases List.mem_cons.mp hw with rfl | hw
    · exact pay_in hts all_good _ g4
    · exact pay_in hts all_good _ hw
  · rw [hs] at g2
    exact (Option.some.inj g2).symm
theorem callN_M {G : GT} {M M' : MR} {d d' mc ms n idx : Nat} {host : String} {p : Program} {R : Room} {s : State} {m : MethodId} {args : Array Value} {meth : Method} {c : Code} (C : Cx G M d p R s m args meth c) (hp : pars M' n) (hd : d' + 1 ≤ d) (hl : Cond.methodLinkNest M.1.cls idx M'.1 host ∈ lw_n) : va_CN R s args M.1.cls idx M'.1 host M'.2.1 M'.2.2.1 M'.2.2.2 (wsM M') (rmM d' mc ms) mc ms n := by
  obtain ⟨g1, g2, g3, g4, g5⟩ := hp
  have hts := C.2.2.2.2.1
  have hfr := C.2.2.2.2.2.2.2.2.1
  have hlo := C.2.2.2.2.2.2.2.2.2.1
  refine ⟨⟨rfl, rfl, by show d' + 1 ≤ R.frames; omega, by show 8 + (M'.2.2.1 + 11) + (40 * d' + 40) ≤ R.locals; omega, ?_, List.mem_cons_self⟩, hts _ g4, hts _ g5, g1, fun sig hs => ?_, va_Nw.use rfl (C.2.2.2.2.2.2.2.2.2.2.2.2.2.2.2.2.2 _ hl)⟩
  · intro w hw
    rcases List.mem_cons.mp hw with rfl | hw
    · exact pay_in hts all_good _ g4
    · exact pay_in hts all_good _ hw
  · rw [hs] at g2
    exact (Option.some.inj g2).symm
theorem recv_M {G : GT} {sh : List Sh} {h : Hp} {s : State} {H : Heap} {a ci : Nat} {r : vw_C} (hK : va_K (gD G) vwCl (tysL G) s) (hP : Pw G sh h H) (hs : sh[a]? = some (.inl ci)) (hc : vwCl[ci]? = some r) : ∃ cell : Cell, H[adr G a]? = some cell ∧ cell.vm.isStatics = false ∧ s.vm.findClass r.1 = some cell.cls := by
  rw [adr_lo (hP.lt hs)]
  exact va_recv hK (one_P (hP.2.2 a _ hs)) (ci := ci) (q0 := 0) hc rfl
theorem rn_cV {G : GT} {d d' rc rs mc ms n idx : Nat} {M M' : MR} {pc : Nat} {L : List (Nat × MV)} {S : List MV} {sh : List Sh} {h : Hp} {Q : Option MV → List Sh → Hp → Prop} {av S0 : List MV} {a ci : Nat} {r : vw_C} (hd : decode M.2.1 pc = .ok (.invokevirtual idx, 3)) (hp : pars M' n) (hd' : d' + 1 ≤ d) (hn : av.length = n) (hst : (S.map catM).sum ≤ 8) (hl : Cond.methodLink M.1.cls idx M'.1 ∈ lw_g) (hi : Cond.instanceMethod M'.1 ∈ lw_g) (hse : Cond.selects r.1 M'.1 M'.1 ∈ lw_g) (hs : sh[a]? = some (.inl ci)) (hc : vwCl[ci]? = some r) (hS0 : S0 = av.reverse ++ .inr (.inr (some a)) :: S) (E : Ev G d' mc ms M' (.inr (.inr (some a)) :: av) sh h (fun v sh' h' => Rn G d rc rs M (pc + 3) L (v.toList ++ S) sh' h' Q)) : Rn G d (rc + mc) (rs + ms) M pc L S0 sh h Q := by
  intro p e R s m args below meth c H locs cells slots ls Qc C h1 h2 hl0 hS hP hQ
  subst hS0
  have hrun := va_runV (Ts := lw_g) (own := M.1.cls) (nL := M.2.2.1) (rest := S.map (tr G)) (H := H) (locs := locs) (cells := cells) (slots := slots) (below := below) (meth := meth) (e := e) (b := adr G a) (As := av.map (tr G)) (g := F0 m pc ls ((av.reverse ++ .inr (.inr (some a)) :: S).map (tr G))) ⟨C.1, C.2.1, C.2.2.1, C.2.2.2.1, C.2.2.2.2.1⟩ E ⟨callB_M C hp hd' hl, C.2.2.2.2.1 _ hi, C.2.2.2.2.1 _ hse⟩ ⟨PcE_blind, recv_M C.2.2.2.2.2.2.2.2.2.2.1 hP hs hc, (fun U hU hW => ⟨rfl, PcE_here C.2.2.2.2.2.2.2.2.2.2.1 C.2.2.2.2.2.2.2.2.2.2.2 hS hP hU hW⟩)⟩ rfl (by rw [List.length_map]; exact hn) hl0.1 (by simp [tr, va_rf]) (by show 0 + _ ≤ 8; rw [cat_sum]; omega) hd ⟨by omega, by omega⟩
  exact rn_back hrun C (by omega) (by omega) hl0 hS hQ
theorem rn_cVN {G : GT} {d d' rc rs mc ms n idx : Nat} {M M' : MR} {pc : Nat} {L : List (Nat × MV)} {S : List MV} {sh : List Sh} {h : Hp} {Q : Option MV → List Sh → Hp → Prop} {av S0 : List MV} {a ci : Nat} {r : vw_C} {host : String} (hd : decode M.2.1 pc = .ok (.invokevirtual idx, 3)) (hp : pars M' n) (hd' : d' + 1 ≤ d) (hn : av.length = n) (hst : (S.map catM).sum ≤ 8) (hl : Cond.methodLinkNest M.1.cls idx M'.1 host ∈ lw_n) (hi : Cond.instanceMethod M'.1 ∈ lw_g) (hse : Cond.selects r.1 M'.1 M'.1 ∈ lw_g) (hs : sh[a]? = some (.inl ci)) (hc : vwCl[ci]? = some r) (hS0 : S0 = av.reverse ++ .inr (.inr (some a)) :: S) (E : Ev G d' mc ms M' (.inr (.inr (some a)) :: av) sh h (fun v sh' h' => Rn G d rc rs M (pc + 3) L (v.toList ++ S) sh' h' Q)) : Rn G d (rc + mc) (rs + ms) M pc L S0 sh h Q := by
  intro p e R s m args below meth c H locs cells slots ls Qc C h1 h2 hl0 hS hP hQ
  subst hS0
  have hrun := va_runVN (Ts := lw_g) (own := M.1.cls) (nL := M.2.2.1) (rest := S.map (tr G)) (H := H) (locs := locs) (cells := cells) (slots := slots) (below := below) (meth := meth) (e := e) (b := adr G a) (As := av.map (tr G)) (g := F0 m pc ls ((av.reverse ++ .inr (.inr (some a)) :: S).map (tr G))) ⟨C.1, C.2.1, C.2.2.1, C.2.2.2.1, C.2.2.2.2.1⟩ E ⟨callN_M C hp hd' hl, C.2.2.2.2.1 _ hi, C.2.2.2.2.1 _ hse⟩ ⟨PcE_blind, recv_M C.2.2.2.2.2.2.2.2.2.2.1 hP hs hc, (fun U hU hW => ⟨rfl, PcE_here C.2.2.2.2.2.2.2.2.2.2.1 C.2.2.2.2.2.2.2.2.2.2.2 hS hP hU hW⟩)⟩ rfl (by rw [List.length_map]; exact hn) hl0.1 (by simp [tr, va_rf]) (by show 0 + _ ≤ 8; rw [cat_sum]; omega) hd ⟨by omega, by omega⟩
  exact rn_back hrun C (by omega) (by omega) hl0 hS hQ
theorem rn_cS {G : GT} {d d' rc rs mc ms n idx : Nat} {M M' : MR} {pc : Nat} {L : List (Nat × MV)} {S : List MV} {sh : List Sh} {h : Hp} {Q : Option MV → List Sh → Hp → Prop} {av S0 : List MV} (hd : decode M.2.1 pc = .ok (.invokestatic idx, 3)) (hp : pars M' n) (hd' : d' + 1 ≤ d) (hn : av.length = n) (hst : (S.map catM).sum ≤ 8) (hl : Cond.methodLink M.1.cls idx M'.1 ∈ lw_g) (hi : Cond.static M'.1 ∈ lw_g) (hS0 : S0 = av.reverse ++ S) (E : Ev G d' mc ms M' av sh h (fun v sh' h' => Rn G d rc rs M (pc + 3) L (v.toList ++ S) sh' h' Q)) : Rn G d (rc + mc) (rs + ms) M pc L S0 sh h Q := by
  intro p e R s m args below meth c H locs cells slots ls Qc C h1 h2 hl0 hS hP hQ
  subst hS0
  have hrun := va_runS (Ts := lw_g) (own := M.1.cls) (nL := M.2.2.1) (rest := S.map (tr G)) (H := H) (locs := locs) (cells := cells) (slots := slots) (below := below) (meth := meth) (e := e) (As := av.map (tr G)) (g := F0 m pc ls ((av.reverse ++ S).map (tr G))) ⟨C.1, C.2.1, C.2.2.1, C.2.2.2.1, C.2.2.2.2.1⟩ E ⟨callB_M C hp hd' hl, C.2.2.2.2.1 _ hi⟩ ⟨PcE_blind, (fun U hU hW => ⟨rfl, PcE_here C.2.2.2.2.2.2.2.2.2.2.1 C.2.2.2.2.2.2.2.2.2.2.2 hS hP hU hW⟩)⟩ rfl (by rw [List.length_map]; exact hn) hl0.1 (by simp) (by show 0 + _ ≤ 8; rw [cat_sum]; omega) hd ⟨by omega, by omega⟩
  exact rn_back hrun C (by omega) (by omega) hl0 hS hQ
theorem rn_cSN {G : GT} {d d' rc rs mc ms n idx : Nat} {M M' : MR} {pc : Nat} {L : List (Nat × MV)} {S : List MV} {sh : List Sh} {h : Hp} {Q : Option MV → List Sh → Hp → Prop} {av S0 : List MV} {host : String} (hd : decode M.2.1 pc = .ok (.invokestatic idx, 3)) (hp : pars M' n) (hd' : d' + 1 ≤ d) (hn : av.length = n) (hst : (S.map catM).sum ≤ 8) (hl : Cond.methodLinkNest M.1.cls idx M'.1 host ∈ lw_n) (hi : Cond.static M'.1 ∈ lw_g) (hS0 : S0 = av.reverse ++ S) (E : Ev G d' mc ms M' av sh h (fun v sh' h' => Rn G d rc rs M (pc + 3) L (v.toList ++ S) sh' h' Q)) : Rn G d (rc + mc) (rs + ms) M pc L S0 sh h Q := by
  intro p e R s m args below meth c H locs cells slots ls Qc C h1 h2 hl0 hS hP hQ
  subst hS0
  have hrun := va_runSN (Ts := lw_g) (own := M.1.cls) (nL := M.2.2.1) (rest := S.map (tr G)) (H := H) (locs := locs) (cells := cells) (slots := slots) (below := below) (meth := meth) (e := e) (As := av.map (tr G)) (g := F0 m pc ls ((av.reverse ++ S).map (tr G))) ⟨C.1, C.2.1, C.2.2.1, C.2.2.2.1, C.2.2.2.2.1⟩ E ⟨callN_M C hp hd' hl, C.2.2.2.2.1 _ hi, trivial⟩ ⟨PcE_blind, (fun U hU hW => ⟨rfl, PcE_here C.2.2.2.2.2.2.2.2.2.2.1 C.2.2.2.2.2.2.2.2.2.2.2 hS hP hU hW⟩)⟩ rfl (by rw [List.length_map]; exact hn) hl0.1 (by simp) (by show 0 + _ ≤ 8; rw [cat_sum]; omega) hd ⟨by omega, by omega⟩
  exact rn_back hrun C (by omega) (by omega) hl0 hS hQ
theorem rn_cI {G : GT} {d d' rc rs mc ms n idx : Nat} {M M' : MR} {pc : Nat} {L : List (Nat × MV)} {S : List MV} {sh : List Sh} {h : Hp} {Q : Option MV → List Sh → Hp → Prop} {av S0 : List MV} {a : Nat} (hd : decode M.2.1 pc = .ok (.invokespecial idx, 3)) (hp : pars M' n) (hd' : d' + 1 ≤ d) (hn : av.length = n) (hst : (S.map catM).sum ≤ 8) (hl : Cond.methodLink M.1.cls idx M'.1 ∈ lw_g) (hi : Cond.instanceMethod M'.1 ∈ lw_g) (hnm : M'.1.name = "<init>") (hr0 : M'.2.2.2 = none) (hS0 : S0 = av.reverse ++ .inr (.inr (some a)) :: S) (E : Ev G d' mc ms M' (.inr (.inr (some a)) :: av) sh h (fun v sh' h' => Rn G d rc rs M (pc + 3) L (v.toList ++ S) sh' h' Q)) : Rn G d (rc + mc) (rs + ms) M pc L S0 sh h Q := by
  intro p e R s m args below meth c H locs cells slots ls Qc C h1 h2 hl0 hS hP hQ
  subst hS0
  have hrun := va_runI (Ts := lw_g) (own := M.1.cls) (nL := M.2.2.1) (rest := S.map (tr G)) (H := H) (locs := locs) (cells := cells) (slots := slots) (below := below) (meth := meth) (e := e) (b := adr G a) (As := av.map (tr G)) (g := F0 m pc ls ((av.reverse ++ .inr (.inr (some a)) :: S).map (tr G))) ⟨C.1, C.2.1, C.2.2.1, C.2.2.2.1, C.2.2.2.2.1⟩ E ⟨by have q := callB_M C hp hd' hl (mc := mc) (ms := ms); rw [hr0] at q; exact q, hnm, C.2.2.2.2.1 _ hi⟩ ⟨PcE_blind, (fun U hU hW => ⟨rfl, PcE_here C.2.2.2.2.2.2.2.2.2.2.1 C.2.2.2.2.2.2.2.2.2.2.2 hS hP hU hW⟩)⟩ rfl (by rw [List.length_map]; exact hn) hl0.1 (by simp [tr, va_rf]) (by show 0 + _ ≤ 8; rw [cat_sum]; omega) hd ⟨by omega, by omega⟩
  exact rn_back hrun C (by omega) (by omega) hl0 hS hQ
theorem rn_cIN {G : GT} {d d' rc rs mc ms n idx : Nat} {M M' : MR} {pc : Nat} {L : List (Nat × MV)} {S : List MV} {sh : List Sh} {h : Hp} {Q : Option MV → List Sh → Hp → Prop} {av S0 : List MV} {a : Nat} {host : String} (hd : decode M.2.1 pc = .ok (.invokespecial idx, 3)) (hp : pars M' n) (hd' : d' + 1 ≤ d) (hn : av.length = n) (hst : (S.map catM).sum ≤ 8) (hl : Cond.methodLinkNest M.1.cls idx M'.1 host ∈ lw_n) (hi : Cond.instanceMethod M'.1 ∈ lw_g) (hnm : M'.1.name = "<init>") (hr0 : M'.2.2.2 = none) (hS0 : S0 = av.reverse ++ .inr (.inr (some a)) :: S) (E : Ev G d' mc ms M' (.inr (.inr (some a)) :: av) sh h (fun v sh' h' => Rn G d rc rs M (pc + 3) L (v.toList ++ S) sh' h' Q)) : Rn G d (rc + mc) (rs + ms) M pc L S0 sh h Q := by
  intro p e R s m args below meth c H locs cells slots ls Qc C h1 h2 hl0 hS hP hQ
  subst hS0
  have hrun := va_runIN (Ts := lw_g) (own := M.1.cls) (nL := M.2.2.1) (rest := S.map (tr G)) (H := H) (locs := locs) (cells := cells) (slots := slots) (below := below) (meth := meth) (e := e) (b := adr G a) (As := av.map (tr G)) (g := F0 m pc ls ((av.reverse ++ .inr (.inr (some a)) :: S).map (tr G))) ⟨C.1, C.2.1, C.2.2.1, C.2.2.2.1, C.2.2.2.2.1⟩ E ⟨by have q := callN_M C hp hd' hl (mc := mc) (ms := ms); rw [hr0] at q; exact q, hnm, C.2.2.2.2.1 _ hi⟩ ⟨PcE_blind, (fun U hU hW => ⟨rfl, PcE_here C.2.2.2.2.2.2.2.2.2.2.1 C.2.2.2.2.2.2.2.2.2.2.2 hS hP hU hW⟩)⟩ rfl (by rw [List.length_map]; exact hn) hl0.1 (by simp [tr, va_rf]) (by show 0 + _ ≤ 8; rw [cat_sum]; omega) hd ⟨by omega, by omega⟩
  exact rn_back hrun C (by omega) (by omega) hl0 hS hQ
theorem rn_obj {G : GT} {d rc rs : Nat} {M : MR} {pc : Nat} {L : List (Nat × MV)} {S : List MV} {sh : List Sh} {h : Hp} {Q : Option MV → List Sh → Hp → Prop} {a idx : Nat} (hd : decode M.2.1 pc = .ok (.invokespecial idx, 3)) (hd1 : 1 ≤ d) (hst : (S.map catM).sum ≤ 8) (hl : Cond.methodLink M.1.cls idx Lib.objectInit ∈ lw_g) (hi : Cond.instanceMethod Lib.objectInit ∈ lw_g) (hc : Cond.code Lib.objectInit ⟨#[0xb1]⟩ 1 none ∈ lw_g) (k : Rn G d rc rs M (pc + 3) L S sh h Q) : Rn G d rc rs M pc L (.inr (.inr (some a)) :: S) sh h Q := by
  intro p e R s m args below meth c H locs cells slots ls Qc C h1 h2 hl0 hS hP hQ
  have hts := C.2.2.2.2.1
  have hfr := C.2.2.2.2.2.2.2.2.1
  have hlo := C.2.2.2.2.2.2.2.2.2.1
  refine W.objInit C.1 C.2.1 C.2.2.2.1 (hts _ hl) (hts _ hi) (hts _ hc) rfl (by rw [C.2.2.1]; exact hl0.1) (a := adr G a) (rest := S.map (tr G)) rfl hd (by omega) (by show 2 * 0 + _ + 12 ≤ R.locals; rw [cat_sum]; omega) ?_
  exact k p e R s m args below meth c H locs cells slots ls Qc C h1 h2 hl0 hS hP hQ

def cpI (h : Hp) (a i b j n : Nat) : Hp := (fun q t => if q = b ∧ j ≤ t ∧ t < j + n then h.1 a (i + (t - j)) else h.1 q t, h.2)
theorem cpI_row (h : Hp) (a i b j n : Nat) : (cpI h a i b j n).1 b = va_cpy (h.1 a) (h.1 b) i j n := by funext t; simp [cpI, va_cpy]
theorem cpI_off {h : Hp} {a i b j n q : Nat} (hq : q ≠ b) : (cpI h a i b j n).1 q = h.1 q ∧ (cpI h a i b j n).2.1 q = h.2.1 q ∧ (cpI h a i b j n).2.2 q = h.2.2 q := ⟨by funext t; simp [cpI, hq], rfl, rfl⟩
theorem clamp_nn {z : Int32} (hz : ¬ z < 0) : z.toInt = (z.toNatClampNeg : Int) := by
  have hz0 : (0 : Int) ≤ z.toInt := by
    have := Int32.not_lt.mp hz
    simpa using Int32.le_iff_toInt_le.mp this
  show z.toInt = ((z.toInt.toNat : Nat) : Int)
  omega
def cpW (own : String) (idx : Nat) : Prop := Cond.methodLink own idx arraycopyName ∈ lw_g ∧ Cond.native arraycopyName ∈ lw_g ∧ Cond.static arraycopyName ∈ lw_g ∧ Cond.initialized "java/lang/System" ∈ lw_g
theorem natW : nativeFrameWords "java/lang/System" "arraycopy" 5 + 11 ≤ 70 := by decide
set_option maxHeartbeats 1000000 in
theorem rn_copy {G : GT} {d rc rs : Nat} {M : MR} {pc : Nat} {L : List (Nat × MV)} {S : List MV} {sh : List Sh} {h : Hp} {Q : Option MV → List Sh → Hp → Prop} {a b n0 n1 idx sp' dp' n' : Nat} {sp dp n : Int32} (hd : decode M.2.1 pc = .ok (.invokestatic idx, 3)) (hw : cpW M.1.cls idx) (hs : sh[a]? = some (.inr (0, n0))) (hs2 : sh[b]? = some (.inr (0, n1))) (e1 : sp.toNatClampNeg = sp') (e2 : dp.toNatClampNeg = dp') (e3 : n.toNatClampNeg = n') (g1 : ¬ sp < 0) (g2 : ¬ dp < 0) (g3 : ¬ n < 0) (g4 : sp' + n' ≤ n0) (g5 : dp' + n' ≤ n1) (hst : (S.map catM).sum ≤ 8)
    (kk : Rn G (d + 1) rc rs M (pc + 3) L S sh (cpI h a sp' b dp' n') Q) : Rn G (d + 1) rc rs M pc L (.inl n :: .inl dp :: .inr (.inr (some b)) :: .inl sp :: .inr (.inr (some a)) :: S) sh h Q := by
  intro p e R s m args below meth c H locs cells slots ls Qc C h1 h2 hl hS hP hQ
  subst e1 e2 e3
  have hc0 : H[gb G + a]? = some (vp_cell (gc G 0) (n0, .inl (h.1 a))) := hP.2.2 a _ hs
  have hc1 : H[gb G + b]? = some (vp_cell (gc G 0) (n1, .inl (h.1 b))) := hP.2.2 b _ hs2
  show W _ _ _ _ _ _ _ _ _ _ _ _ _ _ _ (F0 m pc ls (.int n :: .int dp :: .ref (adr G b) :: .int sp :: .ref (adr G a) :: S.map (tr G)))
  rw [adr_lo (hP.lt hs), adr_lo (hP.lt hs2)]
  have hts := C.2.2.2.2.1
  have hfr := C.2.2.2.2.2.2.2.2.1
  have hlo := C.2.2.2.2.2.2.2.2.2.1
  have hK := C.2.2.2.2.2.2.2.2.2.2.1
  obtain ⟨-, k0, hk0, cm0, hkk0⟩ := (hK.2 0 _ rfl).1 n0 (fun j => .int (h.1 a j))
  obtain ⟨-, k1, hk1, cm1, hkk1⟩ := (hK.2 0 _ rfl).1 n1 (fun j => .int (h.1 b j))
  intro T hT X
  obtain ⟨vm', X', step⟩ := X.arraycopy C.1 C.2.2.2.1 (hts _ hw.1) (hts _ hw.2.1) (hts _ hw.2.2.1) (hts _ hw.2.2.2) (src := gb G + a) (dst := gb G + b) (cs := vp_cell (gc G 0) (n0, .inl (h.1 a))) (cd := vp_cell (gc G 0) (n1, .inl (h.1 b))) (srcPos := sp) (destPos := dp) (n := n) (by rw [hT]; exact hc0) (by rw [hT]; exact hc1)
    (fun _ z => by cases z) (fun _ z => by cases z) (fun z => by cases z) (fun z => by cases z) hk0 hk1 hkk0 hkk1 (by simp [refKind]) g1 g2 g3
    (by rw [clamp_nn g1, clamp_nn g3]; show ¬ _ > ((arrV (gc G 0) n0 (fun j => .int (h.1 a j))).slots.size : Int); rw [arrV_size]; omega)
    (by rw [clamp_nn g2, clamp_nn g3]; show ¬ _ > ((arrV (gc G 0) n1 (fun j => .int (h.1 b j))).slots.size : Int); rw [arrV_size]; omega)
    (fun vm₁ _ i hi => by
      have e : (vp_cell (gc G 0) (n0, .inl (h.1 a))).slots.getD (sp.toNatClampNeg + i) .null = .int (h.1 a (sp.toNatClampNeg + i)) := by
        show (arrV (gc G 0) n0 (fun j => .int (h.1 a j))).slots.getD _ _ = _
        rw [Array.getD_eq_getD_getElem?, arrV_read _ _ (by omega)]
        rfl
      refine ⟨?_, ?_⟩
      · rw [e]
        rfl
      · rw [e]
        exact trivial)
    (g := F0 m pc ls (.int n :: .int dp :: .ref (gb G + b) :: .int sp :: .ref (gb G + a) :: S.map (tr G))) rfl (by rw [C.2.2.1]; exact hl.1) (rest := S.map (tr G)) rfl (by rw [C.2.1]; exact hd) (by omega) (by show 2 * 0 + _ + _ ≤ _; rw [cat_sum]; have z := natW; omega)
  have ec : copied (vp_cell (gc G 0) (n0, .inl (h.1 a))) (vp_cell (gc G 0) (n1, .inl (h.1 b))) sp dp n = vp_cell (gc G 0) (n1, .inl (va_cpy (h.1 a) (h.1 b) sp.toNatClampNeg dp.toNatClampNeg n.toNatClampNeg)) := va_copied (fun z => .int z) (gc G 0) (gc G 0) (h.1 a) (h.1 b) g4
  rw [ec] at X' step
  have hlt : gb G + b < H.size := (Array.getElem?_eq_some_iff.mp hc1).1
  have hheap : ((T.setVm vm').setCell (gb G + b) (vp_cell (gc G 0) (n1, .inl (va_cpy (h.1 a) (h.1 b) sp.toNatClampNeg dp.toNatClampNeg n.toNatClampNeg)))).heap = H.setIfInBounds (gb G + b) (vp_cell (gc G 0) (n1, .inl (va_cpy (h.1 a) (h.1 b) sp.toNatClampNeg dp.toNatClampNeg n.toNatClampNeg))) := by rw [← hT]; rfl
  generalize hHe : H.setIfInBounds (gb G + b) (vp_cell (gc G 0) (n1, .inl (va_cpy (h.1 a) (h.1 b) sp.toNatClampNeg dp.toNatClampNeg n.toNatClampNeg))) = H1 at hheap
  have hz : H1.size = H.size := by rw [← hHe]; simp
  have oq : ∀ q : Nat, q ≠ gb G + b → H1[q]? = H[q]? := fun q hq => by rw [← hHe]; simp [Array.getElem?_setIfInBounds, Ne.symm hq]
  have hn1 : H1[gb G + b]? = some (vp_cell (gc G 0) (n1, .inl (va_cpy (h.1 a) (h.1 b) sp.toNatClampNeg dp.toNatClampNeg n.toNatClampNeg))) := by rw [← hHe]; simp [Array.getElem?_setIfInBounds, hlt]
  have hS1 : ∀ Y : List (Value × Nat), va_S (gA G) s.heap H1 (locs ++ Y.map fun q => ⟨gb G + b, dp.toNatClampNeg + q.2⟩) := fun Y => ⟨by rw [hz]; exact hS.1, fun q z1 z2 => by
      rw [oq q (fun z => z2 (by rw [z]; exact Nat.le_add_right _ _))]
      exact hS.2.1 q z1 z2, fun q hq => by
      rcases List.mem_append.mp hq with z | z
      · exact hS.2.2 q z
      · obtain ⟨j, -, hj⟩ := List.mem_map.mp z
        rw [← hj]
        exact Nat.le_add_right _ _⟩
  have hP1 : Pw G sh (cpI h a sp.toNatClampNeg b dp.toNatClampNeg n.toNatClampNeg) H1 := hP.set hs2 (by
      show H1[gb G + b]? = some (vp_cell _ (n1, .inl ((cpI h a sp.toNatClampNeg b dp.toNatClampNeg n.toNatClampNeg).1 b)))
      rw [cpI_row]
      exact hn1) hz oq (fun q hq => cpI_off hq)
  obtain ⟨t, a1, b1⟩ := kk p e R s m args below meth c H1 _ cells slots ls Qc C h1 h2 hl (hS1 _) hP1 hQ _ hheap X'
  exact ⟨t, step t a1, b1⟩
theorem FOl {G : GT} {d : Nat} {M : MR} {p : Program} {R : Room} {s : State} {m : MethodId} {args : Array Value} {meth : Method} {c : Code} (C : Cx G M d p R s m args meth c) : FO G s s.heap := C.2.2.2.2.2.2.2.2.2.2.2
theorem rn_body {G : GT} {d rc rs : Nat} {M : MR} {pc : Nat} {L : List (Nat × MV)} {S : List MV} {sh : List Sh} {h : Hp} {Q : Option MV → List Sh → Hp → Prop} {idx : Nat} (hd : decode M.2.1 pc = .ok (.getstatic idx, 3)) (hw : Cond.fieldLink M.1.cls idx "PailSpeech$Chorus" "BODIES" "[I" ∈ lw_g) (k : Rn G d rc rs M (pc + 3) L (.inr (.inr (some (FB + 1))) :: S) sh h Q) : Rn G d rc rs M pc L S sh h Q := by
  intro p e R s m args below meth c H locs cells slots ls Qc C h1 h2 hl hS hP hQ
  have K := k p e R s m args below meth c H locs cells slots ls Qc C h1 h2 hl hS hP hQ
  have e0 : tr G (.inr (.inr (some (FB + 1)))) = .ref (ga G 1) := by show Value.ref (adr G (FB + 1)) = _; rw [adr_hi]
  rw [List.map_cons, e0] at K
  exact va_gets C.1 C.2.1 (FOl C).2.1.1 hS C.2.2.2.1 (C.2.2.2.2.1 _ hw) (fun _ z => z) hd K
theorem rn_ialdB {G : GT} {d rc rs : Nat} {M : MR} {pc : Nat} {L : List (Nat × MV)} {S : List MV} {sh : List Sh} {h : Hp} {Q : Option MV → List Sh → Hp → Prop} {k : Nat} {i : Int32} (hd : decode M.2.1 pc = .ok (.iaload, 1)) (hk : i.toNatClampNeg = k) (hin : vp_in i 28) (kk : Rn G d rc rs M (pc + 1) L (.inl (BODY.getD k 0) :: S) sh h Q) : Rn G d rc rs M pc L (.inl i :: .inr (.inr (some (FB + 1))) :: S) sh h Q := by
  intro p e R s m args below meth c H locs cells slots ls Qc C h1 h2 hl hS hP hQ
  subst hk
  have e0 : tr G (.inr (.inr (some (FB + 1)))) = .ref (ga G 1) := by show Value.ref (adr G (FB + 1)) = _; rw [adr_hi]
  rw [List.map_cons, List.map_cons, e0]
  exact va_ti C.1 C.2.1 (FOl C).2.1.2 hS hin rfl hd (kk p e R s m args below meth c H locs cells slots ls Qc C h1 h2 hl hS hP hQ)
theorem rn_ialdS {G : GT} {d rc rs : Nat} {M : MR} {pc : Nat} {L : List (Nat × MV)} {S : List MV} {sh : List Sh} {h : Hp} {Q : Option MV → List Sh → Hp → Prop} {k : Nat} {i : Int32} (hd : decode M.2.1 pc = .ok (.iaload, 1)) (hk : i.toNatClampNeg = k) (hin : vp_in i (gn G)) (kk : Rn G d rc rs M (pc + 1) L (.inl (gx G k) :: S) sh h Q) : Rn G d rc rs M pc L (.inl i :: .inr (.inr (some (FB + 0))) :: S) sh h Q := by
  intro p e R s m args below meth c H locs cells slots ls Qc C h1 h2 hl hS hP hQ
  subst hk
  have e0 : tr G (.inr (.inr (some (FB + 0)))) = .ref (ga G 0) := by show Value.ref (adr G (FB + 0)) = _; rw [adr_hi]
  rw [List.map_cons, List.map_cons, e0]
  exact va_ti C.1 C.2.1 (FOl C).1 hS hin rfl hd (kk p e R s m args below meth c H locs cells slots ls Qc C h1 h2 hl hS hP hQ)
theorem rn_alenS {G : GT} {d rc rs : Nat} {M : MR} {pc : Nat} {L : List (Nat × MV)} {S : List MV} {sh : List Sh} {h : Hp} {Q : Option MV → List Sh → Hp → Prop} (hd : decode M.2.1 pc = .ok (.arraylength, 1)) (kk : Rn G d rc rs M (pc + 1) L (.inl (Int32.ofNat (gn G)) :: S) sh h Q) : Rn G d rc rs M pc L (.inr (.inr (some (FB + 0))) :: S) sh h Q := by
  intro p e R s m args below meth c H locs cells slots ls Qc C h1 h2 hl hS hP hQ
  have e0 : tr G (.inr (.inr (some (FB + 0)))) = .ref (ga G 0) := by show Value.ref (adr G (FB + 0)) = _; rw [adr_hi]
  rw [List.map_cons, e0]
  exact va_tlen C.1 C.2.1 (FOl C).1 hS rfl hd (kk p e R s m args below meth c H locs cells slots ls Qc C h1 h2 hl hS hP hQ)
theorem rn_str2 {G : GT} {d rc rs : Nat} {M : MR} {pc : Nat} {L : List (Nat × MV)} {S : List MV} {sh : List Sh} {h : Hp} {Q : Option MV → List Sh → Hp → Prop} (hd : decode M.2.1 pc = .ok (.ldc 18, 2)) (hm : M.1.cls = RX6) (k : Rn G d rc rs M (pc + 2) L (.inr (.inr (some (FB + 2))) :: S) sh h Q) : Rn G d rc rs M pc L S sh h Q := by
  intro p e R s m args below meth c H locs cells slots ls Qc C h1 h2 hl hS hP hQ
  have K := k p e R s m args below meth c H locs cells slots ls Qc C h1 h2 hl hS hP hQ
  have e0 : tr G (.inr (.inr (some (FB + 2)))) = .ref (ga G 2) := by show Value.ref (adr G (FB + 2)) = _; rw [adr_hi]
  rw [List.map_cons, e0] at K
  exact va_ldcS C.1 C.2.1 (by have := C.2.2.2.1; rw [hm] at this; exact this) (FOl C).2.2.2.2.2.1.1 hd K
theorem rn_str3 {G : GT} {d rc rs : Nat} {M : MR} {pc : Nat} {L : List (Nat × MV)} {S : List MV} {sh : List Sh} {h : Hp} {Q : Option MV → List Sh → Hp → Prop} (hd : decode M.2.1 pc = .ok (.ldc 35, 2)) (hm : M.1.cls = RX6) (k : Rn G d rc rs M (pc + 2) L (.inr (.inr (some (FB + 3))) :: S) sh h Q) : Rn G d rc rs M pc L S sh h Q := by
  intro p e R s m args below meth c H locs cells slots ls Qc C h1 h2 hl hS hP hQ
  have K := k p e R s m args below meth c H locs cells slots ls Qc C h1 h2 hl hS hP hQ
  have e0 : tr G (.inr (.inr (some (FB + 3)))) = .ref (ga G 3) := by show Value.ref (adr G (FB + 3)) = _; rw [adr_hi]
  rw [List.map_cons, e0] at K
  exact va_ldcS C.1 C.2.1 (by have := C.2.2.2.1; rw [hm] at this; exact this) (FOl C).2.2.2.2.2.1.2 hd K
/-- a text receives a call -/
theorem recv_str {G : GT} {s : State} {H : Heap} {locs : List Loc} {r : Nat} (hF : FO G s s.heap) (hS : va_S (gA G) s.heap H locs) (hr : r = FB + 2 ∨ r = FB + 3) : ∃ cell : Cell, H[adr G r]? = some cell ∧ cell.vm.isStatics = false ∧ s.vm.findClass "java/lang/String" = some cell.cls := by
  have key : ∀ k, va_O "java/lang/String" (ga G k) (gA G) s s.heap → ∃ cell : Cell, H[ga G k]? = some cell ∧ cell.vm.isStatics = false ∧ s.vm.findClass "java/lang/String" = some cell.cls := by
    intro k hk
    obtain ⟨cell, g1, g2, g3, g4⟩ := hk
    exact ⟨cell, by rw [hS.2.1 _ (Array.getElem?_eq_some_iff.mp g1).1 g4]; exact g1, g2, g3⟩
  rcases hr with rfl | rfl
  · rw [adr_hi]; exact key 2 hF.2.2.1.1.1
  · rw [adr_hi]; exact key 3 hF.2.2.2.1.1.1

theorem rn_cVF {G : GT} {d d' rc rs mc ms n idx : Nat} {M M' : MR} {pc : Nat} {L : List (Nat × MV)} {S : List MV} {sh : List Sh} {h : Hp} {Q : Option MV → List Sh → Hp → Prop} {av S0 : List MV} {a : Nat} (hd : decode M.2.1 pc = .ok (.invokevirtual idx, 3)) (hp : pars M' n) (hd' : d' + 1 ≤ d) (hn : av.length = n) (hst : (S.map catM).sum ≤ 8) (hl : Cond.methodLink M.1.cls idx M'.1 ∈ lw_g) (hi : Cond.instanceMethod M'.1 ∈ lw_g) (hse : Cond.selects "java/lang/String" M'.1 M'.1 ∈ lw_g) (hs : a = FB + 2 ∨ a = FB + 3) (hS0 : S0 = av.reverse ++ .inr (.inr (some a)) :: S) (E : Ev G d' mc ms M' (.inr (.inr (some a)) :: av) sh h (fun v sh' h' => Rn G d rc rs M (pc + 3) L (v.toList ++ S) sh' h' Q)) : Rn G d (rc + mc) (rs + ms) M pc L S0 sh h Q := by
  intro p e R s m args below meth c H locs cells slots ls Qc C h1 h2 hl0 hS hP hQ
  subst hS0
  have hrun := va_runV (Ts := lw_g) (own := M.1.cls) (nL := M.2.2.1) (rest := S.map (tr G)) (H := H) (locs := locs) (cells := cells) (slots := slots) (below := below) (meth := meth) (e := e) (b := adr G a) (As := av.map (tr G)) (g := F0 m pc ls ((av.reverse ++ .inr (.inr (some a)) :: S).map (tr G))) ⟨C.1, C.2.1, C.2.2.1, C.2.2.2.1, C.2.2.2.2.1⟩ E ⟨callB_M C hp hd' hl, C.2.2.2.2.1 _ hi, C.2.2.2.2.1 _ hse⟩ ⟨PcE_blind, recv_str C.2.2.2.2.2.2.2.2.2.2.2 hS hs, (fun U hU hW => ⟨rfl, PcE_here C.2.2.2.2.2.2.2.2.2.2.1 C.2.2.2.2.2.2.2.2.2.2.2 hS hP hU hW⟩)⟩ rfl (by rw [List.length_map]; exact hn) hl0.1 (by simp [tr, va_rf]) (by show 0 + _ ≤ 8; rw [cat_sum]; omega) hd ⟨by omega, by omega⟩
  exact rn_back hrun C (by omega) (by omega) hl0 hS hQ
