/-! ALLOCATION over Rn: new cells at the world's end -/
def zr (h : Hp) (a : Nat) : Hp := (fun b j => if b = a then 0 else h.1 b j, (fun b j => if b = a then 0 else h.2.1 b j, fun b j => if b = a then none else h.2.2 b j))
theorem zr_off {h : Hp} {a b : Nat} (hb : b ≠ a) : (zr h a).1 b = h.1 b ∧ (zr h a).2.1 b = h.2.1 b ∧ (zr h a).2.2 b = h.2.2 b := ⟨by funext j; simp [zr, hb], by funext j; simp [zr, hb], by funext j; simp [zr, hb]⟩
theorem app_l {sh : List Sh} {e x : Sh} {a : Nat} (h : sh[a]? = some x) : (sh ++ [e])[a]? = some x := by
  rw [List.getElem?_append_left (List.getElem?_eq_some_iff.mp h).1]
  exact h
theorem app_n {sh : List Sh} {e : Sh} {n : Nat} (h : sh.length = n) : (sh ++ [e]).length = n + 1 := by rw [List.length_append, h]; rfl
theorem app_a {sh : List Sh} {e : Sh} {n : Nat} (h : sh.length = n) : (sh ++ [e])[n]? = some e := by
  rw [List.getElem?_append_right (by omega), h, Nat.sub_self]
  rfl
theorem Pw.app {G : GT} {sh es : List Sh} {h h' : Hp} {H H1 : Heap} (P : Pw G sh h H) (hf : sh.length + es.length < FB) (hz : H1.size = H.size + es.length) (ho : ∀ q, q < H.size → H1[q]? = H[q]?) (hoff : ∀ b, b < sh.length → h'.1 b = h.1 b ∧ h'.2.1 b = h.2.1 b ∧ h'.2.2 b = h.2.2 b) (hn : ∀ i e, es[i]? = some e → va_at (gD G) vwCl (gb G + (sh.length + i), cellOf G h' (sh.length + i) e) H1) : Pw G (sh ++ es) h' H1 := by
  obtain ⟨p1, p2, p3⟩ := P
  refine ⟨by rw [hz, p1, List.length_append, Nat.add_assoc], by rw [List.length_append]; exact hf, fun a e' he => ?_⟩
  by_cases hl : a < sh.length
  · rw [List.getElem?_append_left hl] at he
    obtain ⟨o1, o2, o3⟩ := hoff a hl
    rw [cellOf_congr e' o1 o2 o3]
    exact (p3 a e' he).kept (ho _ (by show gb G + a < _; omega))
  · rw [List.getElem?_append_right (by omega)] at he
    have := hn _ _ he
    rw [show sh.length + (a - sh.length) = a by omega] at this
    exact this
theorem Pw.push {G : GT} {sh : List Sh} {e : Sh} {n : Nat} {h : Hp} {H H1 : Heap} (P : Pw G sh h H) (hl : sh.length = n) (hf : n + 1 < FB) (hz : H1.size = H.size + 1) (ho : ∀ q, q < H.size → H1[q]? = H[q]?) (hn : va_at (gD G) vwCl (gb G + n, cellOf G (zr h n) n e) H1) : Pw G (sh ++ [e]) (zr h n) H1 := by
  subst hl
  refine P.app hf hz ho (fun b hb => zr_off (by omega)) (fun i e' he => ?_)
  have hi : i < 1 := (List.getElem?_eq_some_iff.mp he).1
  rw [show i = 0 by omega] at he
  cases he
  rw [show i = 0 by omega]
  exact hn
def tr0 (t : Nat) : Value := match t with
  | 0 => .int 0
  | 1 => .long 0
  | _ => .null
theorem tr_zr (G : GT) (h : Hp) (n k t : Nat) : tr G (fvM (zr h n) n k t) = tr0 t := by
  rcases t with _ | _ | t <;> simp [fvM, zr, tr, tr0, va_rf]
theorem va_SA {G : GT} {H0 H H1 : Heap} {locs : List Loc} {k : Nat} (hS : va_S (gA G) H0 H locs) (z : H1.size = H.size + k) (o : ∀ q, q < H.size → H1[q]? = H[q]?) : va_S (gA G) H0 H1 locs := ⟨Nat.le_trans hS.1 (by omega), fun x g1 g2 => (o x (Nat.lt_of_lt_of_le g1 hS.1)).trans (hS.2.1 x g1 g2), hS.2.2⟩
theorem tr_new {G : GT} {sh : List Sh} {h : Hp} {H : Heap} {n : Nat} (P : Pw G sh h H) (hl : sh.length = n) : tr G (.inr (.inr (some n))) = .ref H.size := by
  show Value.ref (adr G n) = _
  rw [adr_lo (by rw [← hl]; exact P.2.1), P.1, hl]
section
variable {G : GT} {d rc rs : Nat} {M : MR} {pc : Nat} {L : List (Nat × MV)} {S : List MV} {sh sh' : List Sh} {h : Hp} {Q : Option MV → List Sh → Hp → Prop} {n : Nat}
theorem rn_new {idx ci N : Nat} {CC : String} {T : u_T} {ty : Nat → FieldType} (hd : decode M.2.1 pc = .ok (.new idx, 3)) (hc : vwCl[ci]? = some (CC, T, N)) (hu : ∀ w ∈ u_ws CC T N, w ∈ lw_g) (hlN : (fc ci).length = N) (hty : ∀ k, k < N → parseFieldDescriptor (T k).2.2.1 = some (ty k)) (hdf : ∀ k, k < N → defaultValue (ty k) = tr0 ((fc ci).getD k 0)) (w1 : Cond.classLink M.1.cls idx CC ∈ lw_g) (w2 : Cond.instantiable CC N ∈ lw_g) (w3 : Cond.initialized CC ∈ lw_g) (hl : sh.length = n) (hf : n + 1 < FB) (hsh : sh ++ [.inl ci] = sh')
    (k : Rn G d rc rs M (pc + 3) L (.inr (.inr (some n)) :: S) sh' (zr h n) Q) : Rn G d (rc + 1) (rs + N) M pc L S sh h Q := by
  subst hsh
  intro p e R s m args below meth c H locs cells slots ls Qc C h1 h2 hl0 hS hP hQ
  have hts := C.2.2.2.2.1
  have hK0 := C.2.2.2.2.2.2.2.2.2.2.1.1 ci _ hc
  refine W.newcK C.1 C.2.1 C.2.2.2.1 (hts _ w1) (hts _ w2) (hts _ w3) rfl hd (by omega) (by omega) hK0.2.1 rfl fun H1 kC hkC e1 z1 o1 => ?_
  have hn : va_at (gD G) vwCl (gb G + n, cellOf G (zr h n) n (.inl ci)) H1 := by
    refine ⟨_, hc, ?_⟩
    rw [hP.1, hl] at e1
    refine (u_born (ws := lw_g) ty hts hu hK0 hkC e1 hty).to (fun j hj => ?_)
    have hj2 : (fc ci)[j]? = some ((fc ci).getD j 0) := by
      rw [List.getD_eq_getElem?_getD, List.getElem?_eq_getElem (show j < (fc ci).length by rw [hlN]; exact hj)]
      rfl
    show _ = (fvs G (zr h n) n ci).getD j .null
    rw [List.getD_eq_getElem?_getD, fvs_at hj2, tr_zr]
    exact hdf j hj
  have kk := k p e R s m args below meth c H1 locs (cells + 1) (slots + N) ls Qc C (by omega) (by omega) hl0 (va_SA hS z1 o1) (hP.push hl hf z1 o1 hn) hQ
  rw [List.map_cons, tr_new hP hl] at kk
  exact kk
theorem rn_newI {v : Int32} {N : Nat} (hd : decode M.2.1 pc = .ok (.newarray .int, 2)) (hn0 : ¬ v < 0) (hN : v.toNatClampNeg = N) (hb : N ≤ 1000) (w1 : Cond.arrayClass .int ∈ lw_g) (hl : sh.length = n) (hf : n + 1 < FB) (hsh : sh ++ [.inr (0, N)] = sh')
    (k : Rn G d rc rs M (pc + 2) L (.inr (.inr (some n)) :: S) sh' (zr h n) Q) : Rn G d (rc + 1) (rs + N) M pc L (.inl v :: S) sh h Q := by
  subst hsh
  intro p e R s m args below meth c H locs cells slots ls Qc C h1 h2 hl0 hS hP hQ
  have hts := C.2.2.2.2.1
  have hK := C.2.2.2.2.2.2.2.2.2.2.1
  refine va_newaK (atype := .int) C.1 C.2.1 (hts _ w1) rfl hd rfl hn0 hN (by show N * 4 ≤ _; omega) (by omega) (by omega) rfl fun H1 cA e1 z1 o1 hAr hNm => ?_
  have hcA : gc G 0 = cA := Option.some.inj (((hK.2 0 _ rfl).2).symm.trans hNm)
  subst hcA
  have hn : va_at (gD G) vwCl (gb G + n, cellOf G (zr h n) n (.inr (0, N))) H1 := by
    rw [hP.1, hl] at e1
    show H1[gb G + n]? = some (vp_cell _ _)
    rw [e1, vp_cell_i]
    refine congrArg (fun f => some (arrV (gc G 0) N f)) (funext fun j => ?_)
    show (Value.int 0) = .int (if n = n then 0 else _)
    rw [if_pos rfl]
  have kk := k p e R s m args below meth c H1 locs (cells + 1) (slots + N) ls Qc C (by omega) (by omega) hl0 (va_SA hS z1 o1) (hP.push hl hf z1 o1 hn) hQ
  rw [List.map_cons, tr_new hP hl] at kk
  exact kk
theorem rn_newL {v : Int32} {N : Nat} (hd : decode M.2.1 pc = .ok (.newarray .long, 2)) (hn0 : ¬ v < 0) (hN : v.toNatClampNeg = N) (hb : N ≤ 1000) (w1 : Cond.arrayClass .long ∈ lw_g) (hl : sh.length = n) (hf : n + 1 < FB) (hsh : sh ++ [.inr (1, N)] = sh')
    (k : Rn G d rc rs M (pc + 2) L (.inr (.inr (some n)) :: S) sh' (zr h n) Q) : Rn G d (rc + 1) (rs + N) M pc L (.inl v :: S) sh h Q := by
  subst hsh
  intro p e R s m args below meth c H locs cells slots ls Qc C h1 h2 hl0 hS hP hQ
  have hts := C.2.2.2.2.1
  have hK := C.2.2.2.2.2.2.2.2.2.2.1
  refine va_newaK (atype := .long) C.1 C.2.1 (hts _ w1) rfl hd rfl hn0 hN (by show N * 8 ≤ _; omega) (by omega) (by omega) rfl fun H1 cA e1 z1 o1 hAr hNm => ?_
  have hcA : gc G 1 = cA := Option.some.inj (((hK.2 1 _ rfl).2).symm.trans hNm)
  subst hcA
  have hn : va_at (gD G) vwCl (gb G + n, cellOf G (zr h n) n (.inr (1, N))) H1 := by
    rw [hP.1, hl] at e1
    show H1[gb G + n]? = some (vp_cell _ _)
    rw [e1, vp_cell_l]
    refine congrArg (fun f => some (arrV (gc G 1) N f)) (funext fun j => ?_)
    show (Value.long 0) = .long (if n = n then 0 else _)
    rw [if_pos rfl]
  have kk := k p e R s m args below meth c H1 locs (cells + 1) (slots + N) ls Qc C (by omega) (by omega) hl0 (va_SA hS z1 o1) (hP.push hl hf z1 o1 hn) hQ
  rw [List.map_cons, tr_new hP hl] at kk
  exact kk
theorem rn_newF {v : Int32} {N idx : Nat} (hd : decode M.2.1 pc = .ok (.anewarray idx, 3)) (hn0 : ¬ v < 0) (hN : v.toNatClampNeg = N) (hb : N ≤ 1000) (w1 : Cond.classLink M.1.cls idx RX2 ∈ lw_g) (w2 : Cond.arrayOver (.object RX2) ∈ lw_n) (hl : sh.length = n) (hf : n + 1 < FB) (hsh : sh ++ [.inr (2, N)] = sh')
    (k : Rn G d rc rs M (pc + 3) L (.inr (.inr (some n)) :: S) sh' (zr h n) Q) : Rn G d (rc + 1) (rs + N) M pc L (.inl v :: S) sh h Q := by
  subst hsh
  subst hN
  intro p e R s m args below meth c H locs cells slots ls Qc C h1 h2 hl0 hS hP hQ
  have hts := C.2.2.2.2.1
  have hK := C.2.2.2.2.2.2.2.2.2.2.1
  have hov : (Cond.arrayOver (.object RX2)).before args s = true := (FOl C).2.2.2.2.2.2 _ w2
  refine W.anew C.1 C.2.1 C.2.2.2.1 (hts _ w1) hov rfl hd rfl hn0 (by omega) (by omega) (by omega) fun cA kA comp f1 f2 f3 f4 => ?_
  obtain ⟨kB, cB, -, -, -, g4⟩ := (hK.2 2 _ rfl).2
  have hcA : gc G 2 = cA := Option.some.inj (g4.symm.trans f1)
  subst hcA
  generalize hH1 : H.push ({ cls := gc G 2, slots := Array.replicate v.toNatClampNeg .null, vm := .none } : Cell) = H1
  have z1 : H1.size = H.size + 1 := by rw [← hH1, Array.size_push]
  have e1 : H1[H.size]? = some (arrV (gc G 2) v.toNatClampNeg (fun _ => .null)) := by rw [← hH1, Array.getElem?_push_size, ← arrV_new]
  have o1 : ∀ q : Nat, q < H.size → H1[q]? = H[q]? := fun q hq => by rw [← hH1, Array.getElem?_push, if_neg (Nat.ne_of_lt hq)]
  have hn : va_at (gD G) vwCl (gb G + n, cellOf G (zr h n) n (.inr (2, v.toNatClampNeg))) H1 := by
    rw [hP.1, hl] at e1
    show H1[gb G + n]? = some (vp_cell _ _)
    rw [e1, vp_cell_q]
    refine congrArg (fun f => some (arrV (gc G 2) v.toNatClampNeg f)) (funext fun j => ?_)
    show Value.null = va_rf (Option.map (adr G) (if n = n then none else _))
    rw [if_pos rfl]
    rfl
  have kk := k p e R s m args below meth c H1 locs (cells + 1) (slots + v.toNatClampNeg) ls Qc C (by omega) (by omega) hl0 (va_SA hS z1 o1) (hP.push hl hf z1 o1 hn) hQ
  rw [List.map_cons, tr_new hP hl] at kk
  exact kk
theorem rn_astF {a v N k0 : Nat} {i : Int32} (hd : decode M.2.1 pc = .ok (.aastore, 1)) (hs : sh[a]? = some (.inr (2, N))) (hv : sh[v]? = some (.inl 2)) (hk : i.toNatClampNeg = k0) (hin : vp_in i N) (kk : Rn G d rc rs M (pc + 1) L S sh (sR h a k0 (some v)) Q) : Rn G d rc rs M pc L (.inr (.inr (some v)) :: .inl i :: .inr (.inr (some a)) :: S) sh h Q := by
  intro p e R s m args below meth c H locs cells slots ls Qc C h1 h2 hl hS hP hQ
  have hE := hP.2.2 a _ hs
  have hV := hP.2.2 v _ hv
  show W _ _ _ _ _ _ _ _ _ _ _ _ _ _ _ (F0 m pc ls (.ref (adr G v) :: .int i :: .ref (adr G a) :: S.map (tr G)))
  rw [adr_lo (hP.lt hs), adr_lo (hP.lt hv)]
  subst hk
  have hK := C.2.2.2.2.2.2.2.2.2.2.1
  have hlt : i.toNatClampNeg < N := Nat.not_le.mp fun q => hin (Or.inr q)
  have h0 : ¬ i < 0 := fun q => hin (Or.inl q)
  obtain ⟨r', hr', cellV, g1, g2, g3, -⟩ := hV
  have hcls := (hK.1 2 (RX2, TX2, 8) rfl).2
  obtain ⟨kA, comp, k1, k2, k3, -⟩ := (hK.2 2 _ rfl).2
  have hcomp : comp = (gD G).1 2 := Option.some.inj (k3.symm.trans hcls.1)
  subst hcomp
  obtain ⟨kC, hkC, -⟩ := hcls.2
  refine W.aast C.1 C.2.1 hE (fun q h => by cases h) (fun h => by cases h) k1 k2 rfl hkC ⟨h0, by show _ < (arrV _ _ _).slots.size; rw [arrV_size]; exact hlt⟩ g1 (fun q h => by rw [g3] at h; cases h) (by rw [g2]; exact hkC) (by rw [g2]; exact va_assign hcls) rfl rfl hd fun H1 e1 z oq => ?_
  refine kk p e R s m args below meth c H1 _ cells slots ls Qc C h1 h2 hl (hS.put z oq (Nat.le_add_right _ _)) (hP.set hs ?_ z oq (fun b hb => sR_off hb)) hQ
  show H1[gb G + a]? = some (vp_cell _ _)
  rw [e1]
  show some ((vp_cell _ _).setSlot _ _) = some (vp_cell _ _)
  rw [vp_cell_q, vp_cell_q, arrV_store]
  congr 2
  funext q
  by_cases hq : q = i.toNatClampNeg
  · subst hq
    simp [updV, sR, va_rf, adr_lo (hP.lt hv)]
  · simp [updV, sR, hq]
/-- an outer row of four and its inner ones -/
def mz (h : Hp) (n : Nat) : Hp := (fun b j => if b < n then h.1 b j else 0, (fun b j => if b < n then h.2.1 b j else 0, fun b j => if b < n then h.2.2 b j else if b = n then (if j < 4 then some (n + 1 + j) else none) else none))
theorem rn_mna {idx : Nat} (hd : decode M.2.1 pc = .ok (.multianewarray idx 2, 4)) (w0 : Cond.classLink M.1.cls idx ("[" ++ (FieldType.array .int).toString) ∈ lw_g) (w1 : Cond.arrayClass .int ∈ lw_g) (w2 : Cond.arrayOver (.array .int) ∈ lw_n) (hl : sh.length = n) (hf : n + 5 < FB) (hsh : sh ++ [.inr (3, 4), .inr (0, 40), .inr (0, 40), .inr (0, 40), .inr (0, 40)] = sh')
    (k : Rn G d rc rs M (pc + 4) L (.inr (.inr (some n)) :: S) sh' (mz h n) Q) : Rn G d (rc + 5) (rs + 164) M pc L (.inl 40 :: .inl 4 :: S) sh h Q := by
  subst hsh
  intro p e R s m args below meth c H locs cells slots ls Qc C h1 h2 hl0 hS hP hQ
  have hts := C.2.2.2.2.1
  have hK := C.2.2.2.2.2.2.2.2.2.2.1
  have hov : (Cond.arrayOver (.array .int)).before args s = true := (FOl C).2.2.2.2.2.2 _ w2
  refine w_mna C.1 C.2.1 C.2.2.2.1 (hts _ w0) hov (hts _ w1) (N := 4) (K := 40) (z := gb G + n) (by decide) (by decide) (by decide) (by decide) (by omega) (by omega) (by omega) (by omega) (by rw [hP.1, hl]) hd fun H1 cA cI f1 f2 z1 o1 e1 e2 => ?_
  have hcA : gc G 3 = cA := Option.some.inj (((hK.2 3 _ rfl).2).symm.trans f1)
  subst hcA
  have hcI : gc G 0 = cI := Option.some.inj (((hK.2 0 _ rfl).2).symm.trans f2)
  subst hcI
  have hz : H.size = gb G + n := by rw [hP.1, hl]
  rw [← hz] at o1
  have z2 : H1.size = H.size + 5 := by rw [z1, hz]
  have hP1 : Pw G (sh ++ [.inr (3, 4), .inr (0, 40), .inr (0, 40), .inr (0, 40), .inr (0, 40)]) (mz h n) H1 := by
    refine hP.app (by rw [hl]; exact hf) z2 o1 (fun b hb => ?_) (fun i e' he => ?_)
    · have hb2 : b < n := by omega
      exact ⟨by funext j; simp [mz, hb2], by funext j; simp [mz, hb2], by funext j; simp [mz, hb2]⟩
    · have hi : i < 5 := (List.getElem?_eq_some_iff.mp he).1
      rw [hl]
      have row : ∀ j, j < 4 → va_at (gD G) vwCl (gb G + (n + (1 + j)), cellOf G (mz h n) (n + (1 + j)) (.inr (0, 40))) H1 := fun j hj => by
        have e3 := e2 j hj
        show H1[gb G + (n + (1 + j))]? = some (vp_cell _ _)
        rw [show gb G + (n + (1 + j)) = gb G + n + 1 + j by omega, e3, vp_cell_i]
        refine congrArg (fun f => some (arrV (gc G 0) 40 f)) (funext fun t => ?_)
        show (Value.int 0) = .int (if n + (1 + j) < n then _ else 0)
        rw [if_neg (by omega)]
      match i, hi with
      | 0, _ =>
        cases he
        show H1[gb G + n]? = some (vp_cell _ _)
        rw [e1, vp_cell_q]
        refine congrArg (fun f => some (arrV (gc G 3) 4 f)) (funext fun j => ?_)
        show va_rf (if j < 4 then some (gb G + n + 1 + j) else none) = va_rf (Option.map (adr G) (if n < n then _ else if n = n then (if j < 4 then some (n + 1 + j) else none) else none))
        rw [if_neg (show ¬ n < n by omega), if_pos rfl]
        by_cases hj : j < 4
        · rw [if_pos hj, if_pos hj]
          show va_rf _ = va_rf (some (adr G (n + 1 + j)))
          rw [adr_lo (by omega), show gb G + n + 1 + j = gb G + (n + 1 + j) by omega]
        · rw [if_neg hj, if_neg hj]
          rfl
      | 1, _ => cases he; exact row 0 (by omega)
      | 2, _ => cases he; exact row 1 (by omega)
      | 3, _ => cases he; exact row 2 (by omega)
      | 4, _ => cases he; exact row 3 (by omega)
  have kk := k p e R s m args below meth c H1 locs (cells + 1 + 4) (slots + 4 + 4 * 40) ls Qc C (by omega) (by omega) hl0 (va_SA hS z2 o1) hP1 hQ
  rw [List.map_cons, tr_new hP hl, hz] at kk
  exact kk
end
