/-! THE FRAME: a small heap picture (ints, longs, references by place), the judgements Rn (from an instruction on) and Ev (a call), a row an instruction -/
abbrev MV : Type := Int32 ⊕ (Int64 ⊕ Option Nat)
abbrev Sh : Type := Nat ⊕ (Nat × Nat)
abbrev Hp : Type := (Nat → Nat → Int32) × ((Nat → Nat → Int64) × (Nat → Nat → Option Nat))
abbrev MR : Type := MethodName × (ByteArray × (Nat × Option FieldType))
abbrev GT : Type := Launch × (Nat × ((Nat → Nat) × (va_G × ((Nat → ClassId) × ((Nat → Int32) × Nat)))))
def gl (G : GT) : Launch := G.1
def gb (G : GT) : Nat := G.2.1
def ga (G : GT) : Nat → Nat := G.2.2.1
def gD (G : GT) : va_G := G.2.2.2.1
def gc (G : GT) : Nat → ClassId := G.2.2.2.2.1
def gx (G : GT) : Nat → Int32 := G.2.2.2.2.2.1
def gn (G : GT) : Nat := G.2.2.2.2.2.2
def FB : Nat := 1000000
/-- the tables' words that may be carried into a callee -/
def lw_g : List Cond := lw_tbl.filter goodWord
theorem lg_in {w : Cond} (h : w ∈ lw_tbl) (g : goodWord w = true) : w ∈ lw_g := List.mem_filter.mpr ⟨h, g⟩
def adr (G : GT) (i : Nat) : Nat := if i < FB then gb G + i else ga G (i - FB)
def tr (G : GT) (v : MV) : Value := match v with
  | .inl x => .int x
  | .inr (.inl x) => .long x
  | .inr (.inr r) => va_rf (r.map (adr G))
def catM (v : MV) : Nat := match v with
  | .inl _ => 1
  | .inr (.inl _) => 2
  | .inr (.inr _) => 1
theorem tr_cat (G : GT) (v : MV) : (tr G v).category = catM v := by
  rcases v with x | x | r
  · rfl
  · rfl
  · cases r <;> rfl
def fc (ci : Nat) : List Nat := match ci with
  | 0 => [2, 0, 0, 0, 0]
  | 1 => [0, 2, 0, 0, 0]
  | 2 => [2, 2, 2, 0, 0, 0, 0, 0]
  | 3 => [2, 0, 2, 0]
  | 4 => [2, 0, 0, 0, 2, 0, 2, 0, 0]
  | 5 => [2, 2, 0, 0, 2]
  | 6 => [1, 1, 2, 2, 2, 2]
  | 7 => [2, 2, 2]
  | 8 => [0, 2, 2, 2, 0, 2, 2, 2, 2, 2, 2, 2, 2, 0, 2, 0, 0]
  | 9 => [2, 2, 0]
  | 10 => [2, 2, 0, 2, 2, 2, 2, 2, 2, 2, 2, 2]
  | 11 => [2, 2, 2, 0, 2, 0, 0, 0, 0, 0, 0, 2, 2, 0, 2, 2, 2, 0, 0, 0, 2, 2, 2, 0, 2, 2, 2, 2, 2, 2, 0, 2, 0, 0, 2, 2, 2, 2]
  | _ => []
def fvM (h : Hp) (a k t : Nat) : MV := match t with
  | 0 => .inl (h.1 a k)
  | 1 => .inr (.inl (h.2.1 a k))
  | _ => .inr (.inr (h.2.2 a k))
def fvs (G : GT) (h : Hp) (a ci : Nat) : List Value := (List.range (fc ci).length).map (fun k => tr G (fvM h a k ((fc ci).getD k 0)))
def aty (t : Nat) : FieldType := match t with
  | 0 => .int
  | 1 => .long
  | 2 => .object RX2
  | _ => .array .int
def cellOf (G : GT) (h : Hp) (a : Nat) (e : Sh) : va_E := match e with
  | .inl ci => .inr (ci, fvs G h a ci)
  | .inr (0, n) => .inl (gc G 0, n, .inl (h.1 a))
  | .inr (1, n) => .inl (gc G 1, n, .inr (.inl (h.2.1 a)))
  | .inr (t, n) => .inl (gc G t, n, .inr (.inr (.inr (.inr fun j => (h.2.2 a j).map (adr G)))))
def tysL (G : GT) : List (ClassId × FieldType) := [(gc G 0, .int), (gc G 1, .long), (gc G 2, .object RX2), (gc G 3, .array .int)]
def Pic (G : GT) (sh : List Sh) (h : Hp) (H : Heap) : Prop := ∀ (a : Nat) (e : Sh), sh[a]? = some e → va_at (gD G) vwCl (gb G + a, cellOf G h a e) H
def Pw (G : GT) (sh : List Sh) (h : Hp) (H : Heap) : Prop := H.size = gb G + sh.length ∧ sh.length < FB ∧ Pic G sh h H
def gA (G : GT) : Nat → Prop := fun q => gb G ≤ q
/-- the links to private members of a nest mate; the array classes over a class -/
def isNest (w : Cond) : Bool := match w with
  | .methodLinkNest _ _ _ _ => true
  | .arrayOver _ => true
  | _ => false
def lw_n : List Cond := lw_tbl.filter isNest
theorem ln_in {w : Cond} (h : w ∈ lw_tbl) (g : isNest w = true) : w ∈ lw_n := List.mem_filter.mpr ⟨h, g⟩
def NW (U : State) : Prop := ∀ w ∈ lw_n, va_Nw w U
theorem NW.moved {s U : State} (hW : s.WarmedH U.vm) (h : NW s) : NW U := by
  intro w hw
  have h1 := h w hw
  have h2 := (List.mem_filter.mp hw).2
  cases w with
  | methodLinkNest a i x b => exact va_Nw.warmM hW h1
  | arrayOver ty => exact ao_moved hW.alike h1
  | _ => simp [isNest] at h2
theorem NW.of {args : Array Value} {s : State} (h : ∀ w ∈ lw_tbl, w.before args s = true) : NW s := by
  intro w hw
  have h1 := h w (List.mem_filter.mp hw).1
  have h2 := (List.mem_filter.mp hw).2
  cases w with
  | methodLinkNest a i x b => exact va_Nw.of rfl h1
  | arrayOver ty => exact h1
  | _ => simp [isNest] at h2
def BODY : List Int32 := [10, 11, 12, 13, 0, 20, 0, 0, 30, 0, 0, 0, 0, 0, 40, 0, 0, 50, 0, 0, 0, 0, 0, 60, 0, 0, 70, 71]
def STR1 : List Int32 := [119, 108, 104]
def STR2 : List Int32 := [108, 115, 109]
def strO (G : GT) (k v : Nat) (U : State) (H : Heap) : Prop := va_O "java/lang/String" (ga G k) (gA G) U H ∧ va_OF "java/lang/String" "coder" "B" (.int 0) (ga G k) (gA G) U H ∧ va_OF "java/lang/String" "value" "[B" (.ref (ga G v)) (ga G k) (gA G) U H
/-- what lies outside the world: the script, the class's table of bodies, two texts -/
def FO (G : GT) (U : State) (H : Heap) : Prop :=
  va_T .int (ga G 0) (gn G) (fun j => .int (gx G j)) (gA G) U H ∧
  (va_Z "PailSpeech$Chorus" "BODIES" "[I" (.ref (ga G 1)) (gA G) U H ∧ va_T .int (ga G 1) 28 (fun j => .int (BODY.getD j 0)) (gA G) U H) ∧
  (strO G 2 4 U H ∧ va_T .byte (ga G 4) 3 (fun j => .int (STR1.getD j 0)) (gA G) U H) ∧
  (strO G 3 5 U H ∧ va_T .byte (ga G 5) 3 (fun j => .int (STR2.getD j 0)) (gA G) U H) ∧
  va_Z "java/lang/String" "COMPACT_STRINGS" "Z" (.int 1) (gA G) U H ∧
  (vk_R RX6 18 "wlh" (ga G 2) U ∧ vk_R RX6 35 "lsm" (ga G 3) U) ∧ NW U
theorem FO.moved {G : GT} {u U : State} {H : Heap} (hv : u.vm.Alike U.vm) (hW : u.WarmedH U.vm) (h : FO G u H) : FO G U H := by
  obtain ⟨h1, ⟨h2, h3⟩, ⟨⟨h4, h5, h6⟩, h7⟩, ⟨⟨h8, h9, ha⟩, hb⟩, hc, ⟨hd, he⟩, hnw⟩ := h
  exact ⟨h1.moved hv, ⟨h2.moved hv, h3.moved hv⟩, ⟨⟨h4.moved hv, h5.moved hv, h6.moved hv⟩, h7.moved hv⟩, ⟨⟨h8.moved hv, h9.moved hv, ha.moved hv⟩, hb.moved hv⟩, hc.moved hv, ⟨vk_R.warm hW hd, vk_R.warm hW he⟩, hnw.moved hW⟩
theorem FO.kept {G : GT} {U : State} {H H1 : Heap} (h : FO G U H) (hq : ∀ a : Nat, a < H.size → ¬ gA G a → H1[a]? = H[a]?) : FO G U H1 := by
  obtain ⟨h1, ⟨h2, h3⟩, ⟨⟨h4, h5, h6⟩, h7⟩, ⟨⟨h8, h9, ha⟩, hb⟩, hc, ⟨hd, he⟩, hnw⟩ := h
  exact ⟨h1.kept hq, ⟨h2.kept hq, h3.kept hq⟩, ⟨⟨h4.kept hq, h5.kept hq, h6.kept hq⟩, h7.kept hq⟩, ⟨⟨h8.kept hq, h9.kept hq, ha.kept hq⟩, hb.kept hq⟩, hc.kept hq, ⟨hd, he⟩, hnw⟩
def Cx (G : GT) (M : MR) (d : Nat) (p : Program) (R : Room) (s : State) (m : MethodId) (args : Array Value) (meth : Method) (c : Code) : Prop :=
  p.tables.exec = Jvm.exec ∧ c.code = M.2.1 ∧ c.maxLocals = M.2.2.1 ∧ s.vm.findClass M.1.cls = some m.cls ∧ (∀ w ∈ lw_g, w.before args s = true) ∧ meth.sig.returnType = M.2.2.2 ∧ meth.locks = false ∧ meth.name = M.1.name ∧ d ≤ R.frames ∧ 40 * d + 40 ≤ R.locals ∧ va_K (gD G) vwCl (tysL G) s ∧ FO G s s.heap
def Rn (G : GT) (d rc rs : Nat) (M : MR) (pc : Nat) (L : List (Nat × MV)) (S : List MV) (sh : List Sh) (h : Hp) (Q : Option MV → List Sh → Hp → Prop) : Prop :=
  ∀ (p : Program) (e : Env) (R : Room) (s : State) (m : MethodId) (args : Array Value) (below : List Frame) (meth : Method) (c : Code) (H : Heap) (locs : List Loc) (cells slots : Nat) (ls : Array Slot) (Qc : Array Value → State → Outcome → State → Prop),
    Cx G M d p R s m args meth c → cells + rc ≤ R.cells → slots + rs ≤ R.slots → lv_has ls M.2.2.1 (L.map fun q => (q.1, tr G q.2)) → va_S (gA G) s.heap H locs → Pw G sh h H →
    (∀ (v : Option MV) (sh' : List Sh) (h' : Hp) (t : State), Q v sh' h' → va_F (gA G) s t → Pw G sh' h' t.heap → Qc args s (.returned (v.map (tr G))) t) →
    W p (gl G) e R s m args below meth c H locs cells slots (MQ below Qc args s R.cells R.slots (gA G)) (F0 m pc ls (S.map (tr G)))
def wsM (M : MR) : List Cond := Cond.code M.1 M.2.1 M.2.2.1 M.2.2.2 :: lw_g
def rmM (d mc ms : Nat) : Room := { frames := d, cells := mc, slots := ms, locals := 40 * d + 40 }
def PcE (G : GT) (sh : List Sh) (h : Hp) : State → Prop := fun U => Pw G sh h U.heap ∧ va_K (gD G) vwCl (tysL G) U ∧ FO G U U.heap
def QcE (G : GT) (Q : Option MV → List Sh → Hp → Prop) : Array Value → State → Outcome → State → Prop := fun _ st o t => ∃ (v : Option MV) (sh' : List Sh) (h' : Hp), o = .returned (v.map (tr G)) ∧ Q v sh' h' ∧ va_F (gA G) st t ∧ Pw G sh' h' t.heap
def Ev (G : GT) (d mc ms : Nat) (M : MR) (av : List MV) (sh : List Sh) (h : Hp) (Q : Option MV → List Sh → Hp → Prop) : Prop :=
  Met (gl G) M.1 (wsM M) (rmM d mc ms) (va_Pc (av.map (tr G)) (PcE G sh h)) (QcE G Q) mc ms (gA G)
