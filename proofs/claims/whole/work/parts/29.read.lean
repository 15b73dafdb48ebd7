/-! THE CLASS's READER -/
/-- at a place i, with the steps p so far, and so many places to spare -/
def CR (B : Nat → Int32) (n u s i : Nat) (p : List Int32) (h : Hp) : Prop :=
  RF h ∧ h.2.2 45 1 = some 19 ∧ h.2.2 45 4 = some (FB + 2 + u) ∧ h.1 45 2 = nI n ∧ h.1 45 3 = nI i ∧ (∀ j, j < n → h.1 19 j = B j) ∧ h.1 46 2 = nI p.length ∧ (∀ j, j < p.length → h.1 47 j = p.getD j 0) ∧ i ≤ n ∧ p.length + s ≤ i
def CM (h h' : Hp) : Prop := RF h' ∧ h'.2 = h.2 ∧ ∀ a, a ≠ 45 → a ≠ 46 → a ≠ 47 → h'.1 a = h.1 a
theorem CM.refl {h : Hp} (hR : RF h) : CM h h := ⟨hR, rfl, fun _ _ _ _ => rfl⟩
theorem CM.trans {h h1 h2 : Hp} (a : CM h h1) (b : CM h1 h2) : CM h h2 := ⟨b.1, b.2.1.trans a.2.1, fun x p q r => (b.2.2 x p q r).trans (a.2.2 x p q r)⟩
theorem CM.s {h : Hp} {a k : Nat} {v : Int32} (hR : RF h) (ha : a = 45 ∨ a = 46 ∨ a = 47) : CM h (sI h a k v) := ⟨hR, rfl, fun b h1 h2 h3 => by funext j; exact sI_ne (by omega)⟩
def bI (ok : Bool) : Int32 := match ok with
  | true => 1
  | false => 0
theorem bI_1 {ok : Bool} (h : ¬ bI ok = 0) : ok = true := by
  cases ok with
  | true => rfl
  | false => exact absurd rfl h
theorem bI_0 {ok : Bool} (h : bI ok = 0) : ok = false := by
  cases ok with
  | true => exact absurd h (by decide)
  | false => rfl
section
variable {B : Nat → Int32} {n u s i : Nat} {p : List Int32} {h : Hp}
theorem CR.go (C : CR B n u s i p h) (hi : i < n) : CR B n u (s + 1) (i + 1) p (sI h 45 3 (nI (i + 1))) := by
  obtain ⟨c0, c1, c2, c3, c4, c5, c6, c7, c8, c9⟩ := C
  refine ⟨c0, c1, c2, ?_, sI_self _ _ _ _, fun j hj => ?_, ?_, fun j hj => ?_, by omega, by omega⟩
  · rw [sI_ne (by omega)]; exact c3
  · rw [sI_ne (by omega)]; exact c5 j hj
  · rw [sI_ne (by omega)]; exact c6
  · rw [sI_ne (by omega)]; exact c7 j hj
theorem CR.le {t : Nat} (C : CR B n u s i p h) (ht : t ≤ s) : CR B n u t i p h := by
  obtain ⟨c0, c1, c2, c3, c4, c5, c6, c7, c8, c9⟩ := C
  exact ⟨c0, c1, c2, c3, c4, c5, c6, c7, c8, by omega⟩
theorem CR.e3 (C : CR B n u s i p h) : h.1 45 3 + 1 = nI (i + 1) := by rw [C.2.2.2.2.1]; exact nI_1 i
end
section
variable {G : GT} {d : Nat} {h : Hp} {Q : Int32 → Hp → Prop} {QW : Hp → Prop} {B : Nat → Int32} {n u s i o : Nat} {p : List Int32}
theorem ev_next (C : CR B n u s i p h) (hd : 2 ≤ d) (hn : n ≤ 50) (k : Q (byt B n i) h) : EvI G d mX6_next [.inr (.inr (some 45))] h Q := by
  obtain ⟨e, rfl⟩ := dpos (show 1 ≤ d by omega)
  obtain ⟨c0, c1, c2, c3, c4, c5, c6, c7, c8, c9⟩ := C
  refine vc_X6_next c0 ⟨c1, fun z => ?_, fun z => ⟨c1, ?_⟩⟩
  · rw [c3, c4, i_le, ti_nI (by omega), ti_nI (by omega)] at z
    unfold byt at k
    rw [if_neg (by omega)] at k
    exact k
  · rw [c3, c4, i_le, ti_nI (by omega), ti_nI (by omega)] at z
    have e1 : (h.1 45 3).toInt = (i : Int) := by rw [c4, ti_nI (by omega)]
    refine ev_within c0 (by omega) (br2 (fun _ => ⟨c1, in_of (by omega) (by omega), ?_⟩) (fun q => absurd ⟨?_, ?_⟩ q))
    · rw [cl_of e1, c5 i (by omega)]
      unfold byt at k
      rw [if_pos (by omega)] at k
      exact k
    · rw [e1]; show (0 : Int) ≤ _; omega
    · rw [e1]; show _ ≤ (49 : Int); omega
theorem ev_add {x : Int32} (C : CR B n u (s + 1) i p h) (hd : 2 ≤ d) (hn : n ≤ 50) (k : ∀ h', CM h h' → CR B n u s i (p ++ [x]) h' → QW h') : EvV G d mX10_add [.inr (.inr (some 46)), .inl x] h QW := by
  obtain ⟨e, rfl⟩ := dpos (show 1 ≤ d by omega)
  obtain ⟨c0, c1, c2, c3, c4, c5, c6, c7, c8, c9⟩ := C
  have e1 : (h.1 46 2).toInt = (p.length : Int) := by rw [c6, ti_nI (by omega)]
  refine vc_X10_add rfl c0 (ev_within c0 (by omega) (br2 (fun _ => ⟨in_of (by omega) (by omega), ?_⟩) (fun q => absurd ⟨?_, ?_⟩ q)))
  · rw [cl_of e1, sI_ne (by omega), c6, nI_1]
    refine k _ ((CM.s c0 (by omega)).trans (CM.s (RF_sI c0) (by omega))) ⟨c0, c1, c2, ?_, ?_, fun j hj => ?_, ?_, fun j hj => ?_, c8, by rw [List.length_append]; show p.length + 1 + s ≤ i; omega⟩
    · rw [sI_ne (by omega), sI_ne (by omega)]; exact c3
    · rw [sI_ne (by omega), sI_ne (by omega)]; exact c4
    · rw [sI_ne (by omega), sI_ne (by omega)]; exact c5 j hj
    · rw [sI_self, List.length_append]; rfl
    · rw [List.length_append] at hj
      have hj' : j < p.length + 1 := hj
      rw [sI_ne (by omega), List.getD_eq_getElem?_getD, List.getElem?_append]
      by_cases hc : j < p.length
      · rw [sI_ne (by omega), if_pos hc, c7 j hc, List.getD_eq_getElem?_getD]
      · have : j = p.length := by omega
        subst this
        rw [show 46 + 1 = 47 from rfl, sI_self, if_neg hc, Nat.sub_self]
        rfl
  · rw [e1]; show (0 : Int) ≤ _; omega
  · rw [e1]; show _ ≤ (49 : Int); omega
theorem ev_isDigit {x : Int32} (hR : RF h) (hd : 2 ≤ d) (k : Q (b2 (48 ≤ x.toInt ∧ x.toInt ≤ 57)) h) : EvI G d mX6_isDigit [.inl x] h Q := by
  obtain ⟨e, rfl⟩ := dpos (show 1 ≤ d by omega)
  exact vc_X6_isDigit hR (ev_within hR (by omega) ⟨b2_nar, k⟩)
theorem ev_indexOf {c : Int32} (hR : RF h) (hd : 6 ≤ d) (hu : u < 2) (hc : 0 ≤ c.toInt ∧ c.toInt ≤ 255) (k : Q (nmI u c) h) : EvI G d mJ0_indexOf_0f7a4 [.inr (.inr (some (FB + 2 + u))), .inl c] h Q := by
  exact ev_idx1 hR hd hu hc k
def CallC (G : GT) (d lv o : Nat) (h : Hp) (Q : Int32 → Hp → Prop) : Prop := match lv with
  | 0 => EvI G d mX6_readT [.inr (.inr (some 45)), .inl (nI o)] h Q
  | 1 => EvI G d mX6_readA [.inr (.inr (some 45)), .inl (nI o)] h Q
  | 2 => EvI G d mX6_readB [.inr (.inr (some 45)), .inl (nI o)] h Q
  | 3 => EvI G d mX6_readS [.inr (.inr (some 45)), .inl (nI o)] h Q
  | 4 => EvI G d mX6_readP [.inr (.inr (some 45)), .inl (nI o)] h Q
  | _ => EvI G d mX6_readQ [.inr (.inr (some 45)), .inl (nI o)] h Q
def LoopC (G : GT) (d l o t : Nat) (h : Hp) (Q : Int32 → Hp → Prop) : Prop := match l with
  | 0 => Rg_X6_readT_17 G d (nI o) (nI t) h Q
  | 1 => Rg_X6_readA_12 G d (nI o) (nI t) h Q
  | 3 => Rg_X6_readS_12 G d (nI o) (nI t) h Q
  | 4 => Rg_X6_readP_12 G d (nI o) (nI t) h Q
  | _ => True
theorem callC_of {lv : Nat} (hlv : lvB lv) (ho : o ≤ 5) (hR : RF h) (k : CallC G d (lv + 1) o h (fun x h1 => (¬ x = 0 → LoopC G d lv o 0 h1 Q) ∧ (x = 0 → Q 0 h1))) : CallC G (d + 1) lv o h Q := by
  rcases hlv with rfl | rfl | rfl | rfl
  · refine vc_X6_readT hR ⟨fun z => ?_, fun _ => k⟩
    rw [i_lt, ti_nI (by omega)] at z
    exact absurd z (by show ¬ (5 : Int) < _; omega)
  · exact vc_X6_readA hR k
  · exact vc_X6_readS hR k
  · exact vc_X6_readP hR k
theorem loopC_end {lv t : Nat} (hlv : lvB lv) (hR : RF h) (ht : t = 50) (k : Q 1 h) : LoopC G d lv o t h Q := by
  subst ht
  rcases hlv with rfl | rfl | rfl | rfl
  · exact vc_X6_readT_17 hR ⟨fun _ => k, fun z => absurd (by decide) z⟩
  · exact vc_X6_readA_12 hR ⟨fun _ => k, fun z => absurd (by decide) z⟩
  · exact vc_X6_readS_12 hR ⟨fun _ => k, fun z => absurd (by decide) z⟩
  · exact vc_X6_readP_12 hR ⟨fun _ => k, fun z => absurd (by decide) z⟩
theorem t50 {t : Nat} (ht : t < 50) {A : Prop} (z : 50 ≤ nI t) : A := by
  rw [i_le, ti_nI (by omega)] at z
  exact absurd z (by show ¬ (50 : Int) ≤ _; omega)
theorem loopC_stop {lv t : Nat} (hlv : lvB lv) (ht : t < 50) (C : CR B n u s i p h) (hd : 2 ≤ d) (hn : n ≤ 50) (hno : ¬ opL lv (byt B n i)) (k : Q 1 h) : LoopC G d lv o t h Q := by
  unfold opL at hno
  rcases hlv with rfl | rfl | rfl | rfl
  · exact vc_X6_readT_17 C.1 ⟨t50 ht, fun _ => ev_next C hd hn ⟨fun _ => k, fun z => absurd (Or.inl ⟨rfl, z⟩) hno⟩⟩
  · exact vc_X6_readA_12 C.1 ⟨t50 ht, fun _ => ev_next C hd hn ⟨fun _ => k, fun z => absurd (Or.inr (Or.inl ⟨rfl, z⟩)) hno⟩⟩
  · exact vc_X6_readS_12 C.1 ⟨t50 ht, fun _ => ev_next C hd hn ⟨fun z => absurd (Or.inr (Or.inr (Or.inl ⟨rfl, Or.inl z⟩))) hno, fun _ => ev_next C hd hn ⟨fun _ => k, fun z => absurd (Or.inr (Or.inr (Or.inl ⟨rfl, Or.inr z⟩))) hno⟩⟩⟩
  · exact vc_X6_readP_12 C.1 ⟨t50 ht, fun _ => ev_next C hd hn ⟨fun z => absurd (Or.inr (Or.inr (Or.inr ⟨rfl, Or.inl z⟩))) hno, fun _ => ev_next C hd hn ⟨fun z => absurd (Or.inr (Or.inr (Or.inr ⟨rfl, Or.inr (Or.inl z)⟩))) hno, fun _ => ev_next C hd hn ⟨fun _ => k, fun z => absurd (Or.inr (Or.inr (Or.inr ⟨rfl, Or.inr (Or.inr z)⟩))) hno⟩⟩⟩⟩
theorem loopC_go {lv t : Nat} (ht : t < 50) (C : CR B n u s i p h) (hd : 2 ≤ d) (hn : n ≤ 50) (hop : opL lv (byt B n i)) (k : CallC G d (lv + 1) o (sI h 45 3 (nI (i + 1))) (fun x h1 => (¬ x = 0 → EvV G d mX10_add [.inr (.inr (some 46)), .inl (-byt B n i)] h1 (fun h2 => LoopC G d lv o (t + 1) h2 Q)) ∧ (x = 0 → Q 0 h1))) : LoopC G d lv o t h Q := by
  unfold opL at hop
  have e3 := C.e3
  have et : nI t + 1 = nI (t + 1) := nI_1 t
  rcases hop with ⟨rfl, hx⟩ | ⟨rfl, hx⟩ | ⟨rfl, hx⟩ | ⟨rfl, hx⟩
  · refine vc_X6_readT_17 C.1 ⟨t50 ht, fun _ => ev_next C hd hn ⟨fun z => absurd hx z, fun _ => ?_⟩⟩
    rw [e3, et]
    rw [hx] at k
    exact k
  · refine vc_X6_readA_12 C.1 ⟨t50 ht, fun _ => ev_next C hd hn ⟨fun z => absurd hx z, fun _ => ?_⟩⟩
    rw [e3, et]
    rw [hx] at k
    exact k
  · refine vc_X6_readS_12 C.1 ⟨t50 ht, fun _ => ev_next C hd hn ?_⟩
    rcases hx with hx | hx
    · refine ⟨fun _ => ev_next C hd hn ?_, fun z => absurd hx z⟩
      rw [e3, et]
      exact k
    · refine ⟨fun z => by rw [hx] at z; exact absurd z (by decide), fun _ => ev_next C hd hn ⟨fun z => absurd hx z, fun _ => ev_next C hd hn ?_⟩⟩
      rw [e3, et]
      exact k
  · refine vc_X6_readP_12 C.1 ⟨t50 ht, fun _ => ev_next C hd hn ?_⟩
    rcases hx with hx | hx | hx
    · refine ⟨fun _ => ev_next C hd hn ?_, fun z => absurd hx z⟩
      rw [e3, et]
      exact k
    · refine ⟨fun z => by rw [hx] at z; exact absurd z (by decide), fun _ => ev_next C hd hn ⟨fun _ => ev_next C hd hn ?_, fun z => absurd hx z⟩⟩
      rw [e3, et]
      exact k
    · refine ⟨fun z => by rw [hx] at z; exact absurd z (by decide), fun _ => ev_next C hd hn ⟨fun z => by rw [hx] at z; exact absurd z (by decide), fun _ => ev_next C hd hn ⟨fun z => absurd hx z, fun _ => ev_next C hd hn ?_⟩⟩⟩
      rw [e3, et]
      exact k
/-- the clauses hold of what is derived -/
theorem der_cl {b : Nat → Int32} : DCl b u (Der b u) :=
  ⟨fun _ _ _ _ h1 h2 R r => r.1 _ _ _ _ h1 h2,
   fun _ _ _ h1 R r => r.2.1 _ _ _ h1,
   fun _ _ _ h1 h2 h3 h4 R r => r.2.2.1 _ _ _ h1 h2 h3 h4,
   fun _ _ h1 R r => r.2.2.2.1 _ _ h1,
   fun _ _ _ _ _ h1 h2 D R r => r.2.2.2.2.1 _ _ _ _ _ h1 h2 (D R r),
   fun _ _ _ _ _ h1 h2 D R r => r.2.2.2.2.2.1 _ _ _ _ _ h1 h2 (D R r),
   fun _ _ _ _ _ h1 h2 D R r => r.2.2.2.2.2.2.1 _ _ _ _ _ h1 h2 (D R r),
   fun _ _ _ _ _ h1 h2 D h3 R r => r.2.2.2.2.2.2.2.1 _ _ _ _ _ h1 h2 (D R r) h3,
   fun _ _ _ _ _ h1 h2 D h3 R r => r.2.2.2.2.2.2.2.2.1 _ _ _ _ _ h1 h2 (D R r) h3,
   fun _ _ _ _ _ _ h1 D R r => r.2.2.2.2.2.2.2.2.2.1 _ _ _ _ _ _ h1 (D R r),
   fun _ _ _ _ _ _ _ _ _ h1 D E R r => r.2.2.2.2.2.2.2.2.2.2.1 _ _ _ _ _ _ _ _ _ h1 (D R r) (E R r),
   fun _ _ _ _ h1 h2 R r => r.2.2.2.2.2.2.2.2.2.2.2.1 _ _ _ _ h1 h2,
   fun _ _ _ _ _ _ h1 D R r => r.2.2.2.2.2.2.2.2.2.2.2.2.1 _ _ _ _ _ _ h1 (D R r),
   fun _ _ _ _ _ _ _ _ _ h1 D E R r => r.2.2.2.2.2.2.2.2.2.2.2.2.2.1 _ _ _ _ _ _ _ _ _ h1 (D R r) (E R r),
   fun _ _ _ _ _ D R r => r.2.2.2.2.2.2.2.2.2.2.2.2.2.2.1 _ _ _ _ _ (D R r),
   fun _ _ _ _ _ D h1 h2 h3 R r => r.2.2.2.2.2.2.2.2.2.2.2.2.2.2.2.1 _ _ _ _ _ (D R r) h1 h2 h3,
   fun _ _ _ _ _ _ _ D h1 E R r => r.2.2.2.2.2.2.2.2.2.2.2.2.2.2.2.2.1 _ _ _ _ _ _ _ (D R r) h1 (E R r),
   fun _ _ _ _ _ _ _ D h1 E R r => r.2.2.2.2.2.2.2.2.2.2.2.2.2.2.2.2.2 _ _ _ _ _ _ _ (D R r) h1 (E R r)⟩
/-- where a reading of a level comes to -/
def EndC (B : Nat → Int32) (n u s lv o i : Nat) (p : List Int32) (h : Hp) (Q : Int32 → Hp → Prop) : Prop :=
  ∀ ok i' p' h', Der (byt B n) u lv o i p ok i' p' → CM h h' → CR B n u s i' p' h' → i ≤ i' → Q (bI ok) h'
theorem rg_loopC {lv : Nat} (hlv : lvB lv) (hd : 2 ≤ d) (hn : n ≤ 50) (HC : ∀ s i p h Q, CR B n u s i p h → EndC B n u s (lv + 1) o i p h Q → CallC G d (lv + 1) o h Q) : ∀ (m t s i : Nat) (p : List Int32) (h : Hp) (Q : Int32 → Hp → Prop), t + m = 50 → t ≤ i → CR B n u s i p h → EndC B n u s (lv + 10) o i p h Q → LoopC G d lv o t h Q := by
  intro m
  induction m with
  | zero =>
    intro t s i p h Q ht hi C E
    refine loopC_end hlv C.1 (by omega) ?_
    have c8 := C.2.2.2.2.2.2.2.2.1
    refine E true i p h (der_cl.2.2.2.2.2.2.2.2.2.2.2.1 _ _ _ _ hlv ?_) (CM.refl C.1) C (Nat.le_refl _)
    intro hop
    exact (opL_S hop).2.2 (if_neg (by omega))
  | succ m ih =>
    intro t s i p h Q ht hi C E
    by_cases hop : opL lv (byt B n i)
    · have hin : i < n := byt_lt (opL_S hop).2.2
      refine loopC_go (by omega) C hd hn hop (HC (s + 1) (i + 1) p _ _ (C.go hin) (fun ok i' p' h' D m1 C1 hle => ⟨fun z => ?_, fun z => ?_⟩))
      · have := bI_1 z
        subst this
        refine ev_add C1 hd hn (fun h2 m2 C2 => ih (t + 1) s i' _ h2 Q (by omega) (by omega) C2 (fun ok2 i2 p2 h3 D2 m3 C3 hle2 => ?_))
        exact E ok2 i2 p2 h3 (der_cl.2.2.2.2.2.2.2.2.2.2.2.2.2.1 _ _ _ _ _ _ _ _ _ hop D D2) ((((CM.s C.1 (by omega)).trans m1).trans m2).trans m3) C3 (by omega)
      · have := bI_0 z
        subst this
        exact E false i' p' h' (der_cl.2.2.2.2.2.2.2.2.2.2.2.2.1 _ _ _ _ _ _ hop D) ((CM.s C.1 (by omega)).trans m1) (C1.le (by omega)) (by omega)
    · exact loopC_stop hlv (by omega) C hd hn hop (E true i p h (der_cl.2.2.2.2.2.2.2.2.2.2.2.1 _ _ _ _ hlv hop) (CM.refl C.1) C (Nat.le_refl _))
theorem rg_num (hd : 2 ≤ d) (hn : n ≤ 50) : ∀ (k j i s : Nat) (v : Int32) (h : Hp), j + k = 4 → CR B n u (if j = 0 then s else s + 1) i p h → (j = 0 → isDg (byt B n i)) → (∀ h', CM h h' → CR B n u s (dgR (byt B n) k i v).1 (p ++ [(dgR (byt B n) k i v).2]) h' → i ≤ (dgR (byt B n) k i v).1 → QW h') → Rg_X6_readNumber_4 G d v (nI j) h QW := by
  intro k
  induction k with
  | zero =>
    intro j i s v h hj C hg K
    have : j = 4 := by omega
    subst this
    rw [if_neg (by omega)] at C
    exact vc_X6_readNumber_4 C.1 ⟨fun _ => ev_add C hd hn (fun h' m C' => K h' m C' (Nat.le_refl _)), fun z => absurd (by decide) z⟩
  | succ k ih =>
    intro j i s v h hj C hg K
    refine vc_X6_readNumber_4 C.1 ⟨fun z => ?_, fun _ => ev_next C hd hn (ev_isDigit C.1 hd ⟨fun z => ?_, fun z => ev_next C hd hn ?_⟩)⟩
    · rw [i_le, ti_nI (by omega)] at z
      exact absurd z (by show ¬ (4 : Int) ≤ _; omega)
    · have z1 := b2_0.mp z
      have hnd : ¬ (48 ≤ byt B n i ∧ byt B n i ≤ 57) := fun q => z1 ⟨(i_le _ _).mp q.1, (i_le _ _).mp q.2⟩
      have j0 : j ≠ 0 := fun q => hnd (hg q)
      rw [if_neg j0] at C
      have K2 := K
      unfold dgR at K2
      rw [if_neg hnd] at K2
      exact ev_add C hd hn (fun h' m C' => K2 h' m C' (Nat.le_refl _))
    · have z1 := Classical.not_not.mp (fun q => z (b2_0.mpr q))
      have hyd : 48 ≤ byt B n i ∧ byt B n i ≤ 57 := ⟨(i_le _ _).mpr z1.1, (i_le _ _).mpr z1.2⟩
      have hin : i < n := byt_lt (fun q => by rw [q] at hyd; exact absurd hyd.1 (by decide))
      have K2 := K
      unfold dgR at K2
      rw [if_pos hyd] at K2
      rw [C.e3, nI_1, Int32.mul_comm v 10]
      refine ih (j + 1) (i + 1) s _ _ (by omega) ((C.go hin).le ?_) (fun q => by omega) (fun h' m C' hle => K2 h' ((CM.s C.1 (by omega)).trans m) C' (by omega))
      rw [if_neg (by omega)]
      split <;> omega
end
section
variable {B : Nat → Int32} {n u : Nat}
/-- a level's reading, for so many that may still stand open -/
def RD (B : Nat → Int32) (n u k : Nat) : Prop := ∀ (G : GT) (d lv o s i : Nat) (p : List Int32) (h : Hp) (Q : Int32 → Hp → Prop), lv ≤ 5 → o + k = 5 → 8 * k + 16 ≤ d + lv → CR B n u s i p h → EndC B n u s lv o i p h Q → CallC G d lv o h Q
theorem rd_up {k : Nat} {lv : Nat} (hn : n ≤ 50) (hlv : lvB lv) (IH : ∀ (G : GT) (d o s i : Nat) (p : List Int32) (h : Hp) (Q : Int32 → Hp → Prop), o + k = 5 → 8 * k + 16 ≤ d + (lv + 1) → CR B n u s i p h → EndC B n u s (lv + 1) o i p h Q → CallC G d (lv + 1) o h Q) : ∀ (G : GT) (d o s i : Nat) (p : List Int32) (h : Hp) (Q : Int32 → Hp → Prop), o + k = 5 → 8 * k + 16 ≤ d + lv → CR B n u s i p h → EndC B n u s lv o i p h Q → CallC G d lv o h Q := by
  intro G d o s i p h Q ho hd C E
  have h4 : lv ≤ 4 := by unfold lvB at hlv; omega
  obtain ⟨e, rfl⟩ := dpos (show 1 ≤ d by omega)
  refine callC_of hlv (by omega) C.1 (IH G e o s i p h _ ho (by omega) C (fun ok i' p' h' D m C' hle => ⟨fun z => ?_, fun z => ?_⟩))
  · have := bI_1 z
    subst this
    exact rg_loopC hlv (by omega) hn (fun s i p h Q C E => IH G e o s i p h Q ho (by omega) C E) 50 0 s i' p' h' Q (by omega) (by omega) C' (fun ok2 i2 p2 h2 D2 m2 C2 hle2 => E ok2 i2 p2 h2 (der_cl.2.2.2.2.2.2.2.2.2.2.1 _ _ _ _ _ _ _ _ _ hlv D D2) (m.trans m2) C2 (by omega))
  · have := bI_0 z
    subst this
    exact E false i' p' h' (der_cl.2.2.2.2.2.2.2.2.2.1 _ _ _ _ _ _ hlv D) m C' hle
theorem rd_B {k : Nat} (hn : n ≤ 50) (IH : ∀ (G : GT) (d o s i : Nat) (p : List Int32) (h : Hp) (Q : Int32 → Hp → Prop), o + k = 5 → 8 * k + 16 ≤ d + 3 → CR B n u s i p h → EndC B n u s 3 o i p h Q → CallC G d 3 o h Q) : ∀ (G : GT) (d o s i : Nat) (p : List Int32) (h : Hp) (Q : Int32 → Hp → Prop), o + k = 5 → 8 * k + 16 ≤ d + 2 → CR B n u s i p h → EndC B n u s 2 o i p h Q → CallC G d 2 o h Q := by
  intro G d o s i p h Q ho hd C E
  obtain ⟨e, rfl⟩ := dpos (show 1 ≤ d by omega)
  refine vc_X6_readB C.1 (IH G e o s i p h _ ho (by omega) C (fun ok i' p' h' D m C' hle => ⟨fun z => ?_, fun z => ?_⟩))
  · have := bI_1 z
    subst this
    have go : (byt B n i' = 60 ∨ byt B n i' = 61 ∨ byt B n i' = 62) → EvI G e mX6_readS [.inr (.inr (some 45)), .inl (nI o)] (sI h' 45 3 (h'.1 45 3 + 1)) (fun x8 h7 => ((¬ x8 = 0 → EvV G e mX10_add [.inr (.inr (some 46)), .inl (-byt B n i')] h7 (fun h10 => Q 1 h10)) ∧ (x8 = 0 → Q 0 h7))) := by
      intro hx
      have hin : i' < n := byt_lt (by rcases hx with hx | hx | hx <;> rw [hx] <;> decide)
      rw [C'.e3]
      refine IH G e o (s + 1) (i' + 1) p' _ _ ho (by omega) (C'.go hin) (fun ok2 i2 p2 h2 D2 m2 C2 hle2 => ⟨fun y => ?_, fun y => ?_⟩)
      · have := bI_1 y
        subst this
        exact ev_add C2 (by omega) hn (fun h3 m3 C3 => E true i2 _ h3 (der_cl.2.2.2.2.2.2.2.2.2.2.2.2.2.2.2.2.2 _ _ _ _ _ _ _ D hx D2) (((m.trans (CM.s C'.1 (by omega))).trans m2).trans m3) C3 (by omega))
      · have := bI_0 y
        subst this
        exact E false i2 p2 h2 (der_cl.2.2.2.2.2.2.2.2.2.2.2.2.2.2.2.2.1 _ _ _ _ _ _ _ D hx D2) ((m.trans (CM.s C'.1 (by omega))).trans m2) (C2.le (by omega)) (by omega)
    exact ev_next C' (by omega) hn ⟨fun y => go (Or.inl y), fun y1 => ⟨fun y => go (Or.inr (Or.inl y)), fun y2 => ⟨fun y => go (Or.inr (Or.inr y)), fun y3 => E true i' p' h' (der_cl.2.2.2.2.2.2.2.2.2.2.2.2.2.2.2.1 _ _ _ _ _ D y1 y2 y3) m C' hle⟩⟩⟩
  · have := bI_0 z
    subst this
    exact E false i' p' h' (der_cl.2.2.2.2.2.2.2.2.2.2.2.2.2.2.1 _ _ _ _ _ D) m C' hle
theorem u16_id {x : Int32} (h1 : 0 ≤ x.toInt) (h2 : x.toInt ≤ 255) : (Int32.toUInt32 x % 65536).toInt32 = x := by
  rw [nI_of_int h1]
  have hb : x.toInt.toNat ≤ 255 := by omega
  generalize x.toInt.toNat = m at hb
  apply Int32.toInt_inj.mp
  have e1 : (nI m).toInt = (m : Int) := ti_nI (by omega)
  have e2 : (Int32.toUInt32 (nI m)).toNat = m := by
    show (nI m).toBitVec.toNat = m
    show (BitVec.ofInt 32 (m : Int)).toNat = m
    simp
    omega
  have e3 : (Int32.toUInt32 (nI m) % 65536) = Int32.toUInt32 (nI m) := by
    apply UInt32.toNat_inj.mp
    rw [UInt32.toNat_mod, e2]
    show m % 65536 = m
    omega
  rw [e3]
  rfl
theorem nmK_I {x : Int32} : (nmK u x = none ∧ nmI u x = -1) ∨ ∃ k, nmK u x = some k ∧ nmI u x = nI k ∧ k < 3 := by
  cases hk : nmK u x with
  | none => exact Or.inl ⟨rfl, nmK_none hk⟩
  | some k =>
    obtain ⟨h1, h2, -⟩ := nmK_some hk
    exact Or.inr ⟨k, rfl, h2, by omega⟩
theorem rd_Q {k : Nat} (hn : n ≤ 50) (hu : u < 2) (hB : ∀ j, j < n → 0 ≤ (B j).toInt ∧ (B j).toInt ≤ 255) (IH : ∀ k', k = k' + 1 → RD B n u k') : ∀ (G : GT) (d o s i : Nat) (p : List Int32) (h : Hp) (Q : Int32 → Hp → Prop), o + k = 5 → 8 * k + 16 ≤ d + 5 → CR B n u s i p h → EndC B n u s 5 o i p h Q → CallC G d 5 o h Q := by
  intro G d o s i p h Q ho hd C E
  obtain ⟨e, rfl⟩ := dpos (show 1 ≤ d by omega)
  have eo : (nI o).toInt = (o : Int) := ti_nI (by omega)
  refine vc_X6_readQ C.1 (ev_next C (by omega) hn (ev_isDigit C.1 (by omega) ⟨fun z => ⟨fun x33 => ⟨fun z5 => ?_, fun z5 => ?_⟩, fun x33 => ⟨fun x40 => ⟨fun x1 => ?_, fun x1 => ?_⟩, fun x40 => ⟨fun z5 => ?_, fun z5 => ?_⟩⟩⟩, fun z => ?_⟩))
  · have o5 : o = 5 := by
      rw [i_le, eo] at z5
      have : (5 : Int) ≤ o := z5
      omega
    subst o5
    exact E false i p h (der_cl.2.2.2.1 _ _ (Or.inl x33)) (CM.refl C.1) (C.le (Nat.le_refl _)) (Nat.le_refl _)
  · have o5 : o < 5 := by
      rw [i_le, eo] at z5
      have : ¬ (5 : Int) ≤ o := z5
      omega
    obtain ⟨k', rfl⟩ : ∃ k', k = k' + 1 := ⟨k - 1, by omega⟩
    have hin : i < n := byt_lt (by rw [x33]; decide)
    obtain ⟨e2, rfl⟩ := dpos (show 1 ≤ e by omega)
    rw [x33, nI_1]
    refine vc_X6_readOpen C.1 ⟨fun y => absurd rfl y, fun _ => ?_⟩
    rw [C.e3]
    refine IH k' rfl G e2 5 (o + 1) (s + 1) (i + 1) p _ _ (by omega) (by omega) (by omega) (C.go hin) (fun ok i' p' h' D m C' hle => ⟨fun y => ?_, fun y => ?_⟩)
    · have := bI_1 y
      subst this
      refine ev_add C' (by omega) hn (fun h3 m3 C3 => ⟨fun w => absurd w (by decide), fun _ => ?_⟩)
      exact E true i' _ h3 (der_cl.2.2.2.2.1 _ _ _ _ _ o5 x33 D) (((CM.s C.1 (by omega)).trans m).trans m3) C3 (by omega)
    · have := bI_0 y
      subst this
      refine ⟨fun _ => ?_, fun w => absurd rfl w⟩
      exact E false i' p' h' (der_cl.2.2.2.2.2.1 _ _ _ _ _ o5 x33 D) ((CM.s C.1 (by omega)).trans m) (C'.le (by omega)) (by omega)
  · have hin : i < n := byt_lt x1
    have eb : byt B n i = B i := if_pos hin
    obtain ⟨b1, b2'⟩ := hB i hin
    have hnd : ¬ isDg (byt B n i) := fun q => b2_0.mp z ⟨(i_le _ _).mp q.1, (i_le _ _).mp q.2⟩
    have ec : (Int32.toUInt32 (byt B n i) % 65536).toInt32 = byt B n i := by
      rw [eb]
      exact u16_id b1 b2'
    refine ⟨FB + 2 + u, C.2.2.1, by omega, ?_⟩
    rw [ec]
    refine ev_indexOf C.1 (by omega) hu (by rw [eb]; exact ⟨b1, b2'⟩) ?_
    rcases @nmK_I u (byt B n i) with ⟨hk, hI⟩ | ⟨kk, hk, hI, hk3⟩
    · rw [hI]
      exact ⟨fun y => absurd y (by decide), fun _ => E false i p h (der_cl.2.2.1 _ _ _ hk hnd x33 x40) (CM.refl C.1) C (Nat.le_refl _)⟩
    · rw [hI]
      refine ⟨fun _ => ?_, fun y => ?_⟩
      · rw [C.e3]
        exact ev_add (C.go hin) (by omega) hn (fun h3 m3 C3 => E true (i + 1) _ h3 (der_cl.1 _ _ _ _ hk hnd) ((CM.s C.1 (by omega)).trans m3) C3 (by omega))
      · exfalso
        rw [i_le, ti_nI (by omega)] at y
        exact y (by show (0 : Int) ≤ _; omega)
  · have hnd : ¬ isDg (byt B n i) := fun q => b2_0.mp z ⟨(i_le _ _).mp q.1, (i_le _ _).mp q.2⟩
    have hk : nmK u (byt B n i) = none := by
      rw [x1]
      unfold nmK
      split <;> rfl
    exact E false i p h (der_cl.2.2.1 _ _ _ hk hnd x33 x40) (CM.refl C.1) C (Nat.le_refl _)
  · have o5 : o = 5 := by
      rw [i_le, eo] at z5
      have : (5 : Int) ≤ o := z5
      omega
    subst o5
    exact E false i p h (der_cl.2.2.2.1 _ _ (Or.inr x40)) (CM.refl C.1) (C.le (Nat.le_refl _)) (Nat.le_refl _)
  · have o5 : o < 5 := by
      rw [i_le, eo] at z5
      have : ¬ (5 : Int) ≤ o := z5
      omega
    obtain ⟨k', rfl⟩ : ∃ k', k = k' + 1 := ⟨k - 1, by omega⟩
    have hin : i < n := byt_lt (by rw [x40]; decide)
    obtain ⟨e2, rfl⟩ := dpos (show 1 ≤ e by omega)
    rw [x40, nI_1]
    refine vc_X6_readOpen C.1 ⟨fun _ => ?_, fun y => absurd y (by decide)⟩
    rw [C.e3]
    refine IH k' rfl G e2 0 (o + 1) (s + 1) (i + 1) p _ _ (by omega) (by omega) (by omega) (C.go hin) (fun ok i' p' h' D m C' hle => ⟨fun y => ?_, fun y => ?_⟩)
    · have := bI_0 y
      subst this
      refine ⟨fun _ => ?_, fun w => absurd rfl w⟩
      exact E false i' p' h' (der_cl.2.2.2.2.2.2.1 _ _ _ _ _ o5 x40 D) ((CM.s C.1 (by omega)).trans m) (C'.le (by omega)) (by omega)
    · have := bI_1 y
      subst this
      refine ev_next C' (by omega) hn ⟨fun x41 => ⟨fun w => absurd w (by decide), fun _ => ?_⟩, fun x41 => ⟨fun _ => ?_, fun w => absurd rfl w⟩⟩
      · have hin' : i' < n := byt_lt (by rw [x41]; decide)
        rw [C'.e3]
        exact E true (i' + 1) p' _ (der_cl.2.2.2.2.2.2.2.1 _ _ _ _ _ o5 x40 D x41) (((CM.s C.1 (by omega)).trans m).trans (CM.s C'.1 (by omega))) ((C'.go hin').le (by omega)) (by omega)
      · exact E false i' p' h' (der_cl.2.2.2.2.2.2.2.2.1 _ _ _ _ _ o5 x40 D x41) ((CM.s C.1 (by omega)).trans m) (C'.le (by omega)) (by omega)
  · have z1 := Classical.not_not.mp (fun q => z (b2_0.mpr q))
    have hyd : isDg (byt B n i) := ⟨(i_le _ _).mpr z1.1, (i_le _ _).mpr z1.2⟩
    obtain ⟨e2, rfl⟩ := dpos (show 1 ≤ e by omega)
    exact vc_X6_readNumber C.1 (rg_num (by omega) hn 4 0 i s 0 h (by omega) C (fun _ => hyd) (fun h' m C' hle => E true _ _ h' (der_cl.2.1 _ _ _ hyd) m C' hle))
theorem rd_all (hn : n ≤ 50) (hu : u < 2) (hB : ∀ j, j < n → 0 ≤ (B j).toInt ∧ (B j).toInt ≤ 255) : ∀ k, RD B n u k := by
  intro k
  induction k with
  | zero =>
    have q5 := rd_Q (k := 0) hn hu hB (fun k' hk => by omega)
    have q4 := rd_up hn (lv := 4) (Or.inr (Or.inr (Or.inr rfl))) q5
    have q3 := rd_up hn (lv := 3) (Or.inr (Or.inr (Or.inl rfl))) q4
    have q2 := rd_B hn q3
    have q1 := rd_up hn (lv := 1) (Or.inr (Or.inl rfl)) q2
    have q0 := rd_up hn (lv := 0) (Or.inl rfl) q1
    intro G d lv o s i p h Q h5 ho hd C E
    rcases (show lv = 0 ∨ lv = 1 ∨ lv = 2 ∨ lv = 3 ∨ lv = 4 ∨ lv = 5 by omega) with rfl | rfl | rfl | rfl | rfl | rfl
    · exact q0 G d o s i p h Q ho hd C E
    · exact q1 G d o s i p h Q ho hd C E
    · exact q2 G d o s i p h Q ho hd C E
    · exact q3 G d o s i p h Q ho hd C E
    · exact q4 G d o s i p h Q ho hd C E
    · exact q5 G d o s i p h Q ho hd C E
  | succ k ih =>
    have q5 := rd_Q (k := k + 1) hn hu hB (fun k' hk => (show k' = k by omega) ▸ ih)
    have q4 := rd_up hn (lv := 4) (Or.inr (Or.inr (Or.inr rfl))) q5
    have q3 := rd_up hn (lv := 3) (Or.inr (Or.inr (Or.inl rfl))) q4
    have q2 := rd_B hn q3
    have q1 := rd_up hn (lv := 1) (Or.inr (Or.inl rfl)) q2
    have q0 := rd_up hn (lv := 0) (Or.inl rfl) q1
    intro G d lv o s i p h Q h5 ho hd C E
    rcases (show lv = 0 ∨ lv = 1 ∨ lv = 2 ∨ lv = 3 ∨ lv = 4 ∨ lv = 5 by omega) with rfl | rfl | rfl | rfl | rfl | rfl
    · exact q0 G d o s i p h Q ho hd C E
    · exact q1 G d o s i p h Q ho hd C E
    · exact q2 G d o s i p h Q ho hd C E
    · exact q3 G d o s i p h Q ho hd C E
    · exact q4 G d o s i p h Q ho hd C E
    · exact q5 G d o s i p h Q ho hd C E
end
/-- the whole reading: FAULT, or -1 -/
theorem ev_read {G : GT} {d : Nat} {h : Hp} {Q : Int32 → Hp → Prop} {B : Nat → Int32} {n u : Nat} {a2 a3 : Int32} (hR : RF h) (hd : 60 ≤ d) (hn : n ≤ 50) (hu : u < 2) (hB : ∀ j, j < n → 0 ≤ (B j).toInt ∧ (B j).toInt ≤ 255) (h2 : a2 = nI n) (h3 : a3 = nI u) (h19 : ∀ j, j < n → h.1 19 j = B j)
    (k : ∀ ok i' p' h', Der (byt B n) u 0 0 0 [] ok i' p' → RF h' → (∀ a, a ≠ 45 → a ≠ 46 → a ≠ 47 → h'.1 a = h.1 a) → CR B n u 0 i' p' h' → Q (if ok = true ∧ i' = n then -1 else nI i') h') : EvI G d mX6_read [.inr (.inr (some 45)), .inr (.inr (some 19)), .inl a2, .inl a3] h Q := by
  obtain ⟨e, rfl⟩ := dpos (show 1 ≤ d by omega)
  obtain ⟨e, rfl⟩ := dpos (show 1 ≤ e by omega)
  have main : ∀ v : Nat, v = FB + 2 + u → EvV G (e + 1) mX10_clear [.inr (.inr (some 46))] (sR (sI (sI (sR h 45 1 (some 19)) 45 2 a2) 45 3 0) 45 4 (some v)) (fun h2 => EvI G (e + 1) mX6_readT [.inr (.inr (some 45)), .inl 0] h2 (fun x4 h3 => ((x4 = 0 → Q (h3.1 45 3) h3) ∧ (¬ x4 = 0 → ((¬ h3.1 45 3 = h3.1 45 2 → Q (h3.1 45 3) h3) ∧ (h3.1 45 3 = h3.1 45 2 → Q (-1) h3)))))) := by
    intro v hv
    have hR4 : RF (sR (sI (sI (sR h 45 1 (some 19)) 45 2 a2) 45 3 0) 45 4 (some v)) := RF_sR (RF_sI (RF_sI (RF_sR hR (by decide +kernel)))) (by decide +kernel)
    generalize hg : sR (sI (sI (sR h 45 1 (some 19)) 45 2 a2) 45 3 0) 45 4 (some v) = g at hR4 ⊢
    have g1 : g.2.2 45 1 = some 19 := by rw [← hg] <;> rfl
    have g4 : g.2.2 45 4 = some (FB + 2 + u) := by rw [← hg, ← hv] <;> rfl
    have gi : g.1 = (sI (sI h 45 2 a2) 45 3 0).1 := by rw [← hg] <;> rfl
    have ge : ∀ a, a ≠ 45 → g.1 a = h.1 a := fun a ha => by rw [gi]; funext j; rw [sI_ne (by omega), sI_ne (by omega)]
    refine vc_X10_clear rfl hR4 ?_
    have C : CR B n u 0 0 [] (sI g 46 2 0) := by
      refine ⟨hR4, g1, g4, ?_, ?_, fun j hj => ?_, ?_, fun j hj => absurd hj (by simp), by omega, by simp⟩
      · rw [sI_ne (by omega), gi, sI_ne (by omega), sI_self]; exact h2
      · rw [sI_ne (by omega), gi, sI_self]; rfl
      · rw [sI_ne (by omega), ge 19 (by omega)]; exact h19 j hj
      · rw [sI_self]; rfl
    refine rd_all hn hu hB 5 G (e + 1) 0 0 0 0 [] _ _ (by omega) (by omega) (by omega) C (fun ok i' p' h' D m C' hle => ?_)
    have K := k ok i' p' h' D C'.1 (fun a a1 a2 a3 => by rw [m.2.2 a a1 a2 a3]; funext j; rw [sI_ne (by omega), ge a a1]) C'
    have c3 := C'.2.2.2.1
    have c4 := C'.2.2.2.2.1
    have c8 := C'.2.2.2.2.2.2.2.2.1
    refine ⟨fun z => ?_, fun z => ⟨fun y => ?_, fun y => ?_⟩⟩
    · have := bI_0 z
      subst this
      rw [if_neg (fun q => Bool.noConfusion q.1)] at K
      rw [c4]
      exact K
    · rw [c3, c4, i_eq, ti_nI (by omega), ti_nI (by omega)] at y
      rw [if_neg (fun q => y (by rw [q.2]))] at K
      rw [c4]
      exact K
    · rw [c3, c4, i_eq, ti_nI (by omega), ti_nI (by omega)] at y
      rw [if_pos ⟨bI_1 z, by omega⟩] at K
      exact K
  refine vc_X6_read hR ⟨fun z => ?_, fun z => ?_⟩
  · have hu1 : u = 1 := by
      rcases (show u = 0 ∨ u = 1 by omega) with q | q
      · exact absurd (by rw [h3, q]; rfl) z
      · exact q
    exact main (FB + 3) (by omega)
  · have hu0 : u = 0 := by
      rcases (show u = 0 ∨ u = 1 by omega) with q | q
      · exact q
      · rw [h3, q] at z
        exact absurd z (by decide)
    exact main (FB + 2) (by omega)
