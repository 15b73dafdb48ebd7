/-! odds: the class lays the sets of said words -/
section
variable {G : GT} {d : Nat} {h : Hp} {Q : Int32 → Hp → Prop} {QW : Hp → Prop} {QL' : Int64 → Hp → Prop}
abbrev nL (n : Nat) : Int64 := Int64.ofInt (n : Int)
theorem nL_add (a b : Nat) : nL (a + b) = nL a + nL b := by
  show Int64.ofInt ((a + b : Nat) : Int) = _
  rw [Int.natCast_add, Int64.ofInt_add]
theorem nL_mul (a b : Nat) : nL (a * b) = nL a * nL b := by
  show Int64.ofInt ((a * b : Nat) : Int) = _
  rw [Int.natCast_mul, Int64.ofInt_mul]
theorem nL_ti {n : Nat} (h : n < 2 ^ 62) : (nL n).toInt = (n : Int) := by
  have e : (2 : Nat) ^ 62 = 4611686018427387904 := by decide
  rw [e] at h
  rw [Int64.toInt_ofInt, lb_id (by omega) (by omega)]
theorem nL_of {x : Int32} {n : Nat} (h : x.toInt = (n : Int)) : Int32.toInt64 x = nL n := by
  rw [l_eq, l_of_i, h, nL_ti]
  have e : (2 : Nat) ^ 62 = 4611686018427387904 := by decide
  have := i_hi x
  rw [e]
  omega
/-- the said words of a party, from w on -/
def qlS (F : Nat → Int) (p : Int) : Nat → Nat → List Nat → List Nat
  | 0, _, L => L
  | m + 1, w, L => if 5 ≤ L.length then L else qlS F p m (w + 1) (if F (30 + 5 * w) = p ∧ F (34 + 5 * w) = 1 then L ++ [w] else L)
theorem okL_ql {F : Nat → Int} {p : Int} : ∀ (m w : Nat) (L : List Nat), okL L w → okL (qlS F p m w L) (w + m)
  | 0, w, L, o => o
  | m + 1, w, L, o => by
    unfold qlS
    split
    · exact okL_up o (by omega)
    · rename_i h5
      rw [show w + (m + 1) = (w + 1) + m by omega]
      refine okL_ql m (w + 1) _ ?_
      split
      · exact okL_app o h5
      · exact okL_up o (by omega)
def woS (F : Nat → Int) (L : List Nat) : Nat → Int := fun k => F (32 + 5 * L.getD k 0)
theorem woS_app {F : Nat → Int} {L : List Nat} {w : Nat} : (∀ k, k < L.length → woS F (L ++ [w]) k = woS F L k) ∧ woS F (L ++ [w]) L.length = F (32 + 5 * w) := by
  unfold woS
  refine ⟨fun k hk => by rw [getD_appN, if_pos hk], by rw [getD_appN, if_neg (by omega), if_pos rfl]⟩
theorem SG_in {W : Nat → Int} {s : Nat} : ∀ (n : Nat), (∀ k, k < n → 0 ≤ W k ∧ W k ≤ 99) → 0 ≤ SG W s n ∧ SG W s n ≤ 99 * (n : Int)
  | 0, _ => ⟨Int.le_refl _, Int.le_refl _⟩
  | n + 1, g => by
    have := SG_in (s := s) n (fun k hk => g k (by omega))
    have := g n (by omega)
    unfold SG
    split <;> (push_cast; omega)
theorem pw_le {n : Nat} (h : n ≤ 5) : 2 ^ n ≤ 32 ∧ 1 ≤ 2 ^ n := by
  have : ∀ n, n < 6 → 2 ^ n ≤ 32 ∧ 1 ≤ 2 ^ n := by decide
  exact this n (by omega)
/-- sums at row r, how often at row q -/
def LY (r q : Nat) (F : Nat → Int) (u : Nat) (h0 : Hp) (L : List Nat) (h : Hp) : Prop := RF h ∧ (∀ a, a ≠ r → h.1 a = h0.1 a) ∧ (∀ a, a ≠ q → h.2.1 a = h0.2.1 a) ∧ ∀ i, i < 2 ^ L.length → (h.1 r i).toInt = SG (woS F L) i L.length ∧ h.2.1 q i = nL (FG u i L.length)
/-- amid a word -/
def LZ (r q : Nat) (F : Nat → Int) (u : Nat) (h0 : Hp) (L : List Nat) (w i : Nat) (h : Hp) : Prop := RF h ∧ (∀ a, a ≠ r → h.1 a = h0.1 a) ∧ (∀ a, a ≠ q → h.2.1 a = h0.2.1 a) ∧ (∀ t, t < 2 ^ L.length → (h.1 r t).toInt = SG (woS F L) t L.length ∧ h.2.1 q t = nL (if t < i then FG u t L.length * (16 - u) else FG u t L.length)) ∧ ∀ t, t < i → (h.1 r (2 ^ L.length + t)).toInt = SG (woS F L) t L.length + F (32 + 5 * w) ∧ h.2.1 q (2 ^ L.length + t) = nL (FG u t L.length * u)
theorem LZ_end {r q u w : Nat} {F : Nat → Int} {h0 : Hp} {L : List Nat} (z : LZ r q F u h0 L w (2 ^ L.length) h) : LY r q F u h0 (L ++ [w]) h := by
  obtain ⟨z1, z2, z3, z4, z5⟩ := z
  have ln : (L ++ [w]).length = L.length + 1 := by simp
  have wa := @woS_app F L w
  refine ⟨z1, z2, z3, fun i hi => ?_⟩
  rw [ln] at hi ⊢
  rw [Nat.pow_succ] at hi
  by_cases c : i < 2 ^ L.length
  · rw [SG_lo c, FG_lo c, SG_congr (W' := woS F L) (s' := i) L.length (fun k hk => ⟨rfl, wa.1 k hk⟩)]
    have := z4 i c
    rw [if_pos c] at this
    exact this
  · obtain ⟨t, rfl⟩ : ∃ t, i = 2 ^ L.length + t := ⟨i - 2 ^ L.length, by omega⟩
    have ht : t < 2 ^ L.length := by omega
    rw [SG_hi ht, FG_hi ht, SG_congr (W' := woS F L) (s' := t) L.length (fun k hk => ⟨rfl, wa.1 k hk⟩), wa.2]
    exact z5 t ht
theorem sL_at2 (h : Hp) (a k : Nat) (v : Int64) (b j : Nat) : (sL h a k v).2.1 b j = if b = a ∧ j = k then v else h.2.1 b j := rfl
theorem sL_ne2 {h : Hp} {a k : Nat} {v : Int64} {b j : Nat} (hn : ¬ (b = a ∧ j = k)) : (sL h a k v).2.1 b j = h.2.1 b j := by rw [sL_at2, if_neg hn]
theorem sL_s2 (h : Hp) (a k : Nat) (v : Int64) : (sL h a k v).2.1 a k = v := by rw [sL_at2, if_pos ⟨rfl, rfl⟩]
theorem sL_1 (h : Hp) (a k : Nat) (v : Int64) : (sL h a k v).1 = h.1 := rfl
theorem sI_2 (h : Hp) (a k : Nat) (v : Int32) : (sI h a k v).2 = h.2 := rfl
theorem rg_ina {F : Nat → Int} {h0 : Hp} {L : List Nat} {u w : Nat} {l1 l2 l6 : Int32} (hl : L.length < 5) (hw : w < 12) (hwo : ∀ k, k < L.length → 0 ≤ woS F L k ∧ woS F L k ≤ 99) (hww : 0 ≤ F (32 + 5 * w) ∧ F (32 + 5 * w) ≤ 99) (eF : (h0.1 7 w).toInt = F (32 + 5 * w)) (eu : l2.toInt = u) (hu : u ≤ 16) (k : ∀ h', LY 79 80 F u h0 (L ++ [w]) h' → Rg_X7_laya_18 G d l1 l2 (nI (2 ^ L.length) * 2) l6 (nI (w + 1)) h' Q) : ∀ (m i : Nat) (h : Hp), i + m = 2 ^ L.length → LZ 79 80 F u h0 L w i h → Rg_X7_laya_74 G d l1 l2 (nI (2 ^ L.length)) l6 (nI w) (nI i) h Q := by
  have pw : 2 ^ L.length ≤ 16 := by
    have : ∀ n, n < 5 → 2 ^ n ≤ 16 := by decide
    exact this _ hl
  have ew : (nI w).toInt = (w : Int) := ti_nI (by omega)
  intro m
  induction m with
  | zero =>
    intro i h hi z
    have ei : i = 2 ^ L.length := by omega
    rw [ei] at z ⊢
    have K := k h (LZ_end z)
    refine vc_X7_laya_74 z.1 ⟨fun _ => by rw [nI_1]; exact K, fun y => ?_⟩
    exfalso
    rw [i_le] at y
    omega
  | succ m ih =>
    intro i h hi z
    have ei : (nI i).toInt = (i : Int) := ti_nI (by omega)
    obtain ⟨P, hP⟩ : ∃ P, P = 2 ^ L.length := ⟨_, rfl⟩
    have eP : (nI P).toInt = (P : Int) := ti_nI (by omega)
    have es : (nI P + nI i).toInt = ((P + i : Nat) : Int) := by
      rw [ti_add (by omega) (by omega), eP, ei]
      omega
    obtain ⟨z1, z2, z3, z4, z5⟩ := z
    rw [← hP] at z4 z5 hi pw
    have z4i := z4 i (by omega)
    rw [if_neg (by omega)] at z4i
    have sb := @SG_in (woS F L) i L.length hwo
    have e7 : h.1 7 w = h0.1 7 w := by rw [z2 7 (by omega)]
    have e16 : Int32.toInt64 (16 - l2) = nL (16 - u) := nL_of (by
      rw [ti_sub (by rw [eu]; simp only [Int32.reduceToInt]; omega) (by rw [eu]; simp only [Int32.reduceToInt]; omega), eu]
      simp only [Int32.reduceToInt]
      omega)
    have eul : Int32.toInt64 l2 = nL u := nL_of eu
    rw [← hP]
    refine vc_X7_laya_74 z1 ⟨fun y => ?_, fun _ => ⟨fun y => ?_, fun _ => ⟨in_of (by omega) (by omega), in_of (by omega) (by omega), in_of (by omega) (by omega), in_of (by omega) (by omega), in_of (by omega) (by omega), fun h8 e8 => ⟨in_of (by omega) (by omega), in_of (by omega) (by omega), ?_⟩⟩⟩⟩
    · exfalso
      rw [i_le, eP, ei] at y
      omega
    · exfalso
      rw [i_le, es] at y
      simp only [Int32.reduceToInt] at y
      omega
    · rw [cl_of es, cl_of ei, cl_of ew] at e8
      rw [cl_of ei, nI_1, e16]
      rw [eul, z4i.2, ← nL_mul] at e8
      have q8 : h8.2.1 80 i = nL (FG u i L.length) := by
        rw [e8, sL_ne2 (by omega), sI_2]
        exact z4i.2
      rw [q8, ← nL_mul, hP]
      refine ih (i + 1) _ (by omega) ?_
      have r8 : ∀ t, h8.1 79 t = if t = P + i then h.1 79 i + h.1 7 w else h.1 79 t := fun t => by
        rw [e8, sL_1, sI_at]
        by_cases c : t = P + i
        · rw [if_pos ⟨rfl, c⟩, if_pos c]
        · rw [if_neg (fun y => c y.2), if_neg c]
      have s8 : ∀ t, h8.2.1 80 t = if t = P + i then nL (FG u i L.length * u) else h.2.1 80 t := fun t => by
        rw [e8, sL_at2]
        by_cases c : t = P + i
        · rw [if_pos ⟨rfl, c⟩, if_pos c]
        · rw [if_neg (fun y => c y.2), if_neg c]
          rfl
      refine ⟨?_, fun a ha => ?_, fun a ha => ?_, fun t ht => ⟨?_, ?_⟩, fun t ht => ⟨?_, ?_⟩⟩
      · rw [e8]; exact z1
      · rw [sL_1, e8, sL_1]
        funext t
        rw [sI_ne (by omega), z2 a ha]
      · funext t
        rw [sL_ne2 (by omega), e8, sL_ne2 (by omega), sI_2, z3 a ha]
      · rw [sL_1, r8, if_neg (by omega)]
        exact (z4 t (by omega)).1
      · rw [sL_at2]
        by_cases c : t = i
        · subst c
          rw [if_pos ⟨rfl, rfl⟩, if_pos (by omega)]
        · rw [if_neg (fun y => c y.2), s8, if_neg (by omega), (z4 t (by omega)).2]
          by_cases c2 : t < i
          · rw [if_pos c2, if_pos (by omega)]
          · rw [if_neg c2, if_neg (by omega)]
      · rw [← hP, sL_1, r8]
        by_cases c : t = i
        · subst c
          rw [if_pos rfl, ti_add (by rw [z4i.1, e7, eF]; omega) (by rw [z4i.1, e7, eF]; omega), z4i.1, e7, eF]
        · rw [if_neg (by omega)]
          exact (z5 t (by omega)).1
      · rw [← hP, sL_ne2 (by omega), s8]
        by_cases c : t = i
        · subst c
          rw [if_pos rfl]
        · rw [if_neg (by omega)]
          exact (z5 t (by omega)).2
theorem rg_laya {B : Int} {F : Nat → Int} {bg : Nat → Int} {h0 : Hp} {l1 l2 : Int32} {n u : Nat} (ok : OKF B F) (hv : vC h0 9 bg = F) (hn : F 1 = n) (eu : l2.toInt = u) (hu : u ≤ 16) (hp : 0 ≤ l1.toInt) : ∀ (m w : Nat) (L : List Nat) (h : Hp), w + m = n → okL L w → LY 79 80 F u h0 L h → (∀ h', LY 79 80 F u h0 (qlS F l1.toInt m w L) h' → Q (nI (2 ^ (qlS F l1.toInt m w L).length)) h') → Rg_X7_laya_18 G d l1 l2 (nI (2 ^ L.length)) (nI L.length) (nI w) h Q := by
  have o1 := ok.2.1
  have e1 : (h0.1 1 4).toInt = F 1 := by rw [← hv] <;> rfl
  intro m
  induction m with
  | zero =>
    intro w L h hw o y k
    refine vc_X7_laya_18 y.1 ⟨fun _ => k h y, fun z => ?_⟩
    exfalso
    rw [y.2.1 1 (by omega), i_le, ti_nI (by omega)] at z
    omega
  | succ m ih =>
    intro w L h hw o y k
    have ew : (nI w).toInt = (w : Int) := ti_nI (by omega)
    have l5 := o.1
    have el : (nI L.length).toInt = (L.length : Int) := ti_nI (by omega)
    have vw := @vC_w h0 9 bg w (by omega)
    rw [hv] at vw
    have okw := ok.2.2.2.2.2.2.2.2.2
    have ow := okw w (by omega)
    unfold OKW at ow
    have inn : vp_in (nI w) 12 := in_of (by omega) (by omega)
    unfold qlS at k
    refine vc_X7_laya_18 y.1 ⟨fun z => ?_, fun _ => ⟨fun z => ?_, fun _ => ⟨fun z => ?_, fun z => ⟨inn, ?_⟩⟩⟩⟩
    · exfalso
      rw [y.2.1 1 (by omega), i_le, ew] at z
      omega
    · exfalso
      rw [i_le, ew] at z
      simp only [Int32.reduceToInt] at z
      omega
    · rw [i_le, el] at z
      simp only [Int32.reduceToInt] at z
      rw [if_pos (by omega)] at k
      exact k h y
    · rw [i_le, el] at z
      simp only [Int32.reduceToInt] at z
      have h5 : ¬ 5 ≤ L.length := by omega
      rw [if_neg h5] at k
      have go : ¬ (F (30 + 5 * w) = l1.toInt ∧ F (34 + 5 * w) = 1) → Rg_X7_laya_18 G d l1 l2 (nI (2 ^ L.length)) (nI L.length) (nI (w + 1)) h Q := fun c => by
        rw [if_neg c] at k
        exact ih (w + 1) L h (by omega) (okL_up o (by omega)) y k
      rw [cl_of ew, y.2.1 5 (by omega), y.2.1 12 (by omega), nI_1]
      refine ⟨fun c => go (fun q => c (by rw [i_eq, ← vw.1]; exact q.1)), fun c => ⟨inn, fun c2 => ?_, fun c2 => go (fun q => c2 (by rw [i_eq]; exact vw.2.2.2.2.symm.trans q.2))⟩⟩
      rw [i_eq, ← vw.1] at c
      rw [i_eq] at c2
      have c3 : F (34 + 5 * w) = 1 := vw.2.2.2.2.trans c2
      rw [if_pos ⟨c, c3⟩] at k
      rw [nI_1]
      have ln : (L ++ [w]).length = L.length + 1 := by simp
      refine rg_ina (F := F) (h0 := h0) (u := u) (by omega) (by omega) (fun q hq => ?_) ow.2.2.2.1 vw.2.2.1.symm eu hu (fun h' y' => ?_) (2 ^ L.length) 0 h (by omega) ⟨y.1, y.2.1, y.2.2.1, fun t ht => ?_, fun t ht => absurd ht (by omega)⟩
      · have a := o.2.1 q hq
        have := okw (L.getD q 0) (by omega)
        unfold OKW at this
        exact this.2.2.2.1
      · have g := ih (w + 1) (L ++ [w]) h' (by omega) (okL_app o h5) y' k
        have e2 : nI (2 ^ L.length) * 2 = nI (2 ^ (L.length + 1)) := by
          have : ∀ n, n < 5 → nI (2 ^ n) * 2 = nI (2 ^ (n + 1)) := by decide
          exact this _ (by omega)
        rw [ln] at g
        rw [e2]
        exact g
      · rw [if_neg (by omega)]
        exact y.2.2.2 t ht
theorem ev_laya {B : Int} {F : Nat → Int} {bg : Nat → Int} {l1 l2 : Int32} {n u : Nat} (hR : RF h) (hd : 1 ≤ d) (ok : OKF B F) (hv : vC h 9 bg = F) (hn : F 1 = n) (eu : l2.toInt = u) (hu : u ≤ 16) (hp : 0 ≤ l1.toInt) (k : ∀ h', LY 79 80 F u h (qlS F l1.toInt n 0 []) h' → Q (nI (2 ^ (qlS F l1.toInt n 0 []).length)) h') : EvI G d mX7_lay [.inr (.inr (some 1)), .inl l1, .inl l2, .inr (.inr (some 79)), .inr (.inr (some 80))] h Q := by
  obtain ⟨e, rfl⟩ := dpos (show 1 ≤ d by omega)
  refine vc_X7_laya hR ?_
  refine rg_laya (h0 := h) ok hv hn eu hu hp n 0 [] _ (by omega) ⟨by simp, fun k hk => absurd hk (by simp), fun i j _ hj => absurd hj (by simp)⟩ ⟨hR, fun a ha => ?_, fun a ha => ?_, fun i hi => ?_⟩ k
  · rw [sL_1]
    funext t
    rw [sI_ne (by omega)]
  · funext t
    rw [sL_ne2 (by omega), sI_2]
  · have : i = 0 := by
      have : i < 1 := hi
      omega
    subst this
    rw [sL_1, sI_self, sL_s2]
    exact ⟨rfl, rfl⟩
theorem rg_inb {F : Nat → Int} {h0 : Hp} {L : List Nat} {u w : Nat} {l1 l2 l6 : Int32} (hl : L.length < 5) (hw : w < 12) (hwo : ∀ k, k < L.length → 0 ≤ woS F L k ∧ woS F L k ≤ 99) (hww : 0 ≤ F (32 + 5 * w) ∧ F (32 + 5 * w) ≤ 99) (eF : (h0.1 7 w).toInt = F (32 + 5 * w)) (eu : l2.toInt = u) (hu : u ≤ 16) (k : ∀ h', LY 81 82 F u h0 (L ++ [w]) h' → Rg_X7_layb_18 G d l1 l2 (nI (2 ^ L.length) * 2) l6 (nI (w + 1)) h' Q) : ∀ (m i : Nat) (h : Hp), i + m = 2 ^ L.length → LZ 81 82 F u h0 L w i h → Rg_X7_layb_74 G d l1 l2 (nI (2 ^ L.length)) l6 (nI w) (nI i) h Q := by
  have pw : 2 ^ L.length ≤ 16 := by
    have : ∀ n, n < 5 → 2 ^ n ≤ 16 := by decide
    exact this _ hl
  have ew : (nI w).toInt = (w : Int) := ti_nI (by omega)
  intro m
  induction m with
  | zero =>
    intro i h hi z
    have ei : i = 2 ^ L.length := by omega
    rw [ei] at z ⊢
    have K := k h (LZ_end z)
    refine vc_X7_layb_74 z.1 ⟨fun _ => by rw [nI_1]; exact K, fun y => ?_⟩
    exfalso
    rw [i_le] at y
    omega
  | succ m ih =>
    intro i h hi z
    have ei : (nI i).toInt = (i : Int) := ti_nI (by omega)
    obtain ⟨P, hP⟩ : ∃ P, P = 2 ^ L.length := ⟨_, rfl⟩
    have eP : (nI P).toInt = (P : Int) := ti_nI (by omega)
    have es : (nI P + nI i).toInt = ((P + i : Nat) : Int) := by
      rw [ti_add (by omega) (by omega), eP, ei]
      omega
    obtain ⟨z1, z2, z3, z4, z5⟩ := z
    rw [← hP] at z4 z5 hi pw
    have z4i := z4 i (by omega)
    rw [if_neg (by omega)] at z4i
    have sb := @SG_in (woS F L) i L.length hwo
    have e7 : h.1 7 w = h0.1 7 w := by rw [z2 7 (by omega)]
    have e16 : Int32.toInt64 (16 - l2) = nL (16 - u) := nL_of (by
      rw [ti_sub (by rw [eu]; simp only [Int32.reduceToInt]; omega) (by rw [eu]; simp only [Int32.reduceToInt]; omega), eu]
      simp only [Int32.reduceToInt]
      omega)
    have eul : Int32.toInt64 l2 = nL u := nL_of eu
    rw [← hP]
    refine vc_X7_layb_74 z1 ⟨fun y => ?_, fun _ => ⟨fun y => ?_, fun _ => ⟨in_of (by omega) (by omega), in_of (by omega) (by omega), in_of (by omega) (by omega), in_of (by omega) (by omega), in_of (by omega) (by omega), fun h8 e8 => ⟨in_of (by omega) (by omega), in_of (by omega) (by omega), ?_⟩⟩⟩⟩
    · exfalso
      rw [i_le, eP, ei] at y
      omega
    · exfalso
      rw [i_le, es] at y
      simp only [Int32.reduceToInt] at y
      omega
    · rw [cl_of es, cl_of ei, cl_of ew] at e8
      rw [cl_of ei, nI_1, e16]
      rw [eul, z4i.2, ← nL_mul] at e8
      have q8 : h8.2.1 82 i = nL (FG u i L.length) := by
        rw [e8, sL_ne2 (by omega), sI_2]
        exact z4i.2
      rw [q8, ← nL_mul, hP]
      refine ih (i + 1) _ (by omega) ?_
      have r8 : ∀ t, h8.1 81 t = if t = P + i then h.1 81 i + h.1 7 w else h.1 81 t := fun t => by
        rw [e8, sL_1, sI_at]
        by_cases c : t = P + i
        · rw [if_pos ⟨rfl, c⟩, if_pos c]
        · rw [if_neg (fun y => c y.2), if_neg c]
      have s8 : ∀ t, h8.2.1 82 t = if t = P + i then nL (FG u i L.length * u) else h.2.1 82 t := fun t => by
        rw [e8, sL_at2]
        by_cases c : t = P + i
        · rw [if_pos ⟨rfl, c⟩, if_pos c]
        · rw [if_neg (fun y => c y.2), if_neg c]
          rfl
      refine ⟨?_, fun a ha => ?_, fun a ha => ?_, fun t ht => ⟨?_, ?_⟩, fun t ht => ⟨?_, ?_⟩⟩
      · rw [e8]; exact z1
      · rw [sL_1, e8, sL_1]
        funext t
        rw [sI_ne (by omega), z2 a ha]
      · funext t
        rw [sL_ne2 (by omega), e8, sL_ne2 (by omega), sI_2, z3 a ha]
      · rw [sL_1, r8, if_neg (by omega)]
        exact (z4 t (by omega)).1
      · rw [sL_at2]
        by_cases c : t = i
        · subst c
          rw [if_pos ⟨rfl, rfl⟩, if_pos (by omega)]
        · rw [if_neg (fun y => c y.2), s8, if_neg (by omega), (z4 t (by omega)).2]
          by_cases c2 : t < i
          · rw [if_pos c2, if_pos (by omega)]
          · rw [if_neg c2, if_neg (by omega)]
      · rw [← hP, sL_1, r8]
        by_cases c : t = i
        · subst c
          rw [if_pos rfl, ti_add (by rw [z4i.1, e7, eF]; omega) (by rw [z4i.1, e7, eF]; omega), z4i.1, e7, eF]
        · rw [if_neg (by omega)]
          exact (z5 t (by omega)).1
      · rw [← hP, sL_ne2 (by omega), s8]
        by_cases c : t = i
        · subst c
          rw [if_pos rfl]
        · rw [if_neg (by omega)]
          exact (z5 t (by omega)).2
theorem rg_layb {B : Int} {F : Nat → Int} {bg : Nat → Int} {h0 : Hp} {l1 l2 : Int32} {n u : Nat} (ok : OKF B F) (hv : vC h0 9 bg = F) (hn : F 1 = n) (eu : l2.toInt = u) (hu : u ≤ 16) (hp : 0 ≤ l1.toInt) : ∀ (m w : Nat) (L : List Nat) (h : Hp), w + m = n → okL L w → LY 81 82 F u h0 L h → (∀ h', LY 81 82 F u h0 (qlS F l1.toInt m w L) h' → Q (nI (2 ^ (qlS F l1.toInt m w L).length)) h') → Rg_X7_layb_18 G d l1 l2 (nI (2 ^ L.length)) (nI L.length) (nI w) h Q := by
  have o1 := ok.2.1
  have e1 : (h0.1 1 4).toInt = F 1 := by rw [← hv] <;> rfl
  intro m
  induction m with
  | zero =>
    intro w L h hw o y k
    refine vc_X7_layb_18 y.1 ⟨fun _ => k h y, fun z => ?_⟩
    exfalso
    rw [y.2.1 1 (by omega), i_le, ti_nI (by omega)] at z
    omega
  | succ m ih =>
    intro w L h hw o y k
    have ew : (nI w).toInt = (w : Int) := ti_nI (by omega)
    have l5 := o.1
    have el : (nI L.length).toInt = (L.length : Int) := ti_nI (by omega)
    have vw := @vC_w h0 9 bg w (by omega)
    rw [hv] at vw
    have okw := ok.2.2.2.2.2.2.2.2.2
    have ow := okw w (by omega)
    unfold OKW at ow
    have inn : vp_in (nI w) 12 := in_of (by omega) (by omega)
    unfold qlS at k
    refine vc_X7_layb_18 y.1 ⟨fun z => ?_, fun _ => ⟨fun z => ?_, fun _ => ⟨fun z => ?_, fun z => ⟨inn, ?_⟩⟩⟩⟩
    · exfalso
      rw [y.2.1 1 (by omega), i_le, ew] at z
      omega
    · exfalso
      rw [i_le, ew] at z
      simp only [Int32.reduceToInt] at z
      omega
    · rw [i_le, el] at z
      simp only [Int32.reduceToInt] at z
      rw [if_pos (by omega)] at k
      exact k h y
    · rw [i_le, el] at z
      simp only [Int32.reduceToInt] at z
      have h5 : ¬ 5 ≤ L.length := by omega
      rw [if_neg h5] at k
      have go : ¬ (F (30 + 5 * w) = l1.toInt ∧ F (34 + 5 * w) = 1) → Rg_X7_layb_18 G d l1 l2 (nI (2 ^ L.length)) (nI L.length) (nI (w + 1)) h Q := fun c => by
        rw [if_neg c] at k
        exact ih (w + 1) L h (by omega) (okL_up o (by omega)) y k
      rw [cl_of ew, y.2.1 5 (by omega), y.2.1 12 (by omega), nI_1]
      refine ⟨fun c => go (fun q => c (by rw [i_eq, ← vw.1]; exact q.1)), fun c => ⟨inn, fun c2 => ?_, fun c2 => go (fun q => c2 (by rw [i_eq]; exact vw.2.2.2.2.symm.trans q.2))⟩⟩
      rw [i_eq, ← vw.1] at c
      rw [i_eq] at c2
      have c3 : F (34 + 5 * w) = 1 := vw.2.2.2.2.trans c2
      rw [if_pos ⟨c, c3⟩] at k
      rw [nI_1]
      have ln : (L ++ [w]).length = L.length + 1 := by simp
      refine rg_inb (F := F) (h0 := h0) (u := u) (by omega) (by omega) (fun q hq => ?_) ow.2.2.2.1 vw.2.2.1.symm eu hu (fun h' y' => ?_) (2 ^ L.length) 0 h (by omega) ⟨y.1, y.2.1, y.2.2.1, fun t ht => ?_, fun t ht => absurd ht (by omega)⟩
      · have a := o.2.1 q hq
        have := okw (L.getD q 0) (by omega)
        unfold OKW at this
        exact this.2.2.2.1
      · have g := ih (w + 1) (L ++ [w]) h' (by omega) (okL_app o h5) y' k
        have e2 : nI (2 ^ L.length) * 2 = nI (2 ^ (L.length + 1)) := by
          have : ∀ n, n < 5 → nI (2 ^ n) * 2 = nI (2 ^ (n + 1)) := by decide
          exact this _ (by omega)
        rw [ln] at g
        rw [e2]
        exact g
      · rw [if_neg (by omega)]
        exact y.2.2.2 t ht
theorem ev_layb {B : Int} {F : Nat → Int} {bg : Nat → Int} {l1 l2 : Int32} {n u : Nat} (hR : RF h) (hd : 1 ≤ d) (ok : OKF B F) (hv : vC h 9 bg = F) (hn : F 1 = n) (eu : l2.toInt = u) (hu : u ≤ 16) (hp : 0 ≤ l1.toInt) (k : ∀ h', LY 81 82 F u h (qlS F l1.toInt n 0 []) h' → Q (nI (2 ^ (qlS F l1.toInt n 0 []).length)) h') : EvI G d mX7_lay [.inr (.inr (some 1)), .inl l1, .inl l2, .inr (.inr (some 81)), .inr (.inr (some 82))] h Q := by
  obtain ⟨e, rfl⟩ := dpos (show 1 ≤ d by omega)
  refine vc_X7_layb hR ?_
  refine rg_layb (h0 := h) ok hv hn eu hu hp n 0 [] _ (by omega) ⟨by simp, fun k hk => absurd hk (by simp), fun i j _ hj => absurd hj (by simp)⟩ ⟨hR, fun a ha => ?_, fun a ha => ?_, fun i hi => ?_⟩ k
  · rw [sL_1]
    funext t
    rw [sI_ne (by omega)]
  · funext t
    rw [sL_ne2 (by omega), sI_2]
  · have : i = 0 := by
      have : i < 1 := hi
      omega
    subst this
    rw [sL_1, sI_self, sL_s2]
    exact ⟨rfl, rfl⟩
end
