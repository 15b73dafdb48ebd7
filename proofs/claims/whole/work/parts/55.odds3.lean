/-! odds: both -/
section
variable {G : GT} {d : Nat} {h : Hp} {Q : Int32 → Hp → Prop} {QW : Hp → Prop} {QL' : Int64 → Hp → Prop}
theorem nL_le {a : Nat} : nL a + 0 = nL a := Int64.add_zero _
def WF (h0 h : Hp) : Prop := RF h ∧ h.1 = h0.1 ∧ ∀ a, a ≠ 78 → h.2.1 a = h0.2.1 a
/-- both lie there -/
def LB (F : Nat → Int) (u : Nat) (L1 L2 : List Nat) (h : Hp) : Prop := (∀ i, i < 2 ^ L1.length → (h.1 79 i).toInt = SG (woS F L1) i L1.length ∧ h.2.1 80 i = nL (FG u i L1.length)) ∧ ∀ i, i < 2 ^ L2.length → (h.1 81 i).toInt = SG (woS F L2) i L2.length ∧ h.2.1 82 i = nL (FG u i L2.length)
section
variable {F : Nat → Int} {u : Nat} {L1 L2 : List Nat} {h0 : Hp}
def gAb (F : Nat → Int) (u : Nat) (L1 L2 : List Nat) (i j : Nat) : Nat := if SG (woS F L2) j L2.length < SG (woS F L1) i L1.length then FG u i L1.length * FG u j L2.length else 0
def gBe (u : Nat) (L1 L2 : List Nat) (i j : Nat) : Nat := FG u i L1.length * FG u j L2.length
def SA (F : Nat → Int) (u : Nat) (L1 L2 : List Nat) (i : Nat) : Nat := sumN (fun i => sumN (gAb F u L1 L2 i) (2 ^ L2.length)) i
def SB (u : Nat) (L1 L2 : List Nat) (i : Nat) : Nat := sumN (fun i => sumN (gBe u L1 L2 i) (2 ^ L2.length)) i
theorem rg_w67 (h1 : L1.length ≤ 5) (h2 : L2.length ≤ 5) (lb : LB F u L1 L2 h0) {i X0 Y0 : Nat} (hi : i < 2 ^ L1.length) (k : ∀ h', WF h0 h' → h'.2.1 78 0 = nL (X0 + sumN (gAb F u L1 L2 i) (2 ^ L2.length)) → h'.2.1 78 1 = nL (Y0 + sumN (gBe u L1 L2 i) (2 ^ L2.length)) → Rg_X7_weigh_47 G d (nI (2 ^ L1.length)) (nI (2 ^ L2.length)) (nI (i + 1)) h' QW) : ∀ (m j : Nat) (h : Hp), j + m = 2 ^ L2.length → WF h0 h → h.2.1 78 0 = nL (X0 + sumN (gAb F u L1 L2 i) j) → h.2.1 78 1 = nL (Y0 + sumN (gBe u L1 L2 i) j) → Rg_X7_weigh_67 G d (nI (2 ^ L1.length)) (nI (2 ^ L2.length)) (nI i) (nI j) h QW := by
  have p1 := pw_le h1
  have p2 := pw_le h2
  have ei : (nI i).toInt = (i : Int) := ti_nI (by omega)
  intro m
  induction m with
  | zero =>
    intro j h hj w e0 e1
    have ej : j = 2 ^ L2.length := by omega
    rw [ej] at e0 e1 ⊢
    refine vc_X7_weigh_67 w.1 ⟨fun _ => by rw [nI_1]; exact k h w e0 e1, fun y => ?_⟩
    exfalso
    rw [i_le] at y
    omega
  | succ m ih =>
    intro j h hj w e0 e1
    have ej : (nI j).toInt = (j : Int) := ti_nI (by omega)
    have a1 := lb.1 i hi
    have a2 := lb.2 j (by omega)
    have sA : sumN (gAb F u L1 L2 i) (j + 1) = sumN (gAb F u L1 L2 i) j + gAb F u L1 L2 i j := rfl
    have sB : sumN (gBe u L1 L2 i) (j + 1) = sumN (gBe u L1 L2 i) j + gBe u L1 L2 i j := rfl
    refine vc_X7_weigh_67 w.1 ⟨fun z => ?_, fun _ => ⟨fun z => ?_, fun _ => ⟨in_of (by omega) (by omega), in_of (by omega) (by omega), in_of (by omega) (by omega), in_of (by omega) (by omega), ?_⟩⟩⟩
    · exfalso
      rw [i_le, ti_nI (by omega), ti_nI (by omega)] at z
      omega
    · exfalso
      rw [i_le, ej] at z
      simp only [Int32.reduceToInt] at z
      omega
    · rw [cl_of ei, cl_of ej, w.2.1, w.2.2 80 (by omega), w.2.2 82 (by omega), a1.2, a2.2, e0, e1, ← nL_mul, ← nL_add, nI_1]
      have eb : Y0 + sumN (gBe u L1 L2 i) j + FG u i L1.length * FG u j L2.length = Y0 + sumN (gBe u L1 L2 i) (j + 1) := by
        rw [sB]
        show _ = Y0 + (_ + FG u i L1.length * FG u j L2.length)
        omega
      rw [eb]
      refine ⟨fun z => ?_, fun z h10 e10 => ?_⟩
      · rw [i_le, a1.1, a2.1] at z
        refine ih (j + 1) _ (by omega) ⟨w.1, w.2.1, fun a ha => by funext t; rw [sL_ne2 (by omega), w.2.2 a ha]⟩ ?_ (sL_s2 _ _ _ _)
        rw [sL_ne2 (by omega), e0, sA]
        unfold gAb
        rw [if_neg (by omega)]
        rfl
      · rw [i_le, a1.1, a2.1] at z
        rw [e10]
        refine ih (j + 1) _ (by omega) ⟨w.1, w.2.1, fun a ha => by funext t; rw [sL_ne2 (by omega), sL_ne2 (by omega), w.2.2 a ha]⟩ ?_ ?_
        · rw [sL_s2, ← nL_add, sA]
          unfold gAb
          rw [if_pos (by omega), Nat.add_assoc]
        · rw [sL_ne2 (by omega), sL_s2]
theorem rg_w47 (h1 : L1.length ≤ 5) (h2 : L2.length ≤ 5) (lb : LB F u L1 L2 h0) (k : ∀ h', WF h0 h' → h'.2.1 78 0 = nL (SA F u L1 L2 (2 ^ L1.length)) → h'.2.1 78 1 = nL (SB u L1 L2 (2 ^ L1.length)) → QW h') : ∀ (m i : Nat) (h : Hp), i + m = 2 ^ L1.length → WF h0 h → h.2.1 78 0 = nL (SA F u L1 L2 i) → h.2.1 78 1 = nL (SB u L1 L2 i) → Rg_X7_weigh_47 G d (nI (2 ^ L1.length)) (nI (2 ^ L2.length)) (nI i) h QW := by
  have p1 := pw_le h1
  intro m
  induction m with
  | zero =>
    intro i h hi w e0 e1
    have ei : i = 2 ^ L1.length := by omega
    rw [ei] at e0 e1 ⊢
    refine vc_X7_weigh_47 w.1 ⟨fun _ => k h w e0 e1, fun y => ?_⟩
    exfalso
    rw [i_le] at y
    omega
  | succ m ih =>
    intro i h hi w e0 e1
    have ei : (nI i).toInt = (i : Int) := ti_nI (by omega)
    refine vc_X7_weigh_47 w.1 ⟨fun z => ?_, fun _ => ⟨fun z => ?_, fun _ => ?_⟩⟩
    · exfalso
      rw [i_le, ti_nI (by omega), ti_nI (by omega)] at z
      omega
    · exfalso
      rw [i_le, ei] at z
      simp only [Int32.reduceToInt] at z
      omega
    · exact rg_w67 h1 h2 lb (X0 := SA F u L1 L2 i) (Y0 := SB u L1 L2 i) (by omega) (fun h' w' f0 f1 => ih (i + 1) h' (by omega) w' f0 f1) (2 ^ L2.length) 0 h (by omega) w e0 e1
theorem ev_weighO {B : Int} {bg : Nat → Int} {a1 a2 a3 : Int32} {n : Nat} (hR : RF h) (hd : 3 ≤ d) (ok : OKF B F) (hv : vC h 9 bg = F) (hn : F 1 = n) (eu : a3.toInt = u) (hu : u ≤ 16) (hp1 : 0 ≤ a1.toInt) (hp2 : 0 ≤ a2.toInt) (k : ∀ h', RF h' → (∀ a, ¬ (78 ≤ a ∧ a ≤ 82) → h'.1 a = h.1 a) → h'.2.1 78 0 = nL (SA F u (qlS F a1.toInt n 0 []) (qlS F a2.toInt n 0 []) (2 ^ (qlS F a1.toInt n 0 []).length)) → h'.2.1 78 1 = nL (SB u (qlS F a1.toInt n 0 []) (qlS F a2.toInt n 0 []) (2 ^ (qlS F a1.toInt n 0 []).length)) → QW h') : EvV G d mX7_weigh [.inr (.inr (some 78)), .inr (.inr (some 1)), .inl a1, .inl a2, .inl a3] h QW := by
  obtain ⟨e, rfl⟩ := dpos (show 1 ≤ d by omega)
  have o1 := okL_ql (F := F) (p := a1.toInt) n 0 [] ⟨by simp, fun k hk => absurd hk (by simp), fun i j _ hj => absurd hj (by simp)⟩
  have o2 := okL_ql (F := F) (p := a2.toInt) n 0 [] ⟨by simp, fun k hk => absurd hk (by simp), fun i j _ hj => absurd hj (by simp)⟩
  refine vc_X7_weigh hR (ev_laya hR (by omega) ok hv hn eu hu hp1 (fun h1 y1 => ?_))
  have hv1 : vC h1 9 bg = F := by
    rw [← hv]
    exact vC_eq2 (fun a _ _ => y1.2.1 a (by omega)) (fun k _ _ => by rw [y1.2.1 9 (by omega)]) (fun k _ => by rw [y1.2.1 _ (by omega)]) (fun k _ => by rw [y1.2.1 _ (by omega)]) (fun k _ => by rw [y1.2.1 _ (by omega)])
  refine ev_layb y1.1 (by omega) ok hv1 hn eu hu hp2 (fun h3 y3 => ?_)
  refine rg_w47 (F := F) (u := u) (h0 := sL (sL h3 78 0 0) 78 1 0) o1.1 o2.1 ⟨fun i hi => ?_, fun i hi => ?_⟩ (fun h' w e0 e1 => k h' w.1 (fun a ha => ?_) e0 e1) (2 ^ (qlS F a1.toInt n 0 []).length) 0 _ (by omega) ⟨y3.1, rfl, fun _ _ => rfl⟩ ?_ ?_
  · rw [sL_1, sL_1, sL_ne2 (by omega), sL_ne2 (by omega), y3.2.1 79 (by omega), y3.2.2.1 80 (by omega)]
    exact y1.2.2.2 i hi
  · rw [sL_1, sL_1, sL_ne2 (by omega), sL_ne2 (by omega)]
    exact y3.2.2.2 i hi
  · rw [w.2.1, sL_1, sL_1, y3.2.1 a (by omega), y1.2.1 a (by omega)]
  · rw [sL_ne2 (by omega), sL_s2]; rfl
  · rw [sL_s2]; rfl
end
/-- the reference hears -/
def HO (h0 : Hp) (nb : Nat) (V0 : Nat → Int) (sg : Int) (F : Nat → Int) (L : List Nat) (h : Hp) : Prop := RF h ∧ (∀ a, a ≠ 94 → a ≠ 112 → h.1 a = h0.1 a) ∧ (∀ t, t ≠ 30 → h.1 94 t = h0.1 94 t) ∧ h.1 94 30 = nI (nb + L.length) ∧ (∀ k, k < nb → (h.1 112 k).toInt = V0 k) ∧ ∀ k, k < L.length → (h.1 112 (nb + k)).toInt = sg * woS F L k
theorem rg_hears {B : Int} {h0 : Hp} {F : Nat → Int} {l1 l2 : Int32} {n nb : Nat} {V0 : Nat → Int} {sg : Int} (hd : 1 ≤ d) (ok : OKF B F) (hv : vM h0 = F) (hn : F 1 = n) (hnb : nb ≤ 5) (es : l2.toInt = sg) (hs : sg = 1 ∨ sg = -1) : ∀ (m w : Nat) (L : List Nat) (h : Hp), w + m = n → L.length ≤ 5 → HO h0 nb V0 sg F L h → (∀ h', HO h0 nb V0 sg F (qlS F l1.toInt m w L) h' → QW h') → Rg_X12_hearsOf_5 G d l1 l2 (nI L.length) (nI w) h QW := by
  have o1 := ok.2.1
  have e1 : (h0.1 95 1).toInt = F 1 := by rw [← hv] <;> rfl
  have e95 : ∀ i, (h0.1 95 i).toInt = F i := fun i => by rw [← hv] <;> rfl
  intro m
  induction m with
  | zero =>
    intro w L h hw hL g k
    refine vc_X12_hearsOf_5 g.1 ⟨fun _ => k h g, fun z => ?_⟩
    exfalso
    rw [g.2.1 95 (by omega) (by omega), i_le, ti_nI (by omega)] at z
    omega
  | succ m ih =>
    intro w L h hw hL g k
    have ew : (nI w).toInt = (w : Int) := ti_nI (by omega)
    have el : (nI L.length).toInt = (L.length : Int) := ti_nI (by omega)
    have ow := ok.2.2.2.2.2.2.2.2.2 w (by omega)
    unfold OKW at ow
    unfold qlS at k
    refine vc_X12_hearsOf_5 g.1 ⟨fun z => ?_, fun _ => ⟨fun z => ?_, fun z => ?_⟩⟩
    · exfalso
      rw [g.2.1 95 (by omega) (by omega), i_le, ew] at z
      omega
    · rw [i_le, el] at z
      simp only [Int32.reduceToInt] at z
      rw [if_pos (by omega)] at k
      exact k h g
    · rw [i_le, el] at z
      simp only [Int32.reduceToInt] at z
      have h5 : ¬ 5 ≤ L.length := by omega
      rw [if_neg h5] at k
      have go : ¬ (F (30 + 5 * w) = l1.toInt ∧ F (34 + 5 * w) = 1) → Rg_X12_hearsOf_5 G d l1 l2 (nI L.length) (nI (w + 1)) h QW := fun c => by
        rw [if_neg c] at k
        exact ih (w + 1) L h (by omega) hL g k
      refine ev_its g.1 hd (j := w) (w := 0) rfl rfl (by omega) (by omega) ?_
      rw [g.2.1 95 (by omega) (by omega), show 30 + 5 * w + 0 = 30 + 5 * w by omega, nI_1]
      refine ⟨fun c => go (fun q => c (by rw [i_eq, e95]; exact q.1)), fun c => ev_its g.1 hd (j := w) (w := 4) rfl rfl (by omega) (by omega) ?_⟩
      rw [g.2.1 95 (by omega) (by omega), show 30 + 5 * w + 4 = 34 + 5 * w by omega]
      refine ⟨fun c2 => go (fun q => c2 (by rw [i_eq, e95]; exact q.2)), fun c2 => ev_its g.1 hd (j := w) (w := 2) rfl rfl (by omega) (by omega) ?_⟩
      rw [i_eq, e95] at c c2
      have c3 : F (34 + 5 * w) = 1 := c2
      rw [if_pos ⟨c, c3⟩] at k
      rw [g.2.1 95 (by omega) (by omega), show 30 + 5 * w + 2 = 32 + 5 * w by omega]
      obtain ⟨g1, g2, g3, g4, g5, g6⟩ := g
      have e30 : (h.1 94 30).toInt = ((nb + L.length : Nat) : Int) := by rw [g4]; exact ti_nI (by omega)
      have ln : (L ++ [w]).length = L.length + 1 := by simp
      have wa := @woS_app F L w
      refine ⟨in_of (by omega) (by omega), ?_⟩
      rw [cl_of e30, nI_1]
      have em : (l2 * h0.1 95 (32 + 5 * w)).toInt = sg * F (32 + 5 * w) := by
        have := e95 (32 + 5 * w)
        rcases hs with rfl | rfl
        · rw [ti_mul (by rw [es, this]; omega) (by rw [es, this]; omega), es, this]
        · rw [ti_mul (by rw [es, this]; omega) (by rw [es, this]; omega), es, this]
      have gg := ih (w + 1) (L ++ [w]) (sI (sI h 112 (nb + L.length) (l2 * h0.1 95 (32 + 5 * w))) 94 30 (h.1 94 30 + 1)) (by omega) (by omega) ⟨g1, fun a z1 z2 => by funext t; rw [sI_ne (by omega), sI_ne (by omega), g2 a z1 z2], fun t z1 => by rw [sI_ne (by omega), sI_ne (by omega), g3 t z1], by rw [sI_self, g4, nI_1, ln]; rfl, fun q hq => by rw [sI_ne (by omega), sI_ne (by omega)]; exact g5 q hq, fun q hq => ?_⟩ k
      · rw [ln] at gg
        exact gg
      · rw [ln] at hq
        by_cases c : q = L.length
        · subst c
          rw [sI_ne (by omega), sI_self, wa.2, em]
        · rw [sI_ne (by omega), sI_ne (by omega), wa.1 q (by omega)]
          exact g6 q (by omega)
theorem bitS {s k : Nat} (hs : s < 2 ^ 31) (hk : k < 12) : ((nI s >>> (nI k &&& 31)) &&& 1) = 1 ↔ s.testBit k = true := by
  have := @bitP_iff (nI s) k hk
  unfold bitP at this
  rw [this]
  have e : (nI s).toBitVec = BitVec.ofNat 32 s := by
    show (Int32.ofInt (s : Int)).toBitVec = _
    rw [Int32.toBitVec_ofInt, BitVec.ofInt_natCast]
  rw [e, BitVec.getLsbD_ofNat]
  simp
  omega
theorem SG_in2 {W : Nat → Int} {s : Nat} : ∀ (n : Nat), (∀ k, k < n → -99 ≤ W k ∧ W k ≤ 99) → -99 * (n : Int) ≤ SG W s n ∧ SG W s n ≤ 99 * (n : Int)
  | 0, _ => ⟨Int.le_refl _, Int.le_refl _⟩
  | n + 1, g => by
    have := SG_in2 (s := s) n (fun k hk => g k (by omega))
    have := g n (by omega)
    unfold SG
    split <;> (push_cast; omega)
end
