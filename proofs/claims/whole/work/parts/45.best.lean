/-! best: bits, the words that may come, what is tried -/
section
variable {G : GT} {d : Nat} {h : Hp} {Q : Int32 → Hp → Prop} {QW : Hp → Prop}
theorem low1 (y : BitVec 32) : y &&& 1#32 = 1#32 ↔ y.getLsbD 0 = true := by
  constructor
  · intro e
    have e2 := congrArg (fun z => BitVec.getLsbD z 0) e
    simpa using e2
  · intro e
    apply BitVec.eq_of_getLsbD_eq
    intro i hi
    by_cases c : i = 0
    · subst c; simp [e]
    · rw [BitVec.getLsbD_and]
      have : (1#32).getLsbD i = false := by
        have : ∀ i, i < 32 → ¬ i = 0 → (1#32).getLsbD i = false := by decide
        exact this i hi c
      rw [this, Bool.and_false]
theorem bitP_iff {X : Int32} {p : Nat} (hp : p < 12) : bitP X p ↔ X.toBitVec.getLsbD p = true := by
  have sm : ∀ p, p < 12 → ((nI p &&& 31).toBitVec.smod 32).toNat = p := by decide
  unfold bitP
  rw [← Int32.toBitVec_inj, Int32.toBitVec_and, Int32.toBitVec_shiftRight, BitVec.sshiftRight_eq', sm p hp]
  show _ &&& 1#32 = 1#32 ↔ _
  rw [low1, BitVec.getLsbD_sshiftRight]
  rw [if_pos (by omega)]
  simp
theorem bitP_or {X Y : Int32} {p : Nat} (hp : p < 12) : bitP (X ||| Y) p ↔ bitP X p ∨ bitP Y p := by
  rw [bitP_iff hp, bitP_iff hp, bitP_iff hp, Int32.toBitVec_or, BitVec.getLsbD_or, Bool.or_eq_true]
theorem bitP_one : ∀ w, w < 12 → ∀ p, p < 12 → (bitP (1 <<< (nI w &&& 31)) p ↔ p = w) := by decide
theorem bitP_0 : ∀ p, p < 12 → ¬ bitP 0 p := by decide
/-- how many bits -/
def pc (u : Nat) : Nat := (u.testBit 0).toNat + (u.testBit 1).toNat + (u.testBit 2).toNat + (u.testBit 3).toNat + (u.testBit 4).toNat
theorem u_bit : ∀ u, u < 32 → ∀ k, k < 5 → (((nI u >>> (nI k &&& 31)) &&& 1) = 1 ↔ u.testBit k = true) := by decide
theorem u_set : ∀ u, u < 32 → ∀ k, k < 5 → u.testBit k = false → (nI u ||| (1 <<< (nI k &&& 31))) = nI (u + 2 ^ k) ∧ u + 2 ^ k < 32 ∧ pc (u + 2 ^ k) = pc u + 1 := by decide
theorem u_test : ∀ u, u < 32 → ∀ k, k < 5 → u.testBit k = false → ∀ j, j < 5 → (u + 2 ^ k).testBit j = (decide (j = k) || u.testBit j) := by decide
theorem u_off : ∀ u, u < 32 → ∀ k, k < 5 → u.testBit k = false → (nI (u + 2 ^ k) &&& ((1 <<< (nI k &&& 31)) ^^^ (-1))) = nI u := by decide
theorem u_full : ∀ u, u < 32 → pc u = 5 → ∀ k, k < 5 → u.testBit k = true := by decide
/-- the words of a set that may come into a row, in order, from w on (m words left) -/
def plS (F : Nat → Int) (set : Int32) : Nat → Nat → List Nat → List Nat
  | 0, _, L => L
  | m + 1, w, L => if 5 ≤ L.length then L else plS F set m (w + 1) (if F (34 + 5 * w) = 0 ∧ bitP set (F (30 + 5 * w)).toNat then L ++ [w] else L)
theorem getD_appN (tr : List Nat) (b : Nat) (i : Nat) : (tr ++ [b]).getD i 0 = if i < tr.length then tr.getD i 0 else if i = tr.length then b else 0 := by
  simp only [List.getD_eq_getElem?_getD, List.getElem?_append]
  split
  · rfl
  · split
    · rename_i e; subst e; simp
    · rename_i a b'
      have : i - tr.length ≠ 0 := by omega
      rw [List.getElem?_eq_none (by simp only [List.length_cons, List.length_nil]; omega)]; rfl
/-- a row of different words below w -/
def okL (L : List Nat) (w : Nat) : Prop := L.length ≤ 5 ∧ (∀ k, k < L.length → L.getD k 0 < w) ∧ (∀ i j, i < j → j < L.length → L.getD i 0 < L.getD j 0)
theorem okL_app {L : List Nat} {w : Nat} (o : okL L w) (h5 : ¬ 5 ≤ L.length) : okL (L ++ [w]) (w + 1) := by
  have ln : (L ++ [w]).length = L.length + 1 := by simp
  refine ⟨by omega, fun k hk => ?_, fun i j hij hj => ?_⟩
  · rw [getD_appN]
    by_cases c : k < L.length
    · rw [if_pos c]; have := o.2.1 k c; omega
    · rw [if_neg c, if_pos (by omega)]; omega
  · rw [getD_appN, getD_appN, if_pos (show i < L.length by omega)]
    by_cases c : j < L.length
    · rw [if_pos c]; exact o.2.2 i j hij c
    · rw [if_neg c, if_pos (by omega)]; exact o.2.1 i (by omega)
theorem okL_up {L : List Nat} {w w' : Nat} (o : okL L w) (hw : w ≤ w') : okL L w' := ⟨o.1, fun k hk => by have := o.2.1 k hk; omega, o.2.2⟩
theorem okL_pl {F : Nat → Int} {set : Int32} : ∀ (m w : Nat) (L : List Nat), okL L w → okL (plS F set m w L) (w + m)
  | 0, w, L, o => o
  | m + 1, w, L, o => by
    unfold plS
    split
    · exact okL_up o (by omega)
    · rename_i h5
      rw [show w + (m + 1) = (w + 1) + m by omega]
      refine okL_pl m (w + 1) _ ?_
      split
      · exact okL_app o h5
      · exact okL_up o (by omega)
/-- the class gathers -/
def GC (h0 : Hp) (L : List Nat) (h : Hp) : Prop := RF h ∧ (∀ a, a ≠ 49 → a ≠ 51 → h.1 a = h0.1 a) ∧ (∀ k, k ≠ 5 → h.1 49 k = h0.1 49 k) ∧ h.1 49 5 = nI L.length ∧ ∀ i, i < L.length → h.1 51 i = nI (L.getD i 0)
def GM (h0 : Hp) (L : List Nat) (h : Hp) : Prop := RF h ∧ (∀ a, a ≠ 94 → a ≠ 100 → h.1 a = h0.1 a) ∧ (∀ k, k ≠ 13 → h.1 94 k = h0.1 94 k) ∧ h.1 94 13 = nI L.length ∧ ∀ i, i < L.length → h.1 100 i = nI (L.getD i 0)
theorem GC_app {h0 : Hp} {L : List Nat} {w : Nat} {x : Int32} (g : GC h0 L h) (h5 : ¬ 5 ≤ L.length) (hL : L.length ≤ 5) (ex : x = nI w) : GC h0 (L ++ [w]) (sI (sI h 51 (Int32.toNatClampNeg (h.1 49 5)) x) 49 5 (h.1 49 5 + 1)) := by
  obtain ⟨w1, w2, w3, w6, w7⟩ := g
  have ec : Int32.toNatClampNeg (h.1 49 5) = L.length := by rw [w6]; exact cl_of (ti_nI (by omega))
  refine ⟨w1, fun a z1 z2 => ?_, fun k z => ?_, ?_, fun i hi => ?_⟩
  · funext t
    rw [sI_ne (by omega), sI_ne (by omega), w2 a z1 z2]
  · rw [sI_ne (by omega), sI_ne (by omega), w3 k z]
  · rw [sI_self, w6, nI_1, List.length_append]; rfl
  · rw [List.length_append] at hi
    simp only [List.length_cons, List.length_nil] at hi
    rw [sI_ne (by omega), sI_at, ec, getD_appN, ex]
    by_cases c : i < L.length
    · rw [if_neg (by omega), if_pos c]; exact w7 i c
    · rw [if_pos (by omega), if_neg c, if_pos (by omega)]
theorem GM_app {h0 : Hp} {L : List Nat} {w : Nat} {x : Int32} (g : GM h0 L h) (h5 : ¬ 5 ≤ L.length) (hL : L.length ≤ 5) (ex : x = nI w) : GM h0 (L ++ [w]) (sI (sI h 100 (Int32.toNatClampNeg (h.1 94 13)) x) 94 13 (h.1 94 13 + 1)) := by
  obtain ⟨w1, w2, w3, w6, w7⟩ := g
  have ec : Int32.toNatClampNeg (h.1 94 13) = L.length := by rw [w6]; exact cl_of (ti_nI (by omega))
  refine ⟨w1, fun a z1 z2 => ?_, fun k z => ?_, ?_, fun i hi => ?_⟩
  · funext t
    rw [sI_ne (by omega), sI_ne (by omega), w2 a z1 z2]
  · rw [sI_ne (by omega), sI_ne (by omega), w3 k z]
  · rw [sI_self, w6, nI_1, List.length_append]; rfl
  · rw [List.length_append] at hi
    simp only [List.length_cons, List.length_nil] at hi
    rw [sI_ne (by omega), sI_at, ec, getD_appN, ex]
    by_cases c : i < L.length
    · rw [if_neg (by omega), if_pos c]; exact w7 i c
    · rw [if_pos (by omega), if_neg c, if_pos (by omega)]
theorem rg_gather {B : Int} {h0 : Hp} {set : Int32} {bg : Nat → Int} {n : Nat} (ok : OKF B (vC h0 9 bg)) (hn : vC h0 9 bg 1 = n) : ∀ (m w : Nat) (L : List Nat) (h : Hp), w + m = n → L.length ≤ 5 → GC h0 L h → (∀ h', GC h0 (plS (vC h0 9 bg) set m w L) h' → QW h') → Rg_X5_gather_7 G d set (nI w) h QW := by
  have o1 := ok.2.1
  have e1 : vC h0 9 bg 1 = (h0.1 1 4).toInt := rfl
  intro m
  induction m with
  | zero =>
    intro w L h hw hL g k
    have ew : (nI w).toInt = (w : Int) := ti_nI (by omega)
    refine vc_X5_gather_7 g.1 ⟨fun _ => k h g, fun z => ?_⟩
    exfalso
    rw [g.2.1 1 (by omega) (by omega), i_le, ew] at z
    omega
  | succ m ih =>
    intro w L h hw hL g k
    have ew : (nI w).toInt = (w : Int) := ti_nI (by omega)
    have el : (h.1 49 5).toInt = (L.length : Int) := by rw [g.2.2.2.1]; exact ti_nI (by omega)
    have o := ok.2.2.2.2.2.2.2.2.2 w (by omega)
    have vw := @vC_w h0 9 bg w (by omega)
    unfold OKW at o
    have inn : vp_in (nI w) 12 := in_of (by omega) (by omega)
    unfold plS at k
    have go : ∀ h', GC h0 L h' → ¬ 5 ≤ L.length → ¬ (vC h0 9 bg (34 + 5 * w) = 0 ∧ bitP set (vC h0 9 bg (30 + 5 * w)).toNat) → Rg_X5_gather_7 G d set (nI (w + 1)) h' QW := fun h' g' h5 c => by
      rw [if_neg h5, if_neg c] at k
      exact ih (w + 1) L h' (by omega) hL g' k
    refine vc_X5_gather_7 g.1 ⟨fun z => ?_, fun _ => ⟨fun z => ?_, fun _ => ⟨fun z => ?_, fun z => ?_⟩⟩⟩
    · exfalso
      rw [g.2.1 1 (by omega) (by omega), i_le, ew] at z
      omega
    · exfalso
      rw [i_le, ew] at z
      simp only [Int32.reduceToInt] at z
      omega
    · rw [i_le, el] at z
      simp only [Int32.reduceToInt] at z
      rw [if_pos (by omega)] at k
      exact k h g
    · rw [i_le, el] at z
      simp only [Int32.reduceToInt] at z
      have h5 : ¬ 5 ≤ L.length := by omega
      have e5 : h.1 5 w = nI (vC h0 9 bg (30 + 5 * w)).toNat := by
        rw [g.2.1 5 (by omega) (by omega)]
        refine eq_nI ?_
        omega
      rw [cl_of ew, e5, g.2.1 12 (by omega) (by omega), nI_1]
      refine ⟨inn, fun c => go h g h5 (fun y => c y.2), fun c => ⟨inn, fun c2 => go h g h5 (fun y => c2 ?_), fun c2 => ⟨in_of (by omega) (by omega), ?_⟩⟩⟩
      · rw [i_eq]
        show _ = (0 : Int)
        exact vw.2.2.2.2.symm.trans y.1
      · rw [i_eq] at c2
        simp only [Int32.reduceToInt] at c2
        have c3 : vC h0 9 bg (34 + 5 * w) = 0 := by rw [vw.2.2.2.2]; exact c2
        rw [if_neg h5, if_pos ⟨c3, c⟩] at k
        exact ih (w + 1) (L ++ [w]) _ (by omega) (by rw [List.length_append]; simp only [List.length_cons, List.length_nil]; omega) (GC_app g h5 hL rfl) k
theorem rg_pool {B : Int} {h0 : Hp} {set : Int32} {n : Nat} (hd : 1 ≤ d) (ok : OKF B (vM h0)) (hn : vM h0 1 = n) : ∀ (m w : Nat) (L : List Nat) (h : Hp), w + m = n → L.length ≤ 5 → GM h0 L h → (∀ h', GM h0 (plS (vM h0) set m w L) h' → QW h') → Rg_X12_findPool_7 G d set (nI w) h QW := by
  have o1 := ok.2.1
  have e1 : vM h0 1 = (h0.1 95 1).toInt := rfl
  intro m
  induction m with
  | zero =>
    intro w L h hw hL g k
    have ew : (nI w).toInt = (w : Int) := ti_nI (by omega)
    refine vc_X12_findPool_7 g.1 ⟨fun _ => k h g, fun z => ?_⟩
    exfalso
    rw [g.2.1 95 (by omega) (by omega), i_le, ew] at z
    omega
  | succ m ih =>
    intro w L h hw hL g k
    have ew : (nI w).toInt = (w : Int) := ti_nI (by omega)
    have el : (h.1 94 13).toInt = (L.length : Int) := by rw [g.2.2.2.1]; exact ti_nI (by omega)
    have o := ok.2.2.2.2.2.2.2.2.2 w (by omega)
    unfold OKW at o
    unfold plS at k
    have go : ∀ h', GM h0 L h' → ¬ 5 ≤ L.length → ¬ (vM h0 (34 + 5 * w) = 0 ∧ bitP set (vM h0 (30 + 5 * w)).toNat) → Rg_X12_findPool_7 G d set (nI (w + 1)) h' QW := fun h' g' h5 c => by
      rw [if_neg h5, if_neg c] at k
      exact ih (w + 1) L h' (by omega) hL g' k
    refine vc_X12_findPool_7 g.1 ⟨fun z => ?_, fun _ => ⟨fun z => ?_, fun z => ?_⟩⟩
    · exfalso
      rw [g.2.1 95 (by omega) (by omega), i_le, ew] at z
      omega
    · rw [i_le, el] at z
      simp only [Int32.reduceToInt] at z
      rw [if_pos (by omega)] at k
      exact k h g
    · rw [i_le, el] at z
      simp only [Int32.reduceToInt] at z
      have h5 : ¬ 5 ≤ L.length := by omega
      have e5 : h0.1 95 (30 + 5 * w) = nI (vM h0 (30 + 5 * w)).toNat := by
        refine eq_nI ?_
        have : (h0.1 95 (30 + 5 * w)).toInt = vM h0 (30 + 5 * w) := rfl
        omega
      refine ev_its g.1 hd (j := w) (w := 4) rfl rfl (by omega) (by omega) ?_
      rw [g.2.1 95 (by omega) (by omega), show 30 + 5 * w + 4 = 34 + 5 * w by omega, nI_1]
      refine ⟨fun c2 => go h g h5 (fun y => c2 (by rw [i_eq]; exact y.1)), fun c2 => ev_its g.1 hd (j := w) (w := 0) rfl rfl (by omega) (by omega) ?_⟩
      rw [g.2.1 95 (by omega) (by omega), show 30 + 5 * w + 0 = 30 + 5 * w by omega, e5]
      refine ⟨fun c => go h g h5 (fun y => c y.2), fun c => ⟨in_of (by omega) (by omega), ?_⟩⟩
      rw [i_eq] at c2
      rw [if_neg h5, if_pos ⟨c2, c⟩] at k
      exact ih (w + 1) (L ++ [w]) _ (by omega) (by rw [List.length_append]; simp only [List.length_cons, List.length_nil]; omega) (GM_app g h5 hL rfl) k
theorem ev_gather {B : Int} {set : Int32} {bg : Nat → Int} {n : Nat} (hR : RF h) (hd : 1 ≤ d) (ok : OKF B (vC h 9 bg)) (hn : vC h 9 bg 1 = n) (k : ∀ h', GC h (plS (vC h 9 bg) set n 0 []) h' → QW h') : EvV G d mX5_gather [.inr (.inr (some 49)), .inr (.inr (some 1)), .inl set] h QW := by
  obtain ⟨e, rfl⟩ := dpos (show 1 ≤ d by omega)
  refine vc_X5_gather hR ?_
  have ev : vC (sI h 49 5 0) 9 bg = vC h 9 bg := vC_eq2 (fun a _ _ => by funext t; rw [sI_ne (by omega)]) (fun k _ _ => by rw [sI_ne (by omega)]) (fun k _ => by rw [sI_ne (by omega)]) (fun k _ => by rw [sI_ne (by omega)]) (fun k _ => by rw [sI_ne (by omega)])
  exact rg_gather (h0 := h) ok hn n 0 [] _ (by omega) (by simp) ⟨hR, fun a _ _ => by funext t; rw [sI_ne (by omega)], fun k _ => by rw [sI_ne (by omega)], by rw [sI_self]; rfl, fun i hi => absurd hi (by simp)⟩ k
theorem ev_findPool {B : Int} {set : Int32} {n : Nat} (hR : RF h) (hd : 2 ≤ d) (ok : OKF B (vM h)) (hn : vM h 1 = n) (k : ∀ h', GM h (plS (vM h) set n 0 []) h' → QW h') : EvV G d mX12_findPool [.inr (.inr (some 94)), .inl set] h QW := by
  obtain ⟨e, rfl⟩ := dpos (show 1 ≤ d by omega)
  refine vc_X12_findPool hR ?_
  exact rg_pool (h0 := h) (by omega) ok hn n 0 [] _ (by omega) (by simp) ⟨hR, fun a _ _ => by funext t; rw [sI_ne (by omega)], fun k _ => by rw [sI_ne (by omega)], by rw [sI_self]; rfl, fun i hi => absurd hi (by simp)⟩ k
end
