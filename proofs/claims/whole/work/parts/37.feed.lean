/-! feed, text -/
theorem b255 : ∀ k, k < 32 → (255#32).getLsbD k = decide (k < 8) := by decide
theorem b255' : ∀ k, k < 32 → (255#64).getLsbD k = decide (k < 8) := by decide
theorem byte_bv (b : BitVec 64) (s : Nat) (hs : s ≤ 56) : ((b >>> s).setWidth 32 &&& 255#32) = ((b.sshiftRight s &&& 255#64).setWidth 32) := by
  apply BitVec.eq_of_getLsbD_eq
  intro k hk
  rw [BitVec.getLsbD_and, BitVec.getLsbD_setWidth, BitVec.getLsbD_setWidth, BitVec.getLsbD_and, b255 k hk, b255' k hk, BitVec.getLsbD_ushiftRight, BitVec.getLsbD_sshiftRight]
  by_cases h8 : k < 8
  · have h1 : s + k < 64 := by omega
    have h2 : ¬ 64 ≤ k := by omega
    simp [hk, h8, h1, h2]
  · simp [h8]
theorem byte_eq (x : Int64) {i : Nat} (hi : i < 8) : (Int64.toInt32 ((Int64.toUInt64 x >>> ((Int32.toInt64 (8 * nI i)).toUInt64 &&& Int64.toUInt64 63)).toInt64)) &&& 255 = Int64.toInt32 ((x >>> (Int32.toInt64 (8 * nI i) &&& 63)) &&& 255) := by
  have key : ∀ s : Nat, s ≤ 56 → ((x.toBitVec >>> s).signExtend 32 &&& 255#32) = ((x.toBitVec.sshiftRight s &&& 255#64).signExtend 32) := fun s hs => by
    rw [BitVec.signExtend_eq_setWidth_of_le _ (by omega), BitVec.signExtend_eq_setWidth_of_le _ (by omega)]
    exact byte_bv x.toBitVec s hs
  apply Int32.toBitVec_inj.mp
  rcases (show i = 0 ∨ i = 1 ∨ i = 2 ∨ i = 3 ∨ i = 4 ∨ i = 5 ∨ i = 6 ∨ i = 7 by omega) with rfl | rfl | rfl | rfl | rfl | rfl | rfl | rfl
  · exact key 0 (by omega)
  · exact key 8 (by omega)
  · exact key 16 (by omega)
  · exact key 24 (by omega)
  · exact key 32 (by omega)
  · exact key 40 (by omega)
  · exact key 48 (by omega)
  · exact key 56 (by omega)
theorem byte_in (x : Int32) : 0 ≤ (x &&& 255).toInt ∧ (x &&& 255).toInt ≤ 255 := by
  have h1 : (x &&& 255).toInt = (x.toBitVec &&& 255#32).toInt := rfl
  have h2 : (x.toBitVec &&& 255#32).toNat ≤ 255 := by
    rw [BitVec.toNat_and]
    exact Nat.and_le_right
  have h3 : (x.toBitVec &&& 255#32).toInt = ((x.toBitVec &&& 255#32).toNat : Int) := by
    rw [BitVec.toInt_eq_toNat_cond, if_pos (by omega)]
  rw [h1, h3]
  omega
section
variable {G : GT} {d : Nat} {h : Hp} {Q : Int32 → Hp → Prop} {QW : Hp → Prop}
/-- the byte that feed takes at the i-th place -/
def fby (x : Int64) (i : Nat) : Int32 := (Int64.toInt32 ((Int64.toUInt64 x >>> ((Int32.toInt64 (8 * nI i)).toUInt64 &&& Int64.toUInt64 63)).toInt64)) &&& 255
/-- m numbers laid behind each other -/
def fil (h : Hp) (r b : Nat) (f : Nat → Int32) (n : Nat) : Hp := (fun a t => if a = r ∧ b ≤ t ∧ t < b + n then f (t - b) else h.1 a t, h.2)
theorem fil_at (h : Hp) (r b : Nat) (f : Nat → Int32) (n a t : Nat) : (fil h r b f n).1 a t = if a = r ∧ b ≤ t ∧ t < b + n then f (t - b) else h.1 a t := rfl
theorem fil_ne {h : Hp} {r b n a : Nat} {f : Nat → Int32} (ha : a ≠ r) : (fil h r b f n).1 a = h.1 a := by
  funext t
  rw [fil_at, if_neg (by omega)]
theorem RF_fil {h : Hp} {r b n : Nat} {f : Nat → Int32} (hR : RF h) : RF (fil h r b f n) := hR
theorem fil_0 (h : Hp) (r b : Nat) (f : Nat → Int32) : fil h r b f 0 = h := by
  unfold fil
  refine Prod.ext ?_ rfl
  funext a t
  show (if a = r ∧ b ≤ t ∧ t < b + 0 then _ else _) = _
  rw [if_neg (by omega)]
theorem rg_feedC {h0 : Hp} {x : Int64} {l3 : Int32} {c n : Nat} (hR : RF h0) (en : l3.toInt = n) (hn : n ≤ 8) (hc : c + n ≤ 50) (k : ∀ h', RF h' → (∀ a, a ≠ 19 → a ≠ 1 → h'.1 a = h0.1 a) → (∀ t, t ≠ 13 → h'.1 1 t = h0.1 1 t) → h'.1 1 13 = nI (c + n) → (∀ t, h'.1 19 t = if c ≤ t ∧ t < c + n then fby x (t - c) else h0.1 19 t) → Q (nI (c + n)) h') : ∀ (m i : Nat) (h : Hp), i + m = n → RF h → (∀ a, a ≠ 19 → a ≠ 1 → h.1 a = h0.1 a) → (∀ t, t ≠ 13 → h.1 1 t = h0.1 1 t) → h.1 1 13 = nI (c + i) → (∀ t, h.1 19 t = if c ≤ t ∧ t < c + i then fby x (t - c) else h0.1 19 t) → Rg_X11_feed_39 G d x l3 (nI i) h Q := by
  intro m
  induction m with
  | zero =>
    intro i h hi r0 r1 r2 r3 r4
    have : i = n := by omega
    subst this
    refine vc_X11_feed_39 r0 ⟨fun _ => ?_, fun z => ?_⟩
    · rw [r3]
      exact k h r0 r1 r2 r3 r4
    · exfalso
      rw [i_le, en, ti_nI (by omega)] at z
      omega
  | succ m ih =>
    intro i h hi r0 r1 r2 r3 r4
    have ei : (nI i).toInt = (i : Int) := ti_nI (by omega)
    have ec : (nI (c + i)).toInt = ((c + i : Nat) : Int) := ti_nI (by omega)
    refine vc_X11_feed_39 r0 ⟨fun z => ?_, fun _ => ⟨by rw [r3]; exact in_of (by omega) (by omega), ?_⟩⟩
    · exfalso
      rw [i_le, en, ei] at z
      omega
    · rintro h10 e10
      rw [r3, cl_of ec] at e10
      have e13 : h10.1 1 13 = nI (c + i) := by rw [e10, sI_ne (by omega), r3]
      rw [e13, nI_1, nI_1]
      refine ih (i + 1) _ (by omega) ?_ (fun a a1 a2 => ?_) (fun t ht => ?_) ?_ (fun t => ?_)
      · rw [e10]; exact r0
      · rw [sI_row_ne a2, e10, sI_row_ne a1]; exact r1 a a1 a2
      · rw [sI_ne (by omega), e10, sI_row_ne (by omega)]; exact r2 t ht
      · rw [sI_self]; rfl
      · rw [sI_row_ne (by omega), e10]
        by_cases ht : t = c + i
        · rw [ht, sI_self, if_pos (by omega), show c + i - c = i by omega]
          rfl
        · rw [sI_ne (by omega), r4]
          by_cases h2 : c ≤ t ∧ t < c + i
          · rw [if_pos h2, if_pos (by omega)]
          · rw [if_neg h2, if_neg (by omega)]
theorem rg_feedM {h0 : Hp} {x : Int64} {l3 : Int32} {c n : Nat} (hR : RF h0) (en : l3.toInt = n) (hn : n ≤ 8) (hc : c + n ≤ 50) (k : ∀ h', RF h' → (∀ a, a ≠ 95 → h'.1 a = h0.1 a) → (∀ t, h'.1 95 t = if t = 8 then nI (c + n) else if 212 + c ≤ t ∧ t < 212 + c + n then fby x (t - (212 + c)) else h0.1 95 t) → Q (nI (c + n)) h') : ∀ (m i : Nat) (h : Hp), i + m = n → RF h → (∀ a, a ≠ 95 → h.1 a = h0.1 a) → (∀ t, h.1 95 t = if t = 8 then nI (c + i) else if 212 + c ≤ t ∧ t < 212 + c + i then fby x (t - (212 + c)) else h0.1 95 t) → Rg_X12_feed_41 G d x l3 (nI i) h Q := by
  intro m
  induction m with
  | zero =>
    intro i h hi r0 r1 r4
    have : i = n := by omega
    subst this
    refine vc_X12_feed_41 r0 ⟨fun _ => ?_, fun z => ?_⟩
    · rw [r4 8, if_pos rfl]
      exact k h r0 r1 r4
    · exfalso
      rw [i_le, en, ti_nI (by omega)] at z
      omega
  | succ m ih =>
    intro i h hi r0 r1 r4
    have ei : (nI i).toInt = (i : Int) := ti_nI (by omega)
    have ec : (nI (c + i)).toInt = ((c + i : Nat) : Int) := ti_nI (by omega)
    have r8 : h.1 95 8 = nI (c + i) := by rw [r4 8, if_pos rfl]
    have e212 : (212 + h.1 95 8).toInt = ((212 + c + i : Nat) : Int) := by rw [r8, ti_add (by rw [ec]; simp only [Int32.reduceToInt]; omega) (by rw [ec]; simp only [Int32.reduceToInt]; omega), ec]; simp only [Int32.reduceToInt]; omega
    refine vc_X12_feed_41 r0 ⟨fun z => ?_, fun _ => ⟨in_of (by omega) (by omega), ?_⟩⟩
    · exfalso
      rw [i_le, en, ei] at z
      omega
    · rintro h10 e10
      rw [cl_of e212, sI_ne (by omega), r8, nI_1, ← byte_eq x (by omega)] at e10
      rw [nI_1]
      refine ih (i + 1) _ (by omega) ?_ (fun a a1 => ?_) (fun t => ?_)
      · rw [e10]; exact r0
      · rw [e10, sI_row_ne a1, sI_row_ne a1]; exact r1 a a1
      · rw [e10]
        by_cases h8 : t = 8
        · rw [h8, sI_self, if_pos rfl]
          rfl
        · rw [sI_ne (by omega), if_neg h8]
          by_cases ht : t = 212 + c + i
          · rw [ht, sI_self, if_pos (by omega), show 212 + c + i - (212 + c) = i by omega]
            rfl
          · rw [sI_ne (by omega), r4 t, if_neg h8]
            by_cases h2 : 212 + c ≤ t ∧ t < 212 + c + i
            · rw [if_pos h2, if_pos (by omega)]
            · rw [if_neg h2, if_neg (by omega)]
theorem fby_in (x : Int64) (i : Nat) : 0 ≤ (fby x i).toInt ∧ (fby x i).toInt ≤ 255 := byte_in _
theorem M_feed {F : Nat → Int} {a1 : Int64} {a2 : Int32} (eF : vM h = F) (hR : RF h) (hd : 10 ≤ d) (h8 : 0 ≤ F 8 ∧ F 8 ≤ 50) (k1 : ¬ (1 ≤ a2.toInt ∧ a2.toInt ≤ 8) → Q (er 1) (sI h 98 1 (h.1 98 1 + 1))) (k4 : (1 ≤ a2.toInt ∧ a2.toInt ≤ 8) → 50 < F 8 + a2.toInt → Q (er 4) (sI h 98 4 (h.1 98 4 + 1)))
    (k : ∀ c n : Nat, F 8 = c → a2.toInt = n → 1 ≤ n → n ≤ 8 → c + n ≤ 50 → ∀ h', RF h' → (∀ a, a ≠ 95 → h'.1 a = h.1 a) → (∀ t, h'.1 95 t = if t = 8 then nI (c + n) else if 212 + c ≤ t ∧ t < 212 + c + n then fby a1 (t - (212 + c)) else h.1 95 t) → Q (nI (c + n)) h') : EvI G d mX12_feed [.inr (.inr (some 94)), .inr (.inl a1), .inl a2] h Q := by
  obtain ⟨e, rfl⟩ := dpos (show 1 ≤ d by omega)
  subst eF
  refine vc_X12_feed hR (ev_in32 hR (by omega) (br2' (fun c => ⟨fun c2 => ?_, fun c2 => ?_⟩) (fun c => ev_finds hR (by omega) (n := 1) rfl (by omega) (k1 c))))
  · (try simp only [Int32.reduceToInt, Int64.reduceToInt, ti_m1, tl_m1, ti_m2, tl_m2] at *)
    have e8 : (h.1 95 8).toInt = vM h 8 := rfl
    rw [i_le, ti_add (by omega) (by omega), e8] at c2
    (try simp only [Int32.reduceToInt, Int64.reduceToInt, ti_m1, tl_m1, ti_m2, tl_m2] at *)
    obtain ⟨q, eq⟩ : ∃ q : Nat, vM h 8 = q := ⟨(vM h 8).toNat, by omega⟩
    obtain ⟨n, en⟩ : ∃ n : Nat, a2.toInt = n := ⟨a2.toInt.toNat, by omega⟩
    refine rg_feedM (c := q) hR en (by omega) (by omega) (k q n eq en (by omega) (by omega) (by omega)) n 0 h (by omega) hR (fun _ _ => rfl) (fun t => ?_)
    by_cases ht : t = 8
    · rw [if_pos ht, ht]
      exact eq_nI eq
    · rw [if_neg ht, if_neg (by omega)]
  · (try simp only [Int32.reduceToInt, Int64.reduceToInt, ti_m1, tl_m1, ti_m2, tl_m2] at *)
    have e8 : (h.1 95 8).toInt = vM h 8 := rfl
    rw [i_le, ti_add (by omega) (by omega), e8] at c2
    (try simp only [Int32.reduceToInt, Int64.reduceToInt, ti_m1, tl_m1, ti_m2, tl_m2] at *)
    exact ev_finds hR (by omega) (n := 4) rfl (by omega) (k4 c (by omega))
theorem step_feed {a1 : Int64} {a2 : Int32} (I : Inv h) (hd : 100 ≤ d) : EvI G d mX11_feed [.inr (.inr (some 0)), .inr (.inl a1), .inl a2] h (fun x h1 => EvI G d mX12_feed [.inr (.inr (some 94)), .inr (.inl a1), .inl a2] h1 (fun y h2 => x = y ∧ Inv h2)) := by
  have hd' := hd
  have hR := I.1
  have b8 := I.b89.1
  have cc := I.cc
  have e8 : (h.1 1 13).toInt = vM h 8 := I.c (bg := z0) (j := 8) (by omega)
  obtain ⟨e, rfl⟩ := dpos (show 1 ≤ d by omega)
  refine vc_X11_feed hR (ev_within hR (by omega) (br2' (fun c => ⟨fun c2 => ?_, fun c2 => ?_⟩) (fun c => ?_)))
  · (try simp only [Int32.reduceToInt, Int64.reduceToInt, ti_m1, tl_m1, ti_m2, tl_m2] at *)
    rw [i_le, ti_add (by omega) (by omega), e8] at c2
    (try simp only [Int32.reduceToInt, Int64.reduceToInt, ti_m1, tl_m1, ti_m2, tl_m2] at *)
    obtain ⟨q, eq⟩ : ∃ q : Nat, vM h 8 = q := ⟨(vM h 8).toNat, by omega⟩
    obtain ⟨n, en⟩ : ∃ n : Nat, a2.toInt = n := ⟨a2.toInt.toNat, by omega⟩
    refine rg_feedC (c := q) hR en (by omega) (by omega) (fun h1 r0 r1 r2 r3 r4 => ?_) n 0 h (by omega) hR (fun _ _ _ => rfl) (fun _ _ => rfl) (eq_nI (by omega)) (fun t => by rw [if_neg (by omega)])
    have m1 : vM h1 = vM h := by
      funext j
      show (h1.1 95 j).toInt = _
      rw [r1 95 (by omega) (by omega)]
    refine M_feed m1 r0 (by omega) b8 (fun z => absurd c z) (fun _ z => absurd z (by omega)) (fun q' n' z1 z2 z3 z4 z5 h2 s0 s1 s4 => ⟨?_, ?_⟩)
    · rw [show q' = q by omega, show n' = n by omega]
    · have : q' = q := by omega
      subst this
      have : n' = n := by omega
      subst this
      rw [r1 95 (by omega) (by omega)] at s4
      have f : ∀ a, a ≠ 1 → a ≠ 19 → a ≠ 95 → h2.1 a = h.1 a := fun a a1 a2 a3 => by rw [s1 a a3, r1 a a2 a1]
      refine Inv_now I s0 (fun a z1 z2 z3 z4 => f a (by omega) (by omega) z3) (by rw [f 94 (by omega) (by omega) (by omega)]) (by rw [f 94 (by omega) (by omega) (by omega)]) ?_
      obtain ⟨p0, p1, t1, t2, t3, t4, t5, t6, t7, t8, t9⟩ := I.2.1
      have en2 : (nI (q' + n')).toInt = ((q' + n' : Nat) : Int) := ti_nI (by omega)
      have v1 : ∀ j, j < 90 → vM h2 j = upI (vM h) 8 (nI (q' + n')).toInt j := fun j hj => by
        show (h2.1 95 j).toInt = _
        rw [s4]
        unfold upI
        by_cases hj8 : j = 8
        · rw [if_pos hj8, if_pos hj8]
        · rw [if_neg hj8, if_neg hj8, if_neg (by omega)]
      have v2 : ∀ j, j < 90 → vC h2 9 z0 j = upI (vC h 9 z0) 8 (nI (q' + n')).toInt j := fun j hj => by
        have ea : vC h2 9 z0 = vC (sI h 1 13 (nI (q' + n'))) 9 z0 := vC_eq (fun k hk => by
          rw [s1 1 (by omega)]
          by_cases hk13 : k = 13
          · rw [hk13, sI_self]; exact r3
          · rw [sI_ne (by omega)]; exact r2 k hk13) (fun a k h1' h2' h3 => by rw [sI_ne (by omega), f a (by omega) (by omega) (by omega)]) (fun a k h1' h2' h3 => by rw [sI_ne (by omega), f a (by omega) (by omega) (by omega)]) (fun k h1' h2' => by rw [sI_ne (by omega), f 9 (by omega) (by omega) (by omega)]) (fun a k h1' h2' => by rw [sI_ne (by omega), f a (by omega) (by omega) (by omega)]) (fun k h1' => by rw [sI_ne (by omega), f (9 + 3) (by omega) (by omega) (by omega)])
        rw [ea, c9_bytes]
      refine ⟨p0, p1, fun i hi => ?_, ?_, ?_, ?_, fun i hi => ?_, fun i hi => ?_, TxM_eq (fun i hi1 hi2 => ?_) t7, TxC_eq (by rw [f 13 (by omega) (by omega) (by omega)]) (fun k _ => by rw [f (13 + 1) (by omega) (by omega) (by omega)]) t8, TxC_eq (by rw [f 16 (by omega) (by omega) (by omega)]) (fun k _ => by rw [f (16 + 1) (by omega) (by omega) (by omega)]) t9⟩
      · rw [v1 i hi, v2 i hi]
        exact (upI_on cc i hi).symm
      · exact OKF_eq v1 (OKF_irr (by omega) t2)
      · rw [v1 8 (by omega), upI_s]
        omega
      · rw [v1 9 (by omega), upI_n (by omega)]
        exact t4
      · rw [s4, if_neg (by omega), if_neg (by omega), f 20 (by omega) (by omega) (by omega)]
        exact t5 i hi
      · rw [s4, if_neg (by omega), s1 19 (by omega), r4]
        by_cases h2' : q' ≤ i ∧ i < q' + n'
        · rw [if_pos (by omega), if_pos h2', show 212 + i - (212 + q') = i - q' by omega]
          exact ⟨rfl, fby_in a1 _⟩
        · rw [if_neg (by omega), if_neg h2']
          exact t6 i hi
      · rw [s4, if_neg (by omega), if_neg (by omega)]
  · (try simp only [Int32.reduceToInt, Int64.reduceToInt, ti_m1, tl_m1, ti_m2, tl_m2] at *)
    rw [i_le, ti_add (by omega) (by omega), e8] at c2
    (try simp only [Int32.reduceToInt, Int64.reduceToInt, ti_m1, tl_m1, ti_m2, tl_m2] at *)
    exact ev_refuse hR (by omega) (n := 4) rfl (by omega) (M_feed (vM_lo (by omega)) (RF_sI hR) (by omega) b8 (fun z => absurd c z) (fun _ _ => ⟨rfl, Inv_err I rfl⟩) (fun q n z1 z2 z3 z4 z5 => absurd z5 (by omega)))
  · (try simp only [Int32.reduceToInt, Int64.reduceToInt, ti_m1, tl_m1, ti_m2, tl_m2] at *)
    exact ev_refuse hR (by omega) (n := 1) rfl (by omega) (M_feed (vM_lo (by omega)) (RF_sI hR) (by omega) b8 (fun _ => ⟨rfl, Inv_err I rfl⟩) (fun z _ => absurd z c) (fun q n z1 z2 z3 z4 z5 => absurd ⟨by omega, by omega⟩ c))
theorem der_wf2 {B : Nat → Int32} {n u : Nat} {i' : Nat} {p : List Int32} (hn : n ≤ 50) (hu : u < 2) (D : Der (byt B n) u 0 0 0 [] true i' p) : p ≠ [] := by
  obtain ⟨q, hq, H⟩ := (D _ (der_ref (base := 0) (by omega) hn hu)).1 (by omega)
  obtain ⟨v, hv, -⟩ := H 0 0 0
  intro hp
  have e1 : q = [] := by
    have := hq rfl
    rw [hp, List.nil_append] at this
    exact this.symm
  have := hv rfl []
  rw [e1] at this
  cases this
theorem rg_text {h0 : Hp} {a1 l2 : Int32} {u n : Nat} (hR : RF h0) (eu : a1.toInt = u) (hu : u < 2) (en : l2.toInt = n) (hn : n ≤ 50) (k : Q 1 (cpI h0 95 212 95 (112 + 50 * u) n)) : ∀ (m i : Nat), i + m = n → Rg_X12_text_70 G d a1 l2 (nI i) (cpI h0 95 212 95 (112 + 50 * u) i) Q := by
  intro m
  induction m with
  | zero =>
    intro i hi
    have : i = n := by omega
    subst this
    refine vc_X12_text_70 (RF_cp hR) ⟨fun _ => k, fun z => ?_⟩
    exfalso
    rw [i_le, en, ti_nI (by omega)] at z
    omega
  | succ m ih =>
    intro i hi
    have ei : (nI i).toInt = (i : Int) := ti_nI (by omega)
    have e212 : (212 + nI i).toInt = ((212 + i : Nat) : Int) := by rw [ti_add (by rw [ei]; simp only [Int32.reduceToInt]; omega) (by rw [ei]; simp only [Int32.reduceToInt]; omega), ei]; simp only [Int32.reduceToInt]; omega
    have e112 : ((112 + (50 * a1)) + nI i).toInt = ((112 + 50 * u + i : Nat) : Int) := ti_of (by rw [show a1 = nI u from eq_nI eu]; push_cast; simp only [oi_add, oi_mul, oi_nat]; rfl) (by omega) (by omega)
    refine vc_X12_text_70 (RF_cp hR) ⟨fun z => ?_, fun _ => ⟨in_of (by omega) (by omega), in_of (by omega) (by omega), ?_⟩⟩
    · exfalso
      rw [i_le, en, ei] at z
      omega
    · rw [cl_of e112, cl_of e212, nI_1]
      have e1 : sI (cpI h0 95 212 95 (112 + 50 * u) i) 95 (112 + 50 * u + i) ((cpI h0 95 212 95 (112 + 50 * u) i).1 95 (212 + i)) = cpI h0 95 212 95 (112 + 50 * u) (i + 1) := by
        unfold cpI sI
        refine Prod.ext ?_ rfl
        funext q t
        show (if q = 95 ∧ t = 112 + 50 * u + i then (if 95 = 95 ∧ 112 + 50 * u ≤ 212 + i ∧ 212 + i < 112 + 50 * u + i then _ else _) else if q = 95 ∧ 112 + 50 * u ≤ t ∧ t < 112 + 50 * u + i then _ else _) = (if q = 95 ∧ 112 + 50 * u ≤ t ∧ t < 112 + 50 * u + (i + 1) then _ else _)
        by_cases hq : q = 95 ∧ t = 112 + 50 * u + i
        · rw [if_pos hq, if_neg (by omega), if_pos (by omega), hq.2, show 212 + (112 + 50 * u + i - (112 + 50 * u)) = 212 + i by omega]
        · rw [if_neg hq]
          by_cases h2 : q = 95 ∧ 112 + 50 * u ≤ t ∧ t < 112 + 50 * u + i
          · rw [if_pos h2, if_pos (by omega)]
          · rw [if_neg h2, if_neg (by omega)]
      rw [e1]
      exact ih (i + 1) (by omega)
end
