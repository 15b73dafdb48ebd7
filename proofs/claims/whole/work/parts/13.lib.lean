/-! LIBRARY: ints as integers -/
theorem i_eq (a b : Int32) : a = b ↔ a.toInt = b.toInt := Int32.toInt_inj.symm
theorem i_lt (a b : Int32) : a < b ↔ a.toInt < b.toInt := Int32.lt_iff_toInt_lt
theorem i_le (a b : Int32) : a ≤ b ↔ a.toInt ≤ b.toInt := Int32.le_iff_toInt_le
theorem l_eq (a b : Int64) : a = b ↔ a.toInt = b.toInt := Int64.toInt_inj.symm
theorem l_lt (a b : Int64) : a < b ↔ a.toInt < b.toInt := Int64.lt_iff_toInt_lt
theorem l_le (a b : Int64) : a ≤ b ↔ a.toInt ≤ b.toInt := Int64.le_iff_toInt_le
theorem i_lo (x : Int32) : -2147483648 ≤ x.toInt := Int32.le_toInt x
theorem i_hi (x : Int32) : x.toInt < 2147483648 := Int32.toInt_lt x
theorem bm_id {a : Int} (h1 : -2147483648 ≤ a) (h2 : a < 2147483648) : a.bmod (2 ^ 32) = a := by
  apply Int.bmod_eq_of_le <;> omega
theorem ti_add {x y : Int32} (h1 : -2147483648 ≤ x.toInt + y.toInt) (h2 : x.toInt + y.toInt < 2147483648) : (x + y).toInt = x.toInt + y.toInt := by
  rw [Int32.toInt_add, bm_id h1 h2]
theorem ti_sub {x y : Int32} (h1 : -2147483648 ≤ x.toInt - y.toInt) (h2 : x.toInt - y.toInt < 2147483648) : (x - y).toInt = x.toInt - y.toInt := by
  rw [Int32.toInt_sub, bm_id h1 h2]
theorem ti_mul {x y : Int32} (h1 : -2147483648 ≤ x.toInt * y.toInt) (h2 : x.toInt * y.toInt < 2147483648) : (x * y).toInt = x.toInt * y.toInt := by
  rw [Int32.toInt_mul, bm_id h1 h2]
theorem ti_neg {x : Int32} (h1 : -2147483648 < x.toInt) : (-x).toInt = -x.toInt := by
  have := i_hi x
  rw [Int32.toInt_neg, bm_id (by omega) (by omega)]
theorem ti_div {x y : Int32} (hx : 0 ≤ x.toInt) (hy : 0 < y.toInt) : (x / y).toInt = x.toInt / y.toInt := by
  have h1 := i_hi x
  have h2 : x.toInt.tdiv y.toInt = x.toInt / y.toInt := Int.tdiv_eq_ediv_of_nonneg hx
  have h3 : 0 ≤ x.toInt / y.toInt := Int.ediv_nonneg hx (by omega)
  have h4 : x.toInt / y.toInt ≤ x.toInt := Int.ediv_le_self _ hx
  rw [Int32.toInt_div, h2, bm_id (by omega) (by omega)]
theorem ti_rem {x y : Int32} (hx : 0 ≤ x.toInt) (hy : 0 < y.toInt) : (x - x / y * y).toInt = x.toInt % y.toInt := by
  have h1 := i_hi x
  have h3 : 0 ≤ x.toInt / y.toInt := Int.ediv_nonneg hx (by omega)
  have e1 := Int.mul_ediv_add_emod x.toInt y.toInt
  have e2 := Int.emod_nonneg x.toInt (show y.toInt ≠ 0 by omega)
  have e3 : (x / y * y).toInt = x.toInt / y.toInt * y.toInt := by
    rw [ti_mul, ti_div hx hy]
    · rw [ti_div hx hy]
      have : 0 ≤ x.toInt / y.toInt * y.toInt := Int.mul_nonneg h3 (by omega)
      omega
    · rw [ti_div hx hy]
      have := Int.mul_comm (x.toInt / y.toInt) y.toInt
      omega
  have e4 := Int.mul_comm (x.toInt / y.toInt) y.toInt
  rw [ti_sub, e3]
  · omega
  · rw [e3]; omega
  · have e5 := Int.emod_lt_of_pos x.toInt hy
    have e6 := i_hi y
    rw [e3]; omega
theorem ti_nI {n : Nat} (h : n < 2147483648) : (nI n).toInt = (n : Int) := nI_toInt h
theorem cl_of {x : Int32} {k : Nat} (h : x.toInt = (k : Int)) : x.toNatClampNeg = k := by
  show x.toInt.toNat = k
  omega
theorem cl_eq (x : Int32) : x.toNatClampNeg = x.toInt.toNat := rfl
theorem in_of {x : Int32} {n : Nat} (h1 : 0 ≤ x.toInt) (h2 : x.toInt < n) : vp_in x n := vp_in_iff.mpr ⟨h1, h2⟩
theorem nI_of_int {x : Int32} (h : 0 ≤ x.toInt) : x = nI x.toInt.toNat := by
  have h2 := i_hi x
  rw [i_eq, ti_nI (by omega)]
  omega
/-- an int by its integer: one condition, at the end -/
abbrev oI (z : Int) : Int32 := Int32.ofInt z
theorem oi_add (a b : Int) : oI (a + b) = oI a + oI b := Int32.ofInt_add a b
theorem oi_mul (a b : Int) : oI (a * b) = oI a * oI b := Int32.ofInt_mul a b
theorem oi_sub (a b : Int) : oI (a - b) = oI a - oI b := Int32.ofInt_sub a b
theorem oi_neg (a : Int) : oI (-a) = -oI a := Int32.ofInt_neg a
theorem oi_nat (n : Nat) : oI (n : Int) = nI n := rfl
theorem oi_ti (x : Int32) : oI x.toInt = x := Int32.ofInt_toInt x
theorem oi_lit (n : Nat) [OfNat Nat n] : oI (OfNat.ofNat n : Int) = (OfNat.ofNat n : Int32) := rfl
theorem ti_oI {z : Int} (h1 : -2147483648 ≤ z) (h2 : z < 2147483648) : (oI z).toInt = z := by
  show (Int32.ofInt z).toInt = z
  rw [Int32.toInt_ofInt, bm_id h1 h2]
theorem ti_of {x : Int32} {z : Int} (h : x = oI z) (h1 : -2147483648 ≤ z) (h2 : z < 2147483648) : x.toInt = z := by rw [h, ti_oI h1 h2]
theorem l_of_i (x : Int32) : x.toInt64.toInt = x.toInt := by simp
/-- a truth as an int -/
def b2 (c : Prop) [Decidable c] : Int32 := if c then 1 else 0
theorem b2_0 {c : Prop} [Decidable c] : (b2 c = 0) ↔ ¬ c := by
  unfold b2
  by_cases h : c <;> simp [h]
theorem b2_t {c : Prop} [Decidable c] (h : c) : b2 c = 1 := if_pos h
theorem b2_f {c : Prop} [Decidable c] (h : ¬ c) : b2 c = 0 := if_neg h
theorem b2_nar {c : Prop} [Decidable c] : narrow .boolean (.int (b2 c)) = .int (b2 c) := by
  unfold b2
  by_cases h : c <;> simp [h] <;> decide
theorem b2_c {c d : Prop} [Decidable c] [Decidable d] (h : c ↔ d) : b2 c = b2 d := by
  unfold b2
  by_cases hc : c
  · rw [if_pos hc, if_pos (h.mp hc)]
  · rw [if_neg hc, if_neg (fun q => hc (h.mpr q))]
/-- a branch on a truth -/
theorem br2 {c A B : Prop} [Decidable c] (t : c → A) (f : ¬ c → B) : (b2 c = 0 → B) ∧ (¬ b2 c = 0 → A) := ⟨fun h => f (b2_0.mp h), fun h => t (Classical.not_not.mp (fun q => h (b2_0.mpr q)))⟩
theorem br2' {c A B : Prop} [Decidable c] (t : c → A) (f : ¬ c → B) : (¬ b2 c = 0 → A) ∧ (b2 c = 0 → B) := ⟨(br2 t f).2, (br2 t f).1⟩
theorem sI_at (h : Hp) (a k : Nat) (v : Int32) (b j : Nat) : (sI h a k v).1 b j = if b = a ∧ j = k then v else h.1 b j := rfl
theorem sI_self (h : Hp) (a k : Nat) (v : Int32) : (sI h a k v).1 a k = v := by rw [sI_at, if_pos ⟨rfl, rfl⟩]
theorem sI_ne {h : Hp} {a k : Nat} {v : Int32} {b j : Nat} (hn : ¬ (b = a ∧ j = k)) : (sI h a k v).1 b j = h.1 b j := by rw [sI_at, if_neg hn]
theorem RF_sI {h : Hp} {a k : Nat} {v : Int32} (hR : RF h) : RF (sI h a k v) := hR
theorem RF_sL {h : Hp} {a k : Nat} {v : Int64} (hR : RF h) : RF (sL h a k v) := hR
theorem RF_cp {h : Hp} {a i b j n : Nat} (hR : RF h) : RF (cpI h a i b j n) := hR
/-! the plainest methods -/
section
variable {G : GT} {d : Nat} {h : Hp} {Q : Int32 → Hp → Prop} {QW : Hp → Prop}
theorem dpos {d : Nat} (hd : 1 ≤ d) : ∃ e, d = e + 1 := ⟨d - 1, by omega⟩
theorem ev_within {a0 a1 a2 : Int32} (hR : RF h) (hd : 1 ≤ d) (k : Q (b2 (a1.toInt ≤ a0.toInt ∧ a0.toInt ≤ a2.toInt)) h) : EvI G d mX11_within [.inl a0, .inl a1, .inl a2] h Q := by
  obtain ⟨e, rfl⟩ := dpos hd
  refine vc_X11_within hR ?_
  simp only [i_lt]
  refine ⟨fun c => ?_, fun c => ⟨fun c2 => ?_, fun c2 => ?_⟩⟩
  · rw [b2_f (by omega)] at k; exact k
  · rw [b2_f (by omega)] at k; exact k
  · rw [b2_t (by omega)] at k; exact k
theorem ev_in {a0 a1 a2 : Int64} (hR : RF h) (hd : 1 ≤ d) (k : Q (b2 (a1.toInt ≤ a0.toInt ∧ a0.toInt ≤ a2.toInt)) h) : EvI G d mX12_in [.inr (.inl a0), .inr (.inl a1), .inr (.inl a2)] h Q := by
  obtain ⟨e, rfl⟩ := dpos hd
  refine vc_X12_in hR ?_
  simp only [lg_cmp_lt, lg_cmp_gt, l_lt]
  refine ⟨fun c => ?_, fun c => ⟨fun c2 => ?_, fun c2 => ?_⟩⟩
  · rw [b2_f (by omega)] at k; exact k
  · rw [b2_f (by omega)] at k; exact k
  · rw [b2_t (by omega)] at k; exact k
theorem ev_refuse {a1 : Int32} {n : Nat} (hR : RF h) (hd : 2 ≤ d) (hn : a1 = nI n) (h5 : n ≤ 5) (k : Q ((-1000000000) - a1) (sI h 93 n (h.1 93 n + 1))) : EvI G d mX11_refuse [.inr (.inr (some 0)), .inl a1] h Q := by
  obtain ⟨e, rfl⟩ := dpos (Nat.le_of_succ_le hd)
  refine vc_X11_refuse hR ?_
  have e1 : a1.toInt = (n : Int) := by rw [hn, ti_nI (by omega)]
  have e2 : a1.toNatClampNeg = n := cl_of e1
  refine ev_within hR (by omega) (br2 (fun c => ⟨in_of (by omega) (by omega), in_of (by omega) (by omega), ?_⟩) (fun c => ?_))
  · rw [e2]; exact k
  · exact absurd ⟨by rw [e1]; simp, by rw [e1]; show (n : Int) ≤ ((6 : Int32) - 1).toInt; rw [show ((6 : Int32) - 1).toInt = 5 from rfl]; omega⟩ c
theorem ev_finds {a1 : Int32} {n : Nat} (hR : RF h) (hd : 1 ≤ d) (hn : a1 = nI n) (h5 : n ≤ 5) (k : Q ((-1000000000) - a1) (sI h 98 n (h.1 98 n + 1))) : EvI G d mX12_finds [.inr (.inr (some 94)), .inl a1] h Q := by
  obtain ⟨e, rfl⟩ := dpos hd
  have e1 : a1.toInt = (n : Int) := by rw [hn, ti_nI (by omega)]
  have e2 : a1.toNatClampNeg = n := cl_of e1
  refine vc_X12_finds hR ⟨in_of (by omega) (by omega), in_of (by omega) (by omega), ?_⟩
  rw [e2]; exact k
theorem ev_of {a1 a2 : Int32} {j w : Nat} (hR : RF h) (hd : 1 ≤ d) (h1 : a1 = nI j) (h2 : a2 = nI w) (hj : j < 50) (hw : w < 4 + 1) (k : Q (h.1 95 (10 + 5 * j + w)) h) : EvI G d mX12_of [.inr (.inr (some 94)), .inl a1, .inl a2] h Q := by
  obtain ⟨e, rfl⟩ := dpos hd
  have e1 : a1.toInt = (j : Int) := by rw [h1, ti_nI (by omega)]
  have e2 : a2.toInt = (w : Int) := by rw [h2, ti_nI (by omega)]
  have e3 : ((10 + (5 * a1)) + a2).toInt = ((10 + 5 * j + w : Nat) : Int) := ti_of (by rw [h1, h2]; push_cast; simp only [oi_add, oi_mul, oi_nat]; rfl) (by omega) (by omega)
  refine vc_X12_of hR ⟨in_of (by omega) (by omega), ?_⟩
  rw [cl_of e3]; exact k
end
