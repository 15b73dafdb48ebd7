/-! shares: numbers -/
section
variable {G : GT} {d : Nat} {h : Hp} {Q : Int32 → Hp → Prop} {QW : Hp → Prop} {QL' : Int64 → Hp → Prop}
theorem lb_id {a : Int} (h1 : -9223372036854775808 ≤ a) (h2 : a < 9223372036854775808) : a.bmod (2 ^ 64) = a := by
  exact Int.bmod_eq_of_le (by omega) (by omega)
theorem l_hi (x : Int64) : x.toInt < 9223372036854775808 := Int64.toInt_lt x
theorem l_lo (x : Int64) : -9223372036854775808 ≤ x.toInt := Int64.le_toInt x
theorem tl_div {x y : Int64} (hx : 0 ≤ x.toInt) (hy : 0 < y.toInt) : (x / y).toInt = x.toInt / y.toInt := by
  have h1 := l_hi x
  have h2 : x.toInt.tdiv y.toInt = x.toInt / y.toInt := Int.tdiv_eq_ediv_of_nonneg hx
  have h3 : 0 ≤ x.toInt / y.toInt := Int.ediv_nonneg hx (by omega)
  have h4 : x.toInt / y.toInt ≤ x.toInt := Int.ediv_le_self _ hx
  rw [Int64.toInt_div, h2, lb_id (by omega) (by omega)]
theorem tl_rem {x y : Int64} (hx : 0 ≤ x.toInt) (hy : 0 < y.toInt) : (x - x / y * y).toInt = x.toInt % y.toInt := by
  have h1 := l_hi x
  have h3 : 0 ≤ x.toInt / y.toInt := Int.ediv_nonneg hx (by omega)
  have e1 := Int.mul_ediv_add_emod x.toInt y.toInt
  have e2 := Int.emod_nonneg x.toInt (show y.toInt ≠ 0 by omega)
  have e4 := Int.mul_comm (x.toInt / y.toInt) y.toInt
  have e0 : 0 ≤ x.toInt / y.toInt * y.toInt := Int.mul_nonneg h3 (by omega)
  have e3 : (x / y * y).toInt = x.toInt / y.toInt * y.toInt := by
    rw [Int64.toInt_mul, tl_div hx hy, lb_id (by omega) (by omega)]
  rw [Int64.toInt_sub, e3, lb_id (by omega) (by omega)]
  omega
theorem cmp_0 (x : Int64) : lg_cmp x 0 = 0 ↔ x.toInt = 0 := by
  have a := lg_cmp_lt x 0
  have b := lg_cmp_gt x 0
  rw [l_lt] at a b
  simp only [i_lt, Int32.reduceToInt, Int64.reduceToInt] at a b
  rw [i_eq]
  simp only [Int32.reduceToInt]
  omega
theorem cmp_ge (x : Int64) : 0 ≤ lg_cmp x 0 ↔ 0 ≤ x.toInt := by
  have a := lg_cmp_lt x 0
  rw [l_lt] at a
  simp only [i_lt, Int32.reduceToInt, Int64.reduceToInt] at a
  rw [i_le]
  simp only [Int32.reduceToInt]
  omega
/-- Euclid's rounds -/
theorem gcd_rem {x y : Int64} (hx : 0 ≤ x.toInt) (hy : 0 < y.toInt) : (Nat.gcd y.toInt.toNat (x - x / y * y).toInt.toNat) = Nat.gcd x.toInt.toNat y.toInt.toNat := by
  rw [tl_rem hx hy]
  obtain ⟨a, ha⟩ : ∃ a : Nat, x.toInt = a := ⟨x.toInt.toNat, by omega⟩
  obtain ⟨b, hb⟩ : ∃ b : Nat, y.toInt = b := ⟨y.toInt.toNat, by omega⟩
  rw [ha, hb, ← Int.natCast_emod, Int.toNat_natCast, Int.toNat_natCast, Int.toNat_natCast, Nat.gcd_comm b, ← Nat.gcd_rec, Nat.gcd_comm]
theorem gcd_z {x y : Int64} {G0 : Nat} (hx : 0 ≤ x.toInt) (hy : y.toInt = 0) (hg : Nat.gcd x.toInt.toNat y.toInt.toNat = G0) : x.toInt = G0 := by
  rw [hy, Int.toNat_zero, Nat.gcd_zero_right] at hg
  rw [← hg, Int.toNat_of_nonneg hx]
theorem rg_comC (hR : RF h) {G0 : Nat} (K : ∀ v : Int64, v.toInt = G0 → QL' v h) : ∀ (k i : Nat) (x y : Int64), 0 ≤ x.toInt → 0 ≤ y.toInt → y.toInt < 2 ^ k → i + (2 * k + 1) ≤ 200 → Nat.gcd x.toInt.toNat y.toInt.toNat = G0 → Rg_X11_common_9 G d x y (nI i) h QL' := by
  intro k
  induction k with
  | zero =>
    intro i x y hx hy hk hi hg
    have y0 : y.toInt = 0 := by simp only [Int.pow_zero] at hk; omega
    exact vc_X11_common_9 hR ⟨fun _ => K x (gcd_z hx y0 hg), fun _ => ⟨fun _ => K x (gcd_z hx y0 hg), fun z => absurd ((cmp_0 y).mpr y0) z⟩⟩
  | succ k ih =>
    intro i x y hx hy hk hi hg
    have ei : (nI i).toInt = (i : Int) := ti_nI (by omega)
    have ei1 : (nI (i + 1)).toInt = ((i + 1 : Nat) : Int) := ti_nI (by omega)
    refine vc_X11_common_9 hR ⟨fun z => ?_, fun _ => ⟨fun z => K x ?_, fun z => ?_⟩⟩
    · exfalso
      rw [i_le, ei] at z
      simp only [Int32.reduceToInt] at z
      omega
    · rw [cmp_0] at z
      exact gcd_z hx z hg
    · rw [cmp_0] at z
      have yp : 0 < y.toInt := by omega
      have er := tl_rem hx yp
      have r0 := Int.emod_nonneg x.toInt (show y.toInt ≠ 0 by omega)
      have r1 := Int.emod_lt_of_pos x.toInt yp
      have hg' := gcd_rem hx yp
      refine ⟨fun c => z (by rw [c]; rfl), ?_⟩
      rw [nI_1]
      refine vc_X11_common_9 hR ⟨fun z => ?_, fun _ => ⟨fun z2 => K y ?_, fun z2 => ?_⟩⟩
      · exfalso
        rw [i_le, ei1] at z
        simp only [Int32.reduceToInt] at z
        omega
      · rw [cmp_0] at z2
        exact gcd_z hy z2 (hg'.trans hg)
      · rw [cmp_0] at z2
        have rp : 0 < (x - x / y * y).toInt := by omega
        have er2 := tl_rem hy rp
        have s0 := Int.emod_nonneg y.toInt (show (x - x / y * y).toInt ≠ 0 by omega)
        have s1 := Int.emod_lt_of_pos y.toInt rp
        have s2 := Int.mul_ediv_add_emod y.toInt (x - x / y * y).toInt
        have q1 : 1 ≤ y.toInt / (x - x / y * y).toInt := by
          rw [Int.le_ediv_iff_mul_le rp]
          omega
        have q2 : (x - x / y * y).toInt * 1 ≤ (x - x / y * y).toInt * (y.toInt / (x - x / y * y).toInt) := Int.mul_le_mul_of_nonneg_left q1 (by omega)
        have hg2 := gcd_rem hy rp
        refine ⟨fun c => z2 (by rw [c]; rfl), ?_⟩
        rw [nI_1]
        refine ih (i + 1 + 1) _ _ (by omega) (by omega) ?_ (by omega) (by rw [hg2, hg', hg])
        rw [er2]
        rw [Int.pow_succ] at hk
        omega
theorem rg_comM (hR : RF h) {G0 : Nat} (K : ∀ v : Int64, v.toInt = G0 → QL' v h) : ∀ (n : Nat) (x y : Int64), 0 ≤ x.toInt → 0 ≤ y.toInt → y.toInt < n → Nat.gcd x.toInt.toNat y.toInt.toNat = G0 → Rg_X12_common_17 G d x y h QL' := by
  intro n
  induction n with
  | zero => intro x y hx hy hn; exact absurd hn (by omega)
  | succ n ih =>
    intro x y hx hy hn hg
    refine vc_X12_common_17 hR ⟨fun z => K x ?_, fun z => ?_⟩
    · rw [cmp_0] at z
      exact gcd_z hx z hg
    · rw [cmp_0] at z
      have yp : 0 < y.toInt := by omega
      have er := tl_rem hx yp
      have r0 := Int.emod_nonneg x.toInt (show y.toInt ≠ 0 by omega)
      have r1 := Int.emod_lt_of_pos x.toInt yp
      exact ⟨fun c => z (by rw [c]; rfl), ih _ _ (by omega) (by omega) (by omega) (by rw [gcd_rem hx yp, hg])⟩
end
