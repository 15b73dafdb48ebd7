/-! odds: sums over sets -/
section
def sumN (g : Nat → Nat) : Nat → Nat
  | 0 => 0
  | n + 1 => sumN g n + g n
theorem sumN_congr {g g' : Nat → Nat} : ∀ (n : Nat), (∀ i, i < n → g i = g' i) → sumN g n = sumN g' n
  | 0, _ => rfl
  | n + 1, e => by
    unfold sumN
    rw [sumN_congr n (fun i hi => e i (by omega)), e n (by omega)]
theorem sumN_plus {g g' : Nat → Nat} : ∀ (n : Nat), sumN (fun i => g i + g' i) n = sumN g n + sumN g' n
  | 0 => rfl
  | n + 1 => by
    unfold sumN
    rw [sumN_plus n]
    omega
theorem sumN_zero : ∀ (n : Nat), sumN (fun _ => 0) n = 0
  | 0 => rfl
  | n + 1 => by
    unfold sumN
    rw [sumN_zero n]
theorem sumN_range {g : Nat → Nat} (n : Nat) : ∀ (m : Nat), sumN g (n + m) = sumN g n + sumN (fun i => g (n + i)) m
  | 0 => rfl
  | m + 1 => by
    show sumN g (n + m) + g (n + m) = _
    rw [sumN_range n m]
    show _ = sumN g n + (sumN _ m + g (n + m))
    omega
theorem sumN_swap {g : Nat → Nat → Nat} (b : Nat) : ∀ (a : Nat), sumN (fun i => sumN (fun j => g i j) b) a = sumN (fun j => sumN (fun i => g i j) a) b
  | 0 => by
    show 0 = sumN (fun _ => 0) b
    rw [sumN_zero]
  | a + 1 => by
    show sumN (fun i => sumN (fun j => g i j) b) a + sumN (fun j => g a j) b = sumN (fun j => sumN (fun i => g i j) a + g a j) b
    rw [sumN_plus, sumN_swap b a]
theorem sumN_prod {g : Nat → Nat} (a : Nat) : ∀ (b : Nat), sumN g (a * b) = sumN (fun j => sumN (fun i => g (a * j + i)) a) b
  | 0 => rfl
  | b + 1 => by
    rw [Nat.mul_add, Nat.mul_one, sumN_range, sumN_prod a b]
    rfl
theorem sumN_mul {g : Nat → Nat} (c : Nat) : ∀ (n : Nat), sumN (fun i => g i * c) n = sumN g n * c
  | 0 => by show 0 = 0 * c; omega
  | n + 1 => by
    show sumN (fun i => g i * c) n + g n * c = (sumN g n + g n) * c
    rw [sumN_mul c n, Nat.add_mul]
theorem sumN_mulL {g : Nat → Nat} (c : Nat) : ∀ (n : Nat), sumN (fun i => c * g i) n = c * sumN g n
  | 0 => rfl
  | n + 1 => by
    show sumN (fun i => c * g i) n + c * g n = c * (sumN g n + g n)
    rw [sumN_mulL c n, Nat.mul_add]
/-- WORTH of a set of words, and how often it is heard -/
def SG (W : Nat → Int) (s : Nat) : Nat → Int
  | 0 => 0
  | n + 1 => SG W s n + (if s.testBit n = true then W n else 0)
def FG (u s : Nat) : Nat → Nat
  | 0 => 1
  | n + 1 => FG u s n * (if s.testBit n = true then u else 16 - u)
theorem SG_congr {W W' : Nat → Int} {s s' : Nat} : ∀ (n : Nat), (∀ k, k < n → s.testBit k = s'.testBit k ∧ W k = W' k) → SG W s n = SG W' s' n
  | 0, _ => rfl
  | n + 1, e => by
    unfold SG
    rw [SG_congr n (fun k hk => e k (by omega)), (e n (by omega)).1, (e n (by omega)).2]
theorem FG_congr {u s s' : Nat} : ∀ (n : Nat), (∀ k, k < n → s.testBit k = s'.testBit k) → FG u s n = FG u s' n
  | 0, _ => rfl
  | n + 1, e => by
    unfold FG
    rw [FG_congr n (fun k hk => e k (by omega)), e n (by omega)]
theorem bit_one (t : Nat) : Nat.testBit 1 t = decide (t = 0) := by
  cases t with
  | zero => rfl
  | succ t =>
    rw [Nat.testBit_succ]
    simp
theorem bit_hi {n i : Nat} (hi : i < 2 ^ n) (k : Nat) : (2 ^ n + i).testBit k = if k < n then i.testBit k else decide (k = n) := by
  have := Nat.testBit_two_pow_mul_add 1 hi k
  rw [Nat.mul_one] at this
  rw [this]
  split
  · rfl
  · rw [bit_one]
    exact decide_eq_decide.mpr (by omega)
theorem bit_n {n i : Nat} (hi : i < 2 ^ n) : (2 ^ n + i).testBit n = true := by
  rw [bit_hi hi, if_neg (by omega)]
  simp
theorem bit_lo {n i : Nat} (hi : i < 2 ^ n) {k : Nat} (hk : n ≤ k) : i.testBit k = false := Nat.testBit_lt_two_pow (Nat.lt_of_lt_of_le hi (Nat.pow_le_pow_right (by omega) hk))
theorem FG_lo {u n i : Nat} (hi : i < 2 ^ n) : FG u i (n + 1) = FG u i n * (16 - u) := by
  show FG u i n * _ = _
  rw [bit_lo hi (Nat.le_refl _), if_neg (by decide)]
theorem FG_hi {u n i : Nat} (hi : i < 2 ^ n) : FG u (2 ^ n + i) (n + 1) = FG u i n * u := by
  show FG u (2 ^ n + i) n * _ = _
  rw [bit_n hi, if_pos rfl, FG_congr (s' := i) n (fun k hk => by rw [bit_hi hi, if_pos hk])]
theorem SG_lo {W : Nat → Int} {n i : Nat} (hi : i < 2 ^ n) : SG W i (n + 1) = SG W i n := by
  show SG W i n + _ = _
  rw [bit_lo hi (Nat.le_refl _), if_neg (by decide)]
  omega
theorem SG_hi {W : Nat → Int} {n i : Nat} (hi : i < 2 ^ n) : SG W (2 ^ n + i) (n + 1) = SG W i n + W n := by
  show SG W (2 ^ n + i) n + _ = _
  rw [bit_n hi, if_pos rfl, SG_congr (W' := W) (s' := i) n (fun k hk => ⟨by rw [bit_hi hi, if_pos hk], rfl⟩)]
theorem FG_sum {u : Nat} (hu : u ≤ 16) : ∀ (n : Nat), sumN (fun s => FG u s n) (2 ^ n) = 16 ^ n
  | 0 => rfl
  | n + 1 => by
    rw [Nat.pow_succ, Nat.mul_two, sumN_range, sumN_congr (2 ^ n) (fun i hi => FG_lo hi), sumN_congr (g := fun i => FG u (2 ^ n + i) (n + 1)) (2 ^ n) (fun i hi => FG_hi hi), sumN_mul, sumN_mul, FG_sum hu n, ← Nat.mul_add, show 16 - u + u = 16 by omega, Nat.pow_succ]
theorem FG_two {u a b i j : Nat} (hi : i < 2 ^ a) : FG u (2 ^ a * j + i) (a + b) = FG u i a * FG u j b := by
  induction b with
  | zero =>
    show FG u (2 ^ a * j + i) a = FG u i a * 1
    rw [Nat.mul_one]
    exact FG_congr a (fun k hk => by rw [Nat.testBit_two_pow_mul_add j hi k, if_pos hk])
  | succ b ih =>
    show FG u (2 ^ a * j + i) (a + b) * (if (2 ^ a * j + i).testBit (a + b) = true then u else 16 - u) = FG u i a * (FG u j b * _)
    have bt : (2 ^ a * j + i).testBit (a + b) = j.testBit b := by rw [Nat.testBit_two_pow_mul_add j hi (a + b), if_neg (by omega), show a + b - a = b by omega]
    rw [ih, bt, Nat.mul_assoc]
theorem SG_two {W W1 W2 : Nat → Int} {a b i j : Nat} (hi : i < 2 ^ a) (h1 : ∀ k, k < a → W k = W1 k) (h2 : ∀ k, k < b → W (a + k) = -W2 k) : SG W (2 ^ a * j + i) (a + b) = SG W1 i a - SG W2 j b := by
  induction b with
  | zero =>
    show SG W (2 ^ a * j + i) a = SG W1 i a - 0
    rw [SG_congr (W' := W1) (s' := i) a (fun k hk => ⟨by rw [Nat.testBit_two_pow_mul_add j hi k, if_pos hk], h1 k hk⟩)]
    omega
  | succ b ih =>
    show SG W (2 ^ a * j + i) (a + b) + (if (2 ^ a * j + i).testBit (a + b) = true then W (a + b) else 0) = SG W1 i a - (SG W2 j b + _)
    have bt : (2 ^ a * j + i).testBit (a + b) = j.testBit b := by rw [Nat.testBit_two_pow_mul_add j hi (a + b), if_neg (by omega), show a + b - a = b by omega]
    rw [ih (fun k hk => h2 k (by omega)), bt, h2 b (by omega)]
    split <;> omega
/-- the two ways to count -/
theorem odds_eq {W W1 W2 : Nat → Int} {u a b : Nat} (h1 : ∀ k, k < a → W k = W1 k) (h2 : ∀ k, k < b → W (a + k) = -W2 k) : sumN (fun s => if 0 < SG W s (a + b) then FG u s (a + b) else 0) (2 ^ (a + b)) = sumN (fun i => sumN (fun j => if SG W2 j b < SG W1 i a then FG u i a * FG u j b else 0) (2 ^ b)) (2 ^ a) := by
  rw [Nat.pow_add, sumN_prod, sumN_swap]
  refine sumN_congr _ (fun i hi => sumN_congr _ (fun j hj => ?_))
  rw [SG_two hi h1 h2, FG_two hi]
  by_cases c : SG W2 j b < SG W1 i a
  · rw [if_pos c, if_pos (by omega)]
  · rw [if_neg c, if_neg (by omega)]
theorem below_eq {u a b : Nat} (hu : u ≤ 16) : sumN (fun i => sumN (fun j => FG u i a * FG u j b) (2 ^ b)) (2 ^ a) = 16 ^ (a + b) := by
  rw [sumN_congr (g' := fun i => FG u i a * 16 ^ b) _ (fun i _ => by rw [sumN_mulL, FG_sum hu]), sumN_mul, FG_sum hu, Nat.pow_add]
theorem sumN_le {g g' : Nat → Nat} : ∀ (n : Nat), (∀ i, i < n → g i ≤ g' i) → sumN g n ≤ sumN g' n
  | 0, _ => Nat.le_refl _
  | n + 1, e => by
    have := sumN_le n (fun i hi => e i (by omega))
    have := e n (by omega)
    unfold sumN
    omega
theorem above_le {W : Nat → Int} {u n : Nat} (hu : u ≤ 16) : sumN (fun s => if 0 < SG W s n then FG u s n else 0) (2 ^ n) ≤ 16 ^ n := by
  rw [← FG_sum hu n]
  refine sumN_le _ (fun i _ => ?_)
  split <;> omega
end
