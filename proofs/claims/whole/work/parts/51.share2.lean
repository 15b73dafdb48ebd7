/-! shares: both -/
section
variable {G : GT} {d : Nat} {h : Hp} {Q : Int32 → Hp → Prop} {QW : Hp → Prop} {QL' : Int64 → Hp → Prop}
def absN (a : Int64) : Nat := a.toInt.natAbs
theorem abs_l {a : Int64} (h1 : -9223372036854775808 < a.toInt) : (-a).toInt = -a.toInt := by
  have := l_hi a
  rw [Int64.toInt_neg, lb_id (by omega) (by omega)]
theorem ev_commonC {a0 a1 : Int64} (hR : RF h) (hd : 1 ≤ d) (h0 : 0 ≤ a0.toInt) (h1 : 0 ≤ a1.toInt) (k : ∀ g : Int64, g.toInt = Nat.gcd a0.toInt.toNat a1.toInt.toNat → QL' g h) : EvL G d mX11_common [.inr (.inl a0), .inr (.inl a1)] h QL' := by
  obtain ⟨e, rfl⟩ := dpos (show 1 ≤ d by omega)
  have := l_hi a1
  have e : (2 : Int) ^ 63 = 9223372036854775808 := by decide
  exact vc_X11_common hR (rg_comC hR k 63 0 a0 a1 h0 h1 (by rw [e]; exact this) (by omega) rfl)
theorem ev_partOf {a0 a1 : Int64} {a2 : Int32} (hR : RF h) (hd : 2 ≤ d) (h0 : -9223372036854775808 < a0.toInt) (h1 : 1 ≤ a1.toInt) (k : ∀ g : Int64, g.toInt = Nat.gcd (absN a0) a1.toInt.toNat → QL' ((if a2 = 0 then a0 else a1) / g) h) : EvL G d mX11_partOf [.inr (.inl a0), .inr (.inl a1), .inl a2] h QL' := by
  obtain ⟨e, rfl⟩ := dpos (show 1 ≤ d by omega)
  have ea : (if 0 < a0 then a0 else -a0).toInt = (absN a0 : Int) := by
    unfold absN
    by_cases c : 0 < a0
    · rw [if_pos c]
      rw [l_lt] at c
      simp only [Int64.reduceToInt] at c
      omega
    · rw [if_neg c]
      rw [l_lt] at c
      simp only [Int64.reduceToInt] at c
      rw [abs_l h0]
      omega
  refine vc_X11_partOf hR (ev_commonC hR (by omega) (by omega) (by omega) (fun g eg => ?_))
  rw [ea, Int.toNat_natCast] at eg
  have gp : 0 < Nat.gcd (absN a0) a1.toInt.toNat := Nat.gcd_pos_of_pos_right _ (by omega)
  have g0 : ¬ lg_cmp g 0 = 0 := fun z => by rw [cmp_0] at z; omega
  have g1 : ¬ g = 0 := fun z => by rw [z] at eg; have e0 : (0 : Int64).toInt = 0 := rfl; omega
  have K := k g eg
  refine ⟨fun z => ⟨fun _ => ⟨g1, ?_⟩, fun y => absurd y g0⟩, fun z => ⟨fun _ => ⟨g1, ?_⟩, fun y => absurd y g0⟩⟩
  · rw [if_neg z] at K; exact K
  · rw [if_pos z] at K; exact K
theorem ev_commonM {a0 a1 : Int64} (hR : RF h) (hd : 1 ≤ d) (h0 : -9223372036854775808 < a0.toInt) (h1 : 0 ≤ a1.toInt) (k : ∀ g : Int64, g.toInt = Nat.gcd (absN a0) a1.toInt.toNat → QL' g h) : EvL G d mX12_common [.inr (.inl a0), .inr (.inl a1)] h QL' := by
  obtain ⟨e, rfl⟩ := dpos (show 1 ≤ d by omega)
  refine vc_X12_common hR ⟨fun z => ?_, fun z => ?_⟩
  · rw [cmp_ge] at z
    refine rg_comM hR k (a1.toInt.toNat + 1) a0 a1 z h1 (by omega) ?_
    unfold absN
    rw [show a0.toInt.toNat = a0.toInt.natAbs by omega]
  · rw [cmp_ge] at z
    have en := abs_l h0
    refine rg_comM hR k (a1.toInt.toNat + 1) (-a0) a1 (by omega) h1 (by omega) ?_
    unfold absN
    rw [en, show (-a0.toInt).toNat = a0.toInt.natAbs by omega]
/-- how many orders -/
def faS : Nat → Nat → Int32 → Int32
  | 0, _, l => l
  | m + 1, i, l => faS m (i + 1) (l * nI i)
def fact (n : Nat) : Int32 := faS (n - 1) 2 1
theorem rg_factC {n : Nat} (hR : RF h) (hn : n ≤ 100) : ∀ (m i : Nat) (l : Int32), m = n + 1 - i → i ≤ 200 → Q (faS m i l) h → Rg_X3_factorial_4 G d (nI n) l (nI i) h Q := by
  intro m
  induction m with
  | zero =>
    intro i l hi h2 k
    refine vc_X3_factorial_4 hR ⟨fun _ => k, fun z => ?_⟩
    exfalso
    rw [i_lt, ti_nI (by omega), ti_nI (by omega)] at z
    omega
  | succ m ih =>
    intro i l hi h2 k
    refine vc_X3_factorial_4 hR ⟨fun z => ?_, fun _ => ?_⟩
    · exfalso
      rw [i_lt, ti_nI (by omega), ti_nI (by omega)] at z
      omega
    · rw [nI_1]
      exact ih (i + 1) _ (by omega) (by omega) k
theorem rg_factM {n : Nat} (hR : RF h) (hn : n ≤ 100) : ∀ (m i : Nat) (l : Int32), m = n + 1 - i → i ≤ 200 → Q (faS m i l) h → Rg_X12_inOrders_4 G d (nI n) l (nI i) h Q := by
  intro m
  induction m with
  | zero =>
    intro i l hi h2 k
    refine vc_X12_inOrders_4 hR ⟨fun _ => k, fun z => ?_⟩
    exfalso
    rw [i_lt, ti_nI (by omega), ti_nI (by omega)] at z
    omega
  | succ m ih =>
    intro i l hi h2 k
    refine vc_X12_inOrders_4 hR ⟨fun z => ?_, fun _ => ?_⟩
    · exfalso
      rw [i_lt, ti_nI (by omega), ti_nI (by omega)] at z
      omega
    · rw [nI_1]
      exact ih (i + 1) _ (by omega) (by omega) k
theorem ev_factC {n : Nat} {a : Int32} (hR : RF h) (hd : 1 ≤ d) (ea : a = nI n) (hn : n ≤ 100) (k : Q (fact n) h) : EvI G d mX3_factorial [.inl a] h Q := by
  obtain ⟨e, rfl⟩ := dpos (show 1 ≤ d by omega)
  subst ea
  exact vc_X3_factorial hR (rg_factC hR hn (n - 1) 2 1 (by omega) (by omega) k)
theorem ev_factM {n : Nat} {a : Int32} (hR : RF h) (hd : 1 ≤ d) (ea : a = nI n) (hn : n ≤ 100) (k : Q (fact n) h) : EvI G d mX12_inOrders [.inl a] h Q := by
  obtain ⟨e, rfl⟩ := dpos (show 1 ≤ d by omega)
  subst ea
  exact vc_X12_inOrders hR (rg_factM hR hn (n - 1) 2 1 (by omega) (by omega) k)
def onF (X : Int32) : Nat → Nat → Int32 → Int32
  | 0, _, l => l
  | m + 1, i, l => onF X m (i + 1) (l + ((X >>> (nI i &&& 31)) &&& 1))
theorem rg_ones {X : Int32} (hR : RF h) : ∀ (m i : Nat) (l : Int32), i + m = 4 → Q (onF X m i l) h → Rg_X12_ones_4 G d X l (nI i) h Q := by
  intro m
  induction m with
  | zero =>
    intro i l hi k
    refine vc_X12_ones_4 hR ⟨fun _ => k, fun z => ?_⟩
    exfalso
    rw [i_le, ti_nI (by omega)] at z
    simp only [Int32.reduceToInt] at z
    omega
  | succ m ih =>
    intro i l hi k
    refine vc_X12_ones_4 hR ⟨fun z => ?_, fun _ => ?_⟩
    · exfalso
      rw [i_le, ti_nI (by omega)] at z
      simp only [Int32.reduceToInt] at z
      omega
    · rw [nI_1]
      exact ih (i + 1) _ (by omega) k
theorem on_pc : ∀ u, u < 16 → onF (nI u) 4 0 0 = nI (pc u) := by decide
theorem ev_ones {u : Nat} (hR : RF h) (hd : 1 ≤ d) (hu : u < 16) (k : Q (nI (pc u)) h) : EvI G d mX12_ones [.inl (nI u)] h Q := by
  obtain ⟨e, rfl⟩ := dpos (show 1 ≤ d by omega)
  exact vc_X12_ones hR (rg_ones hR 4 0 0 (by omega) (by rw [on_pc u hu]; exact k))
theorem ev_bitC {u : Nat} (hR : RF h) (hd : 1 ≤ d) (hu : u < 16) (k : Q (nI (pc u)) h) : EvI G d mJ6_bitCount_0f7a4 [.inl (nI u)] h Q := by
  obtain ⟨e, rfl⟩ := dpos (show 1 ≤ d by omega)
  refine vc_J6_bitCount_0f7a4 hR ?_
  have hc : u = 0 ∨ u = 1 ∨ u = 2 ∨ u = 3 ∨ u = 4 ∨ u = 5 ∨ u = 6 ∨ u = 7 ∨ u = 8 ∨ u = 9 ∨ u = 10 ∨ u = 11 ∨ u = 12 ∨ u = 13 ∨ u = 14 ∨ u = 15 := by omega
  rcases hc with rfl | rfl | rfl | rfl | rfl | rfl | rfl | rfl | rfl | rfl | rfl | rfl | rfl | rfl | rfl | rfl <;> exact k
def gainC (bs : Nat → Int32) (N p : Nat) : Nat → Nat → Int32 → Int32
  | 0, _, a => a
  | m + 1, u, a => gainC bs N p m (u + 1) (if u.testBit p = true then a + (fact (pc u - 1) * fact (N - 1 - (pc u - 1))) * (bs u - bs (u - 2 ^ p)) else a)
def gainM (bs : Nat → Int32) (N p : Nat) : Nat → Nat → Int32 → Int32
  | 0, _, a => a
  | m + 1, u, a => gainM bs N p m (u + 1) (if u.testBit p = false then a + (fact (pc u) * fact (N - 1 - pc u)) * (bs (u + 2 ^ p) - bs u) else a)
theorem gain_eq (bs : Nat → Int32) {N p : Nat} (hN : N ≤ 4) (hp : p < N) : gainC bs N p (2 ^ N) 0 0 = gainM bs N p (2 ^ N) 0 0 := by
  have hc : N = 1 ∨ N = 2 ∨ N = 3 ∨ N = 4 := by omega
  have pcc : p = 0 ∨ p = 1 ∨ p = 2 ∨ p = 3 := by omega
  rcases hc with rfl | rfl | rfl | rfl <;> rcases pcc with rfl | rfl | rfl | rfl <;> first | omega | rfl
theorem p_two : ∀ N, N < 5 → (1 <<< (nI N &&& 31) : Int32) = nI (2 ^ N) ∧ 2 ^ N ≤ 16 := by decide
theorem p_and : ∀ u, u < 16 → ∀ p, p < 4 → ((nI u &&& nI (2 ^ p)) = 0 ↔ u.testBit p = false) := by decide
theorem p_shr : ∀ u, u < 16 → ∀ p, p < 4 → (((nI u >>> (nI p &&& 31)) &&& 1) = 0 ↔ u.testBit p = false) := by decide
theorem p_xor : ∀ u, u < 16 → ∀ p, p < 4 → u.testBit p = true → (nI u ^^^ nI (2 ^ p)) = nI (u - 2 ^ p) ∧ u - 2 ^ p < u ∧ 1 ≤ pc u ∧ nI (pc u) - 1 = nI (pc u - 1) := by decide
theorem p_or1 : ∀ u, u < 16 → ∀ p, p < 4 → u.testBit p = false → (nI u ||| (1 <<< (nI p &&& 31))) = nI (u + 2 ^ p) := by decide
theorem p_or2 : ∀ N, N < 5 → ∀ u, u < 2 ^ N → ∀ p, p < N → u.testBit p = false → u + 2 ^ p < 2 ^ N := by decide
theorem p_or3 : ∀ N, N < 5 → ∀ u, u < 2 ^ N → ∀ p, p < N → u.testBit p = false → (nI N - 1) - nI (pc u) = nI (N - 1 - pc u) := by decide
theorem p_or {N u p : Nat} (hN : N < 5) (hu : u < 2 ^ N) (hp : p < N) (t : u.testBit p = false) : (nI u ||| (1 <<< (nI p &&& 31))) = nI (u + 2 ^ p) ∧ u + 2 ^ p < 2 ^ N ∧ (nI N - 1) - nI (pc u) = nI (N - 1 - pc u) := ⟨p_or1 u (Nat.lt_of_lt_of_le hu (p_two N hN).2) p (by omega) t, p_or2 N hN u hu p hp t, p_or3 N hN u hu p hp t⟩
theorem p_pc : ∀ N, N < 5 → ∀ u, u < 2 ^ N → 1 ≤ pc u → (nI N - 1) - (nI (pc u) - 1) = nI (N - 1 - (pc u - 1)) := by decide
theorem pc_le : ∀ u, u < 16 → pc u ≤ 4 := by decide
theorem p_hi : ∀ N, N < 5 → ∀ u, u < 2 ^ N → ∀ p, p < 4 → N ≤ p → u.testBit p = false := by decide
theorem fst_0 : fstS (nI 0) 4 0 = 4 := by decide
theorem best_0 {F : Nat → Int} {p0 : List Int32} (h4 : F 0 ≤ 4) : (bestF F p0 (nI 0)).1 = 0 := by
  unfold bestF
  rw [fst_0, if_neg (by omega)]
section
variable {h0 : Hp} {F : Nat → Int} {p0 : List Int32} {N : Nat} {bs : Nat → Int32}
/-- the class's sets so far -/
def W1 (bs : Nat → Int32) (N : Nat) (h0 : Hp) (u : Nat) (h : Hp) : Prop := RF h ∧ (∀ a, a ≠ 15 → ¬ (49 ≤ a ∧ a ≤ 55) → h.1 a = h0.1 a) ∧ h.1 53 3 = nI (2 ^ N) ∧ ∀ v, v < u → h.1 55 v = bs v
def W2 (bs : Nat → Int32) (N : Nat) (h0 : Hp) (p : Nat) (h : Hp) : Prop := W1 bs N h0 (2 ^ N) h ∧ h.1 53 1 = fact N ∧ ∀ q, q < p → h.1 54 q = gainC bs N q (2 ^ N) 0 0
theorem rg_gainC {p : Nat} (hd : 1 ≤ d) (hN : N < 5) (hp : p < N) (w : W1 bs N h0 (2 ^ N) h) (k : Q (gainC bs N p (2 ^ N) 0 0) h) : ∀ (m u : Nat) (a : Int32), u + m = 2 ^ N → gainC bs N p m u a = gainC bs N p (2 ^ N) 0 0 → Rg_X3_gainOf_10 G d (nI N) (nI (2 ^ p)) a (nI u) h Q := by
  have p16 := (p_two N hN).2
  intro m
  induction m with
  | zero =>
    intro u a hu he
    refine vc_X3_gainOf_10 w.1 ⟨fun _ => by rw [← he] at k; exact k, fun z => ?_⟩
    exfalso
    rw [w.2.2.1, i_le, ti_nI (by omega), ti_nI (by omega)] at z
    omega
  | succ m ih =>
    intro u a hu he
    have eu : (nI u).toInt = (u : Int) := ti_nI (by omega)
    refine vc_X3_gainOf_10 w.1 ⟨fun z => ?_, fun _ => ⟨fun z => ?_, fun _ => ⟨fun z => ?_, fun z => ?_⟩⟩⟩
    · exfalso
      rw [w.2.2.1, i_le, ti_nI (by omega), ti_nI (by omega)] at z
      omega
    · exfalso
      rw [i_le, eu] at z
      simp only [Int32.reduceToInt] at z
      omega
    · rw [p_and u (by omega) p (by omega)] at z
      rw [nI_1]
      refine ih (u + 1) a (by omega) ?_
      rw [← he]
      show _ = gainC bs N p m (u + 1) (if _ then _ else _)
      rw [if_neg (by rw [z]; decide)]
    · rw [p_and u (by omega) p (by omega)] at z
      have ut : u.testBit p = true := by
        cases e : u.testBit p with
        | true => rfl
        | false => exact absurd e z
      have px := p_xor u (by omega) p (by omega) ut
      have pl := pc_le u (by omega)
      have e2 : (nI (u - 2 ^ p)).toInt = ((u - 2 ^ p : Nat) : Int) := ti_nI (by omega)
      refine ev_bitC w.1 hd (by omega) (ev_factC w.1 hd (n := pc u - 1) px.2.2.2 (by omega) (ev_factC w.1 hd (n := N - 1 - (pc u - 1)) (p_pc N hN u (by omega) px.2.2.1) (by omega) ?_))
      rw [px.1, cl_of eu, cl_of e2, w.2.2.2 u (by omega), w.2.2.2 (u - 2 ^ p) (by omega), nI_1]
      refine ⟨in_of (by omega) (by omega), in_of (by omega) (by omega), ih (u + 1) _ (by omega) ?_⟩
      rw [← he]
      show _ = gainC bs N p m (u + 1) (if _ then _ else _)
      rw [if_pos ut]
theorem rg_weigh2 (hd : 2 ≤ d) (hN : N < 5) (k : ∀ h', W2 bs N h0 N h' → QW h') : ∀ (m p : Nat) (h : Hp), p + m = N → W2 bs N h0 p h → Rg_X3_weigh_80 G d (nI N) (nI p) h QW := by
  intro m
  induction m with
  | zero =>
    intro p h hp w
    have : p = N := by omega
    subst this
    refine vc_X3_weigh_80 w.1.1 ⟨fun _ => k h w, fun z => ?_⟩
    exfalso
    rw [i_le] at z
    omega
  | succ m ih =>
    intro p h hp w
    have ep : (nI p).toInt = (p : Int) := ti_nI (by omega)
    obtain ⟨e, rfl⟩ := dpos (show 1 ≤ d by omega)
    refine vc_X3_weigh_80 w.1.1 ⟨fun z => ?_, fun _ => vc_X3_gainOf w.1.1 ?_⟩
    · exfalso
      rw [i_le, ti_nI (by omega), ti_nI (by omega)] at z
      omega
    · rw [(p_two p (by omega)).1]
      refine rg_gainC (by omega) hN (p := p) (by omega) w.1 ⟨in_of (by omega) (by omega), ?_⟩ (2 ^ N) 0 0 (by omega) rfl
      rw [cl_of ep, nI_1]
      refine ih (p + 1) _ (by omega) ⟨⟨w.1.1, fun a z1 z2 => by funext t; rw [sI_ne (by omega), w.1.2.1 a z1 z2], by rw [sI_ne (by omega)]; exact w.1.2.2.1, fun v hv => by rw [sI_ne (by omega)]; exact w.1.2.2.2 v hv⟩, by rw [sI_ne (by omega)]; exact w.2.1, fun q hq => ?_⟩
      by_cases e : q = p
      · subst e; rw [sI_self]
      · rw [sI_ne (by omega)]; exact w.2.2 q (by omega)
theorem rg_weigh {bg : Nat → Int} (hd : 40 ≤ d) (hN : N < 5) (hF : F 0 = N) (ok : OKF 99999 F) (hv : vC h0 9 bg = F) (T : TxC h0 13 p0) (k : ∀ h', W2 (fun v => (bestF F p0 (nI v)).1) N h0 N h' → QW h') : ∀ (m u : Nat) (h : Hp), u + m = 2 ^ N → 1 ≤ u → W1 (fun v => (bestF F p0 (nI v)).1) N h0 u h → Rg_X3_weigh_26 G d (nI N) (nI u) h QW := by
  have p16 := (p_two N hN).2
  intro m
  induction m with
  | zero =>
    intro u h hu h1 w
    have eu : u = 2 ^ N := by omega
    rw [eu] at w ⊢
    have go : EvI G d mX3_factorial [.inl (nI N)] h (fun x h' => Rg_X3_weigh_80 G d (nI N) 0 (sI h' 53 1 x) QW) := ev_factC w.1 (by omega) (n := N) rfl (by omega) (rg_weigh2 (by omega) hN k N 0 _ (by omega) ⟨⟨w.1, fun a z1 z2 => by funext t; rw [sI_ne (by omega), w.2.1 a z1 z2], by rw [sI_ne (by omega)]; exact w.2.2.1, fun v hv => by rw [sI_ne (by omega)]; exact w.2.2.2 v hv⟩, sI_self _ _ _ _, fun q hq => absurd hq (by omega)⟩)
    exact vc_X3_weigh_26 w.1 ⟨fun _ => go, fun z => absurd (by rw [w.2.2.1, i_le]; omega) z⟩
  | succ m ih =>
    intro u h hu h1 w
    have eu : (nI u).toInt = (u : Int) := ti_nI (by omega)
    have ev : vC h 9 bg = F := by
      rw [← hv]
      exact vC_eq2 (fun a _ _ => w.2.1 a (by omega) (by omega)) (fun k _ _ => by rw [w.2.1 9 (by omega) (by omega)]) (fun k _ => by rw [w.2.1 _ (by omega) (by omega)]) (fun k _ => by rw [w.2.1 _ (by omega) (by omega)]) (fun k _ => by rw [w.2.1 _ (by omega) (by omega)])
    refine vc_X3_weigh_26 w.1 ⟨fun z => ?_, fun _ => ⟨fun z => ?_, fun _ => ev_find (bg := bg) w.1 (by omega) (by rw [ev]; exact ok) (TxC_eq (by rw [w.2.1 13 (by omega) (by omega)]) (fun k _ => by rw [w.2.1 (13 + 1) (by omega) (by omega)]) T) (fun h' c => ?_)⟩⟩
    · exfalso
      rw [w.2.2.1, i_le, ti_nI (by omega), ti_nI (by omega)] at z
      omega
    · exfalso
      rw [i_le, eu] at z
      simp only [Int32.reduceToInt] at z
      omega
    · rw [ev] at c
      rw [cl_of eu, nI_1]
      refine ⟨in_of (by omega) (by omega), ih (u + 1) _ (by omega) (by omega) ⟨c.1, fun a z1 z2 => by funext t; rw [sI_ne (by omega), c.2.1 a z1 (by omega), w.2.1 a z1 z2], by rw [sI_ne (by omega), c.2.1 53 (by omega) (by omega)]; exact w.2.2.1, fun v hv => ?_⟩⟩
      by_cases e : v = u
      · subst e; rw [sI_self]; exact c.2.2.1
      · rw [sI_ne (by omega), c.2.1 55 (by omega) (by omega)]; exact w.2.2.2 v (by omega)
theorem ev_weigh {bg : Nat → Int} (hR : RF h) (hd : 42 ≤ d) (hN : N < 5) (hF : F 0 = N) (ok : OKF 99999 F) (hv : vC h 9 bg = F) (T : TxC h 13 p0) (k : ∀ h', W2 (fun v => (bestF F p0 (nI v)).1) N h N h' → QW h') : EvV G d mX3_weigh [.inr (.inr (some 53)), .inr (.inr (some 1)), .inr (.inr (some 49))] h QW := by
  obtain ⟨e, rfl⟩ := dpos (show 1 ≤ d by omega)
  have e0 : h.1 1 0 = nI N := eq_nI (by rw [← hF, ← hv] <;> rfl)
  have p1 : 1 ≤ 2 ^ N := Nat.one_le_two_pow
  refine vc_X3_weigh hR ?_
  rw [e0, if_neg (by rw [i_lt, ti_nI (by omega)]; simp only [Int32.reduceToInt]; omega), (p_two N hN).1]
  refine rg_weigh (h0 := h) (by omega) hN hF ok hv T k (2 ^ N - 1) 1 _ (by omega) (by omega) ⟨hR, fun a z1 z2 => by funext t; rw [sI_ne (by omega), sI_ne (by omega)], by rw [sI_ne (by omega), sI_self], fun v hv => ?_⟩
  rw [show v = 0 by omega, sI_self]
  exact (best_0 (by omega)).symm
/-- the reference's -/
def V1 (bs : Nat → Int32) (N : Nat) (h0 : Hp) (u : Nat) (h : Hp) : Prop := RF h ∧ (∀ a, a ≠ 94 → ¬ (99 ≤ a ∧ a ≤ 106) → h.1 a = h0.1 a) ∧ (∀ t, ¬ (5 ≤ t ∧ t ≤ 23) → h.1 94 t = h0.1 94 t) ∧ h.1 94 23 = fact N ∧ ∀ v, v < u → h.1 105 v = bs v
def V2 (bs : Nat → Int32) (N : Nat) (h0 : Hp) (p : Nat) (h : Hp) : Prop := V1 bs N h0 (2 ^ N) h ∧ ∀ q, q < p → h.1 106 q = gainM bs N q (2 ^ N) 0 0
theorem rg_gainM {p : Nat} (hd : 1 ≤ d) (hN : N < 5) (hp : p < N) (k : ∀ h', V2 bs N h0 (p + 1) h' → Rg_X12_findShares_47 G d (nI N) (nI (p + 1)) h' QW) : ∀ (m u : Nat) (h : Hp), u + m = 2 ^ N → V2 bs N h0 p h → gainM bs N p m u (h.1 106 p) = gainM bs N p (2 ^ N) 0 0 → Rg_X12_findShares_61 G d (nI N) (nI p) (nI u) h QW := by
  have p16 := (p_two N hN)
  intro m
  induction m with
  | zero =>
    intro u h hu w he
    refine vc_X12_findShares_61 w.1.1 ⟨fun _ => ?_, fun z => ?_⟩
    · rw [nI_1]
      refine k h ⟨w.1, fun q hq => ?_⟩
      by_cases e : q = p
      · subst e; exact he
      · exact w.2 q (by omega)
    · exfalso
      rw [p16.1, i_le, ti_nI (by omega), ti_nI (by omega)] at z
      omega
  | succ m ih =>
    intro u h hu w he
    have eu : (nI u).toInt = (u : Int) := ti_nI (by omega)
    have ep : (nI p).toInt = (p : Int) := ti_nI (by omega)
    refine vc_X12_findShares_61 w.1.1 ⟨fun z => ?_, fun _ => ⟨fun z => ?_, fun z => ?_⟩⟩
    · exfalso
      rw [p16.1, i_le, ti_nI (by omega), ti_nI (by omega)] at z
      omega
    · rw [p_shr u (by omega) p (by omega)] at z
      rw [nI_1]
      refine ih (u + 1) h (by omega) w ?_
      rw [← he]
      show _ = gainM bs N p m (u + 1) (if _ then _ else _)
      rw [if_neg z]
    · rw [p_shr u (by omega) p (by omega)] at z
      have px := p_or hN (show u < 2 ^ N by omega) hp z
      have pl := pc_le u (by omega)
      have e2 : (nI (u + 2 ^ p)).toInt = ((u + 2 ^ p : Nat) : Int) := ti_nI (by omega)
      refine ⟨in_of (by omega) (by omega), ev_ones w.1.1 hd (by omega) (ev_factM w.1.1 hd (n := pc u) rfl (by omega) (ev_ones w.1.1 hd (by omega) (ev_factM w.1.1 hd (n := N - 1 - pc u) px.2.2 (by omega) ?_)))⟩
      rw [px.1, cl_of eu, cl_of e2, cl_of ep, w.1.2.2.2.2 u (by omega), w.1.2.2.2.2 (u + 2 ^ p) (by omega)]
      refine ⟨in_of (by rw [e2]; exact Int.natCast_nonneg _) (by rw [e2]; exact Int.ofNat_lt.mpr (by omega)), in_of (by omega) (by omega), in_of (by omega) (by omega), fun h16 e16 => ?_⟩
      subst e16
      rw [nI_1]
      refine ih (u + 1) _ (by omega) ⟨⟨w.1.1, fun a z1 z2 => by funext t; rw [sI_ne (by omega), w.1.2.1 a z1 z2], fun t z1 => by rw [sI_ne (by omega), w.1.2.2.1 t z1], by rw [sI_ne (by omega)]; exact w.1.2.2.2.1, fun v hv => by rw [sI_ne (by omega)]; exact w.1.2.2.2.2 v hv⟩, fun q hq => by rw [sI_ne (by omega)]; exact w.2 q hq⟩ ?_
      rw [sI_self, ← he]
      show _ = gainM bs N p m (u + 1) (if _ then _ else _)
      rw [if_pos z]
theorem rg_shares2 (hd : 2 ≤ d) (hN : N < 5) (k : ∀ h', V2 bs N h0 N h' → QW h') : ∀ (m p : Nat) (h : Hp), p + m = N → V2 bs N h0 p h → Rg_X12_findShares_47 G d (nI N) (nI p) h QW := by
  intro m
  induction m with
  | zero =>
    intro p h hp w
    have : p = N := by omega
    subst this
    refine vc_X12_findShares_47 w.1.1 ⟨fun _ => k h w, fun z => ?_⟩
    exfalso
    rw [i_le] at z
    omega
  | succ m ih =>
    intro p h hp w
    have ep : (nI p).toInt = (p : Int) := ti_nI (by omega)
    refine vc_X12_findShares_47 w.1.1 ⟨fun z => ?_, fun _ => ⟨in_of (by omega) (by omega), ?_⟩⟩
    · exfalso
      rw [i_le, ti_nI (by omega), ti_nI (by omega)] at z
      omega
    · rw [cl_of ep]
      refine rg_gainM (by omega) hN (p := p) (by omega) (fun h' w' => ih (p + 1) h' (by omega) w') (2 ^ N) 0 _ (by omega) ⟨⟨w.1.1, fun a z1 z2 => by funext t; rw [sI_ne (by omega), w.1.2.1 a z1 z2], fun t z1 => by rw [sI_ne (by omega), w.1.2.2.1 t z1], by rw [sI_ne (by omega)]; exact w.1.2.2.2.1, fun v hv => by rw [sI_ne (by omega)]; exact w.1.2.2.2.2 v hv⟩, fun q hq => by rw [sI_ne (by omega)]; exact w.2 q hq⟩ (by rw [sI_self])
theorem rg_shares {p1 : List Int32} (hd : 80 ≤ d) (hN : N < 5) (ok : OKF 99999 F) (hv : vM h0 = F) (T : TxM h0 95 p0 p1) (k : ∀ h', V2 (fun v => (bestF F p0 (nI v)).1) N h0 N h' → QW h') : ∀ (m u : Nat) (h : Hp), u + m = 2 ^ N → V1 (fun v => (bestF F p0 (nI v)).1) N h0 u h → Rg_X12_findShares_17 G d (nI N) (nI u) h QW := by
  have p16 := (p_two N hN)
  intro m
  induction m with
  | zero =>
    intro u h hu w
    have eu : u = 2 ^ N := by omega
    rw [eu] at w ⊢
    refine vc_X12_findShares_17 w.1 ⟨fun _ => rg_shares2 (by omega) hN k N 0 h (by omega) ⟨w, fun q hq => absurd hq (by omega)⟩, fun z => absurd (by rw [p16.1, i_le]; omega) z⟩
  | succ m ih =>
    intro u h hu w
    have eu : (nI u).toInt = (u : Int) := ti_nI (by omega)
    have ev : vM h = F := by
      rw [← hv]
      funext t
      show (h.1 95 t).toInt = (h0.1 95 t).toInt
      rw [w.2.1 95 (by omega) (by omega)]
    refine vc_X12_findShares_17 w.1 ⟨fun z => ?_, fun _ => ev_findBest w.1 (by omega) (by rw [ev]; exact ok) (TxM_eq (fun t _ _ => by rw [w.2.1 95 (by omega) (by omega)]) T) (fun h' c => ?_)⟩
    · exfalso
      rw [p16.1, i_le, ti_nI (by omega), ti_nI (by omega)] at z
      omega
    · rw [ev] at c
      rw [cl_of eu, nI_1]
      refine ⟨in_of (by omega) (by omega), ih (u + 1) _ (by omega) ⟨c.1, fun a z1 z2 => by funext t; rw [sI_ne (by omega), c.2.1 a z1 (by omega), w.2.1 a z1 z2], fun t z1 => by rw [sI_ne (by omega), c.2.2.1 t (by omega), w.2.2.1 t z1], by rw [sI_ne (by omega), c.2.2.1 23 (by omega)]; exact w.2.2.2.1, fun v hv => ?_⟩⟩
      by_cases e : v = u
      · subst e; rw [sI_self]; exact c.2.2.2.1
      · rw [sI_ne (by omega), c.2.1 105 (by omega) (by omega)]; exact w.2.2.2.2 v (by omega)
theorem ev_findShares {p1 : List Int32} (hR : RF h) (hd : 82 ≤ d) (hN : N < 5) (hF : F 0 = N) (ok : OKF 99999 F) (hv : vM h = F) (T : TxM h 95 p0 p1) (k : ∀ h', V2 (fun v => (bestF F p0 (nI v)).1) N h N h' → QW h') : EvV G d mX12_findShares [.inr (.inr (some 94))] h QW := by
  obtain ⟨e, rfl⟩ := dpos (show 1 ≤ d by omega)
  have e0 : h.1 95 0 = nI N := eq_nI (by rw [← hF, ← hv] <;> rfl)
  refine vc_X12_findShares hR ?_
  rw [e0]
  refine ev_factM hR (by omega) (n := N) rfl (by omega) ?_
  refine rg_shares (h0 := h) (by omega) hN ok hv T k (2 ^ N) 0 _ (by omega) ⟨hR, fun a z1 z2 => by funext t; rw [sI_ne (by omega)], fun t z1 => by rw [sI_ne (by omega)], sI_self _ _ _ _, fun v hv => absurd hv (by omega)⟩
end
end
