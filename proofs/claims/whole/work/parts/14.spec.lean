/-! THE PURE PICTURE of a hearing: F : Nat → Int in the reference's order of numbers (0 parties, 1 words, 2 z, 3 SECOND, 4 FLOOR, 5 THUMB, 6 hand + 1, 7 to go, 10 + 5p.. parties, 30 + 5w.. words) -/
def upI (F : Nat → Int) (k : Nat) (v : Int) : Nat → Int := fun j => if j = k then v else F j
theorem upI_s (F : Nat → Int) (k : Nat) (v : Int) : upI F k v k = v := if_pos rfl
theorem upI_n {F : Nat → Int} {k : Nat} {v : Int} {j : Nat} (h : j ≠ k) : upI F k v j = F j := if_neg h
def rnk (kind m : Int) : Int :=
  if kind = 1 then 5 + m else if kind = 2 then max 1 (5 - m / 2) else if kind = 3 then 1 else if kind = 4 then 2 * (5 + m) else if kind = 5 then max 1 ((max 1 (5 - m / 2)) / 2) else if kind = 6 then 1 + m else 5
def drk (kind m : Int) : Int :=
  if kind = 1 then m / 2 else if kind = 4 then m / 2 + 1 else if kind = 3 then 1 else if kind = 6 then 1 else 0
theorem rnk_in {k m : Int} (h0 : 0 ≤ m) (h9 : m ≤ 9) : 1 ≤ rnk k m ∧ rnk k m ≤ 28 := by
  unfold rnk
  split
  · omega
  split
  · omega
  split
  · omega
  split
  · omega
  split
  · omega
  split <;> omega
theorem drk_in {k m : Int} (h0 : 0 ≤ m) (h9 : m ≤ 9) : 0 ≤ drk k m ∧ drk k m ≤ 28 := by
  unfold drk
  split
  · omega
  split
  · omega
  split
  · omega
  split <;> omega
/-- who speaks (-1: nobody) -/
def spk (F : Nat → Int) : Int := if F 6 = 0 then -1 else F (30 + 5 * (F 6 - 1).toNat)
def rate (F : Nat → Int) (who : Int) (p : Nat) : Int := if (p : Int) = who then rnk (F (10 + 5 * p)) (F (11 + 5 * p)) else drk (F (10 + 5 * p)) (F (11 + 5 * p))
/-- how much is lost in n SECONDS by the first N PARTIES -/
def lossF (r : Nat → Int) (n : Int) (F : Nat → Int) : Nat → Int
  | 0 => 0
  | p + 1 => lossF r n F p + min (F (13 + 5 * p)) (n * r p)
/-- behind n SECONDS at such rates -/
def drF (r : Nat → Int) (n : Int) (N : Nat) (F : Nat → Int) : Nat → Int := fun j =>
  if j = 4 then min 999999 (F 4 + lossF r n F N) else if 13 ≤ j ∧ (j - 13) % 5 = 0 ∧ (j - 13) / 5 < N then F j - min (F j) (n * r ((j - 13) / 5)) else F j
def endF (F : Nat → Int) (how : Int) : Nat → Int := upI (upI (upI F (34 + 5 * (F 6 - 1).toNat) how) 6 0) 7 0
/-- a SECOND -/
def secF (ear : Int → Int → Int → Int) (F : Nat → Int) : Nat → Int :=
  let F1 := upI F 3 (F 3 + 1)
  if F 5 = 1 then F1 else
  let who := spk F
  let D := drF (rate F who) 1 (F 0).toNat F1
  if F 6 = 0 then D else
  if F (13 + 5 * who.toNat) < rnk (F (10 + 5 * who.toNat)) (F (11 + 5 * who.toNat)) then endF D 2 else
  let D1 := upI D 7 (F 7 - 1)
  if F 7 - 1 = 0 then
    let w := (F 6 - 1).toNat
    let hd := F (14 + 5 * who.toNat)
    endF (upI D1 (14 + 5 * who.toNat) (min 99999 (hd + ear (F (32 + 5 * w)) (F (31 + 5 * w)) hd))) 1
  else D1
def secN (ear : Int → Int → Int → Int) : Nat → (Nat → Int) → (Nat → Int)
  | 0, F => F
  | n + 1, F => secN ear n (secF ear F)
/-- what holds of it -/
def OKP (F : Nat → Int) (p : Nat) : Prop := (0 ≤ F (10 + 5 * p) ∧ F (10 + 5 * p) ≤ 6) ∧ (0 ≤ F (11 + 5 * p) ∧ F (11 + 5 * p) ≤ 9) ∧ (0 ≤ F (12 + 5 * p) ∧ F (12 + 5 * p) ≤ 999) ∧ (0 ≤ F (13 + 5 * p) ∧ F (13 + 5 * p) ≤ 999) ∧ (0 ≤ F (14 + 5 * p) ∧ F (14 + 5 * p) ≤ 99999)
def OKW (F : Nat → Int) (w : Nat) : Prop := (0 ≤ F (30 + 5 * w) ∧ F (30 + 5 * w) ≤ 3) ∧ ((w : Int) < F 1 → F (30 + 5 * w) < F 0 ∧ 1 ≤ F (31 + 5 * w)) ∧ (0 ≤ F (31 + 5 * w) ∧ F (31 + 5 * w) ≤ 30) ∧ (0 ≤ F (32 + 5 * w) ∧ F (32 + 5 * w) ≤ 99) ∧ (-1 ≤ F (33 + 5 * w) ∧ F (33 + 5 * w) ≤ w) ∧ ((w : Int) < F 1 → F (33 + 5 * w) < w) ∧ (0 ≤ F (34 + 5 * w) ∧ F (34 + 5 * w) ≤ 2)
def OKF (B : Int) (F : Nat → Int) : Prop := (0 ≤ F 0 ∧ F 0 ≤ 4) ∧ (0 ≤ F 1 ∧ F 1 ≤ 12) ∧ (0 ≤ F 3 ∧ F 3 ≤ B) ∧ (0 ≤ F 4 ∧ F 4 ≤ 999999) ∧ (0 ≤ F 5 ∧ F 5 ≤ 1) ∧ (0 ≤ F 6 ∧ F 6 ≤ F 1) ∧ (0 ≤ F 7 ∧ F 7 ≤ 30) ∧ (F 6 ≠ 0 → 1 ≤ F 7 ∧ F (34 + 5 * (F 6 - 1).toNat) = 0) ∧ (∀ p, p < 4 → OKP F p) ∧ (∀ w, w < 12 → OKW F w)
theorem lossF_nn {r : Nat → Int} {n : Int} {F : Nat → Int} : ∀ {N : Nat}, (∀ p, p < N → 0 ≤ F (13 + 5 * p) ∧ 0 ≤ n * r p) → 0 ≤ lossF r n F N
  | 0, _ => Int.le_refl _
  | N + 1, h => by
    have h1 := lossF_nn (N := N) (fun p hp => h p (by omega))
    have h2 := h N (by omega)
    show 0 ≤ lossF r n F N + min _ _
    omega
theorem lossF_congr {r : Nat → Int} {n : Int} {F F' : Nat → Int} : ∀ {N : Nat}, (∀ p, p < N → F' (13 + 5 * p) = F (13 + 5 * p)) → lossF r n F' N = lossF r n F N
  | 0, _ => rfl
  | N + 1, h => by
    show lossF r n F' N + _ = lossF r n F N + _
    rw [lossF_congr (N := N) (fun p hp => h p (by omega)), h N (by omega)]
theorem drF_4 (r : Nat → Int) (n : Int) (N : Nat) (F : Nat → Int) : drF r n N F 4 = min 999999 (F 4 + lossF r n F N) := if_pos rfl
theorem drF_w {r : Nat → Int} {n : Int} {N : Nat} {F : Nat → Int} {p : Nat} (hp : p < N) : drF r n N F (13 + 5 * p) = F (13 + 5 * p) - min (F (13 + 5 * p)) (n * r p) := by
  unfold drF
  rw [if_neg (by omega), if_pos (by omega), show (13 + 5 * p - 13) / 5 = p by omega]
theorem drF_o {r : Nat → Int} {n : Int} {N : Nat} {F : Nat → Int} {j : Nat} (h4 : j ≠ 4) (hj : ∀ p, p < N → j ≠ 13 + 5 * p) : drF r n N F j = F j := by
  unfold drF
  rw [if_neg h4, if_neg]
  intro c
  have := hj ((j - 13) / 5) c.2.2
  omega
/-- SECONDS add up -/
theorem drF_add {r : Nat → Int} {a b : Int} {N : Nat} {F : Nat → Int} (ha : 0 ≤ a) (hb : 0 ≤ b) (hr : ∀ p, p < N → 0 ≤ r p) (hw : ∀ p, p < N → 0 ≤ F (13 + 5 * p)) : drF r b N (drF r a N F) = drF r (a + b) N F := by
  have key : ∀ p, p < N → (F (13 + 5 * p) - min (F (13 + 5 * p)) (a * r p)) - min (F (13 + 5 * p) - min (F (13 + 5 * p)) (a * r p)) (b * r p) = F (13 + 5 * p) - min (F (13 + 5 * p)) ((a + b) * r p) := by
    intro p hp
    have h1 : 0 ≤ a * r p := Int.mul_nonneg ha (hr p hp)
    have h2 : 0 ≤ b * r p := Int.mul_nonneg hb (hr p hp)
    rw [Int.add_mul]
    omega
  have kl : ∀ M, M ≤ N → lossF r a F M + lossF r b (drF r a N F) M = lossF r (a + b) F M := by
    intro M
    induction M with
    | zero => intro _; rfl
    | succ M ih =>
      intro hM
      have h0 := ih (by omega)
      have h3 := key M (by omega)
      show lossF r a F M + min _ _ + (lossF r b (drF r a N F) M + min (drF r a N F (13 + 5 * M)) (b * r M)) = lossF r (a + b) F M + min _ _
      rw [drF_w (by omega)]
      omega
  have k4 := kl N (Nat.le_refl _)
  have l1 : 0 ≤ lossF r a F N := lossF_nn (fun p hp => ⟨hw p hp, Int.mul_nonneg ha (hr p hp)⟩)
  have l2 : 0 ≤ lossF r b (drF r a N F) N := lossF_nn (fun p hp => ⟨by
    rw [drF_w hp]
    have h1 : 0 ≤ a * r p := Int.mul_nonneg ha (hr p hp)
    have := hw p hp
    omega, Int.mul_nonneg hb (hr p hp)⟩)
  funext j
  by_cases h4 : j = 4
  · subst h4
    rw [drF_4, drF_4, drF_4, ← k4]
    omega
  · by_cases hj : ∃ p, p < N ∧ j = 13 + 5 * p
    · obtain ⟨p, hp, rfl⟩ := hj
      rw [drF_w hp, drF_w hp, drF_w hp]
      exact key p hp
    · have hj2 : ∀ p, p < N → j ≠ 13 + 5 * p := fun p hp e => hj ⟨p, hp, e⟩
      rw [drF_o h4 hj2, drF_o h4 hj2, drF_o h4 hj2]
theorem drF_congr {r r' : Nat → Int} {n : Int} {N : Nat} {F : Nat → Int} (h : ∀ p, p < N → r' p = r p) : drF r' n N F = drF r n N F := by
  have kl : ∀ M, M ≤ N → lossF r' n F M = lossF r n F M := by
    intro M
    induction M with
    | zero => intro _; rfl
    | succ M ih =>
      intro hM
      show lossF r' n F M + _ = lossF r n F M + _
      rw [ih (by omega), h M (by omega)]
  funext j
  by_cases h4 : j = 4
  · subst h4
    rw [drF_4, drF_4, kl N (Nat.le_refl _)]
  · by_cases hj : ∃ p, p < N ∧ j = 13 + 5 * p
    · obtain ⟨p, hp, rfl⟩ := hj
      rw [drF_w hp, drF_w hp, h p hp]
    · have hj2 : ∀ p, p < N → j ≠ 13 + 5 * p := fun p hp e => hj ⟨p, hp, e⟩
      rw [drF_o h4 hj2, drF_o h4 hj2]
