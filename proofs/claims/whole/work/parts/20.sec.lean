/-! SECONDS in a step are SECONDS one by one -/
theorem spk_congr {F F' : Nat → Int} (h6 : F' 6 = F 6) (hw : F' (30 + 5 * (F 6 - 1).toNat) = F (30 + 5 * (F 6 - 1).toNat)) : spk F' = spk F := by
  unfold spk
  rw [h6, hw]
theorem rate_congr {F F' : Nat → Int} {who : Int} (g : ∀ p, F' (10 + 5 * p) = F (10 + 5 * p) ∧ F' (11 + 5 * p) = F (11 + 5 * p)) : rate F' who = rate F who := by
  funext p
  unfold rate
  rw [(g p).1, (g p).2]
theorem upI_up (F : Nat → Int) (k : Nat) (a b : Int) : upI (upI F k a) k b = upI F k b := by
  funext j
  unfold upI
  by_cases h : j = k <;> simp [h]
theorem upI_id {F : Nat → Int} {k : Nat} {a : Int} (h : F k = a) : upI F k a = F := by
  funext j
  unfold upI
  by_cases hj : j = k
  · rw [if_pos hj, hj, h]
  · rw [if_neg hj]
theorem drF3 (r : Nat → Int) (n : Int) (N : Nat) (F : Nat → Int) (v : Int) : drF r n N (upI F 3 v) = upI (drF r n N F) 3 v := by
  have kl : ∀ M, lossF r n (upI F 3 v) M = lossF r n F M := fun M => lossF_congr (fun p _ => upI_n (by omega))
  funext j
  by_cases h3 : j = 3
  · rw [h3, upI_s, drF_o (by omega) (fun p hp => by omega), upI_s]
  · rw [upI_n h3]
    unfold drF
    rw [kl, upI_n h3, upI_n (by omega : 4 ≠ 3)]
theorem endF3 (F : Nat → Int) (v how : Int) : endF (upI F 3 v) how = upI (endF F how) 3 v := by
  unfold endF
  rw [upI_n (by omega : 6 ≠ 3), upI_c (by omega : 3 ≠ 34 + 5 * (F 6 - 1).toNat), upI_c (by omega : 3 ≠ 6), upI_c (by omega : 3 ≠ 7)]
theorem spk3 (F : Nat → Int) (v : Int) : spk (upI F 3 v) = spk F := by
  unfold spk
  rw [upI_n (by omega), upI_n (by omega)]
theorem rate3 (F : Nat → Int) (v who : Int) : rate (upI F 3 v) who = rate F who := by
  funext p
  unfold rate
  rw [upI_n (by omega), upI_n (by omega)]
theorem restF3 (n : Int) (F : Nat → Int) (v : Int) : restF n (upI F 3 v) = upI (restF n F) 3 v := by
  unfold restF
  rw [spk3, rate3, upI_n (by omega : 0 ≠ 3), drF3]
  split <;> rfl
theorem spokenF3 (ear : Int → Int → Int → Int) (sp : Int) (F : Nat → Int) (v : Int) : spokenF ear sp (upI F 3 v) = upI (spokenF ear sp F) 3 v := by
  unfold spokenF
  simp only [spk3, rate3]
  rw [upI_n (by omega : 0 ≠ 3), drF3, upI_n (by omega : 7 ≠ 3), upI_n (by omega : 13 + 5 * (spk F).toNat ≠ 3), upI_n (by omega : 10 + 5 * (spk F).toNat ≠ 3), upI_n (by omega : 11 + 5 * (spk F).toNat ≠ 3), upI_n (by omega : 14 + 5 * (spk F).toNat ≠ 3), upI_n (by omega : 6 ≠ 3), upI_n (by omega : 31 + 5 * (F 6 - 1).toNat ≠ 3), upI_n (by omega : 32 + 5 * (F 6 - 1).toNat ≠ 3), upI_c (by omega : 3 ≠ 7), upI_c (by omega : 3 ≠ 14 + 5 * (spk F).toNat), endF3, endF3]
  split
  · rfl
  · split <;> rfl
/-- all but SECOND -/
def xF (ear : Int → Int → Int → Int) (n : Int) (F : Nat → Int) : Nat → Int := if F 5 ≠ 0 then F else if min n (tilF F) ≤ 0 then restF (n - min n (tilF F)) F else restF (n - min n (tilF F)) (spokenF ear (min n (tilF F)) F)
theorem pasF_x (ear : Int → Int → Int → Int) (n : Int) (F : Nat → Int) : pasF ear n F = upI (xF ear n F) 3 (F 3 + n) := by
  unfold pasF xF
  simp only [restF3, spokenF3]
  split
  · rfl
  · split <;> rfl
theorem xF3 (ear : Int → Int → Int → Int) (n : Int) (F : Nat → Int) (v : Int) : xF ear n (upI F 3 v) = upI (xF ear n F) 3 v := by
  have et : tilF (upI F 3 v) = tilF F := by
    unfold tilF
    rw [spk3, upI_n (by omega : 6 ≠ 3), upI_n (by omega : 7 ≠ 3), upI_n (by omega : 13 + 5 * (spk F).toNat ≠ 3), upI_n (by omega : 10 + 5 * (spk F).toNat ≠ 3), upI_n (by omega : 11 + 5 * (spk F).toNat ≠ 3)]
  unfold xF
  rw [et, upI_n (by omega : 5 ≠ 3), spokenF3, restF3, restF3]
  split
  · rfl
  · split <;> rfl
theorem drF_zero {B : Int} {F : Nat → Int} (ok : OKF B F) (r : Nat → Int) : drF r 0 (F 0).toNat F = F := by
  obtain ⟨q0, q1, q3, q4, q5, q6, q7, q8, q9, q10⟩ := ok
  have kl : ∀ M, M ≤ 4 → lossF r 0 F M = 0 := by
    intro M
    induction M with
    | zero => intro _; rfl
    | succ M ih =>
      intro hM
      show lossF r 0 F M + min _ _ = 0
      have := (q9 M (by omega)).2.2.2.1.1
      rw [ih (by omega), Int.zero_mul]
      omega
  funext j
  by_cases h4 : j = 4
  · rw [h4, drF_4, kl _ (by omega)]
    omega
  · by_cases hj : ∃ p, p < (F 0).toNat ∧ j = 13 + 5 * p
    · obtain ⟨p, hp, rfl⟩ := hj
      have := (q9 p (by omega)).2.2.2.1.1
      rw [drF_w hp, Int.zero_mul]
      omega
    · exact drF_o h4 (fun p hp e => hj ⟨p, hp, e⟩)
theorem restF_eq {B n : Int} {F : Nat → Int} (ok : OKF B F) (hn : 0 ≤ n) : restF n F = drF (rate F (spk F)) n (F 0).toNat F := by
  unfold restF
  split
  · rename_i h
    rw [show n = 0 by omega, drF_zero ok]
  · rfl
theorem tilF_in {B : Int} {F : Nat → Int} (ok : OKF B F) : 0 ≤ tilF F := by
  unfold tilF
  split
  · omega
  · rename_i h6
    obtain ⟨k1, k2, k3, k4, k5⟩ := spk_in ok h6
    have P := ok.2.2.2.2.2.2.2.2.1 (spk F).toNat (by have := ok.1; omega)
    have rn := @rnk_in (F (10 + 5 * (spk F).toNat)) _ P.2.1.1 P.2.1.2
    have := Int.ediv_nonneg P.2.2.2.1.1 (show 0 ≤ rnk (F (10 + 5 * (spk F).toNat)) (F (11 + 5 * (spk F).toNat)) by omega)
    have := ok.2.2.2.2.2.2.1
    split <;> omega
theorem OKF_rest {B n : Int} {F : Nat → Int} (ok : OKF B F) (hn : 0 ≤ n) : OKF B (restF n F) := by
  rw [restF_eq ok hn]
  exact OKF_dr ok hn (fun p hp => (rate_in ok hp).1)
theorem OKF_x {B n : Int} {F : Nat → Int} {ear : Int → Int → Int → Int} (he : ∀ x y z, 0 ≤ ear x y z) (ok : OKF B F) (hn : 0 ≤ n) : OKF B (xF ear n F) := by
  have t0 := tilF_in ok
  unfold xF
  split
  · exact ok
  split
  · exact OKF_rest ok (by omega)
  · rename_i h
    refine OKF_rest (OKF_spoken he ok (fun z => h ?_) (by omega) (by omega)) (by omega)
    unfold tilF
    rw [if_pos z]
    omega
theorem rest_comm {B a b : Int} {F : Nat → Int} (ok : OKF B F) (h6 : F 6 = 0) (ha : 0 ≤ a) (hb : 0 ≤ b) : restF b (restF a F) = restF (a + b) F := by
  have okA := OKF_rest ok ha
  rw [restF_eq okA hb, restF_eq ok ha, restF_eq ok (by omega)]
  have g : ∀ j, j ≠ 4 → (∀ p, p < 4 → j ≠ 13 + 5 * p) → drF (rate F (spk F)) a (F 0).toNat F j = F j := fun j j4 jp => drF_o j4 (fun p hp => jp p (by have := ok.1; omega))
  have e0 := g 0 (by omega) (fun p hp => by omega)
  have es : spk (drF (rate F (spk F)) a (F 0).toNat F) = spk F := by
    exact (spk_no (by rw [g 6 (by omega) (fun p hp => by omega)]; exact h6)).trans (spk_no h6).symm
  have er : rate (drF (rate F (spk F)) a (F 0).toNat F) (spk F) = rate F (spk F) := rate_congr (fun p => ⟨g (10 + 5 * p) (by omega) (fun p hp => by omega), g (11 + 5 * p) (by omega) (fun p hp => by omega)⟩)
  rw [es, er, e0]
  exact drF_add ha hb (fun p hp => (rate_in ok (by have := ok.1; omega)).1) (fun p hp => (ok.2.2.2.2.2.2.2.2.1 p (by have := ok.1; omega)).2.2.2.1.1)
theorem endF_6 (F : Nat → Int) (v : Int) : endF F v 6 = 0 := by
  unfold endF
  rw [upI_n (by omega), upI_s]
theorem endF_5 (F : Nat → Int) (v : Int) : endF F v 5 = F 5 := by
  unfold endF
  rw [upI_n (by omega), upI_n (by omega), upI_n (by omega)]
/-- one SECOND more, ahead -/
theorem xF_succ {B n : Int} {F : Nat → Int} {ear : Int → Int → Int → Int} (he : ∀ x y z, 0 ≤ ear x y z) (ok : OKF B F) (hn : 0 ≤ n) : xF ear (n + 1) F = xF ear n (xF ear 1 F) := by
  have ok' := ok
  obtain ⟨q0, q1, q3, q4, q5, q6, q7, q8, q9, q10⟩ := ok
  have t0 := tilF_in ok'
  by_cases h5 : F 5 ≠ 0
  · have e : ∀ m, xF ear m F = F := fun m => by
      unfold xF
      rw [if_pos h5]
    rw [e, e, e]
  have x0 : ∀ m X, X 5 = 0 → X 6 = 0 → 0 ≤ m → xF ear m X = restF m X := fun m X e5 e6 hm => by
    have et : tilF X = 0 := by unfold tilF; rw [if_pos e6]
    unfold xF
    rw [if_neg (by omega), et, if_pos (by omega), show m - min m 0 = m by omega]
  have dg : ∀ r a N, ∀ j, j ≠ 4 → (∀ p, p < N → j ≠ 13 + 5 * p) → drF r a N F j = F j := fun r a N j j4 jp => drF_o j4 jp
  by_cases h6 : F 6 = 0
  · have r6 : ∀ m, 0 ≤ m → restF m F 6 = 0 ∧ restF m F 5 = 0 := fun m hm => by
      rw [restF_eq ok' hm, dg _ _ _ 6 (by omega) (fun p hp => by omega), dg _ _ _ 5 (by omega) (fun p hp => by omega)]
      exact ⟨h6, by omega⟩
    rw [x0 (n + 1) F (by omega) h6 (by omega), x0 1 F (by omega) h6 (by omega), x0 n _ (r6 1 (by omega)).2 (r6 1 (by omega)).1 hn, rest_comm ok' h6 (by omega) hn, Int.add_comm]
  · obtain ⟨k1, k2, k3, k4, k5⟩ := spk_in ok' h6
    have j4 : (spk F).toNat < 4 := by omega
    have jN : (spk F).toNat < (F 0).toNat := by omega
    have P := q9 _ j4
    have q8' := q8 h6
    have rn := @rnk_in (F (10 + 5 * (spk F).toNat)) _ P.2.1.1 P.2.1.2
    have wn := P.2.2.2.1
    -- T: till the end
    have hT : tilF F = if F 7 ≤ F (13 + 5 * (spk F).toNat) / rnk (F (10 + 5 * (spk F).toNat)) (F (11 + 5 * (spk F).toNat)) then F 7 else F (13 + 5 * (spk F).toNat) / rnk (F (10 + 5 * (spk F).toNat)) (F (11 + 5 * (spk F).toNat)) + 1 := by
      unfold tilF
      rw [if_neg h6]
    have hd0 := Int.ediv_nonneg wn.1 (show 0 ≤ rnk (F (10 + 5 * (spk F).toNat)) (F (11 + 5 * (spk F).toNat)) by omega)
    have hT1 : 1 ≤ tilF F := by
      rw [hT]
      split <;> omega
    have x1 : xF ear 1 F = spokenF ear 1 F := by
      unfold xF
      rw [if_neg h5, show min 1 (tilF F) = 1 by omega, if_neg (by omega)]
      unfold restF
      rw [if_pos (by omega)]
    have okS : OKF B (spokenF ear 1 F) := OKF_spoken he ok' h6 (by omega) hT1
    rw [x1]
    by_cases hend : tilF F = 1
    · -- the first SECOND is the last
      have s6 : spokenF ear 1 F 6 = 0 ∧ spokenF ear 1 F 5 = 0 := by
        have five : drF (rate F (spk F)) 1 (F 0).toNat F 5 = 0 := by rw [dg _ _ _ 5 (by omega) (fun p hp => by omega)]; omega
        unfold spokenF
        simp only []
        split
        · rw [endF_6, endF_5, upI_n (by omega)]
          exact ⟨rfl, five⟩
        · rename_i hdry
          have : F 7 - 1 ≤ 0 := by
            rw [hT] at hend
            split at hend
            · omega
            · rename_i hw
              exfalso
              apply hdry
              have hz : F (13 + 5 * (spk F).toNat) / rnk (F (10 + 5 * (spk F).toNat)) (F (11 + 5 * (spk F).toNat)) = 0 := by omega
              have := (Int.ediv_lt_iff_lt_mul (show 0 < rnk (F (10 + 5 * (spk F).toNat)) (F (11 + 5 * (spk F).toNat)) by omega)).mp (show F (13 + 5 * (spk F).toNat) / rnk (F (10 + 5 * (spk F).toNat)) (F (11 + 5 * (spk F).toNat)) < 1 by omega)
              exact this
          rw [if_pos this, endF_6, endF_5, upI_n (by omega), upI_n (by omega)]
          exact ⟨rfl, five⟩
      rw [x0 n _ s6.2 s6.1 hn]
      unfold xF
      rw [if_neg h5, hend, show min (n + 1) 1 = 1 by omega, if_neg (by omega), show n + 1 - 1 = n by omega]
    · -- it goes on
      have T2 : 2 ≤ tilF F := by omega
      have nd : ¬ F (13 + 5 * (spk F).toNat) < 1 * rnk (F (10 + 5 * (spk F).toNat)) (F (11 + 5 * (spk F).toNat)) := fun z => by
        have : F (13 + 5 * (spk F).toNat) / rnk (F (10 + 5 * (spk F).toNat)) (F (11 + 5 * (spk F).toNat)) = 0 := Int.ediv_eq_zero_of_lt wn.1 (by omega)
        rw [hT, this] at T2
        split at T2 <;> omega
      have f7 : 2 ≤ F 7 := by
        rw [hT] at T2
        split at T2 <;> omega
      have s1 : spokenF ear 1 F = upI (drF (rate F (spk F)) 1 (F 0).toNat F) 7 (F 7 - 1) := by
        unfold spokenF
        simp only []
        rw [if_neg nd, if_neg (by omega)]
      rw [s1] at okS ⊢
      have g : ∀ j, j ≠ 4 → j ≠ 7 → (∀ p, p < 4 → j ≠ 13 + 5 * p) → upI (drF (rate F (spk F)) 1 (F 0).toNat F) 7 (F 7 - 1) j = F j := fun j a b c => by rw [upI_n b, dg _ _ _ j a (fun p hp => c p (by omega))]
      have gw : upI (drF (rate F (spk F)) 1 (F 0).toNat F) 7 (F 7 - 1) (13 + 5 * (spk F).toNat) = F (13 + 5 * (spk F).toNat) - rnk (F (10 + 5 * (spk F).toNat)) (F (11 + 5 * (spk F).toNat)) := by
        rw [upI_n (by omega), drF_w jN]
        unfold rate
        rw [if_pos (by omega)]
        omega
      have g7 : upI (drF (rate F (spk F)) 1 (F 0).toNat F) 7 (F 7 - 1) 7 = F 7 - 1 := upI_s _ _ _
      have gs : spk (upI (drF (rate F (spk F)) 1 (F 0).toNat F) 7 (F 7 - 1)) = spk F := spk_congr (g 6 (by omega) (by omega) (fun p hp => by omega)) (g _ (by omega) (by omega) (fun p hp => by omega))
      have gr : rate (upI (drF (rate F (spk F)) 1 (F 0).toNat F) 7 (F 7 - 1)) (spk F) = rate F (spk F) := rate_congr (fun p => ⟨g (10 + 5 * p) (by omega) (by omega) (fun p hp => by omega), g (11 + 5 * p) (by omega) (by omega) (fun p hp => by omega)⟩)
      have gT : tilF (upI (drF (rate F (spk F)) 1 (F 0).toNat F) 7 (F 7 - 1)) = tilF F - 1 := by
        have hdv : (F (13 + 5 * (spk F).toNat) - rnk (F (10 + 5 * (spk F).toNat)) (F (11 + 5 * (spk F).toNat))) / rnk (F (10 + 5 * (spk F).toNat)) (F (11 + 5 * (spk F).toNat)) = F (13 + 5 * (spk F).toNat) / rnk (F (10 + 5 * (spk F).toNat)) (F (11 + 5 * (spk F).toNat)) - 1 := by
          rw [Int.sub_ediv_of_dvd _ (Int.dvd_refl _), Int.ediv_self (by omega)]
        rw [hT]
        unfold tilF
        rw [if_neg (by rw [g 6 (by omega) (by omega) (fun p hp => by omega)]; exact h6), gs, g7, gw, g _ (by omega) (by omega) (fun p hp => by omega), g _ (by omega) (by omega) (fun p hp => by omega), hdv]
        split <;> split <;> omega
      have g5 : upI (drF (rate F (spk F)) 1 (F 0).toNat F) 7 (F 7 - 1) 5 = 0 := by
        rw [g 5 (by omega) (by omega) (fun p hp => by omega)]
        omega
      by_cases hn0 : n = 0
      · subst hn0
        have e1 : xF ear (0 + 1) F = spokenF ear 1 F := x1
        rw [e1, s1]
        unfold xF
        rw [if_neg (by omega), gT, show min 0 (tilF F - 1) = 0 by omega, if_pos (by omega)]
        unfold restF
        rw [if_pos (by omega)]
      · unfold xF
        rw [if_neg h5, if_neg (by omega), gT, if_neg (by omega), if_neg (by omega), show n - min n (tilF F - 1) = n + 1 - min (n + 1) (tilF F) by omega]
        congr 1
        generalize hsp : min (n + 1) (tilF F) = sp
        rw [show min n (tilF F - 1) = sp - 1 by omega]
        have hD : upI (drF (rate F (spk F)) (sp - 1) (F 0).toNat (upI (drF (rate F (spk F)) 1 (F 0).toNat F) 7 (F 7 - 1))) 7 (F 7 - 1 - (sp - 1)) = upI (drF (rate F (spk F)) sp (F 0).toNat F) 7 (F 7 - sp) := by
          have kl : ∀ (X : Nat → Int) (v : Int), drF (rate F (spk F)) (sp - 1) (F 0).toNat (upI X 7 v) = upI (drF (rate F (spk F)) (sp - 1) (F 0).toNat X) 7 v := fun X v => by
            have kl2 : ∀ M, lossF (rate F (spk F)) (sp - 1) (upI X 7 v) M = lossF (rate F (spk F)) (sp - 1) X M := fun M => lossF_congr (fun p _ => upI_n (by omega))
            funext j
            by_cases h7 : j = 7
            · rw [h7, upI_s, drF_o (by omega) (fun p hp => by omega), upI_s]
            · rw [upI_n h7]
              unfold drF
              rw [kl2, upI_n h7, upI_n (by omega : 4 ≠ 7)]
          rw [kl, upI_up, drF_add (by omega) (by omega) (fun p hp => (rate_in ok' (by omega)).1) (fun p hp => (q9 p (by omega)).2.2.2.1.1), show 1 + (sp - 1) = sp by omega, show F 7 - 1 - (sp - 1) = F 7 - sp by omega]
        have hdry : (F (13 + 5 * (spk F).toNat) - rnk (F (10 + 5 * (spk F).toNat)) (F (11 + 5 * (spk F).toNat)) < (sp - 1) * rnk (F (10 + 5 * (spk F).toNat)) (F (11 + 5 * (spk F).toNat))) ↔ F (13 + 5 * (spk F).toNat) < sp * rnk (F (10 + 5 * (spk F).toNat)) (F (11 + 5 * (spk F).toNat)) := by
          rw [Int.sub_mul, Int.one_mul]
          omega
        unfold spokenF
        simp only []
        rw [gs, gr, g 0 (by omega) (by omega) (fun p hp => by omega), g7, hD, gw, g (10 + 5 * (spk F).toNat) (by omega) (by omega) (fun p hp => by omega), g (11 + 5 * (spk F).toNat) (by omega) (by omega) (fun p hp => by omega), g (14 + 5 * (spk F).toNat) (by omega) (by omega) (fun p hp => by omega), g 6 (by omega) (by omega) (fun p hp => by omega), g (31 + 5 * (F 6 - 1).toNat) (by omega) (by omega) (fun p hp => by omega), g (32 + 5 * (F 6 - 1).toNat) (by omega) (by omega) (fun p hp => by omega)]
        simp only [hdry, show F 7 - 1 - (sp - 1) = F 7 - sp by omega]
theorem secF_x {B : Int} {F : Nat → Int} {ear : Int → Int → Int → Int} (ok : OKF B F) : secF ear F = upI (xF ear 1 F) 3 (F 3 + 1) := by
  have ok' := ok
  obtain ⟨q0, q1, q3, q4, q5, q6, q7, q8, q9, q10⟩ := ok
  unfold secF
  simp only [drF3, endF3]
  by_cases h5 : F 5 = 1
  · rw [if_pos h5]
    unfold xF
    rw [if_pos (by omega)]
  rw [if_neg h5]
  by_cases h6 : F 6 = 0
  · rw [if_pos h6]
    unfold xF
    have et : tilF F = 0 := by unfold tilF; rw [if_pos h6]
    rw [if_neg (by omega), et, if_pos (by omega), show (1 : Int) - min 1 0 = 1 by omega, restF_eq ok' (by omega)]
  · rw [if_neg h6]
    obtain ⟨k1, k2, k3, k4, k5⟩ := spk_in ok' h6
    have j4 : (spk F).toNat < 4 := by omega
    have P := q9 _ j4
    have q8' := q8 h6
    have rn := @rnk_in (F (10 + 5 * (spk F).toNat)) _ P.2.1.1 P.2.1.2
    have hd0 := Int.ediv_nonneg P.2.2.2.1.1 (show 0 ≤ rnk (F (10 + 5 * (spk F).toNat)) (F (11 + 5 * (spk F).toNat)) by omega)
    have hT1 : 1 ≤ tilF F := by
      unfold tilF
      rw [if_neg h6]
      split <;> omega
    have x1 : xF ear 1 F = spokenF ear 1 F := by
      unfold xF
      rw [if_neg (by omega), show min 1 (tilF F) = 1 by omega, if_neg (by omega)]
      unfold restF
      rw [if_pos (by omega)]
    rw [x1]
    unfold spokenF
    simp only [Int.one_mul]
    by_cases hw : F (13 + 5 * (spk F).toNat) < rnk (F (10 + 5 * (spk F).toNat)) (F (11 + 5 * (spk F).toNat))
    · rw [if_pos hw, if_pos hw, endF_7]
    · rw [if_neg hw, if_neg hw]
      by_cases h7 : F 7 - 1 = 0
      · rw [if_pos h7, if_pos (by omega), upI_c (by omega : 3 ≠ 7), upI_c (by omega : 3 ≠ 14 + 5 * (spk F).toNat), endF3]
      · rw [if_neg h7, if_neg (by omega), upI_c (by omega : 3 ≠ 7)]
theorem OKF_sec {B : Int} {F : Nat → Int} {ear : Int → Int → Int → Int} (he : ∀ x y z, 0 ≤ ear x y z) (ok : OKF B F) : OKF (B + 1) (secF ear F) := by
  rw [secF_x ok]
  exact OKF_up3 (OKF_x he ok (by omega)) (by have := ok.2.2.1; omega)
theorem xF_3 {B n : Int} {F : Nat → Int} {ear : Int → Int → Int → Int} (he : ∀ x y z, 0 ≤ ear x y z) (ok : OKF B F) : xF ear n F 3 = F 3 := by
  have h := congrFun (xF3 ear n F (F 3)) 3
  rw [upI_id rfl, upI_s] at h
  exact h
theorem pas_sec {ear : Int → Int → Int → Int} (he : ∀ x y z, 0 ≤ ear x y z) : ∀ (n : Nat) {B : Int} {F : Nat → Int}, OKF B F → pasF ear (n : Int) F = secN ear n F
  | 0, B, F, ok => by
    have t0 := tilF_in ok
    rw [pasF_x]
    show upI (xF ear 0 F) 3 (F 3 + 0) = F
    have : xF ear 0 F = F := by
      unfold xF
      split
      · rfl
      · rw [show min 0 (tilF F) = 0 by omega, if_pos (by omega)]
        unfold restF
        rw [if_pos (by omega)]
    rw [this, upI_id (by omega)]
  | n + 1, B, F, ok => by
    show _ = secN ear n (secF ear F)
    rw [← pas_sec he n (OKF_sec he ok), pasF_x, pasF_x, secF_x ok, xF3, upI_s, upI_up]
    have := xF_succ (n := (n : Int)) he ok (by omega)
    rw [show ((n + 1 : Nat) : Int) = (n : Int) + 1 by omega, this, show F 3 + ((n : Int) + 1) = F 3 + 1 + n by omega]
theorem OKF_secN {ear : Int → Int → Int → Int} (he : ∀ x y z, 0 ≤ ear x y z) : ∀ (n : Nat) {B : Int} {F : Nat → Int}, OKF B F → OKF (B + n) (secN ear n F)
  | 0, B, F, ok => by
    show OKF (B + 0) F
    rw [Int.add_zero]; exact ok
  | n + 1, B, F, ok => by
    have := OKF_secN he n (OKF_sec he ok)
    show OKF _ (secN ear n (secF ear F))
    rw [show B + ((n + 1 : Nat) : Int) = B + 1 + n by omega]
    exact this
theorem secN_succ (ear : Int → Int → Int → Int) : ∀ (n : Nat) (F : Nat → Int), secN ear (n + 1) F = secF ear (secN ear n F)
  | 0, _ => rfl
  | n + 1, F => secN_succ ear n (secF ear F)
