/-! pass(f, n) -/
theorem OKF_mk {B B' : Int} {F F' : Nat → Int} (ok : OKF B F) (g0 : F' 0 = F 0) (g1 : F' 1 = F 1) (g3 : 0 ≤ F' 3 ∧ F' 3 ≤ B') (g4 : 0 ≤ F' 4 ∧ F' 4 ≤ 999999) (g5 : 0 ≤ F' 5 ∧ F' 5 ≤ 1) (g6 : 0 ≤ F' 6 ∧ F' 6 ≤ F 1) (g7 : 0 ≤ F' 7 ∧ F' 7 ≤ 30) (g8 : F' 6 ≠ 0 → 1 ≤ F' 7 ∧ F' (34 + 5 * (F' 6 - 1).toNat) = 0)
    (gp : ∀ p, p < 4 → F' (10 + 5 * p) = F (10 + 5 * p) ∧ F' (11 + 5 * p) = F (11 + 5 * p) ∧ F' (12 + 5 * p) = F (12 + 5 * p) ∧ (0 ≤ F' (13 + 5 * p) ∧ F' (13 + 5 * p) ≤ 999) ∧ (0 ≤ F' (14 + 5 * p) ∧ F' (14 + 5 * p) ≤ 99999))
    (gw : ∀ w, w < 12 → F' (30 + 5 * w) = F (30 + 5 * w) ∧ F' (31 + 5 * w) = F (31 + 5 * w) ∧ F' (32 + 5 * w) = F (32 + 5 * w) ∧ F' (33 + 5 * w) = F (33 + 5 * w) ∧ (0 ≤ F' (34 + 5 * w) ∧ F' (34 + 5 * w) ≤ 2)) : OKF B' F' := by
  obtain ⟨q0, q1, q3, q4, q5, q6, q7, q8, q9, q10⟩ := ok
  unfold OKF
  rw [g0, g1]
  refine ⟨q0, q1, g3, g4, g5, g6, g7, g8, fun p hp => ?_, fun w hw => ?_⟩
  · have a := q9 p hp
    obtain ⟨b1, b2, b3, b4, b5⟩ := gp p hp
    unfold OKP at *
    rw [b1, b2, b3]
    exact ⟨a.1, a.2.1, a.2.2.1, b4, b5⟩
  · have a := q10 w hw
    obtain ⟨b1, b2, b3, b4, b5⟩ := gw w hw
    unfold OKW at *
    rw [b1, b2, b3, b4, g0, g1]
    exact ⟨a.1, a.2.1, a.2.2.1, a.2.2.2.1, a.2.2.2.2.1, a.2.2.2.2.2.1, b5⟩
theorem rate_in {B : Int} {F : Nat → Int} (ok : OKF B F) {who : Int} {p : Nat} (hp : p < 4) : 0 ≤ rate F who p ∧ rate F who p ≤ 28 := by
  have okq := ok.2.2.2.2.2.2.2.2.1 p hp
  unfold rate
  have a1 := @rnk_in (F (10 + 5 * p)) (F (11 + 5 * p)) okq.2.1.1 okq.2.1.2
  have a2 := @drk_in (F (10 + 5 * p)) (F (11 + 5 * p)) okq.2.1.1 okq.2.1.2
  split <;> omega
theorem OKF_dr {B n : Int} {F : Nat → Int} {r : Nat → Int} (ok : OKF B F) (hn : 0 ≤ n) (hr : ∀ p, p < 4 → 0 ≤ r p) : OKF B (drF r n (F 0).toNat F) := by
  have ok' := ok
  obtain ⟨q0, q1, q3, q4, q5, q6, q7, q8, q9, q10⟩ := ok
  have g : ∀ j, j ≠ 4 → (∀ p, p < 4 → j ≠ 13 + 5 * p) → drF r n (F 0).toNat F j = F j := fun j j4 jp => drF_o j4 (fun p hp => jp p (by omega))
  have gg := g 6 (by omega) (fun p hp => by omega)
  refine OKF_mk ok' (g 0 (by omega) (fun p hp => by omega)) (g 1 (by omega) (fun p hp => by omega)) ?_ ?_ ?_ ?_ ?_ ?_ (fun p hp => ⟨?_, ?_, ?_, ?_, ?_⟩) (fun w hw => ⟨?_, ?_, ?_, ?_, ?_⟩)
  · rw [g 3 (by omega) (fun p hp => by omega)]; exact q3
  · rw [drF_4]
    have : 0 ≤ lossF r n F (F 0).toNat := lossF_nn (fun p hp => ⟨(q9 p (by omega)).2.2.2.1.1, Int.mul_nonneg hn (hr p (by omega))⟩)
    omega
  · rw [g 5 (by omega) (fun p hp => by omega)]; exact q5
  · rw [gg]; exact q6
  · rw [g 7 (by omega) (fun p hp => by omega)]; exact q7
  · rw [gg, g 7 (by omega) (fun p hp => by omega), g (34 + 5 * (F 6 - 1).toNat) (by omega) (fun p hp => by omega)]; exact q8
  · exact g _ (by omega) (fun p hp => by omega)
  · exact g _ (by omega) (fun p hp => by omega)
  · exact g _ (by omega) (fun p hp => by omega)
  · have w := (q9 p hp).2.2.2.1
    by_cases hpN : p < (F 0).toNat
    · rw [drF_w hpN]
      have := Int.mul_nonneg hn (hr p hp)
      omega
    · rw [drF_o (by omega) (fun q hq => by omega)]
      exact w
  · rw [g _ (by omega) (fun p hp => by omega)]; exact (q9 p hp).2.2.2.2
  · exact g _ (by omega) (fun p hp => by omega)
  · exact g _ (by omega) (fun p hp => by omega)
  · exact g _ (by omega) (fun p hp => by omega)
  · exact g _ (by omega) (fun p hp => by omega)
  · rw [g _ (by omega) (fun p hp => by omega)]; exact (q10 w hw).2.2.2.2.2.2
theorem OKF_7 {B v : Int} {F : Nat → Int} (ok : OKF B F) (hv : 0 ≤ v ∧ v ≤ 30) (h6 : F 6 ≠ 0 → 1 ≤ v) : OKF B (upI F 7 v) := by
  have ok' := ok
  obtain ⟨q0, q1, q3, q4, q5, q6, q7, q8, q9, q10⟩ := ok
  have g : ∀ j, j ≠ 7 → upI F 7 v j = F j := fun j hj => upI_n hj
  refine OKF_mk ok' (g 0 (by omega)) (g 1 (by omega)) (by rw [g 3 (by omega)]; exact q3) (by rw [g 4 (by omega)]; exact q4) (by rw [g 5 (by omega)]; exact q5) (by rw [g 6 (by omega)]; exact q6) (by rw [upI_s]; exact hv) (fun z => ?_) (fun p hp => ⟨g _ (by omega), g _ (by omega), g _ (by omega), ?_, ?_⟩) (fun w hw => ⟨g _ (by omega), g _ (by omega), g _ (by omega), g _ (by omega), ?_⟩)
  · rw [g 6 (by omega)] at z ⊢
    rw [upI_s, g _ (by omega)]
    exact ⟨h6 z, (q8 z).2⟩
  · rw [g _ (by omega)]; exact (q9 p hp).2.2.2.1
  · rw [g _ (by omega)]; exact (q9 p hp).2.2.2.2
  · rw [g _ (by omega)]; exact (q10 w hw).2.2.2.2.2.2
theorem OKF_heard {B v : Int} {F : Nat → Int} {p : Nat} (ok : OKF B F) (hp : p < 4) (hv : 0 ≤ v ∧ v ≤ 99999) : OKF B (upI F (14 + 5 * p) v) := by
  have ok' := ok
  obtain ⟨q0, q1, q3, q4, q5, q6, q7, q8, q9, q10⟩ := ok
  have g : ∀ j, j ≠ 14 + 5 * p → upI F (14 + 5 * p) v j = F j := fun j hj => upI_n hj
  refine OKF_mk ok' (g 0 (by omega)) (g 1 (by omega)) (by rw [g 3 (by omega)]; exact q3) (by rw [g 4 (by omega)]; exact q4) (by rw [g 5 (by omega)]; exact q5) (by rw [g 6 (by omega)]; exact q6) (by rw [g 7 (by omega)]; exact q7) (fun z => ?_) (fun q hq => ⟨g _ (by omega), g _ (by omega), g _ (by omega), ?_, ?_⟩) (fun w hw => ⟨g _ (by omega), g _ (by omega), g _ (by omega), g _ (by omega), ?_⟩)
  · rw [g 6 (by omega)] at z ⊢
    rw [g 7 (by omega), g _ (by omega)]
    exact q8 z
  · rw [g _ (by omega)]; exact (q9 q hq).2.2.2.1
  · by_cases h : q = p
    · rw [h, upI_s]; exact hv
    · rw [g _ (by omega)]; exact (q9 q hq).2.2.2.2
  · rw [g _ (by omega)]; exact (q10 w hw).2.2.2.2.2.2
theorem OKF_end {B v : Int} {F : Nat → Int} (ok : OKF B F) (hv : 0 ≤ v ∧ v ≤ 2) (h6 : F 6 ≠ 0) : OKF B (endF F v) := by
  have ok' := ok
  obtain ⟨q0, q1, q3, q4, q5, q6, q7, q8, q9, q10⟩ := ok
  have g : ∀ j, j ≠ 7 → j ≠ 6 → j ≠ 34 + 5 * (F 6 - 1).toNat → endF F v j = F j := fun j h1 h2 h3 => by
    unfold endF
    rw [upI_n h1, upI_n h2, upI_n h3]
  have g6 : endF F v 6 = 0 := by
    unfold endF
    rw [upI_n (by omega), upI_s]
  have g7 : endF F v 7 = 0 := by
    unfold endF
    rw [upI_s]
  refine OKF_mk ok' (g 0 (by omega) (by omega) (by omega)) (g 1 (by omega) (by omega) (by omega)) (by rw [g 3 (by omega) (by omega) (by omega)]; exact q3) (by rw [g 4 (by omega) (by omega) (by omega)]; exact q4) (by rw [g 5 (by omega) (by omega) (by omega)]; exact q5) (by rw [g6]; omega) (by rw [g7]; omega) (fun z => absurd g6 z) (fun q hq => ⟨g _ (by omega) (by omega) (by omega), g _ (by omega) (by omega) (by omega), g _ (by omega) (by omega) (by omega), ?_, ?_⟩) (fun w hw => ⟨g _ (by omega) (by omega) (by omega), g _ (by omega) (by omega) (by omega), g _ (by omega) (by omega) (by omega), g _ (by omega) (by omega) (by omega), ?_⟩)
  · rw [g _ (by omega) (by omega) (by omega)]; exact (q9 q hq).2.2.2.1
  · rw [g _ (by omega) (by omega) (by omega)]; exact (q9 q hq).2.2.2.2
  · by_cases h : w = (F 6 - 1).toNat
    · unfold endF
      rw [upI_n (by omega), upI_n (by omega), h, upI_s]
      exact hv
    · rw [g _ (by omega) (by omega) (by omega)]; exact (q10 w hw).2.2.2.2.2.2
theorem endF_7 {F : Nat → Int} {x v : Int} : endF (upI F 7 x) v = endF F v := by
  funext j
  unfold endF
  by_cases h7 : j = 7
  · rw [h7, upI_s, upI_s]
  · rw [upI_n h7, upI_n h7]
    by_cases h66 : j = 6
    · rw [h66, upI_s, upI_s]
    · rw [upI_n h66, upI_n h66, upI_n (by omega : 6 ≠ 7)]
      by_cases h34 : j = 34 + 5 * (F 6 - 1).toNat
      · rw [← h34, upI_s, upI_s]
      · rw [upI_n h34, upI_n h34, upI_n h7]
theorem vC_f7 {h : Hp} {f : Nat} {bg : Nat → Int} {v : Int32} (hf : 9 ≤ f) : vC (sI h f 7 v) f bg = upI (vC h f bg) 7 v.toInt := by
  rw [vC_flow hf (by omega), if_neg (by omega)]
theorem vC_f6 {h : Hp} {f : Nat} {bg : Nat → Int} {v : Int32} (hf : 9 ≤ f) : vC (sI h f 6 v) f bg = upI (vC h f bg) 6 (v.toInt + 1) := by
  rw [vC_flow hf (by omega), if_pos rfl]
theorem earI_in {p0 : List Int32} {x y z : Int} : 0 ≤ earI p0 x y z ∧ earI p0 x y z ≤ 999 := tgP0_in
theorem OKF_spoken {B sp : Int} {F : Nat → Int} {ear : Int → Int → Int → Int} (he : ∀ x y z, 0 ≤ ear x y z) (ok : OKF B F) (h6 : F 6 ≠ 0) (h0 : 0 < sp) (hs : sp ≤ tilF F) : OKF B (spokenF ear sp F) := by
  have ok' := ok
  obtain ⟨k1, k2, k3, k4, k5⟩ := spk_in ok h6
  obtain ⟨q0, q1, q3, q4, q5, q6, q7, q8, q9, q10⟩ := ok
  have j4 : (spk F).toNat < 4 := by omega
  have P := q9 _ j4
  have okD : OKF B (drF (rate F (spk F)) sp (F 0).toNat F) := OKF_dr ok' (by omega) (fun p hp => (rate_in ok' hp).1)
  have d6 : drF (rate F (spk F)) sp (F 0).toNat F 6 = F 6 := drF_o (by omega) (fun p hp => by omega)
  have rn := @rnk_in (F (10 + 5 * (spk F).toNat)) _ P.2.1.1 P.2.1.2
  have q8' := q8 h6
  unfold spokenF
  simp only []
  split
  · rename_i hdry
    rw [endF_7]
    exact OKF_end okD (by omega) (by rw [d6]; exact h6)
  · rename_i hdry
    have sp7 : sp ≤ F 7 := by
      unfold tilF at hs
      rw [if_neg h6] at hs
      split at hs
      · exact hs
      · rename_i hw
        have h3 : F (13 + 5 * (spk F).toNat) / rnk (F (10 + 5 * (spk F).toNat)) (F (11 + 5 * (spk F).toNat)) < sp → False := fun z => by
          have := (Int.ediv_lt_iff_lt_mul (by omega)).mp z
          exact hdry this
        omega
    split
    · rw [upI_c (by omega), endF_7]
      refine OKF_end (OKF_heard okD j4 ?_) (by omega) (by rw [upI_n (by omega), d6]; exact h6)
      have := he (F (32 + 5 * (F 6 - 1).toNat)) (F (31 + 5 * (F 6 - 1).toNat)) (F (14 + 5 * (spk F).toNat))
      have := P.2.2.2.2
      omega
    · exact OKF_7 okD (by omega) (fun _ => by omega)
section
variable {G : GT} {d : Nat} {h : Hp} {Q : Int32 → Hp → Prop} {QW : Hp → Prop}
theorem pass_rest {B : Int} {f : Nat} {bg : Nat → Int} {hE : Hp} {a2 sp : Int32} {z : Int} (hR : RF hE) (hd : 12 ≤ d) (hf : SH[f]? = some (.inl 2)) (ok : OKF B (vC hE f bg)) (hn : 0 ≤ a2.toInt ∧ a2.toInt ≤ 100000) (hs : 0 ≤ sp.toInt ∧ sp.toInt ≤ a2.toInt) (hz : z = a2.toInt - sp.toInt)
    (k : ∀ h', CS f hE h' → vC h' f bg = restF z (vC hE f bg) → QW h') : (a2 ≤ sp → QW hE) ∧ (¬ a2 ≤ sp → EvV G d mX9_drain [.inr (.inr (some 1)), .inr (.inr (some f)), .inl (a2 - sp)] hE (fun h' => QW h')) := by
  simp only [i_le]
  refine ⟨fun c => k _ (CS.refl hR) ?_, fun c => ?_⟩
  · unfold restF
    rw [if_pos (by omega)]
  · have e1 : (a2 - sp).toInt = a2.toInt - sp.toInt := ti_sub (by omega) (by omega)
    refine ev_drain hR (by omega) hf ok (by omega) (fun h' m hv => k h' m ?_)
    rw [hv, e1, ← hz]
    unfold restF
    rw [if_neg (by omega)]
set_option maxHeartbeats 1000000 in
theorem ev_pass {B : Int} {f : Nat} {bg : Nat → Int} {a2 : Int32} {p0 : List Int32} (hR : RF h) (hd : 20 ≤ d) (hf : SH[f]? = some (.inl 2)) (ok : OKF B (vC h f bg)) (hB : B ≤ 1000000000) (hn : 0 ≤ a2.toInt ∧ a2.toInt ≤ 100000) (T : TxC h 13 p0)
    (k : ∀ h', CS f h h' → vC h' f bg = pasF (earI p0) a2.toInt (vC h f bg) → QW h') : EvV G d mX9_pass [.inr (.inr (some 1)), .inr (.inr (some f)), .inl a2] h QW := by
  obtain ⟨e, rfl⟩ := dpos (show 1 ≤ d by omega)
  have ok' := ok
  obtain ⟨o0, o1, o3, o4, o5, o6, o7, o8, o9, o10⟩ := ok
  have hfl := fl_lo hf
  have e3 : (h.1 f 3 + a2).toInt = vC h f bg 3 + a2.toInt := ti_add (by show _ ≤ vC h f bg 3 + _; omega) (by show vC h f bg 3 + _ < _; omega)
  have mA : CS f h (sI h f 3 (h.1 f 3 + a2)) := CS.s hR (by omega)
  have vA : vC (sI h f 3 (h.1 f 3 + a2)) f bg = upI (vC h f bg) 3 (vC h f bg 3 + a2.toInt) := by rw [vC_flow (by omega) (by omega), if_neg (by omega), e3]
  refine vc_X9_pass hf hR ⟨fun c5 => ?_, fun c5 => ?_⟩
  · have h5 : vC h f bg 5 = 0 := (i_eq _ _).mp c5
    generalize hhA : sI h f 3 (h.1 f 3 + a2) = hA at mA vA ⊢
    have hh6 : hA.1 f 6 = h.1 f 6 := by rw [← hhA]; exact sI_ne (by omega)
    have hRA : RF hA := mA.1
    have okA : OKF (B + 100000) (vC hA f bg) := by rw [vA]; exact OKF_up3 ok' (by omega)
    have gA : ∀ j, j ≠ 3 → vC hA f bg j = vC h f bg j := fun j hj => by rw [vA, upI_n hj]
    have sA : spk (vC hA f bg) = spk (vC h f bg) := by unfold spk; rw [gA 6 (by omega), gA _ (by omega)]
    have tA : tilF (vC hA f bg) = tilF (vC h f bg) := by
      unfold tilF
      rw [sA, gA 6 (by omega), gA 7 (by omega), gA _ (by omega), gA _ (by omega), gA _ (by omega)]
    have t0 : 0 ≤ tilF (vC h f bg) := by
      unfold tilF
      split
      · omega
      · rename_i h6
        obtain ⟨k1, k2, k3, k4, k5⟩ := spk_in ok' h6
        have P := o9 (spk (vC h f bg)).toNat (by omega)
        have rn := @rnk_in (vC h f bg (10 + 5 * (spk (vC h f bg)).toNat)) _ P.2.1.1 P.2.1.2
        have := Int.ediv_nonneg P.2.2.2.1.1 (show 0 ≤ rnk (vC h f bg (10 + 5 * (spk (vC h f bg)).toNat)) (vC h f bg (11 + 5 * (spk (vC h f bg)).toNat)) by omega)
        split <;> omega
    refine ev_speaker hRA (by omega) hf okA (fun x3 hx3 => ev_tillEnd hRA (by omega) hf okA (fun x5 hx5 => ?_))
    rw [sA] at hx3
    rw [tA] at hx5
    have hsp : (if x5 < a2 then x5 else a2).toInt = min a2.toInt (tilF (vC h f bg)) := by
      simp only [i_lt]
      split <;> omega
    generalize (if x5 < a2 then x5 else a2) = sp at hsp ⊢
    have kk : ∀ h', CS f hA h' → vC h' f bg = (if sp.toInt ≤ 0 then restF (a2.toInt - sp.toInt) (vC hA f bg) else restF (a2.toInt - sp.toInt) (spokenF (earI p0) sp.toInt (vC hA f bg))) → QW h' := fun h' m hv => k h' (mA.trans m) (by
      rw [hv, vA, hsp]
      unfold pasF
      simp only [h5, ne_eq, not_true_eq_false, if_false])
    have q1 : (hA.1 1 4).toInt ≤ 12 := by
      have := okA.2.1.2
      exact this
    have q0 : (hA.1 1 0).toInt ≤ 4 := okA.1.2
    have q6 : (h.1 f 6).toInt = vC h f bg 6 - 1 := by show _ = (h.1 f 6).toInt + 1 - 1; omega
    have w1 : (hA.1 1 4).toInt = vC h f bg 1 := gA 1 (by omega)
    have w0 : (hA.1 1 0).toInt = vC h f bg 0 := gA 0 (by omega)
    by_cases h6 : vC h f bg 6 = 0
    · have s0 : sp.toInt = 0 := by
        rw [hsp]
        unfold tilF
        rw [if_pos h6]
        omega
      refine ev_hasWord hRA (by omega) q1 (br2 (fun c => by omega) (fun c => ?_))
      exact pass_rest hRA (by omega) hf okA hn (by omega) rfl (fun h' m hv => kk h' m (by rw [if_pos (by omega)]; exact hv))
    · obtain ⟨k1, k2, k3, k4, k5⟩ := spk_in ok' h6
      have hA6 : vC hA f bg 6 ≠ 0 := by rw [gA 6 (by omega)]; exact h6
      have j4 : (spk (vC h f bg)).toNat < 4 := by omega
      have ex : x3 = nI (spk (vC h f bg)).toNat := eq_nI (by rw [hx3]; omega)
      have cx : x3.toNatClampNeg = (spk (vC h f bg)).toNat := by rw [cl_eq, hx3]
      have ew : h.1 f 6 = nI (vC h f bg 6 - 1).toNat := eq_nI (by omega)
      have cw : (h.1 f 6).toNatClampNeg = (vC h f bg 6 - 1).toNat := by rw [cl_eq, q6]
      refine ev_hasWord hRA (by omega) q1 (br2 (fun _ => ?_) (fun c => absurd (by omega) c))
      refine ev_hasParty hRA (by omega) q0 (br2 (fun _ => ?_) (fun c => absurd (by omega) c))
      refine ⟨fun c => ?_, fun c => ?_⟩
      · have s0 : sp.toInt ≤ 0 := (i_le _ _).mp c
        exact pass_rest hRA (by omega) hf okA hn (by omega) rfl (fun h' m hv => kk h' m (by rw [if_pos s0]; exact hv))
      · have s0 : 0 < sp.toInt := by
          rw [i_le] at c
          have : ¬ sp.toInt ≤ 0 := c
          omega
        have okS : OKF (B + 100000) (spokenF (earI p0) sp.toInt (vC hA f bg)) := OKF_spoken (fun _ _ _ => earI_in.1) okA hA6 s0 (by rw [tA]; omega)
        obtain ⟨m1, m2⟩ := okm okA j4
        obtain ⟨v1, v2, v3, v4, v5⟩ := @vC_p hA f bg _ j4
        have rn := @rnk_in (hA.1 2 (spk (vC h f bg)).toNat).toInt _ m1.1 m1.2
        refine ⟨in_of (by omega) (by omega), ev_runsC hRA (by omega) ex q0 (by omega) m1 (fun y hy => ?_)⟩
        have en : 0 ≤ sp.toInt * y.toInt := Int.mul_nonneg (by omega) (by omega)
        have en2 : sp.toInt * y.toInt ≤ 100000 * 28 := Int.mul_le_mul (by omega) (by omega) (by omega) (by omega)
        have e1 : (sp * y).toInt = sp.toInt * y.toInt := ti_mul (by omega) (by omega)
        have edry : (spokenF (earI p0) sp.toInt (vC hA f bg)) = (if (hA.1 (f + 1) (spk (vC h f bg)).toNat).toInt < sp.toInt * y.toInt then endF (upI (drF (rate (vC hA f bg) (spk (vC h f bg))) sp.toInt (vC hA f bg 0).toNat (vC hA f bg)) 7 (vC hA f bg 7 - sp.toInt)) 2
            else if vC hA f bg 7 - sp.toInt ≤ 0 then endF (upI (upI (drF (rate (vC hA f bg) (spk (vC h f bg))) sp.toInt (vC hA f bg 0).toNat (vC hA f bg)) 7 (vC hA f bg 7 - sp.toInt)) (14 + 5 * (spk (vC h f bg)).toNat) (min 99999 (vC hA f bg (14 + 5 * (spk (vC h f bg)).toNat) + earI p0 (vC hA f bg (32 + 5 * (vC hA f bg 6 - 1).toNat)) (vC hA f bg (31 + 5 * (vC hA f bg 6 - 1).toNat)) (vC hA f bg (14 + 5 * (spk (vC h f bg)).toNat))))) 1
            else upI (drF (rate (vC hA f bg) (spk (vC h f bg))) sp.toInt (vC hA f bg 0).toNat (vC hA f bg)) 7 (vC hA f bg 7 - sp.toInt)) := by
          unfold spokenF
          rw [sA, v1, v2, v4, ← hy]
        have fin : ∀ hE, CS f hA hE → vC hE f bg = spokenF (earI p0) sp.toInt (vC hA f bg) → ((a2 ≤ sp → QW hE) ∧ (¬ a2 ≤ sp → EvV G e mX9_drain [.inr (.inr (some 1)), .inr (.inr (some f)), .inl (a2 - sp)] hE (fun h' => QW h'))) := fun hE m hv =>
          pass_rest m.1 (by omega) hf (by rw [hv]; exact okS) hn (by omega) rfl (fun h' m2 hv2 => kk h' (m.trans m2) (by rw [if_neg (by omega), hv2, hv]))
        have i7 : 0 ≤ vC hA f bg 7 ∧ vC hA f bg 7 ≤ 30 := okA.2.2.2.2.2.2.1
        have sub7 : ∀ hD : Hp, (hD.1 f 7).toInt = vC hA f bg 7 → (hD.1 f 7 - sp).toInt = vC hA f bg 7 - sp.toInt := fun hD h7 => by rw [ti_sub, h7] <;> rw [h7] <;> omega
        rw [cx]
        refine ⟨fun c2 => ?_, fun c2 => ?_⟩
        · have nd : ¬ (hA.1 (f + 1) (spk (vC h f bg)).toNat).toInt < sp.toInt * y.toInt := by
            rw [i_le, e1] at c2
            omega
          refine ev_drain hRA (by omega) hf okA (by omega) (fun hD mD vD => ?_)
          rw [sA] at vD
          have d7 : (hD.1 f 7).toInt = vC hA f bg 7 := by
            show vC hD f bg 7 = _
            rw [vD, drF_o (by omega) (fun p hp => by omega)]
          have e7 := sub7 hD d7
          have mE : CS f hA (sI hD f 7 (hD.1 f 7 - sp)) := mD.trans (CS.s mD.1 (by omega))
          have vE : vC (sI hD f 7 (hD.1 f 7 - sp)) f bg = upI (drF (rate (vC hA f bg) (spk (vC h f bg))) sp.toInt (vC hA f bg 0).toNat (vC hA f bg)) 7 (vC hA f bg 7 - sp.toInt) := by rw [vC_flow (by omega) (by omega), if_neg (by omega), e7, vD]
          refine ⟨fun c3 => ?_, fun c3 => ?_⟩
          · refine fin _ mE ?_
            rw [vE, edry, if_neg nd, if_neg]
            rw [i_lt, e7] at c3
            have : (0 : Int) < vC hA f bg 7 - sp.toInt := c3
            omega
          · have c3' : vC hA f bg 7 - sp.toInt ≤ 0 := by
              rw [i_lt, e7] at c3
              have : ¬ (0 : Int) < vC hA f bg 7 - sp.toInt := c3
              omega
            generalize hhE : sI hD f 7 (hD.1 f 7 - sp) = hE at mE vE ⊢
            have hRE : RF hE := mE.1
            rw [cw]
            refine ⟨in_of (by omega) (by omega), in_of (by omega) (by omega), in_of (by omega) (by omega), ?_⟩
            have gE : ∀ a, 1 ≤ a → a ≤ 8 → hE.1 a = hA.1 a := mE.vC_ne hf
            have TE : TxC hE 13 p0 := by
              have z : ∀ a, a = 13 ∨ a = 14 → hE.1 a = h.1 a := fun a ha => by
                rw [mE.2.2 a (by omega) (by omega) (by omega) (by omega) (by omega), mA.2.2 a (by omega) (by omega) (by omega) (by omega) (by omega)]
              unfold TxC at *
              rw [z 13 (by omega), z 14 (by omega)]
              exact T
            refine ev_earBy hRE (by omega) TE (fun hG mG => ⟨in_of (by omega) (by omega), ?_⟩)
            intro hI eI
            have hE14 : (hE.1 (f + 2) (spk (vC h f bg)).toNat).toInt = vC hA f bg (14 + 5 * (spk (vC h f bg)).toNat) := by
              rw [← (@vC_p hE f bg _ j4).2.2.2.2, vE, upI_n (by omega), drF_o (by omega) (fun p hp => by omega)]
            have xin := @tgP0_in p0 (hE.1 7 (vC h f bg 6 - 1).toNat) (hE.1 6 (vC h f bg 6 - 1).toNat) (hE.1 (f + 2) (spk (vC h f bg)).toNat)
            have xe : (tgP 0 p0 (hE.1 7 (vC h f bg 6 - 1).toNat) (hE.1 6 (vC h f bg 6 - 1).toNat) (hE.1 (f + 2) (spk (vC h f bg)).toNat)).toInt = earI p0 (vC hA f bg (32 + 5 * (vC hA f bg 6 - 1).toNat)) (vC hA f bg (31 + 5 * (vC hA f bg 6 - 1).toNat)) (vC hA f bg (14 + 5 * (spk (vC h f bg)).toNat)) := by
              rw [gA 6 (by omega), (@vC_w hA f bg _ k4).2.2.1, (@vC_w hA f bg _ k4).2.1, ← hE14, gE 7 (by omega) (by omega), gE 6 (by omega) (by omega)]
              unfold earI
              rw [oi_ti, oi_ti, oi_ti]
            generalize tgP 0 p0 (hE.1 7 (vC h f bg 6 - 1).toNat) (hE.1 6 (vC h f bg 6 - 1).toNat) (hE.1 (f + 2) (spk (vC h f bg)).toNat) = x28 at xin xe eI ⊢
            have p14 := (okA.2.2.2.2.2.2.2.2.1 _ j4).2.2.2.2
            have es : (hE.1 (f + 2) (spk (vC h f bg)).toNat + x28).toInt = vC hA f bg (14 + 5 * (spk (vC h f bg)).toNat) + x28.toInt := by rw [ti_add, hE14] <;> rw [hE14] <;> omega
            have eh : (if (hE.1 (f + 2) (spk (vC h f bg)).toNat + x28) < 99999 then (hE.1 (f + 2) (spk (vC h f bg)).toNat + x28) else 99999).toInt = min 99999 (vC hA f bg (14 + 5 * (spk (vC h f bg)).toNat) + x28.toInt) := by
              simp only [i_lt, es, Int32.reduceToInt]
              split
              · rw [es]; omega
              · show (99999 : Int) = _; omega
            generalize (if (hE.1 (f + 2) (spk (vC h f bg)).toNat + x28) < 99999 then (hE.1 (f + 2) (spk (vC h f bg)).toNat + x28) else 99999) = hv at eh eI
            have hRG : RF hG := mG.1
            have mEG : CS f hE hG := ⟨hRG, mG.2.1, fun a _ _ _ _ h5 => mG.2.2 a h5⟩
            have vG : vC hG f bg = vC hE f bg := vC_off (fun a ha => mG.2.2 a (by omega))
            have mI : CS f hE hI := by rw [eI]; exact mEG.trans (CS.s hRG (by omega))
            have vI : vC hI f bg = upI (vC hE f bg) (14 + 5 * (spk (vC h f bg)).toNat) hv.toInt := by rw [eI, vC_heard (by omega) j4, vG]
            refine ev_end mI.1 (by omega) hf ew k4 (fin _ ?_ ?_)
            · exact ((((mE.trans mI).trans (CS.s mI.1 (by omega))).trans (CS.s mI.1 (by omega))).trans (CS.s mI.1 (by omega)))
            · rw [vC_f7 (by omega), vC_f6 (by omega), vC_how (by omega) k4, vI, vE, eh, edry, if_neg nd, if_pos c3', ← xe]
              unfold endF
              rw [upI_n (by omega), upI_n (by omega), drF_o (by omega) (fun p hp => by omega), gA 6 (by omega)]
              rfl
        · have hdry : (hA.1 (f + 1) (spk (vC h f bg)).toNat).toInt < sp.toInt * y.toInt := by
            rw [i_le, e1] at c2
            omega
          refine ev_drain hRA (by omega) hf okA (by omega) (fun hD mD vD => ?_)
          rw [sA] at vD
          have d7 : (hD.1 f 7).toInt = vC hA f bg 7 := by
            show vC hD f bg 7 = _
            rw [vD, drF_o (by omega) (fun p hp => by omega)]
          have e7 := sub7 hD d7
          have mE : CS f hA (sI hD f 7 (hD.1 f 7 - sp)) := mD.trans (CS.s mD.1 (by omega))
          have vE : vC (sI hD f 7 (hD.1 f 7 - sp)) f bg = upI (drF (rate (vC hA f bg) (spk (vC h f bg))) sp.toInt (vC hA f bg 0).toNat (vC hA f bg)) 7 (vC hA f bg 7 - sp.toInt) := by rw [vC_flow (by omega) (by omega), if_neg (by omega), e7, vD]
          generalize hhE : sI hD f 7 (hD.1 f 7 - sp) = hE at mE vE ⊢
          refine ev_end mE.1 (by omega) hf ew k4 (fin _ ?_ ?_)
          · exact (((mE.trans (CS.s mE.1 (by omega))).trans (CS.s mE.1 (by omega))).trans (CS.s mE.1 (by omega)))
          · rw [vC_f7 (by omega), vC_f6 (by omega), vC_how (by omega) k4, vE, edry, if_pos hdry]
            unfold endF
            rw [upI_n (by omega), drF_o (by omega) (fun p hp => by omega), gA 6 (by omega)]
            rfl
  · have h5 : vC h f bg 5 ≠ 0 := fun z => c5 ((i_eq _ _).mpr z)
    refine k _ mA ?_
    rw [vA]
    unfold pasF
    rw [if_pos h5]
end
