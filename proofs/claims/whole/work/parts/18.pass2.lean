/-! SECONDS of a Flow, many in a step -/
def tilF (F : Nat → Int) : Int := if F 6 = 0 then 0 else if F 7 ≤ F (13 + 5 * (spk F).toNat) / rnk (F (10 + 5 * (spk F).toNat)) (F (11 + 5 * (spk F).toNat)) then F 7 else F (13 + 5 * (spk F).toNat) / rnk (F (10 + 5 * (spk F).toNat)) (F (11 + 5 * (spk F).toNat)) + 1
def restF (n : Int) (F : Nat → Int) : Nat → Int := if n ≤ 0 then F else drF (rate F (spk F)) n (F 0).toNat F
def spokenF (ear : Int → Int → Int → Int) (sp : Int) (F : Nat → Int) : Nat → Int :=
  let D := upI (drF (rate F (spk F)) sp (F 0).toNat F) 7 (F 7 - sp)
  if F (13 + 5 * (spk F).toNat) < sp * rnk (F (10 + 5 * (spk F).toNat)) (F (11 + 5 * (spk F).toNat)) then endF D 2
  else if F 7 - sp ≤ 0 then
    let w := (F 6 - 1).toNat
    let hd := F (14 + 5 * (spk F).toNat)
    endF (upI D (14 + 5 * (spk F).toNat) (min 99999 (hd + ear (F (32 + 5 * w)) (F (31 + 5 * w)) hd))) 1
  else D
def pasF (ear : Int → Int → Int → Int) (n : Int) (F : Nat → Int) : Nat → Int :=
  let F1 := upI F 3 (F 3 + n)
  if F 5 ≠ 0 then F1 else
  let sp := min n (tilF F)
  if sp ≤ 0 then restF (n - sp) F1 else restF (n - sp) (spokenF ear sp F1)
theorem CS.vC_ne {f : Nat} {h h' : Hp} (hf : SH[f]? = some (.inl 2)) (m : CS f h h') : ∀ a, 1 ≤ a → a ≤ 8 → h'.1 a = h.1 a := fun a h1 h2 => by
  have := fl_lo hf
  exact m.2.2 a (by omega) (by omega) (by omega) (by omega) (by omega)
section
variable {G : GT} {d : Nat} {h : Hp} {Q : Int32 → Hp → Prop} {QW : Hp → Prop}
theorem okm {B : Int} {h : Hp} {f : Nat} {bg : Nat → Int} (ok : OKF B (vC h f bg)) {j : Nat} (hj : j < 4) : (0 ≤ (h.1 3 j).toInt ∧ (h.1 3 j).toInt ≤ 9) ∧ (0 ≤ (h.1 (f + 1) j).toInt ∧ (h.1 (f + 1) j).toInt ≤ 999) := by
  obtain ⟨p1, p2, p3, p4, p5⟩ := ok.2.2.2.2.2.2.2.2.1 j hj
  obtain ⟨v1, v2, v3, v4, v5⟩ := @vC_p h f bg j hj
  rw [v2] at p2
  rw [v4] at p4
  exact ⟨p2, p4⟩
theorem drain_loop {B : Int} {f : Nat} {bg : Nat → Int} {h0 : Hp} {n x : Int32} (hd : 10 ≤ d) (hf : SH[f]? = some (.inl 2)) (ok : OKF B (vC h0 f bg)) (hn : 0 ≤ n.toInt ∧ n.toInt ≤ 100000) (hx : x.toInt = spk (vC h0 f bg))
    (k : ∀ h', CS f h0 h' → vC h' f bg = drF (rate (vC h0 f bg) (spk (vC h0 f bg))) n.toInt (vC h0 f bg 0).toNat (vC h0 f bg) → QW h') : ∀ (m i : Nat) (h : Hp), i + m = (vC h0 f bg 0).toNat → CS f h0 h → vC h f bg = drF (rate (vC h0 f bg) (spk (vC h0 f bg))) n.toInt i (vC h0 f bg) → Rg_X9_drain_9 G d f n x (nI i) h QW := by
  have ok' := ok
  obtain ⟨o0, o1, o3, o4, o5, o6, o7, o8, o9, o10⟩ := ok
  have hfl := fl_lo hf
  generalize hF : vC h0 f bg = F at *
  have h00 : (h0.1 1 0).toInt = F 0 := by rw [← hF]; rfl
  intro m
  induction m with
  | zero =>
    intro i h hi mm hv
    have hR : RF h := mm.1
    have e0 : (h.1 1 0).toInt = F 0 := by rw [mm.vC_ne hf 1 (by omega) (by omega)]; exact h00
    refine vc_X9_drain_9 hf hR ⟨fun _ => ?_, fun c => ?_⟩
    · refine k _ mm ?_
      rw [hv, show i = (F 0).toNat by omega]
    · exfalso
      apply c
      rw [i_le, ti_nI (by omega), e0]
      omega
  | succ m ih =>
    intro i h hi mm hv
    have hR : RF h := mm.1
    have i4 : i < 4 := by omega
    have e0 : (h.1 1 0).toInt = F 0 := by rw [mm.vC_ne hf 1 (by omega) (by omega)]; exact h00
    have g2 : h.1 2 = h0.1 2 := mm.vC_ne hf 2 (by omega) (by omega)
    have g3 : h.1 3 = h0.1 3 := mm.vC_ne hf 3 (by omega) (by omega)
    have P := o9 i i4
    have vp := @vC_p h0 f bg i i4
    rw [hF] at vp
    have w1 : (h.1 (f + 1) i).toInt = F (13 + 5 * i) := by
      rw [← (@vC_p h f bg i i4).2.2.2.1, hv, drF_o (by omega) (fun p hp => by omega)]
    have f4 : (h.1 f 4).toInt = drF (rate F (spk F)) n.toInt i F 4 := by rw [← hv]; rfl
    have rin : ∀ p, p < 4 → 0 ≤ rate F (spk F) p ∧ rate F (spk F) p ≤ 28 := fun p hp => by
      have okq := o9 p hp
      unfold rate
      have a1 := @rnk_in (F (10 + 5 * p)) (F (11 + 5 * p)) okq.2.1.1 okq.2.1.2
      have a2 := @drk_in (F (10 + 5 * p)) (F (11 + 5 * p)) okq.2.1.1 okq.2.1.2
      split <;> omega
    have f4b : 0 ≤ (h.1 f 4).toInt ∧ (h.1 f 4).toInt ≤ 999999 := by
      rw [f4, drF_4]
      have : 0 ≤ lossF (rate F (spk F)) n.toInt F i := lossF_nn (fun p hp => ⟨(o9 p (by omega)).2.2.2.1.1, Int.mul_nonneg hn.1 (rin p (by omega)).1⟩)
      omega
    have fin : ∀ y : Int32, y.toInt = rate F (spk F) i → EvI G d mX2_lose [.inr (.inr (some f)), .inl (nI i), .inl (n * y)] h (fun x9 h8 => EvV G d mX2_floorGets [.inr (.inr (some f)), .inl x9] h8 (fun h10 => Rg_X9_drain_9 G d f n x (nI i + 1) h10 QW)) := by
      intro y hy
      have ry := rin i i4
      have en : 0 ≤ n.toInt * y.toInt := Int.mul_nonneg hn.1 (by omega)
      have en2 : n.toInt * y.toInt ≤ 100000 * 28 := Int.mul_le_mul hn.2 (by omega) (by omega) (by omega)
      have e1 : (n * y).toInt = n.toInt * y.toInt := ti_mul (by omega) (by omega)
      refine ev_lose hR (by omega) hf rfl i4 (fun g hg => ?_)
      rw [w1, e1, hy] at hg
      rw [hy] at en
      have p4 := P.2.2.2.1
      refine ev_floorGets (RF_sI hR) (by omega) hf (by omega) (by rw [sI_ne (by omega)]; exact f4b) (fun v hv4 => ?_)
      rw [sI_ne (by omega)] at hv4
      rw [show nI i + 1 = nI (i + 1) from nI_1 i]
      refine ih (i + 1) _ (by omega) ((mm.trans (CS.s hR (by omega))).trans (CS.s (RF_sI hR) (by omega))) ?_
      rw [vC_flow (by omega) (by omega), vC_water (by omega) i4, hv]
      have e13 : (h.1 (f + 1) i - g).toInt = F (13 + 5 * i) - g.toInt := by rw [ti_sub, w1] <;> rw [w1] <;> omega
      rw [e13, drF_succ (g := g.toInt) hg (by omega), if_neg (by omega), hv4, f4]
    refine vc_X9_drain_9 hf hR ⟨fun c => ?_, fun _ => ⟨fun c => ?_, fun _ => ⟨fun c => ?_, fun c => ?_⟩⟩⟩
    · exfalso
      rw [i_le, ti_nI (by omega), e0] at c
      omega
    · exfalso
      rw [i_le, ti_nI (by omega)] at c
      have : (4 : Int) ≤ (i : Int) := c
      omega
    · refine ev_dripsC hR (by omega) rfl (by omega) (by omega) (by rw [g3, ← vp.2.1]; exact P.2.1) (fun y hy => fin y ?_)
      rw [hy, g2, g3, ← vp.1, ← vp.2.1]
      unfold rate
      rw [if_neg]
      intro z
      apply c
      rw [i_eq, ti_nI (by omega), hx]
      exact z
    · refine ev_runsC hR (by omega) rfl (by omega) (by omega) (by rw [g3, ← vp.2.1]; exact P.2.1) (fun y hy => fin y ?_)
      rw [hy, g2, g3, ← vp.1, ← vp.2.1]
      unfold rate
      rw [i_eq, ti_nI (by omega), hx] at c
      rw [if_pos c]
theorem ev_drain {B : Int} {f : Nat} {bg : Nat → Int} {a2 : Int32} (hR : RF h) (hd : 11 ≤ d) (hf : SH[f]? = some (.inl 2)) (ok : OKF B (vC h f bg)) (hn : 0 ≤ a2.toInt ∧ a2.toInt ≤ 100000)
    (k : ∀ h', CS f h h' → vC h' f bg = drF (rate (vC h f bg) (spk (vC h f bg))) a2.toInt (vC h f bg 0).toNat (vC h f bg) → QW h') : EvV G d mX9_drain [.inr (.inr (some 1)), .inr (.inr (some f)), .inl a2] h QW := by
  obtain ⟨e, rfl⟩ := dpos (show 1 ≤ d by omega)
  refine vc_X9_drain hf hR (ev_speaker hR (by omega) hf ok (fun x hx => ?_))
  exact drain_loop (by omega) hf ok hn hx k (vC h f bg 0).toNat 0 h (by omega) (CS.refl hR) (by rw [drF_0 ok.2.2.2.1.2])
theorem ev_tillEnd {B : Int} {f : Nat} {bg : Nat → Int} (hR : RF h) (hd : 5 ≤ d) (hf : SH[f]? = some (.inl 2)) (ok : OKF B (vC h f bg)) (k : ∀ x : Int32, x.toInt = tilF (vC h f bg) → Q x h) : EvI G d mX9_tillEnd [.inr (.inr (some 1)), .inr (.inr (some f))] h Q := by
  obtain ⟨e, rfl⟩ := dpos (show 1 ≤ d by omega)
  have h0 : (h.1 1 0).toInt ≤ 4 := ok.1.2
  refine vc_X9_tillEnd hf hR (ev_speaker hR (by omega) hf ok (fun x hx => ?_))
  refine ev_hasParty hR (by omega) h0 (br2' (fun c => ?_) (fun c => k _ ?_))
  · have h6 : vC h f bg 6 ≠ 0 := fun z => by
      rw [hx, spk_no z] at c
      omega
    obtain ⟨k1, k2, k3, k4, k5⟩ := spk_in ok h6
    have k2' : spk (vC h f bg) < (h.1 1 0).toInt := k2
    have j4 : (spk (vC h f bg)).toNat < 4 := by omega
    have ex : x = nI (spk (vC h f bg)).toNat := eq_nI (by rw [hx]; omega)
    have cx : x.toNatClampNeg = (spk (vC h f bg)).toNat := by rw [cl_eq, hx]
    obtain ⟨m1, m2⟩ := okm ok j4
    obtain ⟨v1, v2, v3, v4, v5⟩ := @vC_p h f bg _ j4
    refine ⟨in_of (by omega) (by omega), ev_runsC hR (by omega) ex h0 (by omega) m1 (fun y hy => ?_)⟩
    rw [cx]
    have rn := @rnk_in (h.1 2 (spk (vC h f bg)).toNat).toInt _ m1.1 m1.2
    refine ev_quotient hR (by omega) m2.1 (by omega) (fun z hz => ?_)
    have q0 : 0 ≤ z.toInt := by rw [hz]; exact Int.ediv_nonneg m2.1 (by omega)
    have q1 : z.toInt ≤ 999 := by
      rw [hz]
      have := Int.ediv_le_self y.toInt m2.1
      omega
    have et : tilF (vC h f bg) = if (h.1 f 7).toInt ≤ z.toInt then (h.1 f 7).toInt else z.toInt + 1 := by
      unfold tilF
      rw [if_neg h6, v1, v2, v4, ← hy, ← hz]
      rfl
    have e1 : (z + 1).toInt = z.toInt + 1 := ti_add (by show _ ≤ z.toInt + 1; omega) (by show z.toInt + 1 < _; omega)
    simp only [i_lt]
    refine ⟨fun c2 => k _ ?_, fun c2 => k _ ?_⟩
    · rw [e1, et, if_neg (by omega)]
    · rw [et, if_pos (by omega)]
  · have h6 : vC h f bg 6 = 0 := Classical.byContradiction (fun z => by
      obtain ⟨k1, k2, -⟩ := spk_in ok z
      rw [hx] at c
      exact c ⟨k1, k2⟩)
    unfold tilF
    rw [if_pos h6]
    rfl
end
