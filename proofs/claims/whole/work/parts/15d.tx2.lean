/-! WHAT A READING DOES IN THE REFERENCE, clause by clause -/
def CallR (G : GT) (d lv : Nat) (h : Hp) (Q : Int32 → Hp → Prop) : Prop := match lv with
  | 0 => EvI G d mX12_either [.inr (.inr (some 94))] h Q
  | 1 => EvI G d mX12_both [.inr (.inr (some 94))] h Q
  | 2 => EvI G d mX12_compared [.inr (.inr (some 94))] h Q
  | 3 => EvI G d mX12_sum [.inr (.inr (some 94))] h Q
  | 4 => EvI G d mX12_product [.inr (.inr (some 94))] h Q
  | _ => EvI G d mX12_unit [.inr (.inr (some 94))] h Q
def LoopR (G : GT) (d l : Nat) (x : Int32) (h : Hp) (Q : Int32 → Hp → Prop) : Prop := match l with
  | 0 => Rg_X12_either_5 G d x h Q
  | 1 => Rg_X12_both_5 G d x h Q
  | 3 => Rg_X12_sum_5 G d x h Q
  | 4 => Rg_X12_product_5 G d x h Q
  | _ => True
def lvB (lv : Nat) : Prop := lv = 0 ∨ lv = 1 ∨ lv = 3 ∨ lv = 4
def opS (c : Int32) : Prop := c = 124 ∨ c = 38 ∨ c = 60 ∨ c = 61 ∨ c = 62 ∨ c = 43 ∨ c = 45 ∨ c = 42 ∨ c = 47 ∨ c = 37
theorem opL_S {lv : Nat} {c : Int32} (h : opL lv c) : opS c ∧ lvB lv ∧ ¬ c = -1 := by
  unfold opL at h
  unfold opS lvB
  rcases h with ⟨h, rfl⟩ | ⟨h, rfl⟩ | ⟨h, rfl | rfl⟩ | ⟨h, rfl | rfl | rfl⟩
  · exact ⟨Or.inl rfl, Or.inl h, by decide⟩
  · exact ⟨Or.inr (Or.inl rfl), Or.inr (Or.inl h), by decide⟩
  · exact ⟨by decide, Or.inr (Or.inr (Or.inl h)), by decide⟩
  · exact ⟨by decide, Or.inr (Or.inr (Or.inl h)), by decide⟩
  · exact ⟨by decide, Or.inr (Or.inr (Or.inr h)), by decide⟩
  · exact ⟨by decide, Or.inr (Or.inr (Or.inr h)), by decide⟩
  · exact ⟨by decide, Or.inr (Or.inr (Or.inr h)), by decide⟩
theorem rpn_op {a b c s x y : Int32} {st : List Int32} (h : opS s) : rpn1 a b c (-s) (y :: x :: st) = jnt s x y :: st := by
  unfold opS at h
  have e : - -s = s := by simp
  unfold rpn1
  rw [if_neg (by rcases h with rfl | rfl | rfl | rfl | rfl | rfl | rfl | rfl | rfl | rfl <;> decide), if_neg (by rcases h with rfl | rfl | rfl | rfl | rfl | rfl | rfl | rfl | rfl | rfl <;> decide)]
  show jnt (- -s) x y :: st = _
  rw [e]
theorem jnt_or {x y : Int32} : jnt 124 x y = b2 (¬ x = 0 ∨ ¬ y = 0) := if_pos rfl
theorem jnt_and {x y : Int32} : jnt 38 x y = b2 (¬ x = 0 ∧ ¬ y = 0) := by
  unfold jnt
  rw [if_neg (by decide), if_pos rfl]
theorem jnt_lt {x y : Int32} : jnt 60 x y = b2 (x < y) := by
  unfold jnt
  rw [if_neg (by decide), if_neg (by decide), if_pos rfl]
theorem jnt_eq {x y : Int32} : jnt 61 x y = b2 (x = y) := by
  unfold jnt
  rw [if_neg (by decide), if_neg (by decide), if_neg (by decide), if_pos rfl]
theorem jnt_gt {x y : Int32} : jnt 62 x y = b2 (y < x) := by
  unfold jnt
  rw [if_neg (by decide), if_neg (by decide), if_neg (by decide), if_neg (by decide), if_pos rfl]
theorem jnt_add {x y : Int32} : jnt 43 x y = x + y := by
  unfold jnt
  rw [if_neg (by decide), if_neg (by decide), if_neg (by decide), if_neg (by decide), if_neg (by decide), if_pos rfl]
theorem jnt_sub {x y : Int32} : jnt 45 x y = x - y := by
  unfold jnt
  rw [if_neg (by decide), if_neg (by decide), if_neg (by decide), if_neg (by decide), if_neg (by decide), if_neg (by decide), if_pos rfl]
theorem jnt_mul {x y : Int32} : jnt 42 x y = x * y := by
  unfold jnt
  rw [if_neg (by decide), if_neg (by decide), if_neg (by decide), if_neg (by decide), if_neg (by decide), if_neg (by decide), if_neg (by decide), if_pos rfl]
theorem jnt_div {x y : Int32} : jnt 47 x y = if y = 0 then 0 else x / y := by
  unfold jnt
  rw [if_neg (by decide), if_neg (by decide), if_neg (by decide), if_neg (by decide), if_neg (by decide), if_neg (by decide), if_neg (by decide), if_neg (by decide), if_pos rfl]
theorem jnt_rem {s x y : Int32} (h : ¬ s = 124 ∧ ¬ s = 38 ∧ ¬ s = 60 ∧ ¬ s = 61 ∧ ¬ s = 62 ∧ ¬ s = 43 ∧ ¬ s = 45 ∧ ¬ s = 42 ∧ ¬ s = 47) : jnt s x y = if y = 0 then 0 else x - x / y * y := by
  unfold jnt
  rw [if_neg h.1, if_neg h.2.1, if_neg h.2.2.1, if_neg h.2.2.2.1, if_neg h.2.2.2.2.1, if_neg h.2.2.2.2.2.1, if_neg h.2.2.2.2.2.2.1, if_neg h.2.2.2.2.2.2.2.1, if_neg h.2.2.2.2.2.2.2.2]
section
variable {G : GT} {d : Nat} {h : Hp} {Q : Int32 → Hp → Prop} {QW : Hp → Prop} {B : Nat → Int32} {base n u : Nat} {a b c : Int32} {o i : Nat}
theorem call_of {lv : Nat} (hlv : lvB lv) (hR : RF h) (k : CallR G d (lv + 1) h (fun x h1 => LoopR G d lv x h1 Q)) : CallR G (d + 1) lv h Q := by
  rcases hlv with rfl | rfl | rfl | rfl
  · exact vc_X12_either hR k
  · exact vc_X12_both hR k
  · exact vc_X12_sum hR k
  · exact vc_X12_product hR k
theorem loop_stop {lv : Nat} {x : Int32} (hlv : lvB lv) (S : RS B base n u a b c o i h) (hd : 2 ≤ d) (hb : base + n ≤ 264) (hn : n ≤ 50) (hno : ¬ opL lv (byt B n i)) (k : Q x h) : LoopR G d lv x h Q := by
  unfold opL at hno
  rcases hlv with rfl | rfl | rfl | rfl
  · exact vc_X12_either_5 S.1 (ev_takes S hd hb hn (fun z => absurd (Or.inl ⟨rfl, z⟩) hno) (fun _ => ⟨fun _ => k, fun z => absurd rfl z⟩))
  · exact vc_X12_both_5 S.1 (ev_takes S hd hb hn (fun z => absurd (Or.inr (Or.inl ⟨rfl, z⟩)) hno) (fun _ => ⟨fun _ => k, fun z => absurd rfl z⟩))
  · exact vc_X12_sum_5 S.1 (ev_here S (by omega) hb hn ⟨fun z => absurd (Or.inr (Or.inr (Or.inl ⟨rfl, Or.inl z⟩))) hno, fun _ => ev_here S (by omega) hb hn ⟨fun _ => k, fun z => absurd (Or.inr (Or.inr (Or.inl ⟨rfl, Or.inr z⟩))) hno⟩⟩)
  · exact vc_X12_product_5 S.1 (ev_here S (by omega) hb hn ⟨fun z => absurd (Or.inr (Or.inr (Or.inr ⟨rfl, Or.inl z⟩))) hno, fun _ => ev_here S (by omega) hb hn ⟨fun z => absurd (Or.inr (Or.inr (Or.inr ⟨rfl, Or.inr (Or.inl z)⟩))) hno, fun _ => ev_here S (by omega) hb hn ⟨fun _ => k, fun z => absurd (Or.inr (Or.inr (Or.inr ⟨rfl, Or.inr (Or.inr z)⟩))) hno⟩⟩⟩)
theorem loop_stop_f {lv : Nat} {x : Int32} (hlv : lvB lv) (F : FS i h) (hd : 2 ≤ d) (k : Q x h) : LoopR G d lv x h Q := by
  rcases hlv with rfl | rfl | rfl | rfl
  · exact vc_X12_either_5 F.1 (ev_takes_f F hd (by decide) ⟨fun _ => k, fun z => absurd rfl z⟩)
  · exact vc_X12_both_5 F.1 (ev_takes_f F hd (by decide) ⟨fun _ => k, fun z => absurd rfl z⟩)
  · exact vc_X12_sum_5 F.1 (ev_here_f F (by omega) ⟨fun z => absurd z (by decide), fun _ => ev_here_f F (by omega) ⟨fun _ => k, fun z => absurd z (by decide)⟩⟩)
  · exact vc_X12_product_5 F.1 (ev_here_f F (by omega) ⟨fun z => absurd z (by decide), fun _ => ev_here_f F (by omega) ⟨fun z => absurd z (by decide), fun _ => ev_here_f F (by omega) ⟨fun _ => k, fun z => absurd z (by decide)⟩⟩⟩)
theorem loop_go {lv : Nat} {x : Int32} (S : RS B base n u a b c o i h) (hd : 2 ≤ d) (hb : base + n ≤ 264) (hn : n ≤ 50) (hop : opL lv (byt B n i)) (k : CallR G d (lv + 1) (sI h 94 6 (nI (i + 1))) (fun y h1 => LoopR G d lv (jnt (byt B n i) x y) h1 Q)) : LoopR G d lv x h Q := by
  unfold opL at hop
  have e6 := S.e6
  rcases hop with ⟨rfl, hx⟩ | ⟨rfl, hx⟩ | ⟨rfl, hx⟩ | ⟨rfl, hx⟩
  · refine vc_X12_either_5 S.1 (ev_takes S hd hb hn (fun _ => ⟨fun z => absurd z (by decide), fun _ => EvI.mono k (fun y h1 z => ?_)⟩) (fun z => absurd hx z))
    rw [hx, jnt_or] at z
    refine ⟨fun c1 => ?_, fun c1 => ⟨fun c2 => ?_, fun c2 => ?_⟩⟩
    · rw [b2_t (Or.inl c1)] at z; exact z
    · rw [b2_f (fun q => q.elim (fun r => r c1) (fun r => r c2))] at z; exact z
    · rw [b2_t (Or.inr c2)] at z; exact z
  · refine vc_X12_both_5 S.1 (ev_takes S hd hb hn (fun _ => ⟨fun z => absurd z (by decide), fun _ => EvI.mono k (fun y h1 z => ?_)⟩) (fun z => absurd hx z))
    rw [hx, jnt_and] at z
    refine ⟨fun c1 => ?_, fun c1 => ⟨fun c2 => ?_, fun c2 => ?_⟩⟩
    · rw [b2_f (fun q => q.1 c1)] at z; exact z
    · rw [b2_f (fun q => q.2 c2)] at z; exact z
    · rw [b2_t ⟨c1, c2⟩] at z; exact z
  · refine vc_X12_sum_5 S.1 (ev_here S (by omega) hb hn ?_)
    rcases hx with hx | hx <;> rw [hx]
    · refine ⟨fun _ => ev_here S (by omega) hb hn ?_, fun z => absurd rfl z⟩
      rw [e6, hx]
      refine EvI.mono k (fun y h1 z => ⟨fun q => absurd rfl q, fun _ => ?_⟩)
      rw [hx, jnt_add] at z
      exact z
    · refine ⟨fun z => absurd z (by decide), fun _ => ev_here S (by omega) hb hn ?_⟩
      rw [hx]
      refine ⟨fun z => absurd rfl z, fun _ => ev_here S (by omega) hb hn ?_⟩
      rw [e6, hx]
      refine EvI.mono k (fun y h1 z => ⟨fun _ => ?_, fun q => absurd q (by decide)⟩)
      rw [hx, jnt_sub] at z
      exact z
  · refine vc_X12_product_5 S.1 (ev_here S (by omega) hb hn ?_)
    rcases hx with hx | hx | hx <;> rw [hx]
    · refine ⟨fun _ => ev_here S (by omega) hb hn ?_, fun z => absurd rfl z⟩
      rw [e6, hx]
      refine EvI.mono k (fun y h1 z => ⟨fun q => absurd rfl q, fun _ => ?_⟩)
      rw [hx, jnt_mul] at z
      exact z
    · refine ⟨fun z => absurd z (by decide), fun _ => ev_here S (by omega) hb hn ?_⟩
      rw [hx]
      refine ⟨fun _ => ev_here S (by omega) hb hn ?_, fun z => absurd rfl z⟩
      rw [e6, hx]
      refine EvI.mono k (fun y h1 z => ⟨fun _ => ⟨fun q => ⟨fun r => absurd rfl r, fun _ => ⟨q, ?_⟩⟩, fun q => ?_⟩, fun q => absurd q (by decide)⟩)
      · rw [hx, jnt_div, if_neg q] at z
        exact z
      · rw [hx, jnt_div, if_pos q] at z
        exact z
    · refine ⟨fun z => absurd z (by decide), fun _ => ev_here S (by omega) hb hn ?_⟩
      rw [hx]
      refine ⟨fun z => absurd z (by decide), fun _ => ev_here S (by omega) hb hn ?_⟩
      rw [hx]
      refine ⟨fun z => absurd rfl z, fun _ => ev_here S (by omega) hb hn ?_⟩
      rw [e6, hx]
      refine EvI.mono k (fun y h1 z => ⟨fun _ => ⟨fun q => ⟨fun _ => ⟨q, ?_⟩, fun r => absurd r (by decide)⟩, fun q => ?_⟩, fun q => absurd q (by decide)⟩)
      · rw [hx, jnt_rem (by decide), if_neg q] at z
        exact z
      · rw [hx, jnt_rem (by decide), if_pos q] at z
        exact z
end
def EndR (B : Nat → Int32) (base n u : Nat) (a b c : Int32) (h : Hp) (o i' : Nat) (ok : Bool) (v : Int32) (Q : Int32 → Hp → Prop) : Prop :=
  ∀ h' v', MT h h' → (ok = true → v' = v ∧ RS B base n u a b c o i' h') → (ok = false → FS i' h') → Q v' h'
theorem EndR.trans {B : Nat → Int32} {base n u : Nat} {a b c : Int32} {h h1 : Hp} {o i' : Nat} {ok : Bool} {v : Int32} {Q : Int32 → Hp → Prop} (E : EndR B base n u a b c h o i' ok v Q) (m : MT h h1) : EndR B base n u a b c h1 o i' ok v Q :=
  fun h' v' m' t f => E h' v' (m.trans m') t f
theorem EndR.t {B : Nat → Int32} {base n u : Nat} {a b c : Int32} {h h1 : Hp} {o i' : Nat} {v : Int32} {Q : Int32 → Hp → Prop} (E : EndR B base n u a b c h o i' true v Q) (m : MT h h1) (S : RS B base n u a b c o i' h1) : Q v h1 :=
  E h1 v m (fun _ => ⟨rfl, S⟩) (fun z => Bool.noConfusion z)
theorem EndR.f {B : Nat → Int32} {base n u : Nat} {a b c : Int32} {h h1 : Hp} {o i' : Nat} {v v' : Int32} {Q : Int32 → Hp → Prop} (E : EndR B base n u a b c h o i' false v Q) (m : MT h h1) (F : FS i' h1) : Q v' h1 :=
  E h1 v' m (fun z => Bool.noConfusion z) (fun _ => F)
def RP (B : Nat → Int32) (base n u : Nat) : DT := fun lv o i p ok i' p' =>
  (lv ≤ 5 → ∃ q, (ok = true → p' = p ++ q) ∧ ∀ a b c, ∃ v, (ok = true → ∀ st, evS a b c q st = v :: st) ∧
    ∀ (G : GT) (d : Nat) (h : Hp) (Q : Int32 → Hp → Prop), 8 * (5 - o) + 8 ≤ d + lv → o ≤ 5 → RS B base n u a b c o i h → EndR B base n u a b c h o i' ok v Q → CallR G d lv h Q) ∧
  (∀ l, lv = l + 10 → ∃ q, (ok = true → p' = p ++ q) ∧ ∀ a b c x, ∃ v, (ok = true → ∀ st, evS a b c q (x :: st) = v :: st) ∧
    ∀ (G : GT) (d : Nat) (h : Hp) (Q : Int32 → Hp → Prop), lvB l → 8 * (5 - o) + 7 ≤ d + l → o ≤ 5 → RS B base n u a b c o i h → EndR B base n u a b c h o i' ok v Q → LoopR G d l x h Q)
section
variable {B : Nat → Int32} {base n u : Nat} {o i i' i1 lv : Nat} {p p' p1 : List Int32}
theorem rp_name {k : Nat} (hb : base + n ≤ 264) (hn : n ≤ 50) (hu : u < 2) (hk : nmK u (byt B n i) = some k) : RP B base n u 5 o i p true (i + 1) (p ++ [-1 - nI k]) := by
  obtain ⟨hk3, hI, h33, h40, h1⟩ := nmK_some hk
  refine ⟨fun _ => ⟨[-1 - nI k], fun _ => rfl, fun a b c => ⟨nmV k a b c, fun _ st => ?_, fun G d h Q hd ho S E => ?_⟩⟩, fun l hl => by omega⟩
  · rcases hk3 with rfl | rfl | rfl
    · show rpn1 a b c (-1 - nI 0) st = a :: st
      unfold rpn1
      rw [if_pos (by decide), if_neg (by decide), if_pos (by decide)]
    · show rpn1 a b c (-1 - nI 1) st = b :: st
      unfold rpn1
      rw [if_pos (by decide), if_neg (by decide), if_neg (by decide), if_pos (by decide)]
    · show rpn1 a b c (-1 - nI 2) st = c :: st
      unfold rpn1
      rw [if_pos (by decide), if_neg (by decide), if_neg (by decide), if_neg (by decide)]
  · obtain ⟨e, rfl⟩ := dpos (show 1 ≤ d by omega)
    have hi : i < n := byt_lt h1
    refine vc_X12_unit S.1 (ev_here S (by omega) hb hn ⟨fun z => absurd z h33, fun _ => ⟨fun _ => ev_nameOf S.1 (by omega) hu S.2.2.2.2.2.2.1 ?_, fun z => absurd z h40⟩⟩)
    rw [hI]
    have ek : (nI k).toInt = (k : Int) := ti_nI (by omega)
    refine ⟨fun z => ?_, fun _ => ⟨in_of (by omega) (by omega), ?_⟩⟩
    · rw [i_lt, ek] at z
      simp only [Int32.reduceToInt] at z
      omega
    · rw [cl_of ek, S.e6]
      obtain ⟨n1, n2, n3⟩ := S.2.2.2.2.2.2.2.1
      have ev : h.1 99 k = nmV k a b c := by
        rcases hk3 with rfl | rfl | rfl
        · exact n1
        · exact n2
        · exact n3
      rw [ev]
      exact E.t (MT.s94 S.1 (by omega)) (S.go (by omega))
theorem dg_ne {x : Int32} (h : isDg x) : ¬ x = 33 ∧ ¬ x = 40 ∧ ¬ x = -1 := by
  unfold isDg at h
  refine ⟨fun z => ?_, fun z => ?_, fun z => ?_⟩ <;> rw [z] at h <;> exact absurd h (by decide)
theorem rp_dig (hb : base + n ≤ 264) (hn : n ≤ 50) (hu : u < 2) (hg : isDg (byt B n i)) : RP B base n u 5 o i p true (dgR (byt B n) 4 i 0).1 (p ++ [(dgR (byt B n) 4 i 0).2]) := by
  obtain ⟨h33, h40, h1⟩ := dg_ne hg
  have hnone : nmK u (byt B n i) = none := by
    cases hk : nmK u (byt B n i) with
    | none => rfl
    | some k =>
      exfalso
      unfold nmK at hk
      unfold isDg at hg
      have g : ∀ z : Int32, ¬ (48 ≤ z ∧ z ≤ 57) → ¬ byt B n i = z := fun z hz q => hz (q ▸ hg)
      rw [if_neg (g 119 (by decide)), if_neg (g 108 (by decide)), if_neg (g 104 (by decide)), if_neg (g 108 (by decide)), if_neg (g 115 (by decide)), if_neg (g 109 (by decide))] at hk
      split at hk <;> cases hk
  have bd := dgR_in (f := byt B n) 4 i 0 1 (by decide) (by decide) (by decide) (by decide)
  refine ⟨fun _ => ⟨[(dgR (byt B n) 4 i 0).2], fun _ => rfl, fun a b c => ⟨(dgR (byt B n) 4 i 0).2, fun _ st => ?_, fun G d h Q hd ho S E => ?_⟩⟩, fun l hl => by omega⟩
  · show rpn1 a b c (dgR (byt B n) 4 i 0).2 st = _ :: st
    unfold rpn1
    rw [if_pos (by rw [i_le]; show (-3 : Int) ≤ _; omega), if_pos (by rw [i_le]; show (0 : Int) ≤ _; omega)]
  · obtain ⟨e, rfl⟩ := dpos (show 1 ≤ d by omega)
    refine vc_X12_unit S.1 (ev_here S (by omega) hb hn ⟨fun z => absurd z h33, fun _ => ⟨fun _ => ev_nameOf S.1 (by omega) hu S.2.2.2.2.2.2.1 ?_, fun z => absurd z h40⟩⟩)
    rw [nmK_none hnone]
    exact ⟨fun _ => rg_dig (by omega) hb hn 4 0 i 0 h (by omega) S (fun _ => hg) (fun h' m S' => E.t m S'), fun z => absurd (by decide) z⟩
theorem rp_bad (hb : base + n ≤ 264) (hn : n ≤ 50) (hu : u < 2) (hk : nmK u (byt B n i) = none) (hg : ¬ isDg (byt B n i)) (h33 : byt B n i ≠ 33) (h40 : byt B n i ≠ 40) : RP B base n u 5 o i p false i p := by
  refine ⟨fun _ => ⟨[], fun z => Bool.noConfusion z, fun a b c => ⟨0, fun z => Bool.noConfusion z, fun G d h Q hd ho S E => ?_⟩⟩, fun l hl => by omega⟩
  obtain ⟨e, rfl⟩ := dpos (show 1 ≤ d by omega)
  refine vc_X12_unit S.1 (ev_here S (by omega) hb hn ⟨fun z => absurd z h33, fun _ => ⟨fun _ => ev_nameOf S.1 (by omega) hu S.2.2.2.2.2.2.1 ?_, fun z => absurd z h40⟩⟩)
  rw [nmK_none hk]
  refine ⟨fun _ => vc_X12_unit_150 S.1 ⟨fun z => absurd z (by decide), fun _ => ev_here S (by omega) hb hn (ev_in S.1 (by omega) ?_)⟩, fun z => absurd (by decide) z⟩
  rw [l_of_i, show (48 : Int64).toInt = 48 from rfl, show (57 : Int64).toInt = 57 from rfl]
  refine ⟨fun _ => ⟨fun z => absurd rfl z, fun _ => ev_wrong S (by omega) (E.f (MT.s94 S.1 (by omega)) (S.wr hn))⟩, fun z => ?_⟩
  have z1 := Classical.not_not.mp (fun q => z (b2_0.mpr q))
  exact absurd ⟨(i_le _ _).mpr z1.1, (i_le _ _).mpr z1.2⟩ hg
theorem rp_deep (hb : base + n ≤ 264) (hn : n ≤ 50) (hx : byt B n i = 33 ∨ byt B n i = 40) : RP B base n u 5 5 i p false i p := by
  refine ⟨fun _ => ⟨[], fun z => Bool.noConfusion z, fun a b c => ⟨0, fun z => Bool.noConfusion z, fun G d h Q hd ho S E => ?_⟩⟩, fun l hl => by omega⟩
  obtain ⟨e, rfl⟩ := dpos (show 1 ≤ d by omega)
  have e9 : h.1 94 9 = 5 := S.2.2.2.2.2.1
  refine vc_X12_unit S.1 (ev_here S (by omega) hb hn ⟨fun z => ⟨fun q => absurd e9 q, fun _ => ev_wrong S (by omega) (E.f (MT.s94 S.1 (by omega)) (S.wr hn))⟩, fun z => ⟨fun y => absurd hx (by rintro (r | r); exact z r; exact y r), fun y => ⟨fun q => absurd e9 q, fun _ => ev_wrong S (by omega) (E.f (MT.s94 S.1 (by omega)) (S.wr hn))⟩⟩⟩)
theorem e9_ne {a b c : Int32} {h : Hp} (S : RS B base n u a b c o i h) (ho : o < 5) : ¬ h.1 94 9 = 5 := by
  rw [S.2.2.2.2.2.1, i_eq, ti_nI (by omega)]
  simp only [Int32.reduceToInt]
  omega
theorem e9_up {a b c : Int32} {h : Hp} (S : RS B base n u a b c o i h) : h.1 94 9 + 1 = nI (o + 1) := by rw [S.2.2.2.2.2.1]; exact nI_1 o
theorem e9_dn {a b c : Int32} {h : Hp} (S : RS B base n u a b c (o + 1) i h) : h.1 94 9 - 1 = nI o := by rw [S.2.2.2.2.2.1]; exact nI_m1 o
theorem S_down {a b c : Int32} {h : Hp} (S : RS B base n u a b c o i h) (hi : i < n) : RS B base n u a b c (o + 1) (i + 1) (sI (sI h 94 9 (nI (o + 1))) 94 6 (nI (i + 1))) := (S.op (j := o + 1)).go (by omega)
theorem m_down {h : Hp} {x y : Int32} (hR : RF h) : MT h (sI (sI h 94 9 x) 94 6 y) := (MT.s94 hR (by omega)).trans (MT.s94 (RF_sI hR) (by omega))
theorem rp_not (hb : base + n ≤ 264) (hn : n ≤ 50) (ho5 : o < 5) (hx : byt B n i = 33) (IH : RP B base n u 5 (o + 1) (i + 1) p true i' p') : RP B base n u 5 o i p true i' (p' ++ [-33]) := by
  obtain ⟨q, hq, H⟩ := IH.1 (by omega)
  have hi : i < n := byt_lt (by rw [hx]; decide)
  refine ⟨fun _ => ⟨q ++ [-33], fun _ => by rw [hq rfl, List.append_assoc], fun a b c => ?_⟩, fun l hl => by omega⟩
  obtain ⟨v, hv, K⟩ := H a b c
  refine ⟨b2 (v = 0), fun _ st => by rw [evS_app, hv rfl st]; rfl, fun G d h Q hd ho S E => ?_⟩
  obtain ⟨e, rfl⟩ := dpos (show 1 ≤ d by omega)
  refine vc_X12_unit S.1 (ev_here S (by omega) hb hn ?_)
  rw [hx, e9_up S, S.e6]
  refine ⟨fun _ => ⟨fun _ => ⟨fun _ => ?_, fun z => absurd z (by decide)⟩, fun z => absurd z (e9_ne S ho5)⟩, fun z => absurd rfl z⟩
  refine K G e _ _ (by omega) (by omega) (S_down S hi) (fun h' v' m t _ => ?_)
  obtain ⟨rfl, S'⟩ := t rfl
  rw [e9_dn S']
  refine ⟨fun _ => ⟨fun _ => ⟨fun z => ?_, fun z => ?_⟩, fun z => absurd z (by decide)⟩, fun z => absurd z (by decide)⟩
  · have E2 := E.t (((m_down S.1).trans m).trans (MT.s94 S'.1 (by omega))) (S'.op (j := o))
    rw [b2_f z] at E2
    exact E2
  · have E2 := E.t (((m_down S.1).trans m).trans (MT.s94 S'.1 (by omega))) (S'.op (j := o))
    rw [b2_t z] at E2
    exact E2
theorem rp_not_f (hb : base + n ≤ 264) (hn : n ≤ 50) (ho5 : o < 5) (hx : byt B n i = 33) (IH : RP B base n u 5 (o + 1) (i + 1) p false i' p') : RP B base n u 5 o i p false i' p' := by
  obtain ⟨q, hq, H⟩ := IH.1 (by omega)
  have hi : i < n := byt_lt (by rw [hx]; decide)
  refine ⟨fun _ => ⟨[], fun z => Bool.noConfusion z, fun a b c => ?_⟩, fun l hl => by omega⟩
  obtain ⟨v, hv, K⟩ := H a b c
  refine ⟨0, fun z => Bool.noConfusion z, fun G d h Q hd ho S E => ?_⟩
  obtain ⟨e, rfl⟩ := dpos (show 1 ≤ d by omega)
  refine vc_X12_unit S.1 (ev_here S (by omega) hb hn ?_)
  rw [hx, e9_up S, S.e6]
  refine ⟨fun _ => ⟨fun _ => ⟨fun _ => ?_, fun z => absurd z (by decide)⟩, fun z => absurd z (e9_ne S ho5)⟩, fun z => absurd rfl z⟩
  refine K G e _ _ (by omega) (by omega) (S_down S hi) (fun h' v' m _ f => ?_)
  have F := f rfl
  refine ⟨fun _ => ⟨fun _ => ⟨fun z => ?_, fun z => ?_⟩, fun z => absurd z (by decide)⟩, fun z => absurd z (by decide)⟩
  · exact E.f (((m_down S.1).trans m).trans (MT.s94 F.1 (by omega))) (F.k (by omega))
  · exact E.f (((m_down S.1).trans m).trans (MT.s94 F.1 (by omega))) (F.k (by omega))
theorem rp_par_f (hb : base + n ≤ 264) (hn : n ≤ 50) (ho5 : o < 5) (hx : byt B n i = 40) (IH : RP B base n u 0 (o + 1) (i + 1) p false i' p') : RP B base n u 5 o i p false i' p' := by
  obtain ⟨q, hq, H⟩ := IH.1 (by omega)
  have hi : i < n := byt_lt (by rw [hx]; decide)
  refine ⟨fun _ => ⟨[], fun z => Bool.noConfusion z, fun a b c => ?_⟩, fun l hl => by omega⟩
  obtain ⟨v, hv, K⟩ := H a b c
  refine ⟨0, fun z => Bool.noConfusion z, fun G d h Q hd ho S E => ?_⟩
  obtain ⟨e, rfl⟩ := dpos (show 1 ≤ d by omega)
  refine vc_X12_unit S.1 (ev_here S (by omega) hb hn ?_)
  rw [hx, e9_up S, S.e6]
  refine ⟨fun z => absurd z (by decide), fun _ => ⟨fun z => absurd rfl z, fun _ => ⟨fun _ => ⟨fun z => absurd rfl z, fun _ => ?_⟩, fun z => absurd z (e9_ne S ho5)⟩⟩⟩
  refine K G e _ _ (by omega) (by omega) (S_down S hi) (fun h' v' m _ f => ?_)
  have F := f rfl
  refine ⟨fun z => absurd rfl z, fun _ => ev_takes_f F (by omega) (by decide) ⟨fun z => absurd rfl z, fun _ => ev_wrong_f F (by omega) ?_⟩⟩
  exact E.f (((m_down S.1).trans m).trans (MT.s94 F.1 (by omega))) F.s8
theorem rp_par (hb : base + n ≤ 264) (hn : n ≤ 50) (ho5 : o < 5) (hx : byt B n i = 40) (hy : byt B n i' = 41) (IH : RP B base n u 0 (o + 1) (i + 1) p true i' p') : RP B base n u 5 o i p true (i' + 1) p' := by
  obtain ⟨q, hq, H⟩ := IH.1 (by omega)
  have hi : i < n := byt_lt (by rw [hx]; decide)
  have hi' : i' < n := byt_lt (by rw [hy]; decide)
  refine ⟨fun _ => ⟨q, hq, fun a b c => ?_⟩, fun l hl => by omega⟩
  obtain ⟨v, hv, K⟩ := H a b c
  refine ⟨v, hv, fun G d h Q hd ho S E => ?_⟩
  obtain ⟨e, rfl⟩ := dpos (show 1 ≤ d by omega)
  refine vc_X12_unit S.1 (ev_here S (by omega) hb hn ?_)
  rw [hx, e9_up S, S.e6]
  refine ⟨fun z => absurd z (by decide), fun _ => ⟨fun z => absurd rfl z, fun _ => ⟨fun _ => ⟨fun z => absurd rfl z, fun _ => ?_⟩, fun z => absurd z (e9_ne S ho5)⟩⟩⟩
  refine K G e _ _ (by omega) (by omega) (S_down S hi) (fun h' v' m t _ => ?_)
  obtain ⟨rfl, S'⟩ := t rfl
  have S2 := S'.go (j := i' + 1) (by omega)
  refine ⟨fun z => absurd rfl z, fun _ => ev_takes S' (by omega) hb hn (fun _ => ⟨fun _ => ⟨fun z => absurd rfl z, fun _ => ?_⟩, fun z => absurd z (by decide)⟩) (fun z => absurd hy z)⟩
  rw [e9_dn S2]
  exact E.t ((((m_down S.1).trans m).trans (MT.s94 S'.1 (by omega))).trans (MT.s94 S2.1 (by omega))) (S2.op (j := o))
theorem rp_par_n (hb : base + n ≤ 264) (hn : n ≤ 50) (ho5 : o < 5) (hx : byt B n i = 40) (hy : byt B n i' ≠ 41) (IH : RP B base n u 0 (o + 1) (i + 1) p true i' p') : RP B base n u 5 o i p false i' p' := by
  obtain ⟨q, hq, H⟩ := IH.1 (by omega)
  have hi : i < n := byt_lt (by rw [hx]; decide)
  refine ⟨fun _ => ⟨[], fun z => Bool.noConfusion z, fun a b c => ?_⟩, fun l hl => by omega⟩
  obtain ⟨v, hv, K⟩ := H a b c
  refine ⟨0, fun z => Bool.noConfusion z, fun G d h Q hd ho S E => ?_⟩
  obtain ⟨e, rfl⟩ := dpos (show 1 ≤ d by omega)
  refine vc_X12_unit S.1 (ev_here S (by omega) hb hn ?_)
  rw [hx, e9_up S, S.e6]
  refine ⟨fun z => absurd z (by decide), fun _ => ⟨fun z => absurd rfl z, fun _ => ⟨fun _ => ⟨fun z => absurd rfl z, fun _ => ?_⟩, fun z => absurd z (e9_ne S ho5)⟩⟩⟩
  refine K G e _ _ (by omega) (by omega) (S_down S hi) (fun h' v' m t _ => ?_)
  obtain ⟨rfl, S'⟩ := t rfl
  refine ⟨fun z => absurd rfl z, fun _ => ev_takes S' (by omega) hb hn (fun z => absurd z hy) (fun _ => ⟨fun z => absurd rfl z, fun _ => ev_wrong S' (by omega) ?_⟩)⟩
  exact E.f (((m_down S.1).trans m).trans (MT.s94 S'.1 (by omega))) (S'.wr hn)
theorem rp_lv_f (hlv : lvB lv) (IH : RP B base n u (lv + 1) o i p false i' p') : RP B base n u lv o i p false i' p' := by
  have h4 : lv ≤ 4 := by unfold lvB at hlv; omega
  obtain ⟨q, hq, H⟩ := IH.1 (by omega)
  refine ⟨fun _ => ⟨[], fun z => Bool.noConfusion z, fun a b c => ?_⟩, fun l hl => by omega⟩
  obtain ⟨v, hv, K⟩ := H a b c
  refine ⟨0, fun z => Bool.noConfusion z, fun G d h Q hd ho S E => ?_⟩
  obtain ⟨e, rfl⟩ := dpos (show 1 ≤ d by omega)
  exact call_of hlv S.1 (K G e _ _ (by omega) ho S (fun h' v' m _ f => loop_stop_f hlv (f rfl) (by omega) (E.f m (f rfl))))
theorem rp_lv {ok : Bool} (hlv : lvB lv) (I1 : RP B base n u (lv + 1) o i p true i1 p1) (I2 : RP B base n u (lv + 10) o i1 p1 ok i' p') : RP B base n u lv o i p ok i' p' := by
  have h4 : lv ≤ 4 := by unfold lvB at hlv; omega
  obtain ⟨q1, hq1, H1⟩ := I1.1 (by omega)
  obtain ⟨q2, hq2, H2⟩ := I2.2 lv rfl
  refine ⟨fun _ => ⟨q1 ++ q2, fun z => by rw [hq2 z, hq1 rfl, List.append_assoc], fun a b c => ?_⟩, fun l hl => by omega⟩
  obtain ⟨v1, hv1, K1⟩ := H1 a b c
  obtain ⟨v2, hv2, K2⟩ := H2 a b c v1
  refine ⟨v2, fun z st => by rw [evS_app, hv1 rfl st, hv2 z st], fun G d h Q hd ho S E => ?_⟩
  obtain ⟨e, rfl⟩ := dpos (show 1 ≤ d by omega)
  refine call_of hlv S.1 (K1 G e _ _ (by omega) ho S (fun h' v' m t _ => ?_))
  obtain ⟨rfl, S'⟩ := t rfl
  exact K2 G e _ _ hlv (by omega) ho S' (E.trans m)
theorem rp_stop (hb : base + n ≤ 264) (hn : n ≤ 50) (hlv : lvB lv) (hno : ¬ opL lv (byt B n i)) : RP B base n u (lv + 10) o i p true i p := by
  refine ⟨fun z => by omega, fun l hl => ⟨[], fun _ => (List.append_nil p).symm, fun a b c x => ⟨x, fun _ st => rfl, fun G d h Q hl2 hd ho S E => ?_⟩⟩⟩
  have : l = lv := by omega
  subst this
  have h4 : l ≤ 4 := by unfold lvB at hlv; omega
  exact loop_stop hlv S (by omega) hb hn hno (E.t (MT.refl S.1) S)
theorem rp_go_f (hb : base + n ≤ 264) (hn : n ≤ 50) (hop : opL lv (byt B n i)) (IH : RP B base n u (lv + 1) o (i + 1) p false i1 p1) : RP B base n u (lv + 10) o i p false i1 p1 := by
  obtain ⟨hS, hlv, hne⟩ := opL_S hop
  have h4 : lv ≤ 4 := by unfold lvB at hlv; omega
  have hi : i < n := byt_lt hne
  obtain ⟨q, hq, H⟩ := IH.1 (by omega)
  refine ⟨fun z => by omega, fun l hl => ⟨[], fun z => Bool.noConfusion z, fun a b c x => ?_⟩⟩
  have : l = lv := by omega
  subst this
  obtain ⟨v, hv, K⟩ := H a b c
  refine ⟨0, fun z => Bool.noConfusion z, fun G d h Q hl2 hd ho S E => ?_⟩
  exact loop_go S (by omega) hb hn hop (K G d _ _ (by omega) ho (S.go (by omega)) (fun h' v' m _ f => loop_stop_f hlv (f rfl) (by omega) (E.f ((MT.s94 S.1 (by omega)).trans m) (f rfl))))
theorem rp_go {ok : Bool} (hb : base + n ≤ 264) (hn : n ≤ 50) (hop : opL lv (byt B n i)) (I1 : RP B base n u (lv + 1) o (i + 1) p true i1 p1) (I2 : RP B base n u (lv + 10) o i1 (p1 ++ [-byt B n i]) ok i' p') : RP B base n u (lv + 10) o i p ok i' p' := by
  obtain ⟨hS, hlv, hne⟩ := opL_S hop
  have h4 : lv ≤ 4 := by unfold lvB at hlv; omega
  have hi : i < n := byt_lt hne
  obtain ⟨q1, hq1, H1⟩ := I1.1 (by omega)
  obtain ⟨q2, hq2, H2⟩ := I2.2 lv rfl
  refine ⟨fun z => by omega, fun l hl => ⟨q1 ++ ([-byt B n i] ++ q2), fun z => by rw [hq2 z, hq1 rfl, List.append_assoc, List.append_assoc], fun a b c x => ?_⟩⟩
  have : l = lv := by omega
  subst this
  obtain ⟨v1, hv1, K1⟩ := H1 a b c
  obtain ⟨v2, hv2, K2⟩ := H2 a b c (jnt (byt B n i) x v1)
  refine ⟨v2, fun z st => ?_, fun G d h Q hl2 hd ho S E => ?_⟩
  · rw [evS_app, hv1 rfl]
    show evS a b c q2 (rpn1 a b c (-byt B n i) (v1 :: x :: st)) = _
    rw [rpn_op hS, hv2 z]
  · refine loop_go S (by omega) hb hn hop (K1 G d _ _ (by omega) ho (S.go (by omega)) (fun h' v' m t _ => ?_))
    obtain ⟨rfl, S'⟩ := t rfl
    exact K2 G d _ _ hlv hd ho S' (E.trans ((MT.s94 S.1 (by omega)).trans m))
theorem rp_cmp_f (IH : RP B base n u 3 o i p false i' p') : RP B base n u 2 o i p false i' p' := by
  obtain ⟨q, hq, H⟩ := IH.1 (by omega)
  refine ⟨fun _ => ⟨[], fun z => Bool.noConfusion z, fun a b c => ?_⟩, fun l hl => by omega⟩
  obtain ⟨v, hv, K⟩ := H a b c
  refine ⟨0, fun z => Bool.noConfusion z, fun G d h Q hd ho S E => ?_⟩
  obtain ⟨e, rfl⟩ := dpos (show 1 ≤ d by omega)
  refine vc_X12_compared S.1 (K G e _ _ (by omega) ho S (fun h' v' m _ f => ev_here_f (f rfl) (by omega) ⟨fun z => absurd z (by decide), fun _ => ⟨fun z => absurd z (by decide), fun _ => ⟨fun z => absurd z (by decide), fun _ => E.f m (f rfl)⟩⟩⟩))
theorem rp_cmp_1 (hb : base + n ≤ 264) (hn : n ≤ 50) (h60 : byt B n i1 ≠ 60) (h61 : byt B n i1 ≠ 61) (h62 : byt B n i1 ≠ 62) (IH : RP B base n u 3 o i p true i1 p1) : RP B base n u 2 o i p true i1 p1 := by
  obtain ⟨q, hq, H⟩ := IH.1 (by omega)
  refine ⟨fun _ => ⟨q, hq, fun a b c => ?_⟩, fun l hl => by omega⟩
  obtain ⟨v, hv, K⟩ := H a b c
  refine ⟨v, hv, fun G d h Q hd ho S E => ?_⟩
  obtain ⟨e, rfl⟩ := dpos (show 1 ≤ d by omega)
  refine vc_X12_compared S.1 (K G e _ _ (by omega) ho S (fun h' v' m t _ => ?_))
  obtain ⟨rfl, S'⟩ := t rfl
  exact ev_here S' (by omega) hb hn ⟨fun z => absurd z h60, fun _ => ⟨fun z => absurd z h61, fun _ => ⟨fun z => absurd z h62, fun _ => E.t m S'⟩⟩⟩
theorem rp_cmp_2 (hb : base + n ≤ 264) (hn : n ≤ 50) (hx : byt B n i1 = 60 ∨ byt B n i1 = 61 ∨ byt B n i1 = 62) (I1 : RP B base n u 3 o i p true i1 p1) (I2 : RP B base n u 3 o (i1 + 1) p1 false i' p') : RP B base n u 2 o i p false i' p' := by
  obtain ⟨q1, hq1, H1⟩ := I1.1 (by omega)
  obtain ⟨q2, hq2, H2⟩ := I2.1 (by omega)
  have hi : i1 < n := byt_lt (by rcases hx with hx | hx | hx <;> rw [hx] <;> decide)
  refine ⟨fun _ => ⟨[], fun z => Bool.noConfusion z, fun a b c => ?_⟩, fun l hl => by omega⟩
  obtain ⟨v1, hv1, K1⟩ := H1 a b c
  obtain ⟨v2, hv2, K2⟩ := H2 a b c
  refine ⟨0, fun z => Bool.noConfusion z, fun G d h Q hd ho S E => ?_⟩
  obtain ⟨e, rfl⟩ := dpos (show 1 ≤ d by omega)
  refine vc_X12_compared S.1 (K1 G e _ _ (by omega) ho S (fun h' v' m t _ => ?_))
  obtain ⟨rfl, S'⟩ := t rfl
  have ms : MT h' (sI h' 94 6 (nI (i1 + 1))) := MT.s94 S'.1 (by omega)
  have fin : ∀ h'' v'', MT (sI h' 94 6 (nI (i1 + 1))) h'' → FS i' h'' → Q v'' h'' := fun h'' v'' m2 F => E.f ((m.trans ms).trans m2) F
  refine ev_here S' (by omega) hb hn ?_
  rw [S'.e6]
  rcases hx with hx | hx | hx <;> rw [hx]
  · refine ⟨fun _ => K2 G e _ _ (by omega) ho (S'.go (by omega)) (fun h'' v'' m2 _ f => ⟨fun z => absurd rfl z, fun _ => ⟨fun _ => fin _ _ m2 (f rfl), fun _ => fin _ _ m2 (f rfl)⟩⟩), fun z => absurd rfl z⟩
  · refine ⟨fun z => absurd z (by decide), fun _ => ⟨fun _ => K2 G e _ _ (by omega) ho (S'.go (by omega)) (fun h'' v'' m2 _ f => ⟨fun _ => ⟨fun z => absurd rfl z, fun _ => ⟨fun _ => fin _ _ m2 (f rfl), fun _ => fin _ _ m2 (f rfl)⟩⟩, fun z => absurd z (by decide)⟩), fun z => absurd rfl z⟩⟩
  · refine ⟨fun z => absurd z (by decide), fun _ => ⟨fun z => absurd z (by decide), fun _ => ⟨fun _ => K2 G e _ _ (by omega) ho (S'.go (by omega)) (fun h'' v'' m2 _ f => ⟨fun _ => ⟨fun _ => ⟨fun _ => fin _ _ m2 (f rfl), fun _ => fin _ _ m2 (f rfl)⟩, fun z => absurd z (by decide)⟩, fun z => absurd z (by decide)⟩), fun z => absurd rfl z⟩⟩⟩
theorem rp_cmp (hb : base + n ≤ 264) (hn : n ≤ 50) (hx : byt B n i1 = 60 ∨ byt B n i1 = 61 ∨ byt B n i1 = 62) (I1 : RP B base n u 3 o i p true i1 p1) (I2 : RP B base n u 3 o (i1 + 1) p1 true i' p') : RP B base n u 2 o i p true i' (p' ++ [-byt B n i1]) := by
  obtain ⟨q1, hq1, H1⟩ := I1.1 (by omega)
  obtain ⟨q2, hq2, H2⟩ := I2.1 (by omega)
  have hi : i1 < n := byt_lt (by rcases hx with hx | hx | hx <;> rw [hx] <;> decide)
  have hS : opS (byt B n i1) := by unfold opS; rcases hx with hx | hx | hx <;> rw [hx] <;> decide
  refine ⟨fun _ => ⟨q1 ++ (q2 ++ [-byt B n i1]), fun z => by rw [hq2 rfl, hq1 rfl, List.append_assoc, List.append_assoc], fun a b c => ?_⟩, fun l hl => by omega⟩
  obtain ⟨v1, hv1, K1⟩ := H1 a b c
  obtain ⟨v2, hv2, K2⟩ := H2 a b c
  refine ⟨jnt (byt B n i1) v1 v2, fun _ st => ?_, fun G d h Q hd ho S E => ?_⟩
  · rw [evS_app, hv1 rfl, evS_app, hv2 rfl]
    show rpn1 a b c (-byt B n i1) (v2 :: v1 :: st) = _
    rw [rpn_op hS]
  obtain ⟨e, rfl⟩ := dpos (show 1 ≤ d by omega)
  refine vc_X12_compared S.1 (K1 G e _ _ (by omega) ho S (fun h' v' m t _ => ?_))
  obtain ⟨rfl, S'⟩ := t rfl
  have ms : MT h' (sI h' 94 6 (nI (i1 + 1))) := MT.s94 S'.1 (by omega)
  have fin : ∀ h'', MT (sI h' 94 6 (nI (i1 + 1))) h'' → RS B base n u a b c o i' h'' → Q (jnt (byt B n i1) v' v2) h'' := fun h'' m2 S2 => E.t ((m.trans ms).trans m2) S2
  refine ev_here S' (by omega) hb hn ?_
  rw [S'.e6]
  rcases hx with hx | hx | hx <;> rw [hx] at fin ⊢
  · refine ⟨fun _ => K2 G e _ _ (by omega) ho (S'.go (by omega)) (fun h'' v'' m2 t2 _ => ⟨fun z => absurd rfl z, fun _ => ⟨fun z => ?_, fun z => ?_⟩⟩), fun z => absurd rfl z⟩
    · obtain ⟨rfl, S2⟩ := t2 rfl
      have := fin _ m2 S2
      rw [jnt_lt, b2_f (by rw [i_lt]; rw [i_le] at z; omega)] at this
      exact this
    · obtain ⟨rfl, S2⟩ := t2 rfl
      have := fin _ m2 S2
      rw [jnt_lt, b2_t (by rw [i_lt]; rw [i_le] at z; omega)] at this
      exact this
  · refine ⟨fun z => absurd z (by decide), fun _ => ⟨fun _ => K2 G e _ _ (by omega) ho (S'.go (by omega)) (fun h'' v'' m2 t2 _ => ⟨fun _ => ⟨fun z => absurd rfl z, fun _ => ⟨fun z => ?_, fun z => ?_⟩⟩, fun z => absurd z (by decide)⟩), fun z => absurd rfl z⟩⟩
    · obtain ⟨rfl, S2⟩ := t2 rfl
      have := fin _ m2 S2
      rw [jnt_eq, b2_f z] at this
      exact this
    · obtain ⟨rfl, S2⟩ := t2 rfl
      have := fin _ m2 S2
      rw [jnt_eq, b2_t z] at this
      exact this
  · refine ⟨fun z => absurd z (by decide), fun _ => ⟨fun z => absurd z (by decide), fun _ => ⟨fun _ => K2 G e _ _ (by omega) ho (S'.go (by omega)) (fun h'' v'' m2 t2 _ => ⟨fun _ => ⟨fun _ => ⟨fun z => ?_, fun z => ?_⟩, fun z => absurd z (by decide)⟩, fun z => absurd z (by decide)⟩), fun z => absurd rfl z⟩⟩⟩
    · obtain ⟨rfl, S2⟩ := t2 rfl
      have := fin _ m2 S2
      rw [jnt_gt, b2_f (by rw [i_lt]; rw [i_le] at z; omega)] at this
      exact this
    · obtain ⟨rfl, S2⟩ := t2 rfl
      have := fin _ m2 S2
      rw [jnt_gt, b2_t (by rw [i_lt]; rw [i_le] at z; omega)] at this
      exact this
theorem der_ref (hb : base + n ≤ 264) (hn : n ≤ 50) (hu : u < 2) : DCl (byt B n) u (RP B base n u) :=
  ⟨fun _ _ _ _ hk _ => rp_name hb hn hu hk, fun _ _ _ hg => rp_dig hb hn hu hg, fun _ _ _ hk hg h33 h40 => rp_bad hb hn hu hk hg h33 h40, fun _ _ hx => rp_deep hb hn hx,
    fun _ _ _ _ _ ho hx IH => rp_not hb hn ho hx IH, fun _ _ _ _ _ ho hx IH => rp_not_f hb hn ho hx IH, fun _ _ _ _ _ ho hx IH => rp_par_f hb hn ho hx IH, fun _ _ _ _ _ ho hx IH hy => rp_par hb hn ho hx hy IH, fun _ _ _ _ _ ho hx IH hy => rp_par_n hb hn ho hx hy IH,
    fun _ _ _ _ _ _ hlv IH => rp_lv_f hlv IH, fun _ _ _ _ _ _ _ _ _ hlv I1 I2 => rp_lv hlv I1 I2, fun _ _ _ _ hlv hno => rp_stop hb hn hlv hno, fun _ _ _ _ _ _ hop IH => rp_go_f hb hn hop IH, fun _ _ _ _ _ _ _ _ _ hop I1 I2 => rp_go hb hn hop I1 I2,
    fun _ _ _ _ _ IH => rp_cmp_f IH, fun _ _ _ _ _ IH h60 h61 h62 => rp_cmp_1 hb hn h60 h61 h62 IH, fun _ _ _ _ _ _ _ I1 hx I2 => rp_cmp_2 hb hn hx I1 I2, fun _ _ _ _ _ _ _ I1 hx I2 => rp_cmp hb hn hx I1 I2⟩
end
