/-! WHAT A TEXT GIVES, in the reference -/
section
variable {G : GT} {d : Nat} {h : Hp} {Q : Int32 → Hp → Prop} {QW : Hp → Prop} {B : Nat → Int32} {base n u i' : Nat} {ok : Bool} {p : List Int32}
theorem ev_worked {a1 a2 a3 : Int32} (hR : RF h) (hd : 50 ≤ d) (hb : base + n ≤ 264) (hn : n ≤ 50) (hu : u < 2) (h1 : a1 = nI base) (h2 : a2 = nI n) (h3 : a3 = nI u) (hB : ∀ j, j < n → h.1 95 (base + j) = B j) (D : Der (byt B n) u 0 0 0 [] ok i' p)
    (k1 : ok = true → i' = n → ∀ h', MT h h' → h'.1 94 8 = -1 → Q (evP p (h.1 99 0) (h.1 99 1) (h.1 99 2)) h') (k2 : (ok = false ∨ i' ≠ n) → ∀ h' v, MT h h' → FS i' h' → Q v h') : EvI G d mX12_worked [.inr (.inr (some 94)), .inl a1, .inl a2, .inl a3] h Q := by
  obtain ⟨e, rfl⟩ := dpos (show 1 ≤ d by omega)
  obtain ⟨q, hq, H⟩ := (D _ (der_ref (base := base) hb hn hu)).1 (by omega)
  obtain ⟨v, hv, K⟩ := H (h.1 99 0) (h.1 99 1) (h.1 99 2)
  have main : ∀ hs : Hp, MT h hs → RS B base n u (h.1 99 0) (h.1 99 1) (h.1 99 2) 0 0 hs → EvI G e mX12_either [.inr (.inr (some 94))] hs (fun x3 h2 => ((0 ≤ h2.1 94 8 → Q x3 h2) ∧ (¬ 0 ≤ h2.1 94 8 → ((h2.1 94 7 ≤ h2.1 94 6 → Q x3 h2) ∧ (¬ h2.1 94 7 ≤ h2.1 94 6 → EvI G e mX12_wrong [.inr (.inr (some 94))] h2 (fun x7 h6 => Q x7 h6)))))) := by
    intro hs ms S
    refine K G e hs _ (by omega) (by omega) S (fun h' v' m t f => ?_)
    cases ok with
    | true =>
      obtain ⟨rfl, S'⟩ := t rfl
      have s8 := S'.2.2.2.2.1
      have s6 := S'.2.2.1
      have s7 := S'.2.2.2.1
      have sn := S'.2.2.2.2.2.2.2.2.2
      refine ⟨fun z => by rw [s8] at z; exact absurd z (by decide), fun _ => ⟨fun z => ?_, fun z => ?_⟩⟩
      · rw [s6, s7, i_le, ti_nI (by omega), ti_nI (by omega)] at z
        have e1 : evP p (h.1 99 0) (h.1 99 1) (h.1 99 2) = v' := by
          unfold evP
          rw [hq rfl, List.nil_append, hv rfl []]
          rfl
        rw [← e1]
        exact k1 rfl (by omega) h' (ms.trans m) s8
      · rw [s6, s7, i_le, ti_nI (by omega), ti_nI (by omega)] at z
        exact ev_wrong S' (by omega) (k2 (Or.inr (by omega)) _ _ ((ms.trans m).trans (MT.s94 S'.1 (by omega))) (S'.wr hn))
    | false =>
      have F := f rfl
      exact ⟨fun _ => k2 (Or.inl rfl) _ _ (ms.trans m) F, fun z => absurd F.nn z⟩
  have mk : ∀ x : Int32, x = nI u → MT h (sI (sI (sI (sI (sI (sI h 94 5 a1) 94 6 0) 94 7 a2) 94 8 (-1)) 94 9 0) 94 10 x) ∧ RS B base n u (h.1 99 0) (h.1 99 1) (h.1 99 2) 0 0 (sI (sI (sI (sI (sI (sI h 94 5 a1) 94 6 0) 94 7 a2) 94 8 (-1)) 94 9 0) 94 10 x) := by
    intro x hx
    have m5 : MT h (sI h 94 5 a1) := MT.s94 hR (by omega)
    have m6 := m5.trans (MT.s94 (k := 6) (v := 0) m5.1.1 (by omega))
    have m7 := m6.trans (MT.s94 (k := 7) (v := a2) m6.1.1 (by omega))
    have m8 := m7.trans (MT.s94 (k := 8) (v := -1) m7.1.1 (by omega))
    have m9 := m8.trans (MT.s94 (k := 9) (v := 0) m8.1.1 (by omega))
    have m10 := m9.trans (MT.s94 (k := 10) (v := x) m9.1.1 (by omega))
    refine ⟨m10, hR, ?_, ?_, ?_, ?_, ?_, ?_, ⟨?_, ?_, ?_⟩, fun j hj => ?_, by omega⟩
    · (repeat rw [sI_ne (by omega)]); rw [sI_self]; exact h1
    · (repeat rw [sI_ne (by omega)]); rw [sI_self]; rfl
    · (repeat rw [sI_ne (by omega)]); rw [sI_self]; exact h2
    · (repeat rw [sI_ne (by omega)]); rw [sI_self]
    · (repeat rw [sI_ne (by omega)]); rw [sI_self]; rfl
    · rw [sI_self]; exact hx
    · repeat rw [sI_ne (by omega)]
    · repeat rw [sI_ne (by omega)]
    · repeat rw [sI_ne (by omega)]
    · (repeat rw [sI_ne (by omega)]); exact hB j hj
  refine vc_X12_worked hR ⟨fun z => ?_, fun z => ?_⟩
  · have hu0 : u = 0 := by
      rcases (show u = 0 ∨ u = 1 by omega) with q | q
      · exact q
      · exact absurd (by rw [h3, q]; rfl) z
    exact main _ (mk 0 (by rw [hu0]; rfl)).1 (mk 0 (by rw [hu0]; rfl)).2
  · exact main _ (mk 1 (by rw [← z]; exact h3)).1 (mk 1 (by rw [← z]; exact h3)).2
theorem ev_textGives {a1 a2 a3 a4 : Int32} {p0 p1 : List Int32} {u : Nat} (hR : RF h) (hd : 70 ≤ d) (T : TxM h 95 p0 p1) (hu : a1 = nI u) (hu2 : u < 2) (ha : u = 1 → 0 ≤ a2.toInt) (k : ∀ h', MT h h' → Q (tgP u (if u = 0 then p0 else p1) a2 a3 a4) h') : EvI G d mX12_textGives [.inr (.inr (some 94)), .inl a1, .inl a2, .inl a3, .inl a4] h Q := by
  obtain ⟨e, rfl⟩ := dpos (show 1 ≤ d by omega)
  obtain ⟨t0, t1, -, t3, t4⟩ := T
  have m3 : MT h (sI (sI (sI h 99 0 a2) 99 1 a3) 99 2 a4) := ((MT.s99 (k := 0) hR).trans (MT.s99 (k := 1) hR)).trans (MT.s99 (k := 2) hR)
  have n0 : (sI (sI (sI h 99 0 a2) 99 1 a3) 99 2 a4).1 99 0 = a2 := by rw [sI_ne (by omega), sI_ne (by omega), sI_self]
  have n1 : (sI (sI (sI h 99 0 a2) 99 1 a3) 99 2 a4).1 99 1 = a3 := by rw [sI_ne (by omega), sI_self]
  have n2 : (sI (sI (sI h 99 0 a2) 99 1 a3) 99 2 a4).1 99 2 = a4 := by rw [sI_self]
  rcases (show u = 0 ∨ u = 1 by omega) with rfl | rfl
  · have hu' : a1 = 0 := hu
    subst hu'
    refine vc_X12_textGives hR ⟨fun z => absurd rfl z, fun _ => ⟨in_of (by decide) (by decide), ?_⟩⟩
    rw [show Int32.toNatClampNeg (90 + 0) = 90 from rfl]
    rw [if_pos rfl] at k
    refine ⟨fun z => ⟨fun y => absurd rfl y, fun _ => ?_⟩, fun z => ⟨in_of (by decide) (by decide), ?_⟩⟩
    · rw [i_le] at z
      simp only [Int32.reduceToInt] at z
      rcases t3 with ⟨-, rfl⟩ | ⟨y, -⟩
      · exact ev_heldM hR (by omega) (by decide) (k h (MT.refl hR))
      · omega
    · rw [i_le] at z
      simp only [Int32.reduceToInt] at z
      rcases t3 with ⟨y, -⟩ | ⟨y, hne, D⟩
      · omega
      · refine ev_worked (base := 112) (n := (h.1 95 90).toInt.toNat) (u := 0) (B := fun i => h.1 95 (112 + i)) m3.1.1 (by omega) (by omega) (by omega) (by omega) rfl (nI_of_int (by omega)) rfl (fun j hj => by repeat rw [sI_ne (by omega)]) D (fun _ _ h' m _ => ⟨fun y => absurd rfl y, fun _ => ?_⟩) (fun y => y.elim (fun r => Bool.noConfusion r) (fun r => absurd rfl r))
        refine ev_heldM m.1.1 (by omega) (by decide) ?_
        rw [n0, n1, n2]
        have := k h' (m3.trans m)
        unfold tgP at this
        rw [if_neg hne, if_pos rfl] at this
        exact this
  · have hu' : a1 = 1 := hu
    subst hu'
    have ha2 := ha rfl
    refine vc_X12_textGives hR ⟨fun _ => ⟨in_of (by decide) (by decide), ?_⟩, fun z => absurd z (by decide)⟩
    rw [show Int32.toNatClampNeg (90 + 1) = 91 from rfl]
    rw [if_neg (by omega)] at k
    refine ⟨fun z => ⟨fun _ => ?_, fun y => absurd y (by decide)⟩, fun z => ⟨in_of (by decide) (by decide), ?_⟩⟩
    · rw [i_le] at z
      simp only [Int32.reduceToInt] at z
      rcases t4 with ⟨-, rfl⟩ | ⟨y, -⟩
      · refine ev_heldM hR (by omega) (by simp only [Int32.reduceToInt]; omega) ?_
        have := k h (MT.refl hR)
        unfold tgP at this
        rw [if_pos rfl, if_neg (by omega), if_neg (by omega)] at this
        exact this
      · omega
    · rw [i_le] at z
      simp only [Int32.reduceToInt] at z
      rcases t4 with ⟨y, -⟩ | ⟨y, hne, D⟩
      · omega
      · refine ev_worked (base := 162) (n := (h.1 95 91).toInt.toNat) (u := 1) (B := fun i => h.1 95 (162 + i)) m3.1.1 (by omega) (by omega) (by omega) (by omega) rfl (nI_of_int (by omega)) rfl (fun j hj => by repeat rw [sI_ne (by omega)]) D (fun _ _ h' m _ => ⟨fun _ => ?_, fun y => absurd y (by decide)⟩) (fun y => y.elim (fun r => Bool.noConfusion r) (fun r => absurd rfl r))
        refine ev_heldM m.1.1 (by omega) (by simp only [Int32.reduceToInt]; omega) ?_
        rw [n0, n1, n2]
        have := k h' (m3.trans m)
        unfold tgP at this
        rw [if_neg hne, if_neg (by omega)] at this
        exact this
end
