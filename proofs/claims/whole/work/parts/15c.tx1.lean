/-! TEXTS READ BY THE REFERENCE -/
theorem EvI.mono {G : GT} {d : Nat} {M : MR} {av : List MV} {h : Hp} {Q Q' : Int32 → Hp → Prop} (E : EvI G d M av h Q) (hq : ∀ v h', Q v h' → Q' v h') : EvI G d M av h Q' :=
  Ev.mono E (fun _ _ _ z => ⟨z.1, z.2.1, by obtain ⟨x, hx, hQ⟩ := z.2.2; exact ⟨x, hx, hq _ _ hQ⟩⟩)
theorem nI_m1 (o : Nat) : nI (o + 1) - 1 = nI o := by rw [← nI_1]; simp
/-- the reference's reader at a place -/
def RS (B : Nat → Int32) (base n u : Nat) (a b c : Int32) (o i : Nat) (h : Hp) : Prop :=
  RF h ∧ h.1 94 5 = nI base ∧ h.1 94 6 = nI i ∧ h.1 94 7 = nI n ∧ h.1 94 8 = -1 ∧ h.1 94 9 = nI o ∧ h.1 94 10 = nI u ∧ (h.1 99 0 = a ∧ h.1 99 1 = b ∧ h.1 99 2 = c) ∧ (∀ j, j < n → h.1 95 (base + j) = B j) ∧ i ≤ n
def FS (i : Nat) (h : Hp) : Prop := RF h ∧ i ≤ 50 ∧ h.1 94 8 = nI i
theorem RS.go {B : Nat → Int32} {base n u : Nat} {a b c : Int32} {o i j : Nat} {h : Hp} (S : RS B base n u a b c o i h) (hj : j ≤ n) : RS B base n u a b c o j (sI h 94 6 (nI j)) := by
  obtain ⟨s0, s1, s2, s3, s4, s5, s6, ⟨s7, s8, s9⟩, s10, s11⟩ := S
  refine ⟨s0, ?_, sI_self _ _ _ _, ?_, ?_, ?_, ?_, ⟨?_, ?_, ?_⟩, fun k hk => ?_, hj⟩
  · rw [sI_ne (by omega)]; exact s1
  · rw [sI_ne (by omega)]; exact s3
  · rw [sI_ne (by omega)]; exact s4
  · rw [sI_ne (by omega)]; exact s5
  · rw [sI_ne (by omega)]; exact s6
  · rw [sI_ne (by omega)]; exact s7
  · rw [sI_ne (by omega)]; exact s8
  · rw [sI_ne (by omega)]; exact s9
  · rw [sI_ne (by omega)]; exact s10 k hk
theorem RS.op {B : Nat → Int32} {base n u : Nat} {a b c : Int32} {o i j : Nat} {h : Hp} (S : RS B base n u a b c o i h) : RS B base n u a b c j i (sI h 94 9 (nI j)) := by
  obtain ⟨s0, s1, s2, s3, s4, s5, s6, ⟨s7, s8, s9⟩, s10, s11⟩ := S
  refine ⟨s0, ?_, ?_, ?_, ?_, sI_self _ _ _ _, ?_, ⟨?_, ?_, ?_⟩, fun k hk => ?_, s11⟩
  · rw [sI_ne (by omega)]; exact s1
  · rw [sI_ne (by omega)]; exact s2
  · rw [sI_ne (by omega)]; exact s3
  · rw [sI_ne (by omega)]; exact s4
  · rw [sI_ne (by omega)]; exact s6
  · rw [sI_ne (by omega)]; exact s7
  · rw [sI_ne (by omega)]; exact s8
  · rw [sI_ne (by omega)]; exact s9
  · rw [sI_ne (by omega)]; exact s10 k hk
theorem FS.k {i k : Nat} {v : Int32} {h : Hp} (F : FS i h) (hk : k ≠ 8) : FS i (sI h 94 k v) := ⟨F.1, F.2.1, by rw [sI_ne (by omega)]; exact F.2.2⟩
theorem FS.s8 {i : Nat} {h : Hp} (F : FS i h) : FS i (sI h 94 8 (h.1 94 8)) := ⟨F.1, F.2.1, by rw [sI_self]; exact F.2.2⟩
theorem FS.nn {i : Nat} {h : Hp} (F : FS i h) : 0 ≤ h.1 94 8 := by
  have := F.2.1
  rw [F.2.2, i_le, ti_nI (by omega)]
  simp
theorem byt_lt {B : Nat → Int32} {n i : Nat} (h : byt B n i ≠ -1) : i < n := Classical.byContradiction (fun z => h (if_neg z))
section
variable {G : GT} {d : Nat} {h : Hp} {Q : Int32 → Hp → Prop} {QW : Hp → Prop} {B : Nat → Int32} {base n u : Nat} {a b c : Int32} {o i : Nat}
theorem ev_here (S : RS B base n u a b c o i h) (hd : 1 ≤ d) (hb : base + n ≤ 264) (hn : n ≤ 50) (k : Q (byt B n i) h) : EvI G d mX12_here [.inr (.inr (some 94))] h Q := by
  obtain ⟨e, rfl⟩ := dpos hd
  obtain ⟨s0, s1, s2, s3, s4, s5, s6, s7, s10, s11⟩ := S
  refine vc_X12_here s0 ⟨fun c => ?_, fun c => ⟨fun c2 => ?_, fun c2 => ?_⟩⟩
  · rw [s3, s2, i_le, ti_nI (by omega), ti_nI (by omega)] at c
    unfold byt at k
    rw [if_neg (by omega)] at k
    exact k
  · rw [s4] at c2
    exact absurd c2 (by decide)
  · rw [s3, s2, i_le, ti_nI (by omega), ti_nI (by omega)] at c
    have e1 : (h.1 94 5 + h.1 94 6).toInt = ((base + i : Nat) : Int) := ti_of (by rw [s1, s2]; push_cast; simp only [oi_add, oi_nat]) (by omega) (by omega)
    refine ⟨in_of (by omega) (by omega), ?_⟩
    rw [cl_of e1, s10 i (by omega)]
    unfold byt at k
    rw [if_pos (by omega)] at k
    exact k
theorem ev_here_f (F : FS i h) (hd : 1 ≤ d) (k : Q (-1) h) : EvI G d mX12_here [.inr (.inr (some 94))] h Q := by
  obtain ⟨e, rfl⟩ := dpos hd
  exact vc_X12_here F.1 ⟨fun _ => k, fun _ => ⟨fun _ => k, fun c => absurd F.nn c⟩⟩
theorem RS.e6 (S : RS B base n u a b c o i h) : h.1 94 6 + 1 = nI (i + 1) := by rw [S.2.2.1]; exact nI_1 i
theorem ev_takes {x : Int32} (S : RS B base n u a b c o i h) (hd : 2 ≤ d) (hb : base + n ≤ 264) (hn : n ≤ 50) (t : byt B n i = x → Q 1 (sI h 94 6 (nI (i + 1)))) (f : ¬ byt B n i = x → Q 0 h) : EvI G d mX12_takes [.inr (.inr (some 94)), .inl x] h Q := by
  obtain ⟨e, rfl⟩ := dpos (show 1 ≤ d by omega)
  refine vc_X12_takes S.1 (ev_here S (by omega) hb hn ⟨fun z => ?_, f⟩)
  rw [S.e6]
  exact t z
theorem ev_takes_f {x : Int32} (F : FS i h) (hd : 2 ≤ d) (hx : ¬ (-1) = x) (k : Q 0 h) : EvI G d mX12_takes [.inr (.inr (some 94)), .inl x] h Q := by
  obtain ⟨e, rfl⟩ := dpos (show 1 ≤ d by omega)
  exact vc_X12_takes F.1 (ev_here_f F (by omega) ⟨fun z => absurd z hx, fun _ => k⟩)
theorem ev_wrong (S : RS B base n u a b c o i h) (hd : 1 ≤ d) (k : Q 0 (sI h 94 8 (nI i))) : EvI G d mX12_wrong [.inr (.inr (some 94))] h Q := by
  obtain ⟨e, rfl⟩ := dpos hd
  refine vc_X12_wrong S.1 ⟨fun z => ?_, fun _ => ?_⟩
  · rw [S.2.2.2.2.1] at z
    exact absurd z (by decide)
  · rw [S.2.2.1]
    exact k
theorem ev_wrong_f (F : FS i h) (hd : 1 ≤ d) (k : Q 0 (sI h 94 8 (h.1 94 8))) : EvI G d mX12_wrong [.inr (.inr (some 94))] h Q := by
  obtain ⟨e, rfl⟩ := dpos hd
  exact vc_X12_wrong F.1 ⟨fun _ => k, fun z => absurd F.nn z⟩
theorem RS.wr (S : RS B base n u a b c o i h) (hn : n ≤ 50) : FS i (sI h 94 8 (nI i)) := by
  have := S.2.2.2.2.2.2.2.2.2
  exact ⟨S.1, by omega, sI_self _ _ _ _⟩
def nmI (u : Nat) (c : Int32) : Int32 := if u = 0 then (if c = 119 then 0 else if c = 108 then 1 else if c = 104 then 2 else -1) else (if c = 108 then 0 else if c = 115 then 1 else if c = 109 then 2 else -1)
def nmV (k : Nat) (a b c : Int32) : Int32 := match k with
  | 0 => a
  | 1 => b
  | _ => c
theorem nmK_some {x : Int32} {k : Nat} (hk : nmK u x = some k) : (k = 0 ∨ k = 1 ∨ k = 2) ∧ nmI u x = nI k ∧ ¬ x = 33 ∧ ¬ x = 40 ∧ ¬ x = -1 := by
  unfold nmK at hk
  unfold nmI
  by_cases hu : u = 0
  · rw [if_pos hu] at hk ⊢
    by_cases h1 : x = 119
    · subst h1
      rw [if_pos rfl] at hk ⊢
      cases hk
      exact ⟨Or.inl rfl, rfl, by decide, by decide, by decide⟩
    · rw [if_neg h1] at hk ⊢
      by_cases h2 : x = 108
      · subst h2
        rw [if_pos rfl] at hk ⊢
        cases hk
        exact ⟨Or.inr (Or.inl rfl), rfl, by decide, by decide, by decide⟩
      · rw [if_neg h2] at hk ⊢
        by_cases h3 : x = 104
        · subst h3
          rw [if_pos rfl] at hk ⊢
          cases hk
          exact ⟨Or.inr (Or.inr rfl), rfl, by decide, by decide, by decide⟩
        · rw [if_neg h3] at hk
          cases hk
  · rw [if_neg hu] at hk ⊢
    by_cases h1 : x = 108
    · subst h1
      rw [if_pos rfl] at hk ⊢
      cases hk
      exact ⟨Or.inl rfl, rfl, by decide, by decide, by decide⟩
    · rw [if_neg h1] at hk ⊢
      by_cases h2 : x = 115
      · subst h2
        rw [if_pos rfl] at hk ⊢
        cases hk
        exact ⟨Or.inr (Or.inl rfl), rfl, by decide, by decide, by decide⟩
      · rw [if_neg h2] at hk ⊢
        by_cases h3 : x = 109
        · subst h3
          rw [if_pos rfl] at hk ⊢
          cases hk
          exact ⟨Or.inr (Or.inr rfl), rfl, by decide, by decide, by decide⟩
        · rw [if_neg h3] at hk
          cases hk
theorem nmK_none {x : Int32} (hk : nmK u x = none) : nmI u x = -1 := by
  unfold nmK at hk
  unfold nmI
  by_cases hu : u = 0
  · rw [if_pos hu] at hk ⊢
    by_cases h1 : x = 119
    · rw [if_pos h1] at hk; cases hk
    · rw [if_neg h1] at hk ⊢
      by_cases h2 : x = 108
      · rw [if_pos h2] at hk; cases hk
      · rw [if_neg h2] at hk ⊢
        by_cases h3 : x = 104
        · rw [if_pos h3] at hk; cases hk
        · rw [if_neg h3]
  · rw [if_neg hu] at hk ⊢
    by_cases h1 : x = 108
    · rw [if_pos h1] at hk; cases hk
    · rw [if_neg h1] at hk ⊢
      by_cases h2 : x = 115
      · rw [if_pos h2] at hk; cases hk
      · rw [if_neg h2] at hk ⊢
        by_cases h3 : x = 109
        · rw [if_pos h3] at hk; cases hk
        · rw [if_neg h3]
theorem ev_nameOf {x : Int32} (hR : RF h) (hd : 1 ≤ d) (hu : u < 2) (h10 : h.1 94 10 = nI u) (k : Q (nmI u x) h) : EvI G d mX12_nameOf [.inr (.inr (some 94)), .inl x] h Q := by
  obtain ⟨e, rfl⟩ := dpos hd
  have hu2 : u = 0 ∨ u = 1 := by omega
  unfold nmI at k
  refine vc_X12_nameOf hR ⟨fun c => ?_, fun c => ?_⟩
  · rcases hu2 with rfl | rfl
    · rw [if_pos rfl] at k
      refine ⟨fun c1 => ⟨fun c2 => ⟨fun c3 => ?_, fun c3 => ?_⟩, fun c2 => ?_⟩, fun c1 => ?_⟩
      · rw [if_neg c1, if_neg c2, if_neg c3] at k; exact k
      · rw [if_neg c1, if_neg c2, if_pos c3] at k; exact k
      · rw [if_neg c1, if_pos c2] at k; exact k
      · rw [if_pos c1] at k; exact k
    · rw [h10] at c
      exact absurd c (by decide)
  · rcases hu2 with rfl | rfl
    · rw [h10] at c
      exact absurd rfl c
    · rw [if_neg (by decide)] at k
      refine ⟨fun c1 => ⟨fun c2 => ⟨fun c3 => ?_, fun c3 => ?_⟩, fun c2 => ?_⟩, fun c1 => ?_⟩
      · rw [if_neg c1, if_neg c2, if_neg c3] at k; exact k
      · rw [if_neg c1, if_neg c2, if_pos c3] at k; exact k
      · rw [if_neg c1, if_pos c2] at k; exact k
      · rw [if_pos c1] at k; exact k
/-- the digits' number -/
theorem dgR_in {f : Nat → Int32} : ∀ (k i : Nat) (v : Int32) (m : Int), 0 ≤ v.toInt → v.toInt < m → m * (10 : Int) ^ k ≤ 10000 → 1 ≤ m → 0 ≤ (dgR f k i v).2.toInt ∧ (dgR f k i v).2.toInt < 10000 := by
  intro k
  induction k with
  | zero =>
    intro i v m h1 h2 h3 h4
    show 0 ≤ v.toInt ∧ v.toInt < 10000
    omega
  | succ k ih =>
    intro i v m h1 h2 h3 h4
    have hp : m * (10 : Int) ^ (k + 1) = (10 * m) * (10 : Int) ^ k := by rw [Int.pow_succ, Int.mul_comm 10 m, Int.mul_assoc, Int.mul_comm ((10 : Int) ^ k) 10]
    have h10 : (1 : Int) ≤ (10 : Int) ^ k := by
      have : (0 : Int) < (10 : Int) ^ k := Int.pow_pos (by decide)
      omega
    have hm : 10 * m ≤ 10000 := by
      have : (10 * m) * 1 ≤ (10 * m) * (10 : Int) ^ k := Int.mul_le_mul_of_nonneg_left h10 (by omega)
      omega
    unfold dgR
    by_cases hc : 48 ≤ f i ∧ f i ≤ 57
    · rw [if_pos hc]
      have c1 := (i_le _ _).mp hc.1
      have c2 := (i_le _ _).mp hc.2
      simp only [Int32.reduceToInt] at c1 c2
      have e1 : (10 * v + f i - 48).toInt = 10 * v.toInt + (f i).toInt - 48 := ti_of (by rw [oi_sub, oi_add, oi_mul, oi_ti, oi_ti]; rfl) (by omega) (by omega)
      exact ih (i + 1) _ (10 * m) (by omega) (by omega) (by rw [← hp]; exact h3) (by omega)
    · rw [if_neg hc]
      show 0 ≤ v.toInt ∧ v.toInt < 10000
      omega
theorem rg_dig (hd : 1 ≤ d) (hb : base + n ≤ 264) (hn : n ≤ 50) : ∀ (k j i : Nat) (v : Int32) (h : Hp), j + k = 4 → RS B base n u a b c o i h → (j = 0 → isDg (byt B n i)) → (∀ h', MT h h' → RS B base n u a b c o (dgR (byt B n) k i v).1 h' → Q (dgR (byt B n) k i v).2 h') → Rg_X12_unit_150 G d v (nI j) h Q := by
  intro k
  induction k with
  | zero =>
    intro j i v h hj S _ K
    have : j = 4 := by omega
    subst this
    exact vc_X12_unit_150 S.1 ⟨fun _ => ⟨fun _ => K h (MT.refl S.1) S, fun z => absurd z (by decide)⟩, fun z => absurd (by decide) z⟩
  | succ k ih =>
    intro j i v h hj S hg K
    refine vc_X12_unit_150 S.1 ⟨fun z => ?_, fun _ => ev_here S hd hb hn ?_⟩
    · rw [i_le, ti_nI (by omega)] at z
      simp only [Int32.reduceToInt] at z
      omega
    refine ev_in S.1 hd ?_
    rw [l_of_i]
    simp only [Int64.reduceToInt]
    refine ⟨fun z => ?_, fun z => ev_here S hd hb hn ?_⟩
    · have z1 := b2_0.mp z
      have hnd : ¬ (48 ≤ byt B n i ∧ byt B n i ≤ 57) := fun q => z1 ⟨(i_le _ _).mp q.1, (i_le _ _).mp q.2⟩
      refine ⟨fun _ => ?_, fun y => ?_⟩
      · have K2 := K h (MT.refl S.1)
        unfold dgR at K2
        rw [if_neg hnd] at K2
        exact K2 S
      · rw [i_eq, ti_nI (by omega)] at y
        simp only [Int32.reduceToInt] at y
        exact absurd (hg (by omega)) hnd
    · have z1 := Classical.not_not.mp (fun q => z (b2_0.mpr q))
      have hyd : 48 ≤ byt B n i ∧ byt B n i ≤ 57 := ⟨(i_le _ _).mpr z1.1, (i_le _ _).mpr z1.2⟩
      have hin : i < n := byt_lt (fun q => by rw [q] at hyd; exact absurd hyd.1 (by decide))
      rw [S.e6, nI_1]
      refine ih (j + 1) (i + 1) _ _ (by omega) (S.go (by omega)) (fun q => by omega) (fun h' m S' => ?_)
      have K2 := K h' ((MT.s94 S.1 (by omega)).trans m)
      unfold dgR at K2
      rw [if_pos hyd] at K2
      exact K2 S'
end
