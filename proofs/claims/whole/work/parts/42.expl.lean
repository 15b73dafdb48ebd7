/-! explained -/
section
variable {G : GT} {d : Nat} {h : Hp} {Q : Int32 → Hp → Prop} {QW : Hp → Prop}
/-- the least m from m on (k more) at which P is n; -1 -/
def exN (P : Nat → Nat) (n : Nat) : Nat → Nat → Int
  | 0, _ => -1
  | k + 1, m => if P m = n then (m : Int) else exN P n k (m + 1)
theorem exN_in {P : Nat → Nat} {n : Nat} : ∀ (k m : Nat), -1 ≤ exN P n k m ∧ exN P n k m < (m : Int) + k
  | 0, m => by
    show (-1 : Int) ≤ -1 ∧ (-1 : Int) < _
    omega
  | k + 1, m => by
    have := @exN_in P n k (m + 1)
    unfold exN
    split <;> omega
theorem ev_unlike2 {p0 : List Int32} {r rn n : Nat} {a2 : Int32} {num : Nat → Int} {bg : Nat → Int} (hR : RF h) (okC : OKF 99999 (vC h 9 bg)) (hd : 23 ≤ d) (T : TxC h 13 p0) (hr : SH[r]? = some (.inr (0, rn))) (hr2 : r ≠ 15 ∧ ¬ (41 ≤ r ∧ r ≤ 44)) (hl : a2.toInt = n) (hn : n ≤ rn) (hrn : rn ≤ 100) (hnum : ∀ i, i < n → (h.1 r i).toInt = num i)
    (k : ∀ h' x, CS 41 h h' → x.toInt = (if unl (flo (earI p0) (vC h 9 bg)) num n 0 = n then -1 else (unl (flo (earI p0) (vC h 9 bg)) num n 0 : Int)) → Q x h') : EvI G d mX11_firstUnlike [.inr (.inr (some 0)), .inr (.inr (some r)), .inl a2] h Q := by
  obtain ⟨e, rfl⟩ := dpos (show 1 ≤ d by omega)
  refine vc_X11_firstUnlike hr hR (ev_copyF hR (by omega) rfl rfl (by omega) (fun h1 cs1 ev1 => ?_))
  have e0 : vC h1 41 bg = vC h 9 bg := ev1 bg
  refine rg_unlike (bg := bg) (B := 99999) (num := num) (by omega) (by rw [e0]; exact okC) (by omega) (cs1.txc rfl T) hr hr2 hl hn hrn (fun i hi => by rw [cs1.2.2 r (by omega) (by omega) (by omega) (by omega) (by omega)]; exact hnum i hi) (fun h' x cs ex => ?_) n 0 h1 (by omega) (CS.refl cs1.1) rfl rfl
  rw [e0] at ex
  exact k h' x (cs1.trans cs) ex
theorem rg_floors {B : Int} {h0 : Hp} {p0 p1 : List Int32} {l1 : Int32} {s n : Nat} {num : Nat → Int} (hd : 81 ≤ d) (hR0 : RF h0) (ok : OKF B (vM h0)) (hB : B + n ≤ 100000000) (T : TxM h0 95 p0 p1) (es : l1.toInt = s) (hs : s < 4) (hl : (h0.1 115 s).toInt = n) (hn : n ≤ 40) (hnum : ∀ i, i < n → (h0.1 116 (40 * s + i)).toInt = num i)
    (k : ∀ h' x, MZ h0 h' → x.toInt = (unl (flo (earI p0) (vM h0)) num n 0 : Int) → Q x h') : ∀ (m i : Nat) (h : Hp), i + m = n → MS (cpI h0 95 0 97 0 90) h → vM h = secN (earI p0) i (vM h0) → unl (flo (earI p0) (vM h0)) num m i = unl (flo (earI p0) (vM h0)) num n 0 → Rg_X12_floorsOf_8 G d l1 (nI i) 1 h Q := by
  have frm : ∀ h, MS (cpI h0 95 0 97 0 90) h → h.1 115 = h0.1 115 ∧ h.1 116 = h0.1 116 := fun h ms => by
    constructor
    · rw [ms.2.2.1 115 (by omega) (by omega) (by omega)]; funext t; rw [cpI_at, if_neg (by omega)]
    · rw [ms.2.2.1 116 (by omega) (by omega) (by omega)]; funext t; rw [cpI_at, if_neg (by omega)]
  have inn : vp_in l1 4 := in_of (by omega) (by omega)
  intro m
  induction m with
  | zero =>
    intro i h hi ms hv hu
    have : i = n := by omega
    subst this
    have ei : (nI i).toInt = (i : Int) := ti_nI (by omega)
    refine vc_X12_floorsOf_8 ms.1 ⟨inn, fun _ => ev_back ms.1 (by omega) (k _ _ (MZ_back ms) ?_), fun z => ?_⟩
    · rw [← hu]
      exact ei
    · exfalso
      rw [cl_of es, (frm h ms).1, i_le, hl, ei] at z
      omega
  | succ m ih =>
    intro i h hi ms hv hu
    have ei : (nI i).toInt = (i : Int) := ti_nI (by omega)
    have oki : OKF (B + i) (vM h) := by rw [hv]; exact OKF_secN he_ear i ok
    have e40 : ((40 * l1) + nI i).toInt = ((40 * s + i : Nat) : Int) := ti_of (by rw [show l1 = nI s from eq_nI es]; push_cast; simp only [oi_add, oi_mul, oi_nat]; rfl) (by omega) (by omega)
    refine vc_X12_floorsOf_8 ms.1 ⟨inn, fun z => ?_, fun _ => ⟨fun z => absurd z (by decide), fun _ => ?_⟩⟩
    · exfalso
      rw [cl_of es, (frm h ms).1, i_le, hl, ei] at z
      omega
    · refine ev_aSecond ms.1 hd oki (by omega) ((TxM_cp T).keep ms) (fun h' ms' hv' => ?_)
      have hv2 : vM h' = secN (earI p0) (i + 1) (vM h0) := by rw [hv', hv, secN_succ]
      have msf := ms.trans ms'
      have e4 : (h'.1 95 4).toInt = flo (earI p0) (vM h0) i := by
        show vM h' 4 = _
        rw [hv2]
        rfl
      have er : (h'.1 116 (40 * s + i)).toInt = num i := by
        rw [(frm h' msf).2]
        exact hnum i (by omega)
      refine ⟨in_of (by omega) (by omega), ?_⟩
      rw [cl_of e40]
      refine ⟨fun z => ?_, fun z => ?_⟩
      · rw [i_eq, e4, er] at z
        have e5 : unl (flo (earI p0) (vM h0)) num n 0 = i := by
          rw [← hu]
          show (if _ then _ else _) = i
          rw [if_neg z]
        have e20 : nI i + 0 = nI i := by simp
        rw [e20]
        refine vc_X12_floorsOf_8 msf.1 ⟨inn, fun y => ?_, fun _ => ⟨fun _ => ev_back msf.1 (by omega) (k _ _ (MZ_back msf) (by rw [e5]; exact ei)), fun y => absurd rfl y⟩⟩
        exfalso
        rw [cl_of es, (frm h' msf).1, i_le, hl, ei] at y
        omega
      · rw [i_eq, e4, er] at z
        rw [nI_1]
        refine ih (i + 1) h' (by omega) msf hv2 ?_
        rw [← hu]
        show _ = if _ then _ else _
        rw [if_pos z]
theorem ev_floors {B : Int} {p0 p1 : List Int32} {a1 : Int32} {s n : Nat} {num : Nat → Int} (hR : RF h) (hd : 83 ≤ d) (ok : OKF B (vM h)) (hB : B + n ≤ 100000000) (T : TxM h 95 p0 p1) (es : a1.toInt = s) (hs : s < 4) (hl : (h.1 115 s).toInt = n) (hn : n ≤ 40) (hnum : ∀ i, i < n → (h.1 116 (40 * s + i)).toInt = num i)
    (k : ∀ h' x, MZ h h' → x.toInt = (unl (flo (earI p0) (vM h)) num n 0 : Int) → Q x h') : EvI G d mX12_floorsOf [.inr (.inr (some 94)), .inl a1] h Q := by
  obtain ⟨e, rfl⟩ := dpos (show 1 ≤ d by omega)
  exact vc_X12_floorsOf hR (ev_keep hR (by omega) (rg_floors (by omega) hR ok hB T es hs hl hn hnum k n 0 _ (by omega) (MS.refl (RF_cp hR)) vM_cp rfl))
/-- the hearing with another m of a PARTY -/
def mF (F : Nat → Int) (j m : Nat) : Nat → Int := upI F (11 + 5 * j) (m : Int)
theorem OKF_m {B : Int} {F : Nat → Int} {j m : Nat} (ok : OKF B F) (hj : j < 4) (hm : m ≤ 9) : OKF B (mF F j m) := by
  have o := ok.2.2.2.2.2.2.2.2.1 j hj
  refine OKF_p (p := j) ok (fun i hi => by unfold mF; rw [upI_n (by omega)]) hj ?_
  unfold OKP mF at *
  simp (disch := omega) only [upI_n, upI_s]
  omega
def exP (ear : Int → Int → Int → Int) (F : Nat → Int) (j : Nat) (num : Nat → Int) (n m : Nat) : Nat := unl (flo ear (mF F j m)) num n 0
theorem rg_explC {h0 : Hp} {p0 : List Int32} {F : Nat → Int} {l1 l2 l3 : Int32} {j s n : Nat} {num : Nat → Int} (hd : 30 ≤ d) (hR0 : RF h0) (hF : vC h0 9 F = F) (ok : OKF 99999 F) (T : TxC h0 13 p0) (ej : l1.toInt = j) (hj : j < 4) (es : l2.toInt = s) (hs : s < 4) (hl : (h0.1 87 s).toInt = n) (hn : n ≤ 40) (hnum : ∀ i, i < n → (h0.1 (89 + s) i).toInt = num i) (h3 : l3 = h0.1 3 j)
    (kn : ∀ h', MZ h0 h' → exN (exP (earI p0) F j num n) n 10 0 = -1 → EvI G d mX11_refuse [.inr (.inr (some 0)), .inl 2] h' (fun x19 h18 => Q x19 h18))
    (k : ∀ h' x, MZ h0 h' → 0 ≤ exN (exP (earI p0) F j num n) n 10 0 → x.toInt = exN (exP (earI p0) F j num n) n 10 0 → Q x h') : ∀ (q m : Nat) (h : Hp), m + q = 10 → RF h → (∀ a, ¬ scr a → a ≠ 3 → h.1 a = h0.1 a) → (∀ t, t ≠ j → h.1 3 t = h0.1 3 t) → exN (exP (earI p0) F j num n) n q m = exN (exP (earI p0) F j num n) n 10 0 → Rg_X11_explained_61 G d l1 l2 l3 (-1) (nI m) h Q := by
  have in1 : vp_in l1 4 := in_of (by omega) (by omega)
  have in2 : vp_in l2 4 := in_of (by omega) (by omega)
  have back : ∀ h : Hp, RF h → (∀ a, ¬ scr a → a ≠ 3 → h.1 a = h0.1 a) → (∀ t, t ≠ j → h.1 3 t = h0.1 3 t) → MZ h0 (sI h 3 j l3) := fun h r0 r1 r2 => by
    refine ⟨r0, fun a a1 a2 => ?_, by rw [sI_ne (by omega), r1 94 (by unfold scr; omega) (by omega)], by rw [sI_ne (by omega), r1 94 (by unfold scr; omega) (by omega)]⟩
    by_cases ha : a = 3
    · subst ha
      funext t
      by_cases ht : t = j
      · rw [ht, sI_self, h3]
      · rw [sI_ne (by omega), r2 t ht]
    · rw [sI_row_ne ha, r1 a a1 ha]
  intro q
  induction q with
  | zero =>
    intro m h hm r0 r1 r2 he
    have : m = 10 := by omega
    subst this
    refine vc_X11_explained_61 r0 ⟨fun _ => ⟨in1, fun z => absurd rfl z, fun _ => ?_⟩, fun z => absurd (by decide) z⟩
    rw [cl_of ej]
    exact kn _ (back h r0 r1 r2) he.symm
  | succ q ih =>
    intro m h hm r0 r1 r2 he
    have em : (nI m).toInt = (m : Int) := ti_nI (by omega)
    refine vc_X11_explained_61 r0 ⟨fun z => ?_, fun _ => ⟨fun z => absurd rfl z, fun _ => ⟨in1, in2, 89 + s, ?_, (rf88 r0 hs).2, in2, ?_⟩⟩⟩
    · exfalso
      rw [i_lt, em] at z
      simp only [Int32.reduceToInt] at z
      omega
    · rw [cl_of es]
      exact (rf88 r0 hs).1
    · rw [cl_of ej, cl_of es]
      have v1 : vC (sI h 3 j (nI m)) 9 F = mF F j m := by
        rw [c9_m hj, em]
        have e0 : upI (vC h 9 F) (11 + 5 * j) (m : Int) = upI (vC h0 9 F) (11 + 5 * j) (m : Int) := by
          have e1 : vC (sI h 3 j 0) 9 F = vC (sI h0 3 j 0) 9 F := vC_eq (fun k hk => by rw [sI_ne (by omega), sI_ne (by omega), r1 1 (by unfold scr; omega) (by omega)]) (fun a k h1 h2 h3 => by
            by_cases ha : a = 3
            · subst ha
              by_cases hk : k = j
              · rw [hk, sI_self, sI_self]
              · rw [sI_ne (by omega), sI_ne (by omega), r2 k hk]
            · rw [sI_ne (by omega), sI_ne (by omega), r1 a (by unfold scr; omega) ha]) (fun a k h1 h2 h3 => by rw [sI_ne (by omega), sI_ne (by omega), r1 a (by unfold scr; omega) (by omega)]) (fun k h1 h2 => by rw [sI_ne (by omega), sI_ne (by omega), r1 9 (by unfold scr; omega) (by omega)]) (fun a k h1 h2 => by rw [sI_ne (by omega), sI_ne (by omega), r1 a (by unfold scr; omega) (by omega)]) (fun k h1 => by rw [sI_ne (by omega), sI_ne (by omega), r1 (9 + 3) (by unfold scr; omega) (by omega)])
          rw [c9_m hj, c9_m hj] at e1
          funext i
          have := congrFun e1 i
          unfold upI at *
          by_cases hi : i = 11 + 5 * j
          · rw [if_pos hi, if_pos hi]
          · rw [if_neg hi, if_neg hi] at this ⊢
            exact this
        rw [e0, hF]
        rfl
      have okm := OKF_m (m := m) ok hj (by omega)
      have f87 : h.1 87 s = h0.1 87 s := by rw [r1 87 (by unfold scr; omega) (by omega)]
      have T' : TxC (sI h 3 j (nI m)) 13 p0 := TxC_eq (by rw [sI_ne (by omega), r1 13 (by unfold scr; omega) (by omega)]) (fun k _ => by rw [sI_ne (by omega), r1 (13 + 1) (by unfold scr; omega) (by omega)]) T
      refine ev_unlike2 (bg := F) (num := num) (n := n) (RF_sI r0) (by rw [v1]; exact okm) (by omega) T' (rf88 r0 hs).2 (by omega) (by rw [f87]; exact hl) (by omega) (by omega) (fun i hi => by rw [sI_ne (by omega), r1 (89 + s) (by unfold scr; omega) (by omega)]; exact hnum i hi) (fun h' x cs ex => ?_)
      rw [v1] at ex
      have s1 : ∀ a, ¬ scr a → a ≠ 3 → h'.1 a = h0.1 a := fun a a1 a2 => by
        rw [cs.2.2 a (fun z => a1 (by unfold scr; omega)) (fun z => a1 (by unfold scr; omega)) (fun z => a1 (by unfold scr; omega)) (fun z => a1 (by unfold scr; omega)) (fun z => a1 (by unfold scr; omega)), sI_row_ne a2, r1 a a1 a2]
      have s2 : ∀ t, t ≠ j → h'.1 3 t = h0.1 3 t := fun t ht => by
        rw [cs.2.2 3 (by omega) (by omega) (by omega) (by omega) (by omega), sI_ne (by omega), r2 t ht]
      have ue : exP (earI p0) F j num n m = unl (flo (earI p0) (mF F j m)) num n 0 := rfl
      rw [← ue] at ex
      have ub : exP (earI p0) F j num n m ≤ n := by have := (@unl_in (flo (earI p0) (mF F j m)) num n 0).2; rw [ue]; omega
      refine ⟨fun z => ?_, fun z => ?_⟩
      · rw [i_eq, ex, ti_m1] at z
        rw [nI_1]
        refine ih (m + 1) h' (by omega) cs.1 s1 s2 ?_
        rw [← he]
        show _ = if _ then _ else _
        rw [if_neg (fun y => z (if_pos y))]
      · rw [i_eq, ex, ti_m1] at z
        rw [nI_1]
        have y : exP (earI p0) F j num n m = n := Classical.byContradiction (fun y => by rw [if_neg y] at z; omega)
        have he' : exN (exP (earI p0) F j num n) n 10 0 = m := by
          rw [← he]
          show (if _ then _ else _) = _
          rw [if_pos y]
        have nm : ¬ nI m = -1 := fun w => by rw [i_eq, em, ti_m1] at w; omega
        have fin : vp_in l1 4 ∧ ((¬ nI m = (-1) → Q (nI m) (sI h' 3 (Int32.toNatClampNeg l1) l3)) ∧ (nI m = (-1) → EvI G d mX11_refuse [.inr (.inr (some 0)), .inl 2] (sI h' 3 (Int32.toNatClampNeg l1) l3) (fun x19 h18 => Q x19 h18))) :=
          ⟨in1, fun _ => by rw [cl_of ej]; exact k _ _ (back h' cs.1 s1 s2) (by omega) (by rw [he']; exact em), fun w => absurd w nm⟩
        exact vc_X11_explained_61 cs.1 ⟨fun _ => fin, fun _ => ⟨fun _ => fin, fun w => absurd w nm⟩⟩
theorem rg_explM {h0 : Hp} {p0 p1 : List Int32} {l1 l2 l3 : Int32} {j s n : Nat} {num : Nat → Int} (hd : 90 ≤ d) (hR0 : RF h0) (ok : OKF 99999 (vM h0)) (T : TxM h0 95 p0 p1) (ej : l1.toInt = j) (hj : j < 4) (es : l2.toInt = s) (hs : s < 4) (hl : (h0.1 115 s).toInt = n) (hn : n ≤ 40) (hnum : ∀ i, i < n → (h0.1 116 (40 * s + i)).toInt = num i) (h3 : l3 = h0.1 95 (11 + 5 * j))
    (kn : ∀ h', MZ h0 h' → exN (exP (earI p0) (vM h0) j num n) n 10 0 = -1 → EvI G d mX12_finds [.inr (.inr (some 94)), .inl 2] h' (fun x19 h18 => Q x19 h18))
    (k : ∀ h' x, MZ h0 h' → 0 ≤ exN (exP (earI p0) (vM h0) j num n) n 10 0 → x.toInt = exN (exP (earI p0) (vM h0) j num n) n 10 0 → Q x h') : ∀ (q m : Nat) (h : Hp), m + q = 10 → RF h → (∀ a, ¬ scr a → a ≠ 94 → a ≠ 95 → h.1 a = h0.1 a) → (h.1 94 3 = h0.1 94 3 ∧ h.1 94 32 = h0.1 94 32) → (∀ t, t ≠ 11 + 5 * j → h.1 95 t = h0.1 95 t) → exN (exP (earI p0) (vM h0) j num n) n q m = exN (exP (earI p0) (vM h0) j num n) n 10 0 → Rg_X12_explained_49 G d l1 l2 l3 (-1) (nI m) h Q := by
  have in2 : vp_in l2 4 := in_of (by omega) (by omega)
  have back : ∀ h : Hp, RF h → (∀ a, ¬ scr a → a ≠ 94 → a ≠ 95 → h.1 a = h0.1 a) → (h.1 94 3 = h0.1 94 3 ∧ h.1 94 32 = h0.1 94 32) → (∀ t, t ≠ 11 + 5 * j → h.1 95 t = h0.1 95 t) → MZ h0 (sI h 95 (11 + 5 * j) l3) := fun h r0 r1 r4 r2 => by
    refine ⟨r0, fun a a1 a2 => ?_, by rw [sI_ne (by omega)]; exact r4.1, by rw [sI_ne (by omega)]; exact r4.2⟩
    by_cases ha : a = 95
    · subst ha
      funext t
      by_cases ht : t = 11 + 5 * j
      · rw [ht, sI_self, h3]
      · rw [sI_ne (by omega), r2 t ht]
    · rw [sI_row_ne ha, r1 a a1 a2 ha]
  have m1 : ¬ (0 : Int32) ≤ -1 := by decide
  intro q
  induction q with
  | zero =>
    intro m h hm r0 r1 r4 r2 he
    have : m = 10 := by omega
    subst this
    refine vc_X12_explained_49 r0 ⟨fun _ => ev_sets r0 (by omega) (eq_nI ej) (w := 1) rfl (by omega) (by omega) ?_, fun z => absurd (by decide) z⟩
    rw [show 10 + 5 * j + 1 = 11 + 5 * j by omega]
    exact ⟨fun z => absurd z m1, fun _ => kn _ (back h r0 r1 r4 r2) he.symm⟩
  | succ q ih =>
    intro m h hm r0 r1 r4 r2 he
    have em : (nI m).toInt = (m : Int) := ti_nI (by omega)
    refine vc_X12_explained_49 r0 ⟨fun z => ?_, fun _ => ⟨fun z => absurd z m1, fun _ => ev_sets r0 (by omega) (eq_nI ej) (w := 1) rfl (by omega) (by omega) ?_⟩⟩
    · exfalso
      rw [i_lt, em] at z
      simp only [Int32.reduceToInt] at z
      omega
    · rw [show 10 + 5 * j + 1 = 11 + 5 * j by omega]
      have v1 : vM (sI h 95 (11 + 5 * j) (nI m)) = mF (vM h0) j m := by
        rw [vM_sI, em]
        unfold mF
        funext i
        unfold upI
        by_cases hi : i = 11 + 5 * j
        · rw [if_pos hi, if_pos hi]
        · rw [if_neg hi, if_neg hi]
          show (h.1 95 i).toInt = _
          rw [r2 i hi]
      have okm := OKF_m (m := m) ok hj (by omega)
      have f115 : (sI h 95 (11 + 5 * j) (nI m)).1 115 = h0.1 115 := by rw [sI_row_ne (by omega), r1 115 (by unfold scr; omega) (by omega) (by omega)]
      have f116 : (sI h 95 (11 + 5 * j) (nI m)).1 116 = h0.1 116 := by rw [sI_row_ne (by omega), r1 116 (by unfold scr; omega) (by omega) (by omega)]
      have T' : TxM (sI h 95 (11 + 5 * j) (nI m)) 95 p0 p1 := TxM_eq (fun t t1 _ => by rw [sI_ne (by omega), r2 t (by omega)]) T
      refine ev_floors (B := 99999) (num := num) (n := n) (RF_sI r0) (by omega) (by rw [v1]; exact okm) (by omega) T' es hs (by rw [f115]; exact hl) hn (fun i hi => by rw [f116]; exact hnum i hi) (fun h' x mz ex => ⟨in2, ?_⟩)
      rw [v1] at ex
      have s1 : ∀ a, ¬ scr a → a ≠ 94 → a ≠ 95 → h'.1 a = h0.1 a := fun a a1 a2 a3 => by rw [mz.2.1 a a1 a2, sI_row_ne a3, r1 a a1 a2 a3]
      have s4 : h'.1 94 3 = h0.1 94 3 ∧ h'.1 94 32 = h0.1 94 32 := ⟨by rw [mz.2.2.1, sI_ne (by omega)]; exact r4.1, by rw [mz.2.2.2, sI_ne (by omega)]; exact r4.2⟩
      have s2 : ∀ t, t ≠ 11 + 5 * j → h'.1 95 t = h0.1 95 t := fun t ht => by rw [mz.2.1 95 (by unfold scr; omega) (by omega), sI_ne (by omega), r2 t ht]
      have ue : exP (earI p0) (vM h0) j num n m = unl (flo (earI p0) (mF (vM h0) j m)) num n 0 := rfl
      rw [← ue] at ex
      have hx : h'.1 115 s = h0.1 115 s := by rw [s1 115 (by unfold scr; omega) (by omega) (by omega)]
      rw [cl_of es, nI_1, hx]
      refine ⟨fun z => ?_, fun z => ?_⟩
      · rw [i_eq, ex, hl] at z
        refine ih (m + 1) h' (by omega) mz.1 s1 s4 s2 ?_
        rw [← he]
        show _ = if _ then _ else _
        rw [if_neg (fun y => z (by rw [y]))]
      · rw [i_eq, ex, hl] at z
        have y : exP (earI p0) (vM h0) j num n m = n := by omega
        have he' : exN (exP (earI p0) (vM h0) j num n) n 10 0 = m := by
          rw [← he]
          show (if _ then _ else _) = _
          rw [if_pos y]
        have nm : 0 ≤ nI m := by rw [i_le, em]; show (0 : Int) ≤ _; omega
        have fin : EvV G d mX12_sets [.inr (.inr (some 94)), .inl l1, .inl 1, .inl l3] h' (fun h17 => ((0 ≤ nI m → Q (nI m) h17) ∧ (¬ 0 ≤ nI m → EvI G d mX12_finds [.inr (.inr (some 94)), .inl 2] h17 (fun x20 h19 => Q x20 h19)))) := by
          refine ev_sets mz.1 (by omega) (eq_nI ej) (w := 1) rfl (by omega) (by omega) ?_
          rw [show 10 + 5 * j + 1 = 11 + 5 * j by omega]
          exact ⟨fun _ => k _ _ (back h' mz.1 s1 s4 s2) (by omega) (by rw [he']; exact em), fun w => absurd nm w⟩
        exact vc_X12_explained_49 mz.1 ⟨fun _ => fin, fun _ => ⟨fun _ => fin, fun w => absurd nm w⟩⟩
theorem M_expl {F : Nat → Int} {a1 a2 : Int32} {p0 p1 : List Int32} (eF : vM h = F) (hR : RF h) (hd : 95 ≤ d) (ok : OKF 99999 F) (T : TxM h 95 p0 p1) (hn : ∀ s, s < 4 → 0 ≤ (h.1 115 s).toInt ∧ (h.1 115 s).toInt ≤ 40) (k1 : ¬ ((0 ≤ a1.toInt ∧ a1.toInt < F 0) ∧ (0 ≤ a2.toInt ∧ a2.toInt ≤ 3)) → Q (er 1) (sI h 98 1 (h.1 98 1 + 1)))
    (k2 : ∀ j s : Nat, a1.toInt = j → (j : Int) < F 0 → a2.toInt = s → s < 4 → h.1 114 s = 0 → Q (er 2) (sI h 98 2 (h.1 98 2 + 1)))
    (kn : ∀ (j s : Nat) (h' : Hp), a1.toInt = j → (j : Int) < F 0 → a2.toInt = s → s < 4 → h.1 114 s ≠ 0 → MZ h h' → exN (exP (earI p0) F j (fun i => (h.1 116 (40 * s + i)).toInt) (h.1 115 s).toInt.toNat) (h.1 115 s).toInt.toNat 10 0 = -1 → Q (er 2) (sI h' 98 2 (h'.1 98 2 + 1)))
    (k : ∀ (j s : Nat) (h' : Hp) (x : Int32), a1.toInt = j → (j : Int) < F 0 → a2.toInt = s → s < 4 → h.1 114 s ≠ 0 → MZ h h' → 0 ≤ exN (exP (earI p0) F j (fun i => (h.1 116 (40 * s + i)).toInt) (h.1 115 s).toInt.toNat) (h.1 115 s).toInt.toNat 10 0 → x.toInt = exN (exP (earI p0) F j (fun i => (h.1 116 (40 * s + i)).toInt) (h.1 115 s).toInt.toNat) (h.1 115 s).toInt.toNat 10 0 → Q x h') : EvI G d mX12_explained [.inr (.inr (some 94)), .inl a1, .inl a2] h Q := by
  obtain ⟨e, rfl⟩ := dpos (show 1 ≤ d by omega)
  subst eF
  have o0 := ok.1
  refine vc_X12_explained hR (ev_isParty hR (by omega) (by omega) (br2 (fun c => ev_isSheet hR (by omega) (br2' (fun c2 => ⟨in_of (by omega) (by omega), ?_⟩) (fun c2 => ev_finds hR (by omega) (n := 1) rfl (by omega) (k1 (fun z => c2 z.2))))) (fun c => ev_finds hR (by omega) (n := 1) rfl (by omega) (k1 (fun z => c z.1)))))
  obtain ⟨j, ej⟩ : ∃ j : Nat, a1.toInt = j := ⟨a1.toInt.toNat, by omega⟩
  obtain ⟨s, es⟩ : ∃ s : Nat, a2.toInt = s := ⟨a2.toInt.toNat, by omega⟩
  have hs : s < 4 := by omega
  have nn := hn s hs
  rw [cl_of es]
  refine ⟨fun c3 => ev_of hR (by omega) (eq_nI ej) (w := 1) rfl (by omega) (by omega) ?_, fun c3 => ev_finds hR (by omega) (n := 2) rfl (by omega) (k2 j s ej (by omega) es hs c3)⟩
  rw [show 10 + 5 * j + 1 = 11 + 5 * j by omega]
  exact rg_explM (j := j) (s := s) (n := (h.1 115 s).toInt.toNat) (num := fun i => (h.1 116 (40 * s + i)).toInt) (by omega) hR ok T ej (by omega) es hs (by omega) (by omega) (fun i _ => rfl) rfl (fun h' mz ez => ev_finds mz.1 (by omega) (n := 2) rfl (by omega) (kn j s h' ej (by omega) es hs c3 mz ez)) (fun h' x mz ez ex => k j s h' x ej (by omega) es hs c3 mz ez ex) 10 0 h (by omega) hR (fun _ _ _ _ => rfl) ⟨rfl, rfl⟩ (fun _ _ => rfl) rfl
theorem step_explained {a1 a2 : Int32} (I : Inv h) (hd : 100 ≤ d) : EvI G d mX11_explained [.inr (.inr (some 0)), .inl a1, .inl a2] h (fun x h1 => EvI G d mX12_explained [.inr (.inr (some 94)), .inl a1, .inl a2] h1 (fun y h2 => x = y ∧ Inv h2)) := by
  have hd' := hd
  have hR := I.1
  have ok := I.ok
  have sh := I.sh
  have n0 := I.n
  obtain ⟨p0, p1, T, T0, T1⟩ := I.tx
  have hn : ∀ s, s < 4 → 0 ≤ (h.1 115 s).toInt ∧ (h.1 115 s).toInt ≤ 40 := fun s hs => by rw [← (sh s hs).2.1]; exact (sh s hs).2.2.2.1
  have rr : ∀ k v q, q ≠ 93 → (sI h 93 k v).1 q = h.1 q := fun k v q hq => sI_row_ne hq
  have hn' : ∀ k v s, s < 4 → 0 ≤ ((sI h 93 k v).1 115 s).toInt ∧ ((sI h 93 k v).1 115 s).toInt ≤ 40 := fun k v s hs => by rw [rr _ _ _ (by omega)]; exact hn s hs
  have kx : ∀ k v, TxM (sI h 93 k v) 95 p0 p1 := fun k v => TxM_eq (fun j _ _ => by rw [sI_ne (by omega)]) T
  obtain ⟨e, rfl⟩ := dpos (show 1 ≤ d by omega)
  have bad1 : ¬ ((0 ≤ a1.toInt ∧ a1.toInt < vM h 0) ∧ (0 ≤ a2.toInt ∧ a2.toInt ≤ 3)) → EvI G (e + 1) mX12_explained [.inr (.inr (some 94)), .inl a1, .inl a2] (sI h 93 1 (h.1 93 1 + 1)) (fun y h2 => er 1 = y ∧ Inv h2) := fun z =>
    M_expl (vM_lo (by omega)) (RF_sI hR) (by omega) ok (kx _ _) (hn' _ _) (fun _ => ⟨rfl, Inv_err I rfl⟩) (fun j s z1 z2 z3 z4 _ => absurd ⟨⟨by omega, by omega⟩, by omega, by omega⟩ z) (fun j s h' z1 z2 z3 z4 _ _ _ => absurd ⟨⟨by omega, by omega⟩, by omega, by omega⟩ z) (fun j s h' x z1 z2 z3 z4 _ _ _ _ => absurd ⟨⟨by omega, by omega⟩, by omega, by omega⟩ z)
  refine vc_X11_explained hR (ev_hasParty hR (by omega) (by omega) (br2 (fun c => ev_has hR (by omega) (br2' (fun c2 => ?_) (fun c2 => ev_refuse hR (by omega) (n := 1) rfl (by omega) (bad1 (fun z => c2 z.2))))) (fun c => ev_refuse hR (by omega) (n := 1) rfl (by omega) (bad1 (fun z => c (by omega))))))
  obtain ⟨j, ej⟩ : ∃ j : Nat, a1.toInt = j := ⟨a1.toInt.toNat, by omega⟩
  obtain ⟨s, es⟩ : ∃ s : Nat, a2.toInt = s := ⟨a2.toInt.toNat, by omega⟩
  have hs : s < 4 := by omega
  have shs := sh s hs
  have nn := hn s hs
  have okk : (0 ≤ a1.toInt ∧ a1.toInt < vM h 0) ∧ (0 ≤ a2.toInt ∧ a2.toInt ≤ 3) := ⟨by omega, c2⟩
  refine ev_isMissing hR (by omega) es hs (br2 (fun c3 => ?_) (fun c3 => ⟨in_of (by omega) (by omega), ?_⟩))
  · rw [shs.1] at c3
    refine ev_refuse hR (by omega) (n := 2) rfl (by omega) (M_expl (vM_lo (by omega)) (RF_sI hR) (by omega) ok (kx _ _) (hn' _ _) (fun z => absurd okk z) (fun j s z1 z2 z3 z4 _ => ⟨rfl, Inv_err I rfl⟩) (fun j' s' h' z1 z2 z3 z4 z5 _ _ => ?_) (fun j' s' h' x z1 z2 z3 z4 z5 _ _ _ => ?_)) <;> (exfalso; rw [rr _ _ _ (by omega), show s' = s by omega] at z5; exact z5 c3)
  · rw [shs.1] at c3
    rw [cl_of ej]
    have fm : ∀ h1 : Hp, MZ h h1 → h1.1 114 = h.1 114 ∧ h1.1 115 = h.1 115 ∧ h1.1 116 = h.1 116 := fun h1 mz => ⟨mz.2.1 114 (by unfold scr; omega) (by omega), mz.2.1 115 (by unfold scr; omega) (by omega), mz.2.1 116 (by unfold scr; omega) (by omega)⟩
    refine rg_explC (j := j) (s := s) (F := vM h) (n := (h.1 115 s).toInt.toNat) (num := fun i => (h.1 116 (40 * s + i)).toInt) (by omega) hR I.cf ok T0 ej (by omega) es hs (by rw [shs.2.1]; omega) (by omega) (fun i hi => by rw [shs.2.2.2.2 i (by omega)]) rfl (fun h1 mz ez => ?_) (fun h1 x mz ez ex => ?_) 10 0 h (by omega) hR (fun _ _ _ => rfl) (fun _ _ => rfl) rfl
    · have I1 := mz.inv I
      obtain ⟨f1, f2, f3⟩ := fm h1 mz
      have rr1 : ∀ q, q ≠ 93 → (sI h1 93 2 (h1.1 93 2 + 1)).1 q = h1.1 q := fun q hq => sI_row_ne hq
      refine ev_refuse mz.1 (by omega) (n := 2) rfl (by omega) (M_expl (F := vM h) (by rw [vM_lo (by omega)]; exact mz.v) (RF_sI mz.1) (by omega) ok (TxM_eq (fun j _ _ => by rw [sI_ne (by omega)]) (mz.tx T)) (fun q hq => by rw [rr1 115 (by omega), f2]; exact hn q hq) (fun z => absurd okk z) (fun j' s' z1 z2 z3 z4 z5 => ?_) (fun j' s' h' z1 z2 z3 z4 z5 mz2 ez2 => ⟨rfl, ?_⟩) (fun j' s' h' x z1 z2 z3 z4 z5 mz2 ez2 ex2 => ?_))
      · exfalso
        rw [rr1 _ (by omega), f1, show s' = s by omega] at z5
        exact c3 z5
      · have I3 := Inv_err I1 (k := 2) rfl
        rw [rr1 98 (by omega)] at I3
        have e98 : h'.1 98 = h1.1 98 := by rw [mz2.2.1 98 (by unfold scr; omega) (by omega), rr1 98 (by omega)]
        rw [e98]
        refine MZ.inv ⟨mz2.1, fun a a1 a2 => ?_, ?_, ?_⟩ I3
        · by_cases ha : a = 98
          · subst ha
            funext t
            by_cases ht : t = 2
            · rw [ht, sI_self, sI_self]
            · rw [sI_ne (by omega), sI_ne (by omega), e98, rr1 98 (by omega)]
          · rw [sI_row_ne ha, sI_row_ne ha, mz2.2.1 a a1 a2]
        · rw [sI_ne (by omega), sI_ne (by omega)]; exact mz2.2.2.1
        · rw [sI_ne (by omega), sI_ne (by omega)]; exact mz2.2.2.2
      · exfalso
        rw [rr1 115 (by omega), rr1 116 (by omega), f2, f3, show j' = j by omega, show s' = s by omega] at ez2
        omega
    · have I1 := mz.inv I
      obtain ⟨f1, f2, f3⟩ := fm h1 mz
      refine M_expl mz.v mz.1 (by omega) ok (mz.tx T) (fun q hq => by rw [f2]; exact hn q hq) (fun z => absurd okk z) (fun j' s' z1 z2 z3 z4 z5 => ?_) (fun j' s' h' z1 z2 z3 z4 z5 mz2 ez2 => ?_) (fun j' s' h' y z1 z2 z3 z4 z5 mz2 ez2 ey => ⟨?_, mz2.inv I1⟩)
      · exfalso
        rw [f1, show s' = s by omega] at z5
        exact c3 z5
      · exfalso
        rw [f2, f3, show j' = j by omega, show s' = s by omega] at ez2
        omega
      · rw [f2, f3, show j' = j by omega, show s' = s by omega] at ey
        rw [i_eq, ex, ey]
end
