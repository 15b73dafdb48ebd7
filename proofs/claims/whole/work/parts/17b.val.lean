/-! WHAT A TEXT GIVES, in the other one -/
theorem der_wf {B : Nat → Int32} {n u : Nat} {i' : Nat} {p : List Int32} (hn : n ≤ 50) (hu : u < 2) (D : Der (byt B n) u 0 0 0 [] true i' p) : wfP p := by
  obtain ⟨q, hq, H⟩ := (D _ (der_ref (base := 0) (by omega) hn hu)).1 (by omega)
  refine Or.inr (fun a b c => ?_)
  obtain ⟨v, hv, -⟩ := H a b c
  refine ⟨v, ?_⟩
  rw [hq rfl, List.nil_append]
  exact hv rfl []
def SKr (h : Hp) (r : Nat) : List Int32 → Prop
  | [] => True
  | x :: st => h.1 r st.length = x ∧ SKr h r st
theorem SKr_set {h : Hp} {r k : Nat} {v : Int32} : ∀ {st : List Int32}, SKr h r st → st.length ≤ k → SKr (sI h r k v) r st
  | [], _, _ => trivial
  | x :: st, s, hk => by
    have hk' : st.length + 1 ≤ k := hk
    exact ⟨by rw [sI_ne (by omega)]; exact s.1, SKr_set s.2 (by omega)⟩
theorem CT.refl {r : Nat} {h : Hp} (hR : RF h) : CT r h h := ⟨hR, rfl, fun _ _ => rfl⟩
theorem CT.trans {r : Nat} {h h1 h2 : Hp} (a : CT r h h1) (b : CT r h1 h2) : CT r h h2 := ⟨b.1, b.2.1.trans a.2.1, fun x p => (b.2.2 x p).trans (a.2.2 x p)⟩
theorem CT.s {r k : Nat} {v : Int32} {h : Hp} (hR : RF h) : CT r h (sI h r k v) := ⟨hR, rfl, fun b hb => by funext j; exact sI_ne (by omega)⟩
section
variable {G : GT} {d : Nat} {h : Hp} {Q : Int32 → Hp → Prop} {QW : Hp → Prop}
theorem ev_truth1 (hR : RF h) (hd : 1 ≤ d) (k : Q 1 h) : EvI G d mX10_truth [.inl 1] h Q := by
  obtain ⟨e, rfl⟩ := dpos hd
  exact vc_X10_truth hR ⟨fun z => absurd z (by decide), fun _ => k⟩
theorem ev_truth0 (hR : RF h) (hd : 1 ≤ d) (k : Q 0 h) : EvI G d mX10_truth [.inl 0] h Q := by
  obtain ⟨e, rfl⟩ := dpos hd
  exact vc_X10_truth hR ⟨fun _ => k, fun z => absurd rfl z⟩
theorem ev_joint {s x y : Int32} (hR : RF h) (hd : 2 ≤ d) (k : Q (jnt s x y) h) : EvI G d mX10_joint [.inl s, .inl x, .inl y] h Q := by
  obtain ⟨e, rfl⟩ := dpos (show 1 ≤ d by omega)
  have hd1 : 1 ≤ e := by omega
  refine vc_X10_joint hR ⟨fun c => ?_, fun c38 => ⟨fun c => ?_, fun c42 => ⟨fun c => ?_, fun c43 => ⟨fun c => ?_, fun c45 => ⟨fun c => ?_, fun c47 => ⟨fun c => ?_, fun c60 => ⟨fun c => ?_, fun c61 => ⟨fun c => ?_, fun c62 => ⟨fun c => ?_, fun c124 => ?_⟩⟩⟩⟩⟩⟩⟩⟩⟩
  · rw [show s = 38 from (i_eq _ _).mpr c, jnt_and] at k
    refine ⟨fun z => ev_truth0 hR hd1 ?_, fun z => ⟨fun w => ev_truth0 hR hd1 ?_, fun w => ev_truth1 hR hd1 ?_⟩⟩
    · rw [b2_f (fun q => q.1 z)] at k; exact k
    · rw [b2_f (fun q => q.2 w)] at k; exact k
    · rw [b2_t ⟨z, w⟩] at k; exact k
  · rw [show s = 42 from (i_eq _ _).mpr c, jnt_mul] at k
    exact k
  · rw [show s = 43 from (i_eq _ _).mpr c, jnt_add] at k
    exact k
  · rw [show s = 45 from (i_eq _ _).mpr c, jnt_sub] at k
    exact k
  · rw [show s = 47 from (i_eq _ _).mpr c, jnt_div] at k
    refine ⟨fun z => ⟨z, ?_⟩, fun z => ?_⟩
    · rw [if_neg z] at k; exact k
    · rw [if_pos z] at k; exact k
  · rw [show s = 60 from (i_eq _ _).mpr c, jnt_lt] at k
    refine ⟨fun z => ev_truth0 hR hd1 ?_, fun z => ev_truth1 hR hd1 ?_⟩
    · rw [b2_f (by rw [i_lt]; rw [i_le] at z; omega)] at k; exact k
    · rw [b2_t (by rw [i_lt]; rw [i_le] at z; omega)] at k; exact k
  · rw [show s = 61 from (i_eq _ _).mpr c, jnt_eq] at k
    refine ⟨fun z => ev_truth0 hR hd1 ?_, fun z => ev_truth1 hR hd1 ?_⟩
    · rw [b2_f z] at k; exact k
    · rw [b2_t z] at k; exact k
  · rw [show s = 62 from (i_eq _ _).mpr c, jnt_gt] at k
    refine ⟨fun z => ev_truth0 hR hd1 ?_, fun z => ev_truth1 hR hd1 ?_⟩
    · rw [b2_f (by rw [i_lt]; rw [i_le] at z; omega)] at k; exact k
    · rw [b2_t (by rw [i_lt]; rw [i_le] at z; omega)] at k; exact k
  · rw [show s = 124 from (i_eq _ _).mpr c, jnt_or] at k
    refine ⟨fun z => ev_truth1 hR hd1 ?_, fun z => ⟨fun w => ev_truth0 hR hd1 ?_, fun w => ev_truth1 hR hd1 ?_⟩⟩
    · rw [b2_t (Or.inl z)] at k; exact k
    · rw [b2_f (fun q => q.elim (fun r => r z) (fun r => r w))] at k; exact k
    · rw [b2_t (Or.inr w)] at k; exact k
  · rw [jnt_rem ⟨fun z => c124 (by rw [z]; rfl), fun z => c38 (by rw [z]; rfl), fun z => c60 (by rw [z]; rfl), fun z => c61 (by rw [z]; rfl), fun z => c62 (by rw [z]; rfl), fun z => c43 (by rw [z]; rfl), fun z => c45 (by rw [z]; rfl), fun z => c42 (by rw [z]; rfl), fun z => c47 (by rw [z]; rfl)⟩] at k
    refine ⟨fun z => ⟨z, ?_⟩, fun z => ?_⟩
    · rw [if_neg z] at k; exact k
    · rw [if_pos z] at k; exact k
theorem rg_value {t : Nat} {h0 : Hp} {p : List Int32} {a1 a2 a3 : Int32} (hd : 2 ≤ d) (ht : SH[t]? = some (.inl 9)) (T : TxC h0 t p) (k : ∀ h' st, CT (t + 2) h0 h' → st = evS a1 a2 a3 p [] → SKr h' (t + 2) st → Q (h'.1 (t + 2) 0) h') : ∀ (q : List Int32) (i : Nat) (st : List Int32) (h : Hp), (∀ j, q[j]? = p[i + j]?) → i + q.length = p.length → st.length ≤ i → evS a1 a2 a3 q st = evS a1 a2 a3 p [] → CT (t + 2) h0 h → SKr h (t + 2) st → Rg_X10_value_6 G d t a1 a2 a3 (nI st.length) (nI i) h Q := by
  obtain ⟨T1, ⟨T2, -⟩, T3⟩ := T
  intro q
  induction q with
  | nil =>
    intro i st h hq hl hst he m s
    have hl' : i = p.length := by simpa using hl
    have e2 : (h.1 t 2).toInt = (p.length : Int) := by rw [m.2.2 t (by omega)]; exact T1
    refine vc_X10_value_6 ht m.1 ⟨fun _ => k h st m he s, fun z => ?_⟩
    exfalso
    rw [i_le, e2, ti_nI (by omega)] at z
    omega
  | cons w q ih =>
    intro i st h hq hl hst he m s
    have hl' : i + (q.length + 1) = p.length := hl
    have e2 : (h.1 t 2).toInt = (p.length : Int) := by rw [m.2.2 t (by omega)]; exact T1
    have ei : (nI i).toInt = (i : Int) := ti_nI (by omega)
    have ew : h.1 (t + 1) i = w := by
      rw [m.2.2 (t + 1) (by omega), T3 i (by omega)]
      have := hq 0
      simp only [List.getElem?_cons_zero, Nat.add_zero] at this
      rw [List.getD_eq_getElem?_getD, ← this]
      rfl
    have hq' : ∀ j, q[j]? = p[i + 1 + j]? := fun j => by
      have := hq (j + 1)
      rw [List.getElem?_cons_succ] at this
      rw [this, show i + (j + 1) = i + 1 + j by omega]
    have en : nI i + 1 = nI (i + 1) := nI_1 i
    have next : ∀ st' h', st' = rpn1 a1 a2 a3 w st → st'.length ≤ i + 1 → CT (t + 2) h0 h' → SKr h' (t + 2) st' → Rg_X10_value_6 G d t a1 a2 a3 (nI st'.length) (nI (i + 1)) h' Q := fun st' h' es hs m' s' => ih (i + 1) st' h' hq' (by omega) hs (by rw [es]; exact he) m' s'
    refine vc_X10_value_6 ht m.1 ⟨fun z => ?_, fun _ => ⟨fun z => ?_, fun _ => ⟨in_of (by omega) (by omega), ?_⟩⟩⟩
    · exfalso
      rw [i_le, e2, ei] at z
      omega
    · exfalso
      rw [i_le, ei] at z
      simp only [Int32.reduceToInt] at z
      omega
    rw [cl_of ei, ew, en]
    refine ⟨fun c => ⟨fun c33 => ?_, fun c33 => ?_⟩, fun c => ⟨fun z => ?_, fun _ => ?_⟩⟩
    · have c' : ¬ -3 ≤ w := by rw [i_le]; rw [i_lt] at c; omega
      refine ev_within m.1 (by omega) ?_
      simp only [Int32.reduceToInt]
      rcases st with _ | ⟨y, _ | ⟨x, r⟩⟩
      · have es : ([] : List Int32) = rpn1 a1 a2 a3 w [] := by
          unfold rpn1
          rw [if_neg c', if_neg c33]
        refine ⟨fun _ => next _ _ es (by simp) m s, fun z => absurd (b2_f (by simp [ti_nI])) z⟩
      · have es : [y] = rpn1 a1 a2 a3 w [y] := by
          unfold rpn1
          rw [if_neg c', if_neg c33]
        refine ⟨fun _ => next _ _ es (by simp) m s, fun z => absurd (b2_f ?_) z⟩
        show ¬ (2 ≤ (nI 1).toInt ∧ _)
        rw [ti_nI (by omega)]
        omega
      · have es : jnt (-w) x y :: r = rpn1 a1 a2 a3 w (y :: x :: r) := by
          unfold rpn1
          rw [if_neg c', if_neg c33]
        obtain ⟨s1, s2, s3⟩ := s
        have hr : r.length + 2 ≤ i := hst
        have el : (nI (y :: x :: r).length).toInt = (r.length : Int) + 2 := by
          show (nI (r.length + 2)).toInt = _
          rw [ti_nI (by omega)]
          omega
        have e3 : (nI (y :: x :: r).length - 2).toInt = (r.length : Int) := by
          rw [ti_sub (by rw [el]; simp only [Int32.reduceToInt]; omega) (by rw [el]; simp only [Int32.reduceToInt]; omega), el]
          simp only [Int32.reduceToInt]
          omega
        have e4 : (nI (y :: x :: r).length - 1).toInt = ((r.length + 1 : Nat) : Int) := by
          rw [ti_sub (by rw [el]; simp only [Int32.reduceToInt]; omega) (by rw [el]; simp only [Int32.reduceToInt]; omega), el]
          simp only [Int32.reduceToInt]
          omega
        refine ⟨fun z => absurd z (by rw [b2_t ⟨by omega, by omega⟩]; decide), fun _ => ⟨in_of (by omega) (by omega), in_of (by omega) (by omega), ?_⟩⟩
        rw [cl_of e3, cl_of e4]
        have s1' : h.1 (t + 2) (r.length + 1) = y := s1
        rw [s1', s2]
        refine ev_joint m.1 (by omega) ⟨in_of (by omega) (by omega), ?_⟩
        have e5 : nI (y :: x :: r).length + (-1) = nI (jnt (-w) x y :: r).length := by
          show nI (r.length + 1 + 1) + (-1) = nI (r.length + 1)
          rw [← nI_m1 (r.length + 1), Int32.sub_eq_add_neg]
        rw [e5]
        refine next _ _ es (by show r.length + 1 ≤ _; omega) (m.trans (CT.s m.1)) ⟨sI_self _ _ _ _, SKr_set s3 (Nat.le_refl _)⟩
    · refine ev_within m.1 (by omega) ?_
      subst c33
      simp only [Int32.reduceToInt]
      rcases st with _ | ⟨x, r⟩
      · refine ⟨fun _ => next _ _ rfl (by simp) m s, fun z => absurd (b2_f ?_) z⟩
        show ¬ (1 ≤ (nI 0).toInt ∧ _)
        rw [ti_nI (by omega)]
        omega
      · have es : b2 (x = 0) :: r = rpn1 a1 a2 a3 (-33) (x :: r) := by
          unfold rpn1
          rw [if_neg (by decide), if_pos rfl]
        obtain ⟨s1, s3⟩ := s
        have hr : r.length + 1 ≤ i := hst
        have el : (nI (x :: r).length).toInt = (r.length : Int) + 1 := by
          show (nI (r.length + 1)).toInt = _
          rw [ti_nI (by omega)]
          omega
        have e4 : (nI (x :: r).length - 1).toInt = (r.length : Int) := by
          rw [ti_sub (by rw [el]; simp only [Int32.reduceToInt]; omega) (by rw [el]; simp only [Int32.reduceToInt]; omega), el]
          simp only [Int32.reduceToInt]
          omega
        refine ⟨fun z => absurd z (by rw [b2_t ⟨by omega, by omega⟩]; decide), fun _ => ⟨in_of (by omega) (by omega), ?_⟩⟩
        rw [cl_of e4, s1]
        refine ⟨fun z => ev_truth0 m.1 (by omega) ⟨in_of (by omega) (by omega), ?_⟩, fun z => ev_truth1 m.1 (by omega) ⟨in_of (by omega) (by omega), ?_⟩⟩
        · rw [b2_f z] at es
          exact next (0 :: r) _ es (by show r.length + 1 ≤ _; omega) (m.trans (CT.s m.1)) ⟨sI_self _ _ _ _, SKr_set s3 (Nat.le_refl _)⟩
        · rw [b2_t z] at es
          exact next (1 :: r) _ es (by show r.length + 1 ≤ _; omega) (m.trans (CT.s m.1)) ⟨sI_self _ _ _ _, SKr_set s3 (Nat.le_refl _)⟩
    · exfalso
      rw [i_le, ti_nI (by omega)] at z
      simp only [Int32.reduceToInt] at z
      omega
    · have c' : -3 ≤ w := by rw [i_le]; rw [i_lt] at c; omega
      have el : (nI st.length).toInt = (st.length : Int) := ti_nI (by omega)
      have hin : vp_in (nI st.length) 50 := in_of (by omega) (by omega)
      rw [cl_of el, nI_1]
      have push : ∀ x, x = (if 0 ≤ w then w else if w = -1 then a1 else if w = -2 then a2 else a3) → Rg_X10_value_6 G d t a1 a2 a3 (nI (st.length + 1)) (nI (i + 1)) (sI h (t + 2) st.length x) Q := by
        intro x hx
        refine next (x :: st) _ ?_ (by show st.length + 1 ≤ _; omega) (m.trans (CT.s m.1)) ⟨sI_self _ _ _ _, SKr_set s (Nat.le_refl _)⟩
        unfold rpn1
        rw [if_pos c', hx]
      refine ⟨fun z => ?_, fun z => ⟨hin, push _ ?_⟩⟩
      · have z' : ¬ 0 ≤ w := by rw [i_le]; rw [i_lt] at z; omega
        rw [if_neg z'] at push
        refine ⟨fun c1 => ⟨fun c2 => ⟨hin, push _ ?_⟩, fun c2 => ⟨hin, push _ ?_⟩⟩, fun c1 => ⟨hin, push _ ?_⟩⟩
        · rw [if_neg c1, if_neg c2]
        · rw [if_neg c1, if_pos c2]
        · rw [if_pos c1]
      · have z' : 0 ≤ w := by rw [i_le]; rw [i_lt] at z; omega
        rw [if_pos z']
theorem ev_value {t : Nat} {p : List Int32} {a1 a2 a3 : Int32} (hR : RF h) (hd : 3 ≤ d) (ht : SH[t]? = some (.inl 9)) (T : TxC h t p) (hne : p ≠ []) (k : ∀ h', CT (t + 2) h h' → Q (evP p a1 a2 a3) h') : EvI G d mX10_value [.inr (.inr (some t)), .inl a1, .inl a2, .inl a3] h Q := by
  obtain ⟨e, rfl⟩ := dpos (show 1 ≤ d by omega)
  refine vc_X10_value ht hR (rg_value (by omega) ht T (fun h' st m es s => ?_) p 0 [] h (fun j => by rw [Nat.zero_add]) (by omega) (by simp) rfl (CT.refl hR) trivial)
  rcases T.2.1.2 with z | z
  · exact absurd z hne
  · obtain ⟨v, hv⟩ := z a1 a2 a3
    have e1 : evP p a1 a2 a3 = v := by unfold evP; rw [hv]; rfl
    have := k h' m
    rw [e1] at this
    rw [es, hv] at s
    rw [show h'.1 (t + 2) 0 = v from s.1]
    exact this
theorem ev_heldC {a0 a1 a2 : Int32} (hR : RF h) (hd : 1 ≤ d) (h12 : a1.toInt ≤ a2.toInt) (k : Q (hd3 a0 a1 a2) h) : EvI G d mX11_held [.inl a0, .inl a1, .inl a2] h Q := by
  obtain ⟨e, rfl⟩ := dpos hd
  refine vc_X11_held hR ?_
  have e1 : (if a1 < (if a0 < a2 then a0 else a2) then (if a0 < a2 then a0 else a2) else a1) = hd3 a0 a1 a2 := by
    rw [i_eq]
    unfold hd3
    simp only [i_lt]
    split <;> split <;> split <;> (try split) <;> omega
  rw [e1]
  exact k
theorem ev_earBy {a1 a2 a3 : Int32} {p0 : List Int32} (hR : RF h) (hd : 5 ≤ d) (T : TxC h 13 p0) (k : ∀ h', CT 15 h h' → Q (tgP 0 p0 a1 a2 a3) h') : EvI G d mX9_earBy [.inr (.inr (some 1)), .inl a1, .inl a2, .inl a3] h Q := by
  obtain ⟨e, rfl⟩ := dpos (show 1 ≤ d by omega)
  obtain ⟨e, rfl⟩ := dpos (show 1 ≤ e by omega)
  have T1 := T.1
  refine vc_X9_earBy hR (vc_X10_isThere rfl hR ⟨fun z => ?_, fun z => ?_⟩)
  · rw [i_le, T1] at z
    simp only [Int32.reduceToInt] at z
    have hp : p0 = [] := List.length_eq_zero_iff.mp (by omega)
    subst hp
    exact ⟨fun _ => ev_heldC hR (by omega) (by decide) (k h (CT.refl hR)), fun y => absurd rfl y⟩
  · rw [i_le, T1] at z
    simp only [Int32.reduceToInt] at z
    have hp : p0 ≠ [] := fun q => by rw [q] at z; simp at z
    refine ⟨fun y => absurd y (by decide), fun _ => ev_value hR (by omega) rfl T hp (fun h' m => ev_heldC m.1 (by omega) (by decide) ?_)⟩
    have := k h' m
    unfold tgP at this
    rw [if_neg hp, if_pos rfl] at this
    exact this
theorem ev_spillBy {a1 a2 a3 : Int32} {p1 : List Int32} (hR : RF h) (hd : 5 ≤ d) (h0 : 0 ≤ a1.toInt) (T : TxC h 16 p1) (k : ∀ h', CT 18 h h' → Q (tgP 1 p1 a1 a2 a3) h') : EvI G d mX9_spillBy [.inr (.inr (some 1)), .inl a1, .inl a2, .inl a3] h Q := by
  obtain ⟨e, rfl⟩ := dpos (show 1 ≤ d by omega)
  obtain ⟨e, rfl⟩ := dpos (show 1 ≤ e by omega)
  have T1 := T.1
  refine vc_X9_spillBy hR (vc_X10_isThere rfl hR ⟨fun z => ?_, fun z => ?_⟩)
  · rw [i_le, T1] at z
    simp only [Int32.reduceToInt] at z
    have hp : p1 = [] := List.length_eq_zero_iff.mp (by omega)
    subst hp
    refine ⟨fun _ => ev_heldC hR (by omega) (by simp only [Int32.reduceToInt]; omega) ?_, fun y => absurd rfl y⟩
    have := k h (CT.refl hR)
    unfold tgP at this
    rw [if_pos rfl, if_neg (by omega), if_neg (by omega)] at this
    exact this
  · rw [i_le, T1] at z
    simp only [Int32.reduceToInt] at z
    have hp : p1 ≠ [] := fun q => by rw [q] at z; simp at z
    refine ⟨fun y => absurd y (by decide), fun _ => ev_value hR (by omega) rfl T hp (fun h' m => ev_heldC m.1 (by omega) (by simp only [Int32.reduceToInt]; omega) ?_)⟩
    have := k h' m
    unfold tgP at this
    rw [if_neg hp, if_neg (by omega)] at this
    exact this
end
