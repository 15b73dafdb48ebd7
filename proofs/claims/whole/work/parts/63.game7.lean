/-! game: the reference's search -/
section
variable {G : GT} {d : Nat} {h : Hp} {Q : Int32 → Hp → Prop} {QW : Hp → Prop}
/-- what a turn of the reference leaves: what stood below level a, the picks below b -/
def FR (a b : Nat) (h h' : Hp) : Prop := RF h' ∧ (∀ x, x ≠ 94 → x ≠ 95 → x ≠ 99 → ¬ (107 ≤ x ∧ x ≤ 111) → h'.1 x = h.1 x) ∧ (∀ k, (k < 5 ∨ 10 < k) → h'.1 94 k = h.1 94 k) ∧ (∀ j, 90 ≤ j → h'.1 95 j = h.1 95 j) ∧ (∀ t, t < 90 * a → h'.1 107 t = h.1 107 t) ∧ (∀ x t, 108 ≤ x → x ≤ 111 → t < b → h'.1 x t = h.1 x t)
theorem FR.refl {a b : Nat} (hR : RF h) : FR a b h h := ⟨hR, fun _ _ _ _ _ => rfl, fun _ _ => rfl, fun _ _ => rfl, fun _ _ => rfl, fun _ _ _ _ _ => rfl⟩
theorem FR.trans {a b : Nat} {h1 h2 : Hp} (p : FR a b h h1) (q : FR a b h1 h2) : FR a b h h2 := ⟨q.1, fun x z1 z2 z3 z4 => (q.2.1 x z1 z2 z3 z4).trans (p.2.1 x z1 z2 z3 z4), fun k z => (q.2.2.1 k z).trans (p.2.2.1 k z), fun k z => (q.2.2.2.1 k z).trans (p.2.2.2.1 k z), fun k z => (q.2.2.2.2.1 k z).trans (p.2.2.2.2.1 k z), fun x k z1 z2 z => (q.2.2.2.2.2 x k z1 z2 z).trans (p.2.2.2.2.2 x k z1 z2 z)⟩
theorem FR.le {a b a' b' : Nat} {h1 : Hp} (p : FR a b h h1) (ha : a' ≤ a) (hb : b' ≤ b) : FR a' b' h h1 := ⟨p.1, p.2.1, p.2.2.1, p.2.2.2.1, fun t ht => p.2.2.2.2.1 t (by omega), fun x t z1 z2 z => p.2.2.2.2.2 x t z1 z2 (by omega)⟩
theorem FR.ms {a b : Nat} {h1 : Hp} (m : MS h h1) : FR a b h h1 := ⟨m.1, fun x z1 z2 z3 _ => m.2.2.1 x z1 z2 z3, m.2.2.2.1, m.2.2.2.2, fun t _ => by rw [m.2.2.1 107 (by omega) (by omega) (by omega)], fun x t z1 z2 _ => by rw [m.2.2.1 x (by omega) (by omega) (by omega)]⟩
theorem FR.s {a b x t : Nat} {v : Int32} (hR : RF h) (hx : 108 ≤ x ∧ x ≤ 111) (ht : b ≤ t) : FR a b h (sI h x t v) := ⟨hR, fun y _ _ _ z => by funext j; rw [sI_ne (by omega)], fun k _ => sI_ne (by omega), fun j _ => sI_ne (by omega), fun j _ => sI_ne (by omega), fun y j _ _ z => sI_ne (by omega)⟩
theorem FR.bk {a b o : Nat} (hR : RF h) : FR a b h (cpI h 107 o 95 0 90) := ⟨hR, fun y _ z _ _ => by funext j; rw [cpI_at, if_neg (by omega)], fun k _ => by rw [cpI_at, if_neg (by omega)], fun j z => by rw [cpI_at, if_neg (by omega)], fun j _ => by rw [cpI_at, if_neg (by omega)], fun y j _ _ z => by rw [cpI_at, if_neg (by omega)]⟩
theorem FR.st {l : Nat} (hR : RF h) : FR l l h (sI (sI (cpI h 95 0 107 (90 * l) 90) 108 l (-1)) 110 l (-1)) := ⟨hR, fun y _ _ _ z => by funext j; rw [sI_ne (by omega), sI_ne (by omega), cpI_at, if_neg (by omega)], fun k _ => by rw [sI_ne (by omega), sI_ne (by omega), cpI_at, if_neg (by omega)], fun j _ => by rw [sI_ne (by omega), sI_ne (by omega), cpI_at, if_neg (by omega)], fun j z => by rw [sI_ne (by omega), sI_ne (by omega), cpI_at, if_neg (by omega)], fun y j _ _ z => by rw [sI_ne (by omega), sI_ne (by omega), cpI_at, if_neg (by omega)]⟩
theorem FR.tx {a b : Nat} {h1 : Hp} {p0 p1 : List Int32} (p : FR a b h h1) (T : TxM h 95 p0 p1) : TxM h1 95 p0 p1 := TxM_eq (fun j z _ => p.2.2.2.1 j z) T
/-- what stands at a level -/
def SL (l : Nat) (F : Nat → Int) (h : Hp) : Prop := (∀ k, k < 90 → (h.1 107 (90 * l + k)).toInt = F k) ∧ ∀ k, 90 ≤ k → (h.1 95 k).toInt = F k
theorem SL.fr {l b : Nat} {F : Nat → Int} {h1 : Hp} (s : SL l F h) (p : FR (l + 1) b h h1) : SL l F h1 := ⟨fun k hk => by rw [p.2.2.2.2.1 _ (by omega)]; exact s.1 k hk, fun k hk => by rw [p.2.2.2.1 k hk]; exact s.2 k hk⟩
theorem SL.v {l : Nat} {F : Nat → Int} (s : SL l F h) : vM (cpI h 107 (90 * l) 95 0 90) = F := by
  funext k
  show ((cpI h 107 (90 * l) 95 0 90).1 95 k).toInt = F k
  rw [cpI_at]
  by_cases c : k < 90
  · rw [if_pos (by omega), show 90 * l + (k - 0) = 90 * l + k by omega]
    exact s.1 k c
  · rw [if_neg (by omega)]
    exact s.2 k (by omega)
theorem SL.st {l : Nat} {F : Nat → Int} (hv : vM h = F) : SL l F (sI (sI (cpI h 95 0 107 (90 * l) 90) 108 l (-1)) 110 l (-1)) := ⟨fun k hk => by
    rw [sI_ne (by omega), sI_ne (by omega), cpI_at, if_pos (by omega), ← hv, show 0 + (90 * l + k - 90 * l) = k by omega], fun k hk => by
    rw [sI_ne (by omega), sI_ne (by omega), cpI_at, if_neg (by omega), ← hv]⟩
theorem pkS_rd {F : Nat → Int} {p : Int} {i : Nat} : ∀ (m w n x : Nat), pkS F p i m w n = some x → rdy F x
  | 0, _, _, _, e => by cases e
  | m + 1, w, n, x, e => by
    rw [pkS_s] at e
    split at e
    · split at e
      · split at e
        · rename_i r
          cases e
          exact r
        · cases e
      · exact pkS_rd m _ _ x e
    · exact pkS_rd m _ _ x e
theorem pkL_n {F : Nat → Int} {p : Int} {m w n c i : Nat} (e : pkS F p i m w n = none) : pkL F p m w n (c + 1) i = pkL F p m w n c (i + 1) := by
  show (match pkS F p i m w n with | none => [] | some x => [x]) ++ pkL F p m w n c (i + 1) = _
  rw [e]
  rfl
theorem pkL_c {F : Nat → Int} {p : Int} {m w n c i x : Nat} (e : pkS F p i m w n = some x) : pkL F p m w n (c + 1) i = x :: pkL F p m w n c (i + 1) := by
  show (match pkS F p i m w n with | none => [] | some x => [x]) ++ pkL F p m w n c (i + 1) = _
  rw [e]
  rfl
theorem foG_neg {l : Nat} {ch : Nat → Int32} {L : List Nat} {w : Nat} {a a' : Int32 × Int32} (h1 : a.1 < 0) (h2 : a'.1 < 0) : foG l ch (L ++ [w]) a = foG l ch (L ++ [w]) a' := by
  cases L with
  | nil =>
    show tkG l a (nI w) (ch w) = tkG l a' (nI w) (ch w)
    unfold tkG
    rw [if_pos (Or.inl h1), if_pos (Or.inl h2)]
  | cons x L =>
    show foG l ch (L ++ [w]) (tkG l a (nI x) (ch x)) = foG l ch (L ++ [w]) (tkG l a' (nI x) (ch x))
    unfold tkG
    rw [if_pos (Or.inl h1), if_pos (Or.inl h2)]
/-- what comes when a turn has its word -/
abbrev TlG (G : GT) (d : Nat) (l1 l2 l3 l4 l5 x : Int32) (h : Hp) (Q : Hp → Prop) : Prop := ((¬ (l5 + 1) = l3 → EvV G d mX12_standsAt [.inr (.inr (some 94)), .inl (l5 + 1)] h (fun h18 => Rg_X12_findGame_50 G d l1 l2 l3 l4 (l5 + 1) h18 Q)) ∧ ((l5 + 1) = l3 → EvI G d mX12_of [.inr (.inr (some 94)), .inl l1, .inl 4] h (fun x20 h19 => EvI G d mX12_of [.inr (.inr (some 94)), .inl l2, .inl 4] h19 (fun x22 h21 => EvV G d mX12_comesTo [.inr (.inr (some 94)), .inl l5, .inl x, .inl ((x20 - x22) - l4)] h21 (fun h23 => Rg_X12_findGame_50 G d l1 l2 l3 l4 l5 h23 Q)))))
section
variable {p1 p2 N n0 : Nat} {bgn : Int32} {p0 q0 : List Int32}
def SeaG (G : GT) (d p1 p2 N n0 : Nat) (bgn : Int32) (p0 q0 : List Int32) (f : Nat) : Prop := ∀ (g l r i : Nat) (F : Nat → Int) (h : Hp) (Q : Hp → Prop), f = g + 1 → l + f = N → i + r = 4 → RF h → SL l F h → OKF (99999 + 30 * l) F → F 5 = 0 → F 0 = n0 → TxM h 95 p0 q0 → h.1 108 l + 1 = nI i → (∀ h', FR (l + 1) l h h' → (h'.1 110 l, h'.1 109 l) = foG l (fun w => (gmV (earI p0) p1 p2 bgn g (l + 1) (if w = 12 then F else goF (earI p0) F w)).2) (pkL F ((if l % 2 = 0 then p1 else p2 : Nat) : Int) (F 1).toNat 0 0 r i ++ [12]) (h.1 110 l, h.1 109 l) → h'.1 108 l = 4 → Rg_X12_findGame_50 G d (nI p1) (nI p2) (nI N) bgn (nI l) h' Q) → Rg_X12_findGame_50 G d (nI p1) (nI p2) (nI N) bgn (nI l) h Q
theorem come_pair {l : Nat} {w v : Int32} {h' : Hp} (e : h' = (if h.1 110 l < 0 ∨ btS l v (h.1 109 l) then sI (sI h 109 l v) 110 l w else h)) (hR : RF h) : FR (l + 1) l h h' ∧ (h'.1 110 l, h'.1 109 l) = tkG l (h.1 110 l, h.1 109 l) w v ∧ h'.1 108 = h.1 108 := by
  subst e
  unfold tkG
  by_cases c : h.1 110 l < 0 ∨ btS l v (h.1 109 l)
  · rw [if_pos c, if_pos c]
    refine ⟨(FR.s hR (by omega) (Nat.le_refl _)).trans (FR.s (RF_sI hR) (by omega) (Nat.le_refl _)), ?_, by funext t; rw [sI_ne (by omega), sI_ne (by omega)]⟩
    rw [sI_self, sI_ne (by omega), sI_self]
  · rw [if_neg c, if_neg c]
    exact ⟨FR.refl hR, rfl, rfl⟩
theorem rg_val {f l w : Nat} {F : Nat → Int} {Q : Hp → Prop} (hd : 86 ≤ d) (hN : N ≤ 4) (h1 : p1 < 4) (h2 : p2 < 4) (hl : l + (f + 1) = N) (A : SeaG G d p1 p2 N n0 bgn p0 q0 f) (hR : RF h) (hv : vM h = F) (ok : OKF (99999 + 30 * ((l + 1 : Nat) : Int)) F) (f5 : F 5 = 0) (f0 : F 0 = n0) (T : TxM h 95 p0 q0) (ew : h.1 111 l = nI w) (K : ∀ h', FR (l + 1) l h h' → (h'.1 110 l, h'.1 109 l) = tkG l (h.1 110 l, h.1 109 l) (nI w) (gmV (earI p0) p1 p2 bgn f (l + 1) F).2 → h'.1 108 l = h.1 108 l → Rg_X12_findGame_50 G d (nI p1) (nI p2) (nI N) bgn (nI l) h' Q) : TlG G d (nI p1) (nI p2) (nI N) bgn (nI l) (nI w) h Q := by
  have el : (nI l).toInt = (l : Int) := ti_nI (by omega)
  have el1 : (nI (l + 1)).toInt = ((l + 1 : Nat) : Int) := ti_nI (by omega)
  unfold TlG
  rw [nI_1]
  cases f with
  | zero =>
    refine ⟨fun z => absurd (by rw [show l + 1 = N by omega]) z, fun _ => ev_of hR (by omega) (j := p1) (w := 4) rfl rfl (by omega) (by omega) (ev_of hR (by omega) (j := p2) (w := 4) rfl rfl (by omega) (by omega) (ev_comesTo hR (by omega) (by omega) ?_))⟩
    have e : (gmV (earI p0) p1 p2 bgn 0 (l + 1) F).2 = (h.1 95 (10 + 5 * p1 + 4) - h.1 95 (10 + 5 * p2 + 4)) - bgn := by
      show (oI (F (14 + 5 * p1)) - oI (F (14 + 5 * p2))) - bgn = _
      rw [← hv, show 10 + 5 * p1 + 4 = 14 + 5 * p1 by omega, show 10 + 5 * p2 + 4 = 14 + 5 * p2 by omega]
      show (oI (h.1 95 (14 + 5 * p1)).toInt - oI (h.1 95 (14 + 5 * p2)).toInt) - bgn = _
      rw [oi_ti, oi_ti]
    rw [← e]
    obtain ⟨c1, c2, c3⟩ := come_pair (h := h) (l := l) (w := nI w) (v := (gmV (earI p0) p1 p2 bgn 0 (l + 1) F).2) rfl hR
    exact K _ c1 c2 (by rw [c3])
  | succ g =>
    refine ⟨fun _ => ev_standsAt hR (by omega) (by omega) ?_, fun z => ?_⟩
    · have fs := @FR.st h (l + 1) hR
      refine A g (l + 1) 4 0 F _ Q rfl (by omega) rfl hR (SL.st hv) ok f5 f0 (fs.tx T) ?_ (fun h2 f2 e2 e3 => ?_)
      · rw [sI_ne (by omega), sI_self]
        decide
      · have f3 := (fs.le (a' := l + 1) (b' := l + 1) (Nat.le_refl _) (Nat.le_refl _)).trans (f2.le (by omega) (by omega))
        have hR2 := f2.1
        have i6 : vp_in (nI (l + 1)) 6 := in_of (by omega) (by omega)
        have i6' : vp_in (nI l) 6 := in_of (by omega) (by omega)
        refine vc_X12_findGame_50 hR2 ⟨fun z => ?_, fun _ => ev_backTo hR2 (by omega) (by omega) ⟨i6, i6, i6, fun z => ?_, fun _ => ?_⟩⟩
        · exfalso
          rw [i_lt, el1] at z
          simp only [Int32.reduceToInt] at z
          omega
        · exfalso
          rw [cl_of el1, sI_self, cpI_at, if_neg (by omega), e3] at z
          exact absurd z (by decide)
        · rw [nI_prm l (by omega), nI_1, cl_of el1, cl_of el]
          refine ⟨fun z => ?_, fun _ => ⟨i6', i6, ?_⟩⟩
          · exfalso
            rw [i_lt, el] at z
            simp only [Int32.reduceToInt] at z
            omega
          have b3 : FR (l + 1) (l + 1) h2 (sI (cpI h2 107 (90 * (l + 1)) 95 0 90) 108 (l + 1) ((cpI h2 107 (90 * (l + 1)) 95 0 90).1 108 (l + 1) + 1)) := (FR.bk hR2).trans (FR.s hR2 (by omega) (Nat.le_refl _))
          have f4 := f3.trans b3
          have e111 : (cpI h2 107 (90 * (l + 1)) 95 0 90).1 111 l = nI w := by
            rw [cpI_at, if_neg (by omega), f3.2.2.2.2.2 111 l (by omega) (by omega) (by omega), ew]
          have e109 : (cpI h2 107 (90 * (l + 1)) 95 0 90).1 109 (l + 1) = (gmV (earI p0) p1 p2 bgn (g + 1) (l + 1) F).2 := by
            rw [cpI_at, if_neg (by omega)]
            have e4 := congrArg Prod.snd e2
            rw [foG_neg (a' := (-1, 0)) (by rw [sI_self]; show (-1 : Int32) < 0; decide) (by decide)] at e4
            have e5 : h2.1 109 (l + 1) = _ := e4
            rw [e5]
            show _ = (foG (l + 1) _ (cdS F _ _ 0 0 ++ [12]) (-1, 0)).2
            rw [cd_pk _ 0 0 (by omega)]
          rw [e111, e109]
          have e110 : ∀ x, 108 ≤ x → x ≤ 111 → (sI (cpI h2 107 (90 * (l + 1)) 95 0 90) 108 (l + 1) ((cpI h2 107 (90 * (l + 1)) 95 0 90).1 108 (l + 1) + 1)).1 x l = h.1 x l := fun x z1 z2 => f4.2.2.2.2.2 x l z1 z2 (by omega)
          have hR4 := f4.1
          revert f4 e110 hR4
          generalize (sI (cpI h2 107 (90 * (l + 1)) 95 0 90) 108 (l + 1) ((cpI h2 107 (90 * (l + 1)) 95 0 90).1 108 (l + 1) + 1)) = h4
          intro f4 e110 hR4
          refine ev_comesTo hR4 (by omega) (by omega) ?_
          obtain ⟨c1, c2, c3⟩ := come_pair (h := h4) (l := l) (w := nI w) (v := (gmV (earI p0) p1 p2 bgn (g + 1) (l + 1) F).2) rfl hR4
          rw [e110 110 (by omega) (by omega), e110 109 (by omega) (by omega)] at c2 c1 c3 ⊢
          exact K _ ((f4.le (Nat.le_refl _) (by omega)).trans c1) c2 (by rw [c3, e110 108 (by omega) (by omega)])
    · exfalso
      have := nI_inj' (by omega) (by omega) z
      omega
theorem sea_G0 : SeaG G d p1 p2 N n0 bgn p0 q0 0 := fun _ _ _ _ _ _ _ e => by omega
theorem sea_Gs (hd : 86 ≤ d) (hN : N ≤ 4) (h1 : p1 < 4) (h2 : p2 < 4) {f : Nat} (A : SeaG G d p1 p2 N n0 bgn p0 q0 f) : SeaG G d p1 p2 N n0 bgn p0 q0 (f + 1) := by
  intro g l r
  induction r with
  | zero =>
    intro i F h Q hg hl hi hR s ok f5 f0 T e108 K
    obtain rfl : f = g := by omega
    obtain rfl : i = 4 := by omega
    have el : (nI l).toInt = (l : Int) := ti_nI (by omega)
    have i6 : vp_in (nI l) 6 := in_of (by omega) (by omega)
    have ec : ∀ x t, 108 ≤ x → (cpI h 107 (90 * l) 95 0 90).1 x t = h.1 x t := fun x t z => by rw [cpI_at, if_neg (by omega)]
    refine vc_X12_findGame_50 hR ⟨fun z => ?_, fun _ => ev_backTo hR (by omega) (by omega) ?_⟩
    · exfalso
      rw [i_lt, el] at z
      simp only [Int32.reduceToInt] at z
      omega
    rw [cl_of el, sI_self, ec 108 l (by omega), e108]
    refine ⟨i6, i6, i6, fun _ => ⟨i6, fun z => absurd (by decide) z, fun _ => ⟨i6, ?_⟩⟩, fun z => absurd (by decide) z⟩
    have b : FR (l + 1) l h (sI (sI (cpI h 107 (90 * l) 95 0 90) 108 l (nI 4)) 111 l 12) := ((FR.bk hR).trans (FR.s hR (by omega) (Nat.le_refl _))).trans (FR.s hR (by omega) (Nat.le_refl _))
    refine rg_val (F := F) (w := 12) hd hN h1 h2 hl A b.1 (by rw [vM_hi (by omega), vM_hi (by omega)]; exact s.v) (OKF_3 ok ?_) f5 f0 (b.tx T) (sI_self _ _ _ _) (fun h' fr e1 e2 => K h' (b.trans fr) ?_ ?_)
    · have := ok.2.2.1.2
      push_cast
      omega
    · rw [e1, sI_ne (by omega), sI_ne (by omega), sI_ne (by omega), sI_ne (by omega), ec 110 l (by omega), ec 109 l (by omega)]
      rfl
    · rw [e2, sI_ne (by omega), sI_self]
      rfl
  | succ r ih =>
    intro i F h Q hg hl hi hR s ok f5 f0 T e108 K
    obtain rfl : f = g := by omega
    have el : (nI l).toInt = (l : Int) := ti_nI (by omega)
    have ei : (nI i).toInt = (i : Int) := ti_nI (by omega)
    have i6 : vp_in (nI l) 6 := in_of (by omega) (by omega)
    have o1 := ok.2.1
    have ec : ∀ x t, 108 ≤ x → (cpI h 107 (90 * l) 95 0 90).1 x t = h.1 x t := fun x t z => by rw [cpI_at, if_neg (by omega)]
    have b : FR (l + 1) l h (sI (cpI h 107 (90 * l) 95 0 90) 108 l (nI i)) := (FR.bk hR).trans (FR.s hR (by omega) (Nat.le_refl _))
    have hv : vM (sI (cpI h 107 (90 * l) 95 0 90) 108 l (nI i)) = F := by rw [vM_hi (by omega)]; exact s.v
    have b108 : (sI (cpI h 107 (90 * l) 95 0 90) 108 l (nI i)).1 108 l = nI i := sI_self _ _ _ _
    have b110 : (sI (cpI h 107 (90 * l) 95 0 90) 108 l (nI i)).1 110 l = h.1 110 l ∧ (sI (cpI h 107 (90 * l) 95 0 90) 108 l (nI i)).1 109 l = h.1 109 l := ⟨by rw [sI_ne (by omega), ec 110 l (by omega)], by rw [sI_ne (by omega), ec 109 l (by omega)]⟩
    refine vc_X12_findGame_50 hR ⟨fun z => ?_, fun _ => ev_backTo hR (by omega) (by omega) ?_⟩
    · exfalso
      rw [i_lt, el] at z
      simp only [Int32.reduceToInt] at z
      omega
    rw [cl_of el, sI_self, ec 108 l (by omega), e108, par (by omega)]
    revert b hv b108 b110
    generalize (sI (cpI h 107 (90 * l) 95 0 90) 108 l (nI i)) = h10
    intro b hv b108 b110
    have hR10 := b.1
    have PO : ∀ p : Nat, (if l % 2 = 0 then p1 else p2) = p → EvI G d mX12_pickOf [.inr (.inr (some 94)), .inl (nI p), .inl (nI i)] h10 (fun x14 h13 => ((0 ≤ x14 → ((12 ≤ x14 → vp_in (nI l) 6 ∧ TlG G d (nI p1) (nI p2) (nI N) bgn (nI l) x14 (sI h13 111 l x14) Q) ∧ (¬ 12 ≤ x14 → EvV G d mX12_goes [.inr (.inr (some 94)), .inl x14] h13 (fun h24 => vp_in (nI l) 6 ∧ TlG G d (nI p1) (nI p2) (nI N) bgn (nI l) x14 (sI h24 111 l x14) Q)))) ∧ (¬ 0 ≤ x14 → Rg_X12_findGame_50 G d (nI p1) (nI p2) (nI N) bgn (nI l) h13 Q))) := fun p ep => by
      rw [ep] at K
      have p4 : p < 4 := by
        rw [← ep]
        split <;> omega
      have etp : (nI p).toInt = (p : Int) := ti_nI (by omega)
      refine ev_pickOf (q := (F 1).toNat) hR10 (by omega) (by rw [hv]; exact ok) (by rw [hv]; omega) (by omega) ?_ ?_
      · rw [hv, etp]
        intro e
        refine ⟨fun z => absurd z (by decide), fun _ => ?_⟩
        refine ih (i + 1) F h10 Q rfl hl (by omega) hR10 (s.fr b) ok f5 f0 (b.tx T) (by rw [b108, nI_1]) (fun h' fr e1 e2 => K h' (b.trans fr) ?_ e2)
        rw [ep, b110.1, b110.2] at e1
        rw [e1, pkL_n e]
      · rw [hv, etp]
        intro w e wq
        have rr := pkS_rd _ _ _ _ e
        have etw : (nI w).toInt = (w : Int) := ti_nI (by omega)
        refine ⟨fun _ => ⟨fun z => ?_, fun _ => ?_⟩, fun z => ?_⟩
        · exfalso
          rw [i_le, etw] at z
          simp only [Int32.reduceToInt] at z
          omega
        · have ok10 : OKF (99999 + 30 * l) (vM h10) := by rw [hv]; exact ok
          refine ev_goes hR10 (by omega) ok10 (by omega) (b.tx T) etw (by rw [hv]; omega) (by rw [hv]; exact rr.1) (by rw [hv]; exact f5) (fun h24 ms hv24 => ⟨i6, ?_⟩)
          rw [hv] at hv24
          obtain ⟨g1, g2, g3, g4⟩ := go_ok (@he_ear p0) ok (show (w : Int) < F 1 by omega) rr.1 f5
          have f24 : FR (l + 1) l h10 (sI h24 111 l (nI w)) := (FR.ms ms).trans (FR.s ms.1 (by omega) (Nat.le_refl _))
          have e24 : ∀ x, 108 ≤ x → x ≤ 110 → (sI h24 111 l (nI w)).1 x l = h10.1 x l := fun x z1 z2 => by rw [sI_ne (by omega), ms.2.2.1 x (by omega) (by omega) (by omega)]
          refine rg_val (F := goF (earI p0) F w) (w := w) hd hN h1 h2 hl A f24.1 (by rw [vM_hi (by omega)]; exact hv24) (by rw [show (99999 : Int) + 30 * ((l + 1 : Nat) : Int) = 99999 + 30 * l + 30 by push_cast; omega]; exact g1) ?_ (by rw [g4]; exact f0) (f24.tx (b.tx T)) (sI_self _ _ _ _) (fun h3 fr3 e1 e2 => ?_)
          · show secN _ _ (begF F w) 5 = 0
            rw [go_5 (@he_ear p0) _ (OKF_beg ok (show (w : Int) < F 1 by omega) rr.1), beg_5]
            exact f5
          · have f3 := f24.trans fr3
            have ff := b.trans f3
            refine ih (i + 1) F h3 Q rfl hl (by omega) f3.1 (s.fr ff) ok f5 f0 (ff.tx T) (by rw [e2, e24 108 (by omega) (by omega), b108, nI_1]) (fun h' fr e3 e4 => K h' (ff.trans fr) ?_ e4)
            rw [ep, e1, e24 110 (by omega) (by omega), e24 109 (by omega) (by omega), b110.1, b110.2] at e3
            rw [e3, pkL_c e]
            have w12 : ¬ w = 12 := by omega
            show _ = foG l _ (pkL F (p : Int) (F 1).toNat 0 0 r (i + 1) ++ [12]) (tkG l (h.1 110 l, h.1 109 l) (nI w) (gmV (earI p0) p1 p2 bgn f (l + 1) (if w = 12 then F else goF (earI p0) F w)).2)
            rw [if_neg w12]
        · exfalso
          apply z
          rw [i_le, etw]
          simp only [Int32.reduceToInt]
          omega
    refine ⟨i6, i6, i6, fun _ => ⟨i6, fun _ => ⟨fun z => ⟨i6, PO p2 (if_neg z)⟩, fun z => ⟨i6, PO p1 (if_pos z)⟩⟩, fun z => ?_⟩, fun z => ?_⟩
    · exfalso
      rw [i_eq, ei] at z
      simp only [Int32.reduceToInt] at z
      omega
    · exfalso
      apply z
      rw [i_le, ei]
      simp only [Int32.reduceToInt]
      omega
theorem sea_Gall (hd : 86 ≤ d) (hN : N ≤ 4) (h1 : p1 < 4) (h2 : p2 < 4) : ∀ f, SeaG G d p1 p2 N n0 bgn p0 q0 f
  | 0 => sea_G0
  | f + 1 => sea_Gs hd hN h1 h2 (sea_Gall hd hN h1 h2 f)
end
/-- laid aside, played, put back -/
theorem FR_back {h h2 : Hp} (m : FR 0 0 (cpI h 95 0 97 0 90) h2) : MZ h (cpI h2 97 0 95 0 90) := by
  obtain ⟨m0, m2, m3, m4, -, -⟩ := m
  refine ⟨RF_cp m0, fun a h1 h2' => ?_, ?_, ?_⟩
  · have h97 : a ≠ 97 := fun z => h1 (by unfold scr; omega)
    have h99 : a ≠ 99 := fun z => h1 (by unfold scr; omega)
    have h107 : ¬ (107 ≤ a ∧ a ≤ 111) := fun z => h1 (by unfold scr; omega)
    funext t
    rw [cpI_at]
    by_cases h95 : a = 95
    · subst h95
      by_cases ht : t < 90
      · rw [if_pos (by omega), m2 97 (by omega) (by omega) (by omega) (by omega), cpI_at, if_pos (by omega)]
        rw [show 0 + (0 + (t - 0) - 0) = t by omega]
      · rw [if_neg (by omega), m4 t (by omega), cpI_at, if_neg (by omega)]
    · rw [if_neg (by omega), m2 a h2' h95 h99 h107, cpI_at, if_neg (by omega)]
  · rw [cpI_at, if_neg (by omega), m3 3 (by omega), cpI_at, if_neg (by omega)]
  · rw [cpI_at, if_neg (by omega), m3 32 (by omega), cpI_at, if_neg (by omega)]
theorem ev_findGame {p1 p2 N n0 : Nat} {F : Nat → Int} {p0 q0 : List Int32} (eF : vM h = F) (hR : RF h) (hd : 90 ≤ d) (hN : 1 ≤ N ∧ N ≤ 4) (h1 : p1 < n0) (h2 : p2 < n0) (h4 : n0 ≤ 4) (ok : OKF 99999 F) (f0 : F 0 = n0) (T : TxM h 95 p0 q0) (k : ∀ h', MZ h h' → h'.1 110 0 = (gmV (earI p0) p1 p2 (oI (F (14 + 5 * p1)) - oI (F (14 + 5 * p2))) N 0 (frS0 F)).1 → h'.1 109 0 = (gmV (earI p0) p1 p2 (oI (F (14 + 5 * p1)) - oI (F (14 + 5 * p2))) N 0 (frS0 F)).2 → QW h') : EvV G d mX12_findGame [.inr (.inr (some 94)), .inl (nI p1), .inl (nI p2), .inl (nI N)] h QW := by
  obtain ⟨e, rfl⟩ := dpos (show 1 ≤ d by omega)
  subst eF
  refine vc_X12_findGame hR (ev_keep hR (by omega) ?_)
  have hvs : vM (sI (sI (sI (cpI h 95 0 97 0 90) 95 5 0) 95 6 0) 95 7 0) = frS0 (vM h) := by
    rw [vM_sI, vM_sI, vM_sI, vM_cp]
    rfl
  have ms0 : MS (cpI h 95 0 97 0 90) (sI (sI (sI (cpI h 95 0 97 0 90) 95 5 0) 95 6 0) 95 7 0) := ((MS.s95 (RF_cp hR) (by omega)).trans (MS.s95 (show RF (sI (cpI h 95 0 97 0 90) 95 5 0) from hR) (by omega))).trans (MS.s95 (show RF (sI (sI (cpI h 95 0 97 0 90) 95 5 0) 95 6 0) from hR) (by omega))
  have Ts := (TxM_cp T).keep ms0
  have eq14 : ∀ p, p < 4 → (sI (sI (sI (cpI h 95 0 97 0 90) 95 5 0) 95 6 0) 95 7 0).1 95 (10 + 5 * p + 4) = oI (vM h (14 + 5 * p)) := fun p hp => by
    rw [sI_ne (by omega), sI_ne (by omega), sI_ne (by omega), cpI_at, if_neg (by omega), show 10 + 5 * p + 4 = 14 + 5 * p by omega]
    exact (oi_ti _).symm
  have hRs := ms0.1
  revert hvs ms0 Ts eq14 hRs
  generalize (sI (sI (sI (cpI h 95 0 97 0 90) 95 5 0) 95 6 0) 95 7 0) = hs
  intro hvs ms0 Ts eq14 hRs
  refine ev_of hRs (by omega) (j := p1) (w := 4) rfl rfl (by omega) (by omega) (ev_of hRs (by omega) (j := p2) (w := 4) rfl rfl (by omega) (by omega) (ev_standsAt (l := 0) hRs (by omega) (by omega) ?_))
  rw [eq14 p1 (by omega), eq14 p2 (by omega)]
  have fs := @FR.st hs 0 hRs
  obtain ⟨g, rfl⟩ : ∃ g, N = g + 1 := ⟨N - 1, by omega⟩
  have okf := OKF_fr ok
  refine sea_Gall (G := G) (d := e) (p1 := p1) (p2 := p2) (N := g + 1) (n0 := n0) (bgn := (oI (vM h (14 + 5 * p1)) - oI (vM h (14 + 5 * p2)))) (p0 := p0) (q0 := q0) (by omega) (by omega) (by omega) (by omega) (g + 1) g 0 4 0 (frS0 (vM h)) _ QW rfl (by omega) rfl fs.1 (SL.st hvs) (OKF_3 okf ?_) frS0_5.1 (by rw [frS0_n (by omega) (by omega) (by omega)]; exact f0) (fs.tx Ts) ?_ (fun h3 f3 e3 e4 => ?_)
  · have := okf.2.2.1.2
    omega
  · rw [sI_ne (by omega), sI_self]
    decide
  · have hR3 := f3.1
    have i6 : vp_in (nI 0) 6 := in_of (by decide) (by decide)
    refine vc_X12_findGame_50 hR3 ⟨fun z => absurd z (by decide), fun _ => ev_backTo hR3 (by omega) (by omega) ⟨i6, i6, i6, fun z => ?_, fun _ => ⟨fun _ => ?_, fun z => absurd (by decide) z⟩⟩⟩
    · exfalso
      rw [show Int32.toNatClampNeg (nI 0) = 0 by decide, sI_self, cpI_at, if_neg (by omega), e4] at z
      exact absurd z (by decide)
    · rw [show Int32.toNatClampNeg (nI 0) = 0 by decide]
      have f5 : FR 0 0 (cpI h 95 0 97 0 90) (sI (cpI h3 107 (90 * 0) 95 0 90) 108 0 ((cpI h3 107 (90 * 0) 95 0 90).1 108 0 + 1)) := (((FR.ms ms0).trans fs).trans (f3.le (by omega) (by omega))).trans ((FR.bk hR3).trans (FR.s hR3 (by omega) (by omega)))
      have e110 : ∀ x, 109 ≤ x → (sI (cpI h3 107 (90 * 0) 95 0 90) 108 0 ((cpI h3 107 (90 * 0) 95 0 90).1 108 0 + 1)).1 x 0 = h3.1 x 0 := fun x z => by rw [sI_ne (by omega), cpI_at, if_neg (by omega)]
      rw [foG_neg (a' := (-1, 0)) (by rw [sI_self]; show (-1 : Int32) < 0; decide) (by decide)] at e3
      have e5 : (h3.1 110 0, h3.1 109 0) = gmV (earI p0) p1 p2 (oI (vM h (14 + 5 * p1)) - oI (vM h (14 + 5 * p2))) (g + 1) 0 (frS0 (vM h)) := by
        rw [e3]
        show _ = foG 0 _ (cdS (frS0 (vM h)) _ _ 0 0 ++ [12]) (-1, 0)
        rw [cd_pk _ 0 0 (by omega)]
      refine vc_X12_findGame_50 f5.1 ⟨fun _ => ev_back f5.1 (by omega) (k _ (FR_back f5) ?_ ?_), fun z => absurd (by decide) z⟩
      · rw [cpI_at, if_neg (by omega), e110 110 (by omega), ← e5]
      · rw [cpI_at, if_neg (by omega), e110 109 (by omega), ← e5]
end
