/-! game: the pure picture -/
section
/-- the words a turn may pick, of the first four unsaid ones of a party from w on (m left; n passed) -/
def cdS (F : Nat → Int) (p : Int) : Nat → Nat → Nat → List Nat
  | 0, _, _ => []
  | m + 1, w, n => if 4 ≤ n then [] else if F (30 + 5 * w) = p ∧ F (34 + 5 * w) = 0 then (if rdy F w then w :: cdS F p m (w + 1) (n + 1) else cdS F p m (w + 1) (n + 1)) else cdS F p m (w + 1) n
/-- places from i on (c of them) -/
def pkL (F : Nat → Int) (p : Int) (m w n : Nat) : Nat → Nat → List Nat
  | 0, _ => []
  | c + 1, i => (match pkS F p i m w n with | none => [] | some x => [x]) ++ pkL F p m w n c (i + 1)
theorem pkL_congr {F : Nat → Int} {p : Int} {m w n m' w' n' : Nat} : ∀ (c i : Nat), (∀ j, i ≤ j → pkS F p j m w n = pkS F p j m' w' n') → pkL F p m w n c i = pkL F p m' w' n' c i
  | 0, _, _ => rfl
  | c + 1, i, g => by
    unfold pkL
    rw [g i (Nat.le_refl _), pkL_congr c (i + 1) (fun j hj => g j (by omega))]
theorem pkL_0 {F : Nat → Int} {p : Int} {w n : Nat} : ∀ (c i : Nat), pkL F p 0 w n c i = []
  | 0, _ => rfl
  | c + 1, i => by
    unfold pkL
    rw [pkL_0 c (i + 1)]
    rfl
theorem cd_pk {F : Nat → Int} {p : Int} : ∀ (m w n : Nat), n ≤ 4 → cdS F p m w n = pkL F p m w n (4 - n) n
  | 0, w, n, hn => by rw [pkL_0]; rfl
  | m + 1, w, n, hn => by
    unfold cdS
    by_cases c4 : 4 ≤ n
    · rw [if_pos c4, show 4 - n = 0 by omega]
      rfl
    · rw [if_neg c4]
      by_cases c : F (30 + 5 * w) = p ∧ F (34 + 5 * w) = 0
      · rw [if_pos c, cd_pk m (w + 1) (n + 1) (by omega), show 4 - n = (4 - (n + 1)) + 1 by omega]
        have e : pkL F p (m + 1) w n (4 - (n + 1)) (n + 1) = pkL F p m (w + 1) (n + 1) (4 - (n + 1)) (n + 1) := pkL_congr _ _ (fun j hj => by rw [pkS_s, if_pos c, if_neg (by omega)])
        show _ = (match pkS F p n (m + 1) w n with | none => [] | some x => [x]) ++ pkL F p (m + 1) w n (4 - (n + 1)) (n + 1)
        rw [e, pkS_s, if_pos c, if_pos rfl]
        by_cases r : rdy F w
        · rw [if_pos r, if_pos r]; rfl
        · rw [if_neg r, if_neg r]; rfl
      · rw [if_neg c, cd_pk m (w + 1) n hn]
        exact pkL_congr _ _ (fun j hj => by rw [pkS_s, if_neg c])
/-- a turn takes a pick if it is the first, or better -/
def tkG (l : Nat) (a : Int32 × Int32) (w v : Int32) : Int32 × Int32 := if a.1 < 0 ∨ btS l v a.2 then (w, v) else a
def foG (l : Nat) (ch : Nat → Int32) : List Nat → Int32 × Int32 → Int32 × Int32
  | [], a => a
  | w :: L, a => foG l ch L (tkG l a (nI w) (ch w))
theorem foG_app {l : Nat} {ch : Nat → Int32} : ∀ (L L' : List Nat) (a : Int32 × Int32), foG l ch (L ++ L') a = foG l ch L' (foG l ch L a)
  | [], _, _ => rfl
  | w :: L, L', a => by
    show foG l ch (L ++ L') _ = _
    rw [foG_app L L']
    rfl
/-- pick and VALUE of a turn -/
def gmV (ear : Int → Int → Int → Int) (p1 p2 : Nat) (bgn : Int32) : Nat → Nat → (Nat → Int) → Int32 × Int32
  | 0, _, F => (-1, (oI (F (14 + 5 * p1)) - oI (F (14 + 5 * p2))) - bgn)
  | f + 1, l, F => foG l (fun w => (gmV ear p1 p2 bgn f (l + 1) (if w = 12 then F else goF ear F w)).2) (cdS F ((if l % 2 = 0 then p1 else p2 : Nat) : Int) (F 1).toNat 0 0 ++ [12]) (-1, 0)
theorem cd_in {F : Nat → Int} {p : Int} : ∀ (m w n : Nat) (x : Nat), x ∈ cdS F p m w n → w ≤ x ∧ x < w + m ∧ rdy F x
  | 0, w, n, x, h => by
    have : x ∈ ([] : List Nat) := h
    cases this
  | m + 1, w, n, x, h => by
    unfold cdS at h
    split at h
    · cases h
    · split at h
      · split at h
        · rename_i r
          rcases List.mem_cons.mp h with e | e
          · subst e
            exact ⟨Nat.le_refl _, by omega, r⟩
          · have := cd_in m (w + 1) (n + 1) x e
            exact ⟨by omega, by omega, this.2.2⟩
        · have := cd_in m (w + 1) (n + 1) x h
          exact ⟨by omega, by omega, this.2.2⟩
      · have := cd_in m (w + 1) n x h
        exact ⟨by omega, by omega, this.2.2⟩
end
