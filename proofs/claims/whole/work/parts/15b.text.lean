/-! LAWS IN TEXTS: steps upon a stack, and what bytes they are read from -/
def jnt (c x y : Int32) : Int32 :=
  if c = 124 then b2 (¬ x = 0 ∨ ¬ y = 0) else if c = 38 then b2 (¬ x = 0 ∧ ¬ y = 0) else if c = 60 then b2 (x < y) else if c = 61 then b2 (x = y) else if c = 62 then b2 (y < x) else
  if c = 43 then x + y else if c = 45 then x - y else if c = 42 then x * y else if c = 47 then (if y = 0 then 0 else x / y) else (if y = 0 then 0 else x - x / y * y)
def rpn1 (a b c : Int32) (s : Int32) (st : List Int32) : List Int32 :=
  if -3 ≤ s then (if 0 ≤ s then s else if s = -1 then a else if s = -2 then b else c) :: st else if s = -33 then (match st with
    | x :: r => b2 (x = 0) :: r
    | [] => []) else (match st with
    | y :: x :: r => jnt (-s) x y :: r
    | r => r)
def evS (a b c : Int32) : List Int32 → List Int32 → List Int32
  | [], st => st
  | s :: p, st => evS a b c p (rpn1 a b c s st)
def evP (p : List Int32) (a b c : Int32) : Int32 := (evS a b c p []).headD 0
theorem evS_app (a b c : Int32) : ∀ (p q : List Int32) (st : List Int32), evS a b c (p ++ q) st = evS a b c q (evS a b c p st)
  | [], _, _ => rfl
  | s :: p, q, st => evS_app a b c p q (rpn1 a b c s st)
/-- the names of a use -/
def nmK (u : Nat) (c : Int32) : Option Nat := if u = 0 then (if c = 119 then some 0 else if c = 108 then some 1 else if c = 104 then some 2 else none) else (if c = 108 then some 0 else if c = 115 then some 1 else if c = 109 then some 2 else none)
def isDg (c : Int32) : Prop := 48 ≤ c ∧ c ≤ 57
/-- the byte at i (-1: none) -/
def byt (B : Nat → Int32) (n i : Nat) : Int32 := if i < n then B i else -1
/-- the signs that a level (0 |, 1 &, 3 + -, 4 * / %) goes on with -/
def opL (lv : Nat) (c : Int32) : Prop := (lv = 0 ∧ c = 124) ∨ (lv = 1 ∧ c = 38) ∨ (lv = 3 ∧ (c = 43 ∨ c = 45)) ∨ (lv = 4 ∧ (c = 42 ∨ c = 47 ∨ c = 37))
/-- the digits from i on: w the number, j how many were read -/
def dgR (b : Nat → Int32) : Nat → Nat → Int32 → Nat × Int32
  | 0, i, v => (i, v)
  | k + 1, i, v => if 48 ≤ b i ∧ b i ≤ 57 then dgR b k (i + 1) (10 * v + b i - 48) else (i, v)
abbrev DT : Type := Nat → Nat → Nat → List Int32 → Bool → Nat → List Int32 → Prop
/-- what a reading does: R level opened place program ok place' program' (levels 0 to 5; 10 + a level: its further turns) -/
def DCl (b : Nat → Int32) (u : Nat) (R : DT) : Prop :=
  (∀ o i p k, nmK u (b i) = some k → ¬ isDg (b i) → R 5 o i p true (i + 1) (p ++ [-1 - nI k])) ∧
  (∀ o i p, isDg (b i) → R 5 o i p true (dgR b 4 i 0).1 (p ++ [(dgR b 4 i 0).2])) ∧
  (∀ o i p, nmK u (b i) = none → ¬ isDg (b i) → b i ≠ 33 → b i ≠ 40 → R 5 o i p false i p) ∧
  (∀ i p, (b i = 33 ∨ b i = 40) → R 5 5 i p false i p) ∧
  (∀ o i p i' p', o < 5 → b i = 33 → R 5 (o + 1) (i + 1) p true i' p' → R 5 o i p true i' (p' ++ [-33])) ∧
  (∀ o i p i' p', o < 5 → b i = 33 → R 5 (o + 1) (i + 1) p false i' p' → R 5 o i p false i' p') ∧
  (∀ o i p i' p', o < 5 → b i = 40 → R 0 (o + 1) (i + 1) p false i' p' → R 5 o i p false i' p') ∧
  (∀ o i p i' p', o < 5 → b i = 40 → R 0 (o + 1) (i + 1) p true i' p' → b i' = 41 → R 5 o i p true (i' + 1) p') ∧
  (∀ o i p i' p', o < 5 → b i = 40 → R 0 (o + 1) (i + 1) p true i' p' → b i' ≠ 41 → R 5 o i p false i' p') ∧
  (∀ lv o i p i' p', (lv = 0 ∨ lv = 1 ∨ lv = 3 ∨ lv = 4) → R (lv + 1) o i p false i' p' → R lv o i p false i' p') ∧
  (∀ lv o i p i1 p1 ok i' p', (lv = 0 ∨ lv = 1 ∨ lv = 3 ∨ lv = 4) → R (lv + 1) o i p true i1 p1 → R (lv + 10) o i1 p1 ok i' p' → R lv o i p ok i' p') ∧
  (∀ lv o i p, (lv = 0 ∨ lv = 1 ∨ lv = 3 ∨ lv = 4) → ¬ opL lv (b i) → R (lv + 10) o i p true i p) ∧
  (∀ lv o i p i1 p1, opL lv (b i) → R (lv + 1) o (i + 1) p false i1 p1 → R (lv + 10) o i p false i1 p1) ∧
  (∀ lv o i p i1 p1 ok i' p', opL lv (b i) → R (lv + 1) o (i + 1) p true i1 p1 → R (lv + 10) o i1 (p1 ++ [-b i]) ok i' p' → R (lv + 10) o i p ok i' p') ∧
  (∀ o i p i' p', R 3 o i p false i' p' → R 2 o i p false i' p') ∧
  (∀ o i p i1 p1, R 3 o i p true i1 p1 → b i1 ≠ 60 → b i1 ≠ 61 → b i1 ≠ 62 → R 2 o i p true i1 p1) ∧
  (∀ o i p i1 p1 i' p', R 3 o i p true i1 p1 → (b i1 = 60 ∨ b i1 = 61 ∨ b i1 = 62) → R 3 o (i1 + 1) p1 false i' p' → R 2 o i p false i' p') ∧
  (∀ o i p i1 p1 i' p', R 3 o i p true i1 p1 → (b i1 = 60 ∨ b i1 = 61 ∨ b i1 = 62) → R 3 o (i1 + 1) p1 true i' p' → R 2 o i p true i' (p' ++ [-b i1]))
def Der (b : Nat → Int32) (u : Nat) : DT := fun lv o i p ok i' p' => ∀ R : DT, DCl b u R → R lv o i p ok i' p'
/-- a text of a use, in the reference: n bytes (0: none), which read as p -/
def TxB (B : Nat → Int32) (n u : Nat) (p : List Int32) : Prop := (n = 0 ∧ p = []) ∨ (0 < n ∧ p ≠ [] ∧ Der (byt B n) u 0 0 0 [] true n p)
/-- what a use gives -/
def tgP (u : Nat) (p : List Int32) (a b c : Int32) : Int32 := hd3 (if p = [] then (if u = 0 then a else a * c / 50) else evP p a b c) 0 (if u = 0 then 999 else a)
/-- the reference's numbers outside a method that only reads texts or lets SECONDS go by -/
def MS (h h' : Hp) : Prop := RF h' ∧ h'.2 = h.2 ∧ (∀ a, a ≠ 94 → a ≠ 95 → a ≠ 99 → h'.1 a = h.1 a) ∧ (∀ k, (k < 5 ∨ 10 < k) → h'.1 94 k = h.1 94 k) ∧ (∀ j, 90 ≤ j → h'.1 95 j = h.1 95 j)
/-- and one that only reads texts -/
def MT (h h' : Hp) : Prop := MS h h' ∧ h'.1 95 = h.1 95
theorem MS.refl {h : Hp} (hR : RF h) : MS h h := ⟨hR, rfl, fun _ _ _ _ => rfl, fun _ _ => rfl, fun _ _ => rfl⟩
theorem MT.refl {h : Hp} (hR : RF h) : MT h h := ⟨MS.refl hR, rfl⟩
theorem MS.trans {h h1 h2 : Hp} (a : MS h h1) (b : MS h1 h2) : MS h h2 := ⟨b.1, b.2.1.trans a.2.1, fun x p q r => (b.2.2.1 x p q r).trans (a.2.2.1 x p q r), fun k hk => (b.2.2.2.1 k hk).trans (a.2.2.2.1 k hk), fun j hj => (b.2.2.2.2 j hj).trans (a.2.2.2.2 j hj)⟩
theorem MT.trans {h h1 h2 : Hp} (a : MT h h1) (b : MT h1 h2) : MT h h2 := ⟨a.1.trans b.1, b.2.trans a.2⟩
theorem MS.s95 {h : Hp} {k : Nat} {v : Int32} (hR : RF h) (hk : k < 90) : MS h (sI h 95 k v) := ⟨hR, rfl, fun a _ h2 _ => by funext j; exact sI_ne (by omega), fun j _ => sI_ne (by omega), fun j hj => sI_ne (by omega)⟩
theorem MT.s94 {h : Hp} {k : Nat} {v : Int32} (hR : RF h) (hk : 5 ≤ k ∧ k ≤ 10) : MT h (sI h 94 k v) := ⟨⟨hR, rfl, fun a h1 _ _ => by funext j; exact sI_ne (by omega), fun j hj => sI_ne (by omega), fun j hj => sI_ne (by omega)⟩, by funext j; exact sI_ne (by omega)⟩
theorem MT.s99 {h : Hp} {k : Nat} {v : Int32} (hR : RF h) : MT h (sI h 99 k v) := ⟨⟨hR, rfl, fun a _ _ h3 => by funext j; exact sI_ne (by omega), fun j hj => sI_ne (by omega), fun j hj => sI_ne (by omega)⟩, by funext j; exact sI_ne (by omega)⟩
/-- the texts of the reference's numbers at row A -/
def TxM (h : Hp) (A : Nat) (p0 p1 : List Int32) : Prop := (0 ≤ (h.1 A 90).toInt ∧ (h.1 A 90).toInt ≤ 50) ∧ (0 ≤ (h.1 A 91).toInt ∧ (h.1 A 91).toInt ≤ 50) ∧ (∀ i, i < 100 → 0 ≤ (h.1 A (112 + i)).toInt ∧ (h.1 A (112 + i)).toInt ≤ 255) ∧ TxB (fun i => h.1 A (112 + i)) (h.1 A 90).toInt.toNat 0 p0 ∧ TxB (fun i => h.1 A (162 + i)) (h.1 A 91).toInt.toNat 1 p1
def earI (p0 : List Int32) : Int → Int → Int → Int := fun x y z => (tgP 0 p0 (oI x) (oI y) (oI z)).toInt
