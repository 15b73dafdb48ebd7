/-! WORDS: the shape of the world, its references, the methods, what the tables say of each link -/
def SH : List Sh := [.inl 10, .inl 8, .inr (0, 4), .inr (0, 4), .inr (0, 4), .inr (0, 12), .inr (0, 12), .inr (0, 12), .inr (0, 12), .inl 2, .inr (0, 4), .inr (0, 4), .inr (0, 12), .inl 9, .inr (0, 50), .inr (0, 50), .inl 9, .inr (0, 50), .inr (0, 50), .inr (0, 50), .inr (0, 20), .inl 8, .inr (0, 4), .inr (0, 4), .inr (0, 4), .inr (0, 12), .inr (0, 12), .inr (0, 12), .inr (0, 12), .inl 2, .inr (0, 4), .inr (0, 4), .inr (0, 12), .inl 9, .inr (0, 50), .inr (0, 50), .inl 9, .inr (0, 50), .inr (0, 50), .inr (0, 50), .inr (0, 20), .inl 2, .inr (0, 4), .inr (0, 4), .inr (0, 12), .inl 5, .inl 9, .inr (0, 50), .inr (0, 50), .inl 4, .inr (0, 5), .inr (0, 5), .inr (0, 5), .inl 3, .inr (0, 4), .inr (0, 16), .inl 1, .inr (2, 5), .inl 2, .inr (0, 4), .inr (0, 4), .inr (0, 12), .inl 2, .inr (0, 4), .inr (0, 4), .inr (0, 12), .inl 2, .inr (0, 4), .inr (0, 4), .inr (0, 12), .inl 2, .inr (0, 4), .inr (0, 4), .inr (0, 12), .inl 2, .inr (0, 4), .inr (0, 4), .inr (0, 12), .inl 6, .inr (0, 32), .inr (1, 32), .inr (0, 32), .inr (1, 32), .inl 0, .inr (0, 40), .inl 7, .inr (0, 4), .inr (0, 4), .inr (3, 4), .inr (0, 40), .inr (0, 40), .inr (0, 40), .inr (0, 40), .inr (0, 6), .inl 11, .inr (0, 264), .inr (0, 264), .inr (0, 90), .inr (0, 6), .inr (0, 3), .inr (0, 5), .inr (0, 7), .inr (0, 7), .inr (0, 7), .inr (0, 5), .inr (0, 16), .inr (0, 4), .inr (0, 450), .inr (0, 6), .inr (0, 6), .inr (0, 6), .inr (0, 6), .inr (0, 10), .inr (0, 40), .inr (0, 4), .inr (0, 4), .inr (0, 160), .inr (0, 40)]
def rfT : List (Nat × (Nat × Nat)) := [(0, 0, 1), (0, 1, 21), (0, 3, 41), (0, 4, 45), (0, 5, 49), (0, 6, 53), (0, 7, 56), (0, 8, 78), (0, 9, 83), (0, 10, 85), (0, 11, 93), (1, 1, 2), (1, 2, 3), (1, 3, 4), (1, 5, 5), (1, 6, 6), (1, 7, 7), (1, 8, 8), (1, 9, 9), (1, 10, 13), (1, 11, 16), (1, 12, 19), (1, 14, 20), (9, 0, 10), (9, 1, 11), (9, 2, 12), (13, 0, 14), (13, 1, 15), (16, 0, 17), (16, 1, 18), (21, 1, 22), (21, 2, 23), (21, 3, 24), (21, 5, 25), (21, 6, 26), (21, 7, 27), (21, 8, 28), (21, 9, 29), (21, 10, 33), (21, 11, 36), (21, 12, 39), (21, 14, 40), (29, 0, 30), (29, 1, 31), (29, 2, 32), (33, 0, 34), (33, 1, 35), (36, 0, 37), (36, 1, 38), (41, 0, 42), (41, 1, 43), (41, 2, 44), (45, 0, 46), (46, 0, 47), (46, 1, 48), (49, 0, 50), (49, 4, 51), (49, 6, 52), (53, 0, 54), (53, 2, 55), (56, 1, 57), (57, 0, 58), (57, 1, 62), (57, 2, 66), (57, 3, 70), (57, 4, 74), (58, 0, 59), (58, 1, 60), (58, 2, 61), (62, 0, 63), (62, 1, 64), (62, 2, 65), (66, 0, 67), (66, 1, 68), (66, 2, 69), (70, 0, 71), (70, 1, 72), (70, 2, 73), (74, 0, 75), (74, 1, 76), (74, 2, 77), (78, 2, 79), (78, 3, 80), (78, 4, 81), (78, 5, 82), (83, 0, 84), (85, 0, 86), (85, 1, 87), (85, 2, 88), (88, 0, 89), (88, 1, 90), (88, 2, 91), (88, 3, 92), (94, 0, 95), (94, 1, 96), (94, 2, 97), (94, 4, 98), (94, 11, 99), (94, 12, 100), (94, 14, 101), (94, 15, 102), (94, 16, 103), (94, 20, 104), (94, 21, 105), (94, 22, 106), (94, 24, 107), (94, 25, 108), (94, 26, 109), (94, 27, 110), (94, 28, 111), (94, 29, 112), (94, 31, 113), (94, 34, 114), (94, 35, 115), (94, 36, 116), (94, 37, 117)]
def RF (h : Hp) : Prop := ∀ q ∈ rfT, h.2.2 q.1 q.2.1 = some q.2.2
theorem RF_sR {h : Hp} {a k : Nat} {v : Option Nat} (hR : RF h) (hn : rfT.all (fun q => !(q.1 == a && q.2.1 == k)) = true) : RF (sR h a k v) := by
  intro q hq
  have h1 := List.all_eq_true.mp hn q hq
  have h2 := hR q hq
  by_cases hc : q.1 = a ∧ q.2.1 = k
  · simp [hc.1, hc.2] at h1
  · show (if q.1 = a ∧ q.2.1 = k then v else h.2.2 q.1 q.2.1) = _
    rw [if_neg hc]
    exact h2
theorem rf_0_0 {h : Hp} (hR : RF h) : h.2.2 0 0 = some 1 := hR _ (List.mem_of_getElem? (i := 0) (a := (0, 0, 1)) rfl)
theorem rf_0_1 {h : Hp} (hR : RF h) : h.2.2 0 1 = some 21 := hR _ (List.mem_of_getElem? (i := 1) (a := (0, 1, 21)) rfl)
theorem rf_0_3 {h : Hp} (hR : RF h) : h.2.2 0 3 = some 41 := hR _ (List.mem_of_getElem? (i := 2) (a := (0, 3, 41)) rfl)
theorem rf_0_4 {h : Hp} (hR : RF h) : h.2.2 0 4 = some 45 := hR _ (List.mem_of_getElem? (i := 3) (a := (0, 4, 45)) rfl)
theorem rf_0_5 {h : Hp} (hR : RF h) : h.2.2 0 5 = some 49 := hR _ (List.mem_of_getElem? (i := 4) (a := (0, 5, 49)) rfl)
theorem rf_0_6 {h : Hp} (hR : RF h) : h.2.2 0 6 = some 53 := hR _ (List.mem_of_getElem? (i := 5) (a := (0, 6, 53)) rfl)
theorem rf_0_7 {h : Hp} (hR : RF h) : h.2.2 0 7 = some 56 := hR _ (List.mem_of_getElem? (i := 6) (a := (0, 7, 56)) rfl)
theorem rf_0_8 {h : Hp} (hR : RF h) : h.2.2 0 8 = some 78 := hR _ (List.mem_of_getElem? (i := 7) (a := (0, 8, 78)) rfl)
theorem rf_0_9 {h : Hp} (hR : RF h) : h.2.2 0 9 = some 83 := hR _ (List.mem_of_getElem? (i := 8) (a := (0, 9, 83)) rfl)
theorem rf_0_10 {h : Hp} (hR : RF h) : h.2.2 0 10 = some 85 := hR _ (List.mem_of_getElem? (i := 9) (a := (0, 10, 85)) rfl)
theorem rf_0_11 {h : Hp} (hR : RF h) : h.2.2 0 11 = some 93 := hR _ (List.mem_of_getElem? (i := 10) (a := (0, 11, 93)) rfl)
theorem rf_1_1 {h : Hp} (hR : RF h) : h.2.2 1 1 = some 2 := hR _ (List.mem_of_getElem? (i := 11) (a := (1, 1, 2)) rfl)
theorem rf_1_2 {h : Hp} (hR : RF h) : h.2.2 1 2 = some 3 := hR _ (List.mem_of_getElem? (i := 12) (a := (1, 2, 3)) rfl)
theorem rf_1_3 {h : Hp} (hR : RF h) : h.2.2 1 3 = some 4 := hR _ (List.mem_of_getElem? (i := 13) (a := (1, 3, 4)) rfl)
theorem rf_1_5 {h : Hp} (hR : RF h) : h.2.2 1 5 = some 5 := hR _ (List.mem_of_getElem? (i := 14) (a := (1, 5, 5)) rfl)
theorem rf_1_6 {h : Hp} (hR : RF h) : h.2.2 1 6 = some 6 := hR _ (List.mem_of_getElem? (i := 15) (a := (1, 6, 6)) rfl)
theorem rf_1_7 {h : Hp} (hR : RF h) : h.2.2 1 7 = some 7 := hR _ (List.mem_of_getElem? (i := 16) (a := (1, 7, 7)) rfl)
theorem rf_1_8 {h : Hp} (hR : RF h) : h.2.2 1 8 = some 8 := hR _ (List.mem_of_getElem? (i := 17) (a := (1, 8, 8)) rfl)
theorem rf_1_9 {h : Hp} (hR : RF h) : h.2.2 1 9 = some 9 := hR _ (List.mem_of_getElem? (i := 18) (a := (1, 9, 9)) rfl)
theorem rf_1_10 {h : Hp} (hR : RF h) : h.2.2 1 10 = some 13 := hR _ (List.mem_of_getElem? (i := 19) (a := (1, 10, 13)) rfl)
theorem rf_1_11 {h : Hp} (hR : RF h) : h.2.2 1 11 = some 16 := hR _ (List.mem_of_getElem? (i := 20) (a := (1, 11, 16)) rfl)
theorem rf_1_12 {h : Hp} (hR : RF h) : h.2.2 1 12 = some 19 := hR _ (List.mem_of_getElem? (i := 21) (a := (1, 12, 19)) rfl)
theorem rf_1_14 {h : Hp} (hR : RF h) : h.2.2 1 14 = some 20 := hR _ (List.mem_of_getElem? (i := 22) (a := (1, 14, 20)) rfl)
theorem rf_9_0 {h : Hp} (hR : RF h) : h.2.2 9 0 = some 10 := hR _ (List.mem_of_getElem? (i := 23) (a := (9, 0, 10)) rfl)
theorem rf_9_1 {h : Hp} (hR : RF h) : h.2.2 9 1 = some 11 := hR _ (List.mem_of_getElem? (i := 24) (a := (9, 1, 11)) rfl)
theorem rf_9_2 {h : Hp} (hR : RF h) : h.2.2 9 2 = some 12 := hR _ (List.mem_of_getElem? (i := 25) (a := (9, 2, 12)) rfl)
theorem rf_13_0 {h : Hp} (hR : RF h) : h.2.2 13 0 = some 14 := hR _ (List.mem_of_getElem? (i := 26) (a := (13, 0, 14)) rfl)
theorem rf_13_1 {h : Hp} (hR : RF h) : h.2.2 13 1 = some 15 := hR _ (List.mem_of_getElem? (i := 27) (a := (13, 1, 15)) rfl)
theorem rf_16_0 {h : Hp} (hR : RF h) : h.2.2 16 0 = some 17 := hR _ (List.mem_of_getElem? (i := 28) (a := (16, 0, 17)) rfl)
theorem rf_16_1 {h : Hp} (hR : RF h) : h.2.2 16 1 = some 18 := hR _ (List.mem_of_getElem? (i := 29) (a := (16, 1, 18)) rfl)
theorem rf_21_1 {h : Hp} (hR : RF h) : h.2.2 21 1 = some 22 := hR _ (List.mem_of_getElem? (i := 30) (a := (21, 1, 22)) rfl)
theorem rf_21_2 {h : Hp} (hR : RF h) : h.2.2 21 2 = some 23 := hR _ (List.mem_of_getElem? (i := 31) (a := (21, 2, 23)) rfl)
theorem rf_21_3 {h : Hp} (hR : RF h) : h.2.2 21 3 = some 24 := hR _ (List.mem_of_getElem? (i := 32) (a := (21, 3, 24)) rfl)
theorem rf_21_5 {h : Hp} (hR : RF h) : h.2.2 21 5 = some 25 := hR _ (List.mem_of_getElem? (i := 33) (a := (21, 5, 25)) rfl)
theorem rf_21_6 {h : Hp} (hR : RF h) : h.2.2 21 6 = some 26 := hR _ (List.mem_of_getElem? (i := 34) (a := (21, 6, 26)) rfl)
theorem rf_21_7 {h : Hp} (hR : RF h) : h.2.2 21 7 = some 27 := hR _ (List.mem_of_getElem? (i := 35) (a := (21, 7, 27)) rfl)
theorem rf_21_8 {h : Hp} (hR : RF h) : h.2.2 21 8 = some 28 := hR _ (List.mem_of_getElem? (i := 36) (a := (21, 8, 28)) rfl)
theorem rf_21_9 {h : Hp} (hR : RF h) : h.2.2 21 9 = some 29 := hR _ (List.mem_of_getElem? (i := 37) (a := (21, 9, 29)) rfl)
theorem rf_21_10 {h : Hp} (hR : RF h) : h.2.2 21 10 = some 33 := hR _ (List.mem_of_getElem? (i := 38) (a := (21, 10, 33)) rfl)
theorem rf_21_11 {h : Hp} (hR : RF h) : h.2.2 21 11 = some 36 := hR _ (List.mem_of_getElem? (i := 39) (a := (21, 11, 36)) rfl)
theorem rf_21_12 {h : Hp} (hR : RF h) : h.2.2 21 12 = some 39 := hR _ (List.mem_of_getElem? (i := 40) (a := (21, 12, 39)) rfl)
theorem rf_21_14 {h : Hp} (hR : RF h) : h.2.2 21 14 = some 40 := hR _ (List.mem_of_getElem? (i := 41) (a := (21, 14, 40)) rfl)
theorem rf_29_0 {h : Hp} (hR : RF h) : h.2.2 29 0 = some 30 := hR _ (List.mem_of_getElem? (i := 42) (a := (29, 0, 30)) rfl)
theorem rf_29_1 {h : Hp} (hR : RF h) : h.2.2 29 1 = some 31 := hR _ (List.mem_of_getElem? (i := 43) (a := (29, 1, 31)) rfl)
theorem rf_29_2 {h : Hp} (hR : RF h) : h.2.2 29 2 = some 32 := hR _ (List.mem_of_getElem? (i := 44) (a := (29, 2, 32)) rfl)
theorem rf_33_0 {h : Hp} (hR : RF h) : h.2.2 33 0 = some 34 := hR _ (List.mem_of_getElem? (i := 45) (a := (33, 0, 34)) rfl)
theorem rf_33_1 {h : Hp} (hR : RF h) : h.2.2 33 1 = some 35 := hR _ (List.mem_of_getElem? (i := 46) (a := (33, 1, 35)) rfl)
theorem rf_36_0 {h : Hp} (hR : RF h) : h.2.2 36 0 = some 37 := hR _ (List.mem_of_getElem? (i := 47) (a := (36, 0, 37)) rfl)
theorem rf_36_1 {h : Hp} (hR : RF h) : h.2.2 36 1 = some 38 := hR _ (List.mem_of_getElem? (i := 48) (a := (36, 1, 38)) rfl)
theorem rf_41_0 {h : Hp} (hR : RF h) : h.2.2 41 0 = some 42 := hR _ (List.mem_of_getElem? (i := 49) (a := (41, 0, 42)) rfl)
theorem rf_41_1 {h : Hp} (hR : RF h) : h.2.2 41 1 = some 43 := hR _ (List.mem_of_getElem? (i := 50) (a := (41, 1, 43)) rfl)
theorem rf_41_2 {h : Hp} (hR : RF h) : h.2.2 41 2 = some 44 := hR _ (List.mem_of_getElem? (i := 51) (a := (41, 2, 44)) rfl)
theorem rf_45_0 {h : Hp} (hR : RF h) : h.2.2 45 0 = some 46 := hR _ (List.mem_of_getElem? (i := 52) (a := (45, 0, 46)) rfl)
theorem rf_46_0 {h : Hp} (hR : RF h) : h.2.2 46 0 = some 47 := hR _ (List.mem_of_getElem? (i := 53) (a := (46, 0, 47)) rfl)
theorem rf_46_1 {h : Hp} (hR : RF h) : h.2.2 46 1 = some 48 := hR _ (List.mem_of_getElem? (i := 54) (a := (46, 1, 48)) rfl)
theorem rf_49_0 {h : Hp} (hR : RF h) : h.2.2 49 0 = some 50 := hR _ (List.mem_of_getElem? (i := 55) (a := (49, 0, 50)) rfl)
theorem rf_49_4 {h : Hp} (hR : RF h) : h.2.2 49 4 = some 51 := hR _ (List.mem_of_getElem? (i := 56) (a := (49, 4, 51)) rfl)
theorem rf_49_6 {h : Hp} (hR : RF h) : h.2.2 49 6 = some 52 := hR _ (List.mem_of_getElem? (i := 57) (a := (49, 6, 52)) rfl)
theorem rf_53_0 {h : Hp} (hR : RF h) : h.2.2 53 0 = some 54 := hR _ (List.mem_of_getElem? (i := 58) (a := (53, 0, 54)) rfl)
theorem rf_53_2 {h : Hp} (hR : RF h) : h.2.2 53 2 = some 55 := hR _ (List.mem_of_getElem? (i := 59) (a := (53, 2, 55)) rfl)
theorem rf_56_1 {h : Hp} (hR : RF h) : h.2.2 56 1 = some 57 := hR _ (List.mem_of_getElem? (i := 60) (a := (56, 1, 57)) rfl)
theorem rf_57_0 {h : Hp} (hR : RF h) : h.2.2 57 0 = some 58 := hR _ (List.mem_of_getElem? (i := 61) (a := (57, 0, 58)) rfl)
theorem rf_57_1 {h : Hp} (hR : RF h) : h.2.2 57 1 = some 62 := hR _ (List.mem_of_getElem? (i := 62) (a := (57, 1, 62)) rfl)
theorem rf_57_2 {h : Hp} (hR : RF h) : h.2.2 57 2 = some 66 := hR _ (List.mem_of_getElem? (i := 63) (a := (57, 2, 66)) rfl)
theorem rf_57_3 {h : Hp} (hR : RF h) : h.2.2 57 3 = some 70 := hR _ (List.mem_of_getElem? (i := 64) (a := (57, 3, 70)) rfl)
theorem rf_57_4 {h : Hp} (hR : RF h) : h.2.2 57 4 = some 74 := hR _ (List.mem_of_getElem? (i := 65) (a := (57, 4, 74)) rfl)
theorem rf_58_0 {h : Hp} (hR : RF h) : h.2.2 58 0 = some 59 := hR _ (List.mem_of_getElem? (i := 66) (a := (58, 0, 59)) rfl)
theorem rf_58_1 {h : Hp} (hR : RF h) : h.2.2 58 1 = some 60 := hR _ (List.mem_of_getElem? (i := 67) (a := (58, 1, 60)) rfl)
theorem rf_58_2 {h : Hp} (hR : RF h) : h.2.2 58 2 = some 61 := hR _ (List.mem_of_getElem? (i := 68) (a := (58, 2, 61)) rfl)
theorem rf_62_0 {h : Hp} (hR : RF h) : h.2.2 62 0 = some 63 := hR _ (List.mem_of_getElem? (i := 69) (a := (62, 0, 63)) rfl)
theorem rf_62_1 {h : Hp} (hR : RF h) : h.2.2 62 1 = some 64 := hR _ (List.mem_of_getElem? (i := 70) (a := (62, 1, 64)) rfl)
theorem rf_62_2 {h : Hp} (hR : RF h) : h.2.2 62 2 = some 65 := hR _ (List.mem_of_getElem? (i := 71) (a := (62, 2, 65)) rfl)
theorem rf_66_0 {h : Hp} (hR : RF h) : h.2.2 66 0 = some 67 := hR _ (List.mem_of_getElem? (i := 72) (a := (66, 0, 67)) rfl)
theorem rf_66_1 {h : Hp} (hR : RF h) : h.2.2 66 1 = some 68 := hR _ (List.mem_of_getElem? (i := 73) (a := (66, 1, 68)) rfl)
theorem rf_66_2 {h : Hp} (hR : RF h) : h.2.2 66 2 = some 69 := hR _ (List.mem_of_getElem? (i := 74) (a := (66, 2, 69)) rfl)
theorem rf_70_0 {h : Hp} (hR : RF h) : h.2.2 70 0 = some 71 := hR _ (List.mem_of_getElem? (i := 75) (a := (70, 0, 71)) rfl)
theorem rf_70_1 {h : Hp} (hR : RF h) : h.2.2 70 1 = some 72 := hR _ (List.mem_of_getElem? (i := 76) (a := (70, 1, 72)) rfl)
theorem rf_70_2 {h : Hp} (hR : RF h) : h.2.2 70 2 = some 73 := hR _ (List.mem_of_getElem? (i := 77) (a := (70, 2, 73)) rfl)
theorem rf_74_0 {h : Hp} (hR : RF h) : h.2.2 74 0 = some 75 := hR _ (List.mem_of_getElem? (i := 78) (a := (74, 0, 75)) rfl)
theorem rf_74_1 {h : Hp} (hR : RF h) : h.2.2 74 1 = some 76 := hR _ (List.mem_of_getElem? (i := 79) (a := (74, 1, 76)) rfl)
theorem rf_74_2 {h : Hp} (hR : RF h) : h.2.2 74 2 = some 77 := hR _ (List.mem_of_getElem? (i := 80) (a := (74, 2, 77)) rfl)
theorem rf_78_2 {h : Hp} (hR : RF h) : h.2.2 78 2 = some 79 := hR _ (List.mem_of_getElem? (i := 81) (a := (78, 2, 79)) rfl)
theorem rf_78_3 {h : Hp} (hR : RF h) : h.2.2 78 3 = some 80 := hR _ (List.mem_of_getElem? (i := 82) (a := (78, 3, 80)) rfl)
theorem rf_78_4 {h : Hp} (hR : RF h) : h.2.2 78 4 = some 81 := hR _ (List.mem_of_getElem? (i := 83) (a := (78, 4, 81)) rfl)
theorem rf_78_5 {h : Hp} (hR : RF h) : h.2.2 78 5 = some 82 := hR _ (List.mem_of_getElem? (i := 84) (a := (78, 5, 82)) rfl)
theorem rf_83_0 {h : Hp} (hR : RF h) : h.2.2 83 0 = some 84 := hR _ (List.mem_of_getElem? (i := 85) (a := (83, 0, 84)) rfl)
theorem rf_85_0 {h : Hp} (hR : RF h) : h.2.2 85 0 = some 86 := hR _ (List.mem_of_getElem? (i := 86) (a := (85, 0, 86)) rfl)
theorem rf_85_1 {h : Hp} (hR : RF h) : h.2.2 85 1 = some 87 := hR _ (List.mem_of_getElem? (i := 87) (a := (85, 1, 87)) rfl)
theorem rf_85_2 {h : Hp} (hR : RF h) : h.2.2 85 2 = some 88 := hR _ (List.mem_of_getElem? (i := 88) (a := (85, 2, 88)) rfl)
theorem rf_88_0 {h : Hp} (hR : RF h) : h.2.2 88 0 = some 89 := hR _ (List.mem_of_getElem? (i := 89) (a := (88, 0, 89)) rfl)
theorem rf_88_1 {h : Hp} (hR : RF h) : h.2.2 88 1 = some 90 := hR _ (List.mem_of_getElem? (i := 90) (a := (88, 1, 90)) rfl)
theorem rf_88_2 {h : Hp} (hR : RF h) : h.2.2 88 2 = some 91 := hR _ (List.mem_of_getElem? (i := 91) (a := (88, 2, 91)) rfl)
theorem rf_88_3 {h : Hp} (hR : RF h) : h.2.2 88 3 = some 92 := hR _ (List.mem_of_getElem? (i := 92) (a := (88, 3, 92)) rfl)
theorem rf_94_0 {h : Hp} (hR : RF h) : h.2.2 94 0 = some 95 := hR _ (List.mem_of_getElem? (i := 93) (a := (94, 0, 95)) rfl)
theorem rf_94_1 {h : Hp} (hR : RF h) : h.2.2 94 1 = some 96 := hR _ (List.mem_of_getElem? (i := 94) (a := (94, 1, 96)) rfl)
theorem rf_94_2 {h : Hp} (hR : RF h) : h.2.2 94 2 = some 97 := hR _ (List.mem_of_getElem? (i := 95) (a := (94, 2, 97)) rfl)
theorem rf_94_4 {h : Hp} (hR : RF h) : h.2.2 94 4 = some 98 := hR _ (List.mem_of_getElem? (i := 96) (a := (94, 4, 98)) rfl)
theorem rf_94_11 {h : Hp} (hR : RF h) : h.2.2 94 11 = some 99 := hR _ (List.mem_of_getElem? (i := 97) (a := (94, 11, 99)) rfl)
theorem rf_94_12 {h : Hp} (hR : RF h) : h.2.2 94 12 = some 100 := hR _ (List.mem_of_getElem? (i := 98) (a := (94, 12, 100)) rfl)
theorem rf_94_14 {h : Hp} (hR : RF h) : h.2.2 94 14 = some 101 := hR _ (List.mem_of_getElem? (i := 99) (a := (94, 14, 101)) rfl)
theorem rf_94_15 {h : Hp} (hR : RF h) : h.2.2 94 15 = some 102 := hR _ (List.mem_of_getElem? (i := 100) (a := (94, 15, 102)) rfl)
theorem rf_94_16 {h : Hp} (hR : RF h) : h.2.2 94 16 = some 103 := hR _ (List.mem_of_getElem? (i := 101) (a := (94, 16, 103)) rfl)
theorem rf_94_20 {h : Hp} (hR : RF h) : h.2.2 94 20 = some 104 := hR _ (List.mem_of_getElem? (i := 102) (a := (94, 20, 104)) rfl)
theorem rf_94_21 {h : Hp} (hR : RF h) : h.2.2 94 21 = some 105 := hR _ (List.mem_of_getElem? (i := 103) (a := (94, 21, 105)) rfl)
theorem rf_94_22 {h : Hp} (hR : RF h) : h.2.2 94 22 = some 106 := hR _ (List.mem_of_getElem? (i := 104) (a := (94, 22, 106)) rfl)
theorem rf_94_24 {h : Hp} (hR : RF h) : h.2.2 94 24 = some 107 := hR _ (List.mem_of_getElem? (i := 105) (a := (94, 24, 107)) rfl)
theorem rf_94_25 {h : Hp} (hR : RF h) : h.2.2 94 25 = some 108 := hR _ (List.mem_of_getElem? (i := 106) (a := (94, 25, 108)) rfl)
theorem rf_94_26 {h : Hp} (hR : RF h) : h.2.2 94 26 = some 109 := hR _ (List.mem_of_getElem? (i := 107) (a := (94, 26, 109)) rfl)
theorem rf_94_27 {h : Hp} (hR : RF h) : h.2.2 94 27 = some 110 := hR _ (List.mem_of_getElem? (i := 108) (a := (94, 27, 110)) rfl)
theorem rf_94_28 {h : Hp} (hR : RF h) : h.2.2 94 28 = some 111 := hR _ (List.mem_of_getElem? (i := 109) (a := (94, 28, 111)) rfl)
theorem rf_94_29 {h : Hp} (hR : RF h) : h.2.2 94 29 = some 112 := hR _ (List.mem_of_getElem? (i := 110) (a := (94, 29, 112)) rfl)
theorem rf_94_31 {h : Hp} (hR : RF h) : h.2.2 94 31 = some 113 := hR _ (List.mem_of_getElem? (i := 111) (a := (94, 31, 113)) rfl)
theorem rf_94_34 {h : Hp} (hR : RF h) : h.2.2 94 34 = some 114 := hR _ (List.mem_of_getElem? (i := 112) (a := (94, 34, 114)) rfl)
theorem rf_94_35 {h : Hp} (hR : RF h) : h.2.2 94 35 = some 115 := hR _ (List.mem_of_getElem? (i := 113) (a := (94, 35, 115)) rfl)
theorem rf_94_36 {h : Hp} (hR : RF h) : h.2.2 94 36 = some 116 := hR _ (List.mem_of_getElem? (i := 114) (a := (94, 36, 116)) rfl)
theorem rf_94_37 {h : Hp} (hR : RF h) : h.2.2 94 37 = some 117 := hR _ (List.mem_of_getElem? (i := 115) (a := (94, 37, 117)) rfl)
theorem fl_cases {f : Nat} (hf : SH[f]? = some (.inl 2)) : f ∈ ([9, 29, 41, 58, 62, 66, 70, 74] : List Nat) := by
  have hl : f < 118 := (List.getElem?_eq_some_iff.mp hf).1
  exact (show ∀ f, f < 118 → SH[f]? = some (.inl 2) → f ∈ ([9, 29, 41, 58, 62, 66, 70, 74] : List Nat) by decide +kernel) f hl hf
theorem fl_water {h : Hp} {f : Nat} (hR : RF h) (hf : SH[f]? = some (.inl 2)) : h.2.2 f 0 = some (f + 1) := by
  have hm := fl_cases hf
  simp only [List.mem_cons, List.not_mem_nil, or_false] at hm
  rcases hm with rfl | rfl | rfl | rfl | rfl | rfl | rfl | rfl
  · exact rf_9_0 hR
  · exact rf_29_0 hR
  · exact rf_41_0 hR
  · exact rf_58_0 hR
  · exact rf_62_0 hR
  · exact rf_66_0 hR
  · exact rf_70_0 hR
  · exact rf_74_0 hR
theorem fl_sh1 {f : Nat} (hf : SH[f]? = some (.inl 2)) : SH[f + 1]? = some (.inr (0, 4)) := by
  have hm := fl_cases hf
  simp only [List.mem_cons, List.not_mem_nil, or_false] at hm
  rcases hm with rfl | rfl | rfl | rfl | rfl | rfl | rfl | rfl <;> rfl
theorem fl_heard {h : Hp} {f : Nat} (hR : RF h) (hf : SH[f]? = some (.inl 2)) : h.2.2 f 1 = some (f + 2) := by
  have hm := fl_cases hf
  simp only [List.mem_cons, List.not_mem_nil, or_false] at hm
  rcases hm with rfl | rfl | rfl | rfl | rfl | rfl | rfl | rfl
  · exact rf_9_1 hR
  · exact rf_29_1 hR
  · exact rf_41_1 hR
  · exact rf_58_1 hR
  · exact rf_62_1 hR
  · exact rf_66_1 hR
  · exact rf_70_1 hR
  · exact rf_74_1 hR
theorem fl_sh2 {f : Nat} (hf : SH[f]? = some (.inl 2)) : SH[f + 2]? = some (.inr (0, 4)) := by
  have hm := fl_cases hf
  simp only [List.mem_cons, List.not_mem_nil, or_false] at hm
  rcases hm with rfl | rfl | rfl | rfl | rfl | rfl | rfl | rfl <;> rfl
theorem fl_how {h : Hp} {f : Nat} (hR : RF h) (hf : SH[f]? = some (.inl 2)) : h.2.2 f 2 = some (f + 3) := by
  have hm := fl_cases hf
  simp only [List.mem_cons, List.not_mem_nil, or_false] at hm
  rcases hm with rfl | rfl | rfl | rfl | rfl | rfl | rfl | rfl
  · exact rf_9_2 hR
  · exact rf_29_2 hR
  · exact rf_41_2 hR
  · exact rf_58_2 hR
  · exact rf_62_2 hR
  · exact rf_66_2 hR
  · exact rf_70_2 hR
  · exact rf_74_2 hR
theorem fl_sh3 {f : Nat} (hf : SH[f]? = some (.inl 2)) : SH[f + 3]? = some (.inr (0, 12)) := by
  have hm := fl_cases hf
  simp only [List.mem_cons, List.not_mem_nil, or_false] at hm
  rcases hm with rfl | rfl | rfl | rfl | rfl | rfl | rfl | rfl <;> rfl
theorem tx_cases {f : Nat} (hf : SH[f]? = some (.inl 9)) : f ∈ ([13, 16, 33, 36, 46] : List Nat) := by
  have hl : f < 118 := (List.getElem?_eq_some_iff.mp hf).1
  exact (show ∀ f, f < 118 → SH[f]? = some (.inl 9) → f ∈ ([13, 16, 33, 36, 46] : List Nat) by decide +kernel) f hl hf
theorem tx_steps {h : Hp} {f : Nat} (hR : RF h) (hf : SH[f]? = some (.inl 9)) : h.2.2 f 0 = some (f + 1) := by
  have hm := tx_cases hf
  simp only [List.mem_cons, List.not_mem_nil, or_false] at hm
  rcases hm with rfl | rfl | rfl | rfl | rfl
  · exact rf_13_0 hR
  · exact rf_16_0 hR
  · exact rf_33_0 hR
  · exact rf_36_0 hR
  · exact rf_46_0 hR
theorem tx_sh1 {f : Nat} (hf : SH[f]? = some (.inl 9)) : SH[f + 1]? = some (.inr (0, 50)) := by
  have hm := tx_cases hf
  simp only [List.mem_cons, List.not_mem_nil, or_false] at hm
  rcases hm with rfl | rfl | rfl | rfl | rfl <;> rfl
theorem tx_stack {h : Hp} {f : Nat} (hR : RF h) (hf : SH[f]? = some (.inl 9)) : h.2.2 f 1 = some (f + 2) := by
  have hm := tx_cases hf
  simp only [List.mem_cons, List.not_mem_nil, or_false] at hm
  rcases hm with rfl | rfl | rfl | rfl | rfl
  · exact rf_13_1 hR
  · exact rf_16_1 hR
  · exact rf_33_1 hR
  · exact rf_36_1 hR
  · exact rf_46_1 hR
theorem tx_sh2 {f : Nat} (hf : SH[f]? = some (.inl 9)) : SH[f + 2]? = some (.inr (0, 50)) := by
  have hm := tx_cases hf
  simp only [List.mem_cons, List.not_mem_nil, or_false] at hm
  rcases hm with rfl | rfl | rfl | rfl | rfl <;> rfl
def QI (Q : Int32 → Hp → Prop) : Option MV → List Sh → Hp → Prop := fun v sh' h' => sh' = SH ∧ RF h' ∧ ∃ x, v = some (.inl x) ∧ Q x h'
def QL (Q : Int64 → Hp → Prop) : Option MV → List Sh → Hp → Prop := fun v sh' h' => sh' = SH ∧ RF h' ∧ ∃ x, v = some (.inr (.inl x)) ∧ Q x h'
def QV (Q : Hp → Prop) : Option MV → List Sh → Hp → Prop := fun v sh' h' => sh' = SH ∧ RF h' ∧ v = none ∧ Q h'
abbrev EvI (G : GT) (d : Nat) (M : MR) (av : List MV) (h : Hp) (Q : Int32 → Hp → Prop) : Prop := Ev G d 0 0 M av SH h (QI Q)
abbrev EvL (G : GT) (d : Nat) (M : MR) (av : List MV) (h : Hp) (Q : Int64 → Hp → Prop) : Prop := Ev G d 0 0 M av SH h (QL Q)
abbrev EvV (G : GT) (d : Nat) (M : MR) (av : List MV) (h : Hp) (Q : Hp → Prop) : Prop := Ev G d 0 0 M av SH h (QV Q)
theorem tk_p {w : Cond} (h : w ∈ k2_sels lw_privs) : w ∈ lw_tbl := List.mem_append_left _ h
theorem tk_1 {w : Cond} (h : w ∈ tables_1_1) : w ∈ lw_tbl := List.mem_append_right _ (List.mem_append_left _ h)
theorem tk_2 {w : Cond} (h : w ∈ tables_1_2) : w ∈ lw_tbl := List.mem_append_right _ (List.mem_append_right _ (List.mem_append_left _ h))
theorem tk_3 {w : Cond} (h : w ∈ tables_1_3) : w ∈ lw_tbl := List.mem_append_right _ (List.mem_append_right _ (List.mem_append_right _ (List.mem_append_left _ h)))
theorem tk_4 {w : Cond} (h : w ∈ tables_1_4) : w ∈ lw_tbl := List.mem_append_right _ (List.mem_append_right _ (List.mem_append_right _ (List.mem_append_right _ (List.mem_append_left _ h))))
theorem tk_5 {w : Cond} (h : w ∈ tables_1_5) : w ∈ lw_tbl := List.mem_append_right _ (List.mem_append_right _ (List.mem_append_right _ (List.mem_append_right _ (List.mem_append_right _ (List.mem_append_left _ h)))))
theorem tk_6 {w : Cond} (h : w ∈ tables_1_6) : w ∈ lw_tbl := List.mem_append_right _ (List.mem_append_right _ (List.mem_append_right _ (List.mem_append_right _ (List.mem_append_right _ (List.mem_append_right _ (List.mem_append_left _ h))))))
theorem tk_7 {w : Cond} (h : w ∈ tables_1_7) : w ∈ lw_tbl := List.mem_append_right _ (List.mem_append_right _ (List.mem_append_right _ (List.mem_append_right _ (List.mem_append_right _ (List.mem_append_right _ (List.mem_append_right _ (h)))))))
theorem us_X0 : ∀ w ∈ u_ws RX0 TX0 5, w ∈ lw_g := by decide +kernel
theorem us_X1 : ∀ w ∈ u_ws RX1 TX1 5, w ∈ lw_g := by decide +kernel
theorem us_X2 : ∀ w ∈ u_ws RX2 TX2 8, w ∈ lw_g := by decide +kernel
theorem us_X3 : ∀ w ∈ u_ws RX3 TX3 4, w ∈ lw_g := by decide +kernel
theorem us_X5 : ∀ w ∈ u_ws RX5 TX5 9, w ∈ lw_g := by decide +kernel
theorem us_X6 : ∀ w ∈ u_ws RX6 TX6 5, w ∈ lw_g := by decide +kernel
theorem us_X7 : ∀ w ∈ u_ws RX7 TX7 6, w ∈ lw_g := by decide +kernel
theorem us_X8 : ∀ w ∈ u_ws RX8 TX8 3, w ∈ lw_g := by decide +kernel
theorem us_X9 : ∀ w ∈ u_ws RX9 TX9 17, w ∈ lw_g := by decide +kernel
theorem us_X10 : ∀ w ∈ u_ws RX10 TX10 3, w ∈ lw_g := by decide +kernel
theorem us_X11 : ∀ w ∈ u_ws RX11 TX11 12, w ∈ lw_g := by decide +kernel
theorem us_X12 : ∀ w ∈ u_ws RX12 TX12 38, w ∈ lw_g := by decide +kernel
abbrev mX0_init : MR := (yX0_init, cX0_init, 1, (Option.none : Option Jvm.ClassFile.FieldType))
abbrev mX0_answer : MR := (yX0_answer, cX0_answer, 6, (Option.some Jvm.ClassFile.FieldType.int))
abbrev mX0_call : MR := (yX0_call, cX0_call, 9, (Option.some Jvm.ClassFile.FieldType.int))
abbrev mX0_own : MR := (yX0_own, cX0_own, 4, (Option.some Jvm.ClassFile.FieldType.int))
abbrev mX0_above : MR := (yX0_above, cX0_above, 5, (Option.some Jvm.ClassFile.FieldType.int))
abbrev mX0_run : MR := (yX0_run, cX0_run, 4, (Option.some Jvm.ClassFile.FieldType.int))
abbrev mX1_init : MR := (yX1_init, cX1_init, 2, (Option.none : Option Jvm.ClassFile.FieldType))
abbrev mX1_play : MR := (yX1_play, cX1_play, 6, (Option.some Jvm.ClassFile.FieldType.int))
abbrev mX1_turn : MR := (yX1_turn, cX1_turn, 10, (Option.some Jvm.ClassFile.FieldType.int))
abbrev mX1_valueOf : MR := (yX1_valueOf, cX1_valueOf, 5, (Option.some Jvm.ClassFile.FieldType.int))
abbrev mX1_isBetter : MR := (yX1_isBetter, cX1_isBetter, 3, (Option.some Jvm.ClassFile.FieldType.boolean))
abbrev mX1_growth : MR := (yX1_growth, cX1_growth, 4, (Option.some Jvm.ClassFile.FieldType.int))
abbrev mX2_init : MR := (yX2_init, cX2_init, 1, (Option.none : Option Jvm.ClassFile.FieldType))
abbrev mX2_copy : MR := (yX2_copy, cX2_copy, 2, (Option.none : Option Jvm.ClassFile.FieldType))
abbrev mX2_lose : MR := (yX2_lose, cX2_lose, 4, (Option.some Jvm.ClassFile.FieldType.int))
abbrev mX2_floorGets : MR := (yX2_floorGets, cX2_floorGets, 2, (Option.none : Option Jvm.ClassFile.FieldType))
abbrev mX2_end : MR := (yX2_end, cX2_end, 3, (Option.none : Option Jvm.ClassFile.FieldType))
abbrev mX3_init : MR := (yX3_init, cX3_init, 1, (Option.none : Option Jvm.ClassFile.FieldType))
abbrev mX3_weigh : MR := (yX3_weigh, cX3_weigh, 5, (Option.none : Option Jvm.ClassFile.FieldType))
abbrev mX3_gainOf : MR := (yX3_gainOf, cX3_gainOf, 8, (Option.some Jvm.ClassFile.FieldType.int))
abbrev mX3_leastLeaving : MR := (yX3_leastLeaving, cX3_leastLeaving, 4, (Option.some Jvm.ClassFile.FieldType.int))
abbrev mX3_factorial : MR := (yX3_factorial, cX3_factorial, 3, (Option.some Jvm.ClassFile.FieldType.int))
abbrev mX4_above : MR := (yX4_above, cX4_above, 1, (Option.some Jvm.ClassFile.FieldType.int))
abbrev mX4_isUnder : MR := (yX4_isUnder, cX4_isUnder, 4, (Option.some Jvm.ClassFile.FieldType.boolean))
abbrev mX4_runs : MR := (yX4_runs, cX4_runs, 3, (Option.some Jvm.ClassFile.FieldType.int))
abbrev mX4_atLeastOne : MR := (yX4_atLeastOne, cX4_atLeastOne, 1, (Option.some Jvm.ClassFile.FieldType.int))
abbrev mX4_drips : MR := (yX4_drips, cX4_drips, 2, (Option.some Jvm.ClassFile.FieldType.int))
abbrev mX5_init : MR := (yX5_init, cX5_init, 1, (Option.none : Option Jvm.ClassFile.FieldType))
abbrev mX5_find : MR := (yX5_find, cX5_find, 4, (Option.none : Option Jvm.ClassFile.FieldType))
abbrev mX5_leastOf : MR := (yX5_leastOf, cX5_leastOf, 2, (Option.some Jvm.ClassFile.FieldType.int))
abbrev mX5_gather : MR := (yX5_gather, cX5_gather, 4, (Option.none : Option Jvm.ClassFile.FieldType))
abbrev mX5_lengthen : MR := (yX5_lengthen, cX5_lengthen, 7, (Option.none : Option Jvm.ClassFile.FieldType))
abbrev mX5_append : MR := (yX5_append, cX5_append, 9, (Option.none : Option Jvm.ClassFile.FieldType))
abbrev mX5_mayCome : MR := (yX5_mayCome, cX5_mayCome, 3, (Option.some Jvm.ClassFile.FieldType.boolean))
abbrev mX5_keepIfBetter : MR := (yX5_keepIfBetter, cX5_keepIfBetter, 4, (Option.none : Option Jvm.ClassFile.FieldType))
abbrev mX6_init : MR := (yX6_init, cX6_init, 1, (Option.none : Option Jvm.ClassFile.FieldType))
abbrev mX6_read : MR := (yX6_read, cX6_read, 5, (Option.some Jvm.ClassFile.FieldType.int))
abbrev mX6_next : MR := (yX6_next, cX6_next, 1, (Option.some Jvm.ClassFile.FieldType.int))
abbrev mX6_readT : MR := (yX6_readT, cX6_readT, 3, (Option.some Jvm.ClassFile.FieldType.boolean))
abbrev mX6_readA : MR := (yX6_readA, cX6_readA, 3, (Option.some Jvm.ClassFile.FieldType.boolean))
abbrev mX6_readB : MR := (yX6_readB, cX6_readB, 3, (Option.some Jvm.ClassFile.FieldType.boolean))
abbrev mX6_readS : MR := (yX6_readS, cX6_readS, 4, (Option.some Jvm.ClassFile.FieldType.boolean))
abbrev mX6_readP : MR := (yX6_readP, cX6_readP, 4, (Option.some Jvm.ClassFile.FieldType.boolean))
abbrev mX6_readQ : MR := (yX6_readQ, cX6_readQ, 4, (Option.some Jvm.ClassFile.FieldType.boolean))
abbrev mX6_readOpen : MR := (yX6_readOpen, cX6_readOpen, 3, (Option.some Jvm.ClassFile.FieldType.boolean))
abbrev mX6_readNumber : MR := (yX6_readNumber, cX6_readNumber, 3, (Option.none : Option Jvm.ClassFile.FieldType))
abbrev mX6_isDigit : MR := (yX6_isDigit, cX6_isDigit, 1, (Option.some Jvm.ClassFile.FieldType.boolean))
abbrev mX7_init : MR := (yX7_init, cX7_init, 1, (Option.none : Option Jvm.ClassFile.FieldType))
abbrev mX7_weigh : MR := (yX7_weigh, cX7_weigh, 11, (Option.none : Option Jvm.ClassFile.FieldType))
abbrev mX7_lay : MR := (yX7_lay, cX7_lay, 9, (Option.some Jvm.ClassFile.FieldType.int))
abbrev mX8_init : MR := (yX8_init, cX8_init, 1, (Option.none : Option Jvm.ClassFile.FieldType))
abbrev mX8_has : MR := (yX8_has, cX8_has, 2, (Option.some Jvm.ClassFile.FieldType.boolean))
abbrev mX8_isMissing : MR := (yX8_isMissing, cX8_isMissing, 2, (Option.some Jvm.ClassFile.FieldType.boolean))
abbrev mX8_lay : MR := (yX8_lay, cX8_lay, 5, (Option.none : Option Jvm.ClassFile.FieldType))
abbrev mX8_cutTo : MR := (yX8_cutTo, cX8_cutTo, 3, (Option.some Jvm.ClassFile.FieldType.int))
abbrev mX8_stand : MR := (yX8_stand, cX8_stand, 4, (Option.some Jvm.ClassFile.FieldType.boolean))
abbrev mX9_init : MR := (yX9_init, cX9_init, 1, (Option.none : Option Jvm.ClassFile.FieldType))
abbrev mX9_copy : MR := (yX9_copy, cX9_copy, 2, (Option.none : Option Jvm.ClassFile.FieldType))
abbrev mX9_hasParty : MR := (yX9_hasParty, cX9_hasParty, 2, (Option.some Jvm.ClassFile.FieldType.boolean))
abbrev mX9_hasWord : MR := (yX9_hasWord, cX9_hasWord, 2, (Option.some Jvm.ClassFile.FieldType.boolean))
abbrev mX9_sets : MR := (yX9_sets, cX9_sets, 1, (Option.some Jvm.ClassFile.FieldType.int))
abbrev mX9_addParty : MR := (yX9_addParty, cX9_addParty, 4, (Option.some Jvm.ClassFile.FieldType.int))
abbrev mX9_addWord : MR := (yX9_addWord, cX9_addWord, 6, (Option.some Jvm.ClassFile.FieldType.int))
abbrev mX9_runs : MR := (yX9_runs, cX9_runs, 2, (Option.some Jvm.ClassFile.FieldType.int))
abbrev mX9_drips : MR := (yX9_drips, cX9_drips, 2, (Option.some Jvm.ClassFile.FieldType.int))
abbrev mX9_saidOf : MR := (yX9_saidOf, cX9_saidOf, 4, (Option.some Jvm.ClassFile.FieldType.int))
abbrev mX9_waterOf : MR := (yX9_waterOf, cX9_waterOf, 4, (Option.some Jvm.ClassFile.FieldType.int))
abbrev mX9_earBy : MR := (yX9_earBy, cX9_earBy, 4, (Option.some Jvm.ClassFile.FieldType.int))
abbrev mX9_spillBy : MR := (yX9_spillBy, cX9_spillBy, 5, (Option.some Jvm.ClassFile.FieldType.int))
abbrev mX9_speaker : MR := (yX9_speaker, cX9_speaker, 2, (Option.some Jvm.ClassFile.FieldType.int))
abbrev mX9_isFree : MR := (yX9_isFree, cX9_isFree, 4, (Option.some Jvm.ClassFile.FieldType.boolean))
abbrev mX9_maySay : MR := (yX9_maySay, cX9_maySay, 3, (Option.some Jvm.ClassFile.FieldType.boolean))
abbrev mX9_begin : MR := (yX9_begin, cX9_begin, 3, (Option.none : Option Jvm.ClassFile.FieldType))
abbrev mX9_tillEnd : MR := (yX9_tillEnd, cX9_tillEnd, 4, (Option.some Jvm.ClassFile.FieldType.int))
abbrev mX9_pass : MR := (yX9_pass, cX9_pass, 8, (Option.none : Option Jvm.ClassFile.FieldType))
abbrev mX9_drain : MR := (yX9_drain, cX9_drain, 6, (Option.none : Option Jvm.ClassFile.FieldType))
abbrev mX9_loseByDraws : MR := (yX9_loseByDraws, cX9_loseByDraws, 3, (Option.none : Option Jvm.ClassFile.FieldType))
abbrev mX9_draw : MR := (yX9_draw, cX9_draw, 1, (Option.some Jvm.ClassFile.FieldType.int))
abbrev mX10_init : MR := (yX10_init, cX10_init, 1, (Option.none : Option Jvm.ClassFile.FieldType))
abbrev mX10_isThere : MR := (yX10_isThere, cX10_isThere, 1, (Option.some Jvm.ClassFile.FieldType.boolean))
abbrev mX10_clear : MR := (yX10_clear, cX10_clear, 1, (Option.none : Option Jvm.ClassFile.FieldType))
abbrev mX10_add : MR := (yX10_add, cX10_add, 2, (Option.none : Option Jvm.ClassFile.FieldType))
abbrev mX10_copy : MR := (yX10_copy, cX10_copy, 2, (Option.none : Option Jvm.ClassFile.FieldType))
abbrev mX10_value : MR := (yX10_value, cX10_value, 7, (Option.some Jvm.ClassFile.FieldType.int))
abbrev mX10_truth : MR := (yX10_truth, cX10_truth, 1, (Option.some Jvm.ClassFile.FieldType.int))
abbrev mX10_joint : MR := (yX10_joint, cX10_joint, 3, (Option.some Jvm.ClassFile.FieldType.int))
abbrev mX11_init : MR := (yX11_init, cX11_init, 1, (Option.none : Option Jvm.ClassFile.FieldType))
abbrev mX11_party : MR := (yX11_party, cX11_party, 3, (Option.some Jvm.ClassFile.FieldType.int))
abbrev mX11_ofParty : MR := (yX11_ofParty, cX11_ofParty, 3, (Option.some Jvm.ClassFile.FieldType.int))
abbrev mX11_become : MR := (yX11_become, cX11_become, 4, (Option.some Jvm.ClassFile.FieldType.int))
abbrev mX11_as : MR := (yX11_as, cX11_as, 3, (Option.some Jvm.ClassFile.FieldType.int))
abbrev mX11_word : MR := (yX11_word, cX11_word, 5, (Option.some Jvm.ClassFile.FieldType.int))
abbrev mX11_ofWord : MR := (yX11_ofWord, cX11_ofWord, 3, (Option.some Jvm.ClassFile.FieldType.int))
abbrev mX11_set : MR := (yX11_set, cX11_set, 6, (Option.some Jvm.ClassFile.FieldType.int))
abbrev mX11_fetch : MR := (yX11_fetch, cX11_fetch, 4, (Option.some Jvm.ClassFile.FieldType.int))
abbrev mX11_pour : MR := (yX11_pour, cX11_pour, 5, (Option.some Jvm.ClassFile.FieldType.int))
abbrev mX11_object : MR := (yX11_object, cX11_object, 5, (Option.some Jvm.ClassFile.FieldType.int))
abbrev mX11_thumb : MR := (yX11_thumb, cX11_thumb, 3, (Option.some Jvm.ClassFile.FieldType.int))
abbrev mX11_say : MR := (yX11_say, cX11_say, 2, (Option.some Jvm.ClassFile.FieldType.int))
abbrev mX11_stop : MR := (yX11_stop, cX11_stop, 2, (Option.some Jvm.ClassFile.FieldType.int))
abbrev mX11_seconds : MR := (yX11_seconds, cX11_seconds, 2, (Option.some Jvm.ClassFile.FieldType.int))
abbrev mX11_loose : MR := (yX11_loose, cX11_loose, 3, (Option.some Jvm.ClassFile.FieldType.int))
abbrev mX11_then : MR := (yX11_then, cX11_then, 4, (Option.some Jvm.ClassFile.FieldType.int))
abbrev mX11_feed : MR := (yX11_feed, cX11_feed, 5, (Option.some Jvm.ClassFile.FieldType.int))
abbrev mX11_text : MR := (yX11_text, cX11_text, 3, (Option.some Jvm.ClassFile.FieldType.int))
abbrev mX11_law : MR := (yX11_law, cX11_law, 5, (Option.some Jvm.ClassFile.FieldType.int))
abbrev mX11_best : MR := (yX11_best, cX11_best, 3, (Option.some Jvm.ClassFile.FieldType.int))
abbrev mX11_share : MR := (yX11_share, cX11_share, 3, (Option.some Jvm.ClassFile.FieldType.long))
abbrev mX11_leaves : MR := (yX11_leaves, cX11_leaves, 2, (Option.some Jvm.ClassFile.FieldType.int))
abbrev mX11_game : MR := (yX11_game, cX11_game, 6, (Option.some Jvm.ClassFile.FieldType.int))
abbrev mX11_odds : MR := (yX11_odds, cX11_odds, 5, (Option.some Jvm.ClassFile.FieldType.long))
abbrev mX11_carried : MR := (yX11_carried, cX11_carried, 10, (Option.some Jvm.ClassFile.FieldType.int))
abbrev mX11_explained : MR := (yX11_explained, cX11_explained, 6, (Option.some Jvm.ClassFile.FieldType.int))
abbrev mX11_seed : MR := (yX11_seed, cX11_seed, 3, (Option.some Jvm.ClassFile.FieldType.int))
abbrev mX11_voice : MR := (yX11_voice, cX11_voice, 4, (Option.some Jvm.ClassFile.FieldType.int))
abbrev mX11_trace : MR := (yX11_trace, cX11_trace, 2, (Option.some Jvm.ClassFile.FieldType.int))
abbrev mX11_sheet : MR := (yX11_sheet, cX11_sheet, 4, (Option.some Jvm.ClassFile.FieldType.int))
abbrev mX11_put : MR := (yX11_put, cX11_put, 4, (Option.some Jvm.ClassFile.FieldType.int))
abbrev mX11_move : MR := (yX11_move, cX11_move, 6, (Option.some Jvm.ClassFile.FieldType.int))
abbrev mX11_judge : MR := (yX11_judge, cX11_judge, 5, (Option.some Jvm.ClassFile.FieldType.int))
abbrev mX11_image : MR := (yX11_image, cX11_image, 1, (Option.some Jvm.ClassFile.FieldType.int))
abbrev mX11_restore : MR := (yX11_restore, cX11_restore, 1, (Option.some Jvm.ClassFile.FieldType.int))
abbrev mX11_tell : MR := (yX11_tell, cX11_tell, 2, (Option.some Jvm.ClassFile.FieldType.int))
abbrev mX11_check : MR := (yX11_check, cX11_check, 2, (Option.some Jvm.ClassFile.FieldType.int))
abbrev mX11_count : MR := (yX11_count, cX11_count, 2, (Option.some Jvm.ClassFile.FieldType.int))
abbrev mX11_told : MR := (yX11_told, cX11_told, 2, (Option.some Jvm.ClassFile.FieldType.int))
abbrev mX11_refuse : MR := (yX11_refuse, cX11_refuse, 2, (Option.some Jvm.ClassFile.FieldType.int))
abbrev mX11_within : MR := (yX11_within, cX11_within, 3, (Option.some Jvm.ClassFile.FieldType.boolean))
abbrev mX11_isKm : MR := (yX11_isKm, cX11_isKm, 1, (Option.some Jvm.ClassFile.FieldType.boolean))
abbrev mX11_areTwo : MR := (yX11_areTwo, cX11_areTwo, 3, (Option.some Jvm.ClassFile.FieldType.boolean))
abbrev mX11_firstUnlike : MR := (yX11_firstUnlike, cX11_firstUnlike, 4, (Option.some Jvm.ClassFile.FieldType.int))
abbrev mX11_held : MR := (yX11_held, cX11_held, 3, (Option.some Jvm.ClassFile.FieldType.int))
abbrev mX11_quotient : MR := (yX11_quotient, cX11_quotient, 2, (Option.some Jvm.ClassFile.FieldType.int))
abbrev mX11_common : MR := (yX11_common, cX11_common, 11, (Option.some Jvm.ClassFile.FieldType.long))
abbrev mX11_partOf : MR := (yX11_partOf, cX11_partOf, 9, (Option.some Jvm.ClassFile.FieldType.long))
abbrev mX12_init : MR := (yX12_init, cX12_init, 1, (Option.none : Option Jvm.ClassFile.FieldType))
abbrev mX12_finds : MR := (yX12_finds, cX12_finds, 2, (Option.some Jvm.ClassFile.FieldType.int))
abbrev mX12_in : MR := (yX12_in, cX12_in, 6, (Option.some Jvm.ClassFile.FieldType.boolean))
abbrev mX12_held : MR := (yX12_held, cX12_held, 3, (Option.some Jvm.ClassFile.FieldType.int))
abbrev mX12_isParty : MR := (yX12_isParty, cX12_isParty, 2, (Option.some Jvm.ClassFile.FieldType.boolean))
abbrev mX12_isWord : MR := (yX12_isWord, cX12_isWord, 2, (Option.some Jvm.ClassFile.FieldType.boolean))
abbrev mX12_of : MR := (yX12_of, cX12_of, 3, (Option.some Jvm.ClassFile.FieldType.int))
abbrev mX12_sets : MR := (yX12_sets, cX12_sets, 4, (Option.none : Option Jvm.ClassFile.FieldType))
abbrev mX12_its : MR := (yX12_its, cX12_its, 3, (Option.some Jvm.ClassFile.FieldType.int))
abbrev mX12_puts : MR := (yX12_puts, cX12_puts, 4, (Option.none : Option Jvm.ClassFile.FieldType))
abbrev mX12_keepAside : MR := (yX12_keepAside, cX12_keepAside, 2, (Option.none : Option Jvm.ClassFile.FieldType))
abbrev mX12_putBack : MR := (yX12_putBack, cX12_putBack, 2, (Option.none : Option Jvm.ClassFile.FieldType))
abbrev mX12_here : MR := (yX12_here, cX12_here, 1, (Option.some Jvm.ClassFile.FieldType.int))
abbrev mX12_wrong : MR := (yX12_wrong, cX12_wrong, 1, (Option.some Jvm.ClassFile.FieldType.int))
abbrev mX12_takes : MR := (yX12_takes, cX12_takes, 2, (Option.some Jvm.ClassFile.FieldType.boolean))
abbrev mX12_nameOf : MR := (yX12_nameOf, cX12_nameOf, 2, (Option.some Jvm.ClassFile.FieldType.int))
abbrev mX12_either : MR := (yX12_either, cX12_either, 3, (Option.some Jvm.ClassFile.FieldType.int))
abbrev mX12_both : MR := (yX12_both, cX12_both, 3, (Option.some Jvm.ClassFile.FieldType.int))
abbrev mX12_compared : MR := (yX12_compared, cX12_compared, 4, (Option.some Jvm.ClassFile.FieldType.int))
abbrev mX12_sum : MR := (yX12_sum, cX12_sum, 4, (Option.some Jvm.ClassFile.FieldType.int))
abbrev mX12_product : MR := (yX12_product, cX12_product, 4, (Option.some Jvm.ClassFile.FieldType.int))
abbrev mX12_unit : MR := (yX12_unit, cX12_unit, 5, (Option.some Jvm.ClassFile.FieldType.int))
abbrev mX12_worked : MR := (yX12_worked, cX12_worked, 5, (Option.some Jvm.ClassFile.FieldType.int))
abbrev mX12_feed : MR := (yX12_feed, cX12_feed, 5, (Option.some Jvm.ClassFile.FieldType.int))
abbrev mX12_text : MR := (yX12_text, cX12_text, 5, (Option.some Jvm.ClassFile.FieldType.int))
abbrev mX12_textGives : MR := (yX12_textGives, cX12_textGives, 6, (Option.some Jvm.ClassFile.FieldType.int))
abbrev mX12_law : MR := (yX12_law, cX12_law, 5, (Option.some Jvm.ClassFile.FieldType.int))
abbrev mX12_runs : MR := (yX12_runs, cX12_runs, 4, (Option.some Jvm.ClassFile.FieldType.int))
abbrev mX12_drips : MR := (yX12_drips, cX12_drips, 4, (Option.some Jvm.ClassFile.FieldType.int))
abbrev mX12_above : MR := (yX12_above, cX12_above, 1, (Option.some Jvm.ClassFile.FieldType.int))
abbrev mX12_party : MR := (yX12_party, cX12_party, 4, (Option.some Jvm.ClassFile.FieldType.int))
abbrev mX12_saidOf : MR := (yX12_saidOf, cX12_saidOf, 4, (Option.some Jvm.ClassFile.FieldType.int))
abbrev mX12_ofParty : MR := (yX12_ofParty, cX12_ofParty, 3, (Option.some Jvm.ClassFile.FieldType.int))
abbrev mX12_become : MR := (yX12_become, cX12_become, 4, (Option.some Jvm.ClassFile.FieldType.int))
abbrev mX12_as : MR := (yX12_as, cX12_as, 4, (Option.some Jvm.ClassFile.FieldType.int))
abbrev mX12_word : MR := (yX12_word, cX12_word, 6, (Option.some Jvm.ClassFile.FieldType.int))
abbrev mX12_ofWord : MR := (yX12_ofWord, cX12_ofWord, 3, (Option.some Jvm.ClassFile.FieldType.int))
abbrev mX12_set : MR := (yX12_set, cX12_set, 5, (Option.some Jvm.ClassFile.FieldType.int))
abbrev mX12_spills : MR := (yX12_spills, cX12_spills, 2, (Option.none : Option Jvm.ClassFile.FieldType))
abbrev mX12_loses : MR := (yX12_loses, cX12_loses, 5, (Option.some Jvm.ClassFile.FieldType.int))
abbrev mX12_fetch : MR := (yX12_fetch, cX12_fetch, 3, (Option.some Jvm.ClassFile.FieldType.int))
abbrev mX12_pour : MR := (yX12_pour, cX12_pour, 4, (Option.some Jvm.ClassFile.FieldType.int))
abbrev mX12_speaks : MR := (yX12_speaks, cX12_speaks, 1, (Option.some Jvm.ClassFile.FieldType.int))
abbrev mX12_object : MR := (yX12_object, cX12_object, 4, (Option.some Jvm.ClassFile.FieldType.int))
abbrev mX12_thumb : MR := (yX12_thumb, cX12_thumb, 3, (Option.some Jvm.ClassFile.FieldType.int))
abbrev mX12_isReady : MR := (yX12_isReady, cX12_isReady, 3, (Option.some Jvm.ClassFile.FieldType.boolean))
abbrev mX12_begins : MR := (yX12_begins, cX12_begins, 2, (Option.none : Option Jvm.ClassFile.FieldType))
abbrev mX12_ends : MR := (yX12_ends, cX12_ends, 2, (Option.none : Option Jvm.ClassFile.FieldType))
abbrev mX12_say : MR := (yX12_say, cX12_say, 2, (Option.some Jvm.ClassFile.FieldType.int))
abbrev mX12_stop : MR := (yX12_stop, cX12_stop, 2, (Option.some Jvm.ClassFile.FieldType.int))
abbrev mX12_earOf : MR := (yX12_earOf, cX12_earOf, 3, (Option.some Jvm.ClassFile.FieldType.int))
abbrev mX12_aSecond : MR := (yX12_aSecond, cX12_aSecond, 4, (Option.none : Option Jvm.ClassFile.FieldType))
abbrev mX12_seconds : MR := (yX12_seconds, cX12_seconds, 3, (Option.some Jvm.ClassFile.FieldType.int))
abbrev mX12_drawn : MR := (yX12_drawn, cX12_drawn, 1, (Option.some Jvm.ClassFile.FieldType.int))
abbrev mX12_loose : MR := (yX12_loose, cX12_loose, 6, (Option.some Jvm.ClassFile.FieldType.int))
abbrev mX12_then : MR := (yX12_then, cX12_then, 5, (Option.some Jvm.ClassFile.FieldType.int))
abbrev mX12_findPool : MR := (yX12_findPool, cX12_findPool, 3, (Option.none : Option Jvm.ClassFile.FieldType))
abbrev mX12_mayCome : MR := (yX12_mayCome, cX12_mayCome, 9, (Option.some Jvm.ClassFile.FieldType.boolean))
abbrev mX12_findBest : MR := (yX12_findBest, cX12_findBest, 9, (Option.none : Option Jvm.ClassFile.FieldType))
abbrev mX12_best : MR := (yX12_best, cX12_best, 3, (Option.some Jvm.ClassFile.FieldType.int))
abbrev mX12_ones : MR := (yX12_ones, cX12_ones, 3, (Option.some Jvm.ClassFile.FieldType.int))
abbrev mX12_inOrders : MR := (yX12_inOrders, cX12_inOrders, 3, (Option.some Jvm.ClassFile.FieldType.int))
abbrev mX12_findShares : MR := (yX12_findShares, cX12_findShares, 4, (Option.none : Option Jvm.ClassFile.FieldType))
abbrev mX12_common : MR := (yX12_common, cX12_common, 10, (Option.some Jvm.ClassFile.FieldType.long))
abbrev mX12_share : MR := (yX12_share, cX12_share, 5, (Option.some Jvm.ClassFile.FieldType.long))
abbrev mX12_leaves : MR := (yX12_leaves, cX12_leaves, 4, (Option.some Jvm.ClassFile.FieldType.int))
abbrev mX12_standsAt : MR := (yX12_standsAt, cX12_standsAt, 3, (Option.none : Option Jvm.ClassFile.FieldType))
abbrev mX12_backTo : MR := (yX12_backTo, cX12_backTo, 3, (Option.none : Option Jvm.ClassFile.FieldType))
abbrev mX12_pickOf : MR := (yX12_pickOf, cX12_pickOf, 5, (Option.some Jvm.ClassFile.FieldType.int))
abbrev mX12_goes : MR := (yX12_goes, cX12_goes, 2, (Option.none : Option Jvm.ClassFile.FieldType))
abbrev mX12_comesTo : MR := (yX12_comesTo, cX12_comesTo, 5, (Option.none : Option Jvm.ClassFile.FieldType))
abbrev mX12_findGame : MR := (yX12_findGame, cX12_findGame, 7, (Option.none : Option Jvm.ClassFile.FieldType))
abbrev mX12_game : MR := (yX12_game, cX12_game, 5, (Option.some Jvm.ClassFile.FieldType.int))
abbrev mX12_hearsOf : MR := (yX12_hearsOf, cX12_hearsOf, 5, (Option.none : Option Jvm.ClassFile.FieldType))
abbrev mX12_odds : MR := (yX12_odds, cX12_odds, 15, (Option.some Jvm.ClassFile.FieldType.long))
abbrev mX12_carried : MR := (yX12_carried, cX12_carried, 10, (Option.some Jvm.ClassFile.FieldType.int))
abbrev mX12_floorsOf : MR := (yX12_floorsOf, cX12_floorsOf, 4, (Option.some Jvm.ClassFile.FieldType.int))
abbrev mX12_explained : MR := (yX12_explained, cX12_explained, 6, (Option.some Jvm.ClassFile.FieldType.int))
abbrev mX12_seed : MR := (yX12_seed, cX12_seed, 3, (Option.some Jvm.ClassFile.FieldType.int))
abbrev mX12_ran : MR := (yX12_ran, cX12_ran, 2, (Option.none : Option Jvm.ClassFile.FieldType))
abbrev mX12_own : MR := (yX12_own, cX12_own, 1, (Option.some Jvm.ClassFile.FieldType.int))
abbrev mX12_poursBy : MR := (yX12_poursBy, cX12_poursBy, 3, (Option.some Jvm.ClassFile.FieldType.int))
abbrev mX12_speaksBy : MR := (yX12_speaksBy, cX12_speaksBy, 4, (Option.some Jvm.ClassFile.FieldType.int))
abbrev mX12_restsBy : MR := (yX12_restsBy, cX12_restsBy, 3, (Option.some Jvm.ClassFile.FieldType.int))
abbrev mX12_tellsBy : MR := (yX12_tellsBy, cX12_tellsBy, 4, (Option.some Jvm.ClassFile.FieldType.int))
abbrev mX12_voice : MR := (yX12_voice, cX12_voice, 5, (Option.some Jvm.ClassFile.FieldType.int))
abbrev mX12_trace : MR := (yX12_trace, cX12_trace, 2, (Option.some Jvm.ClassFile.FieldType.int))
abbrev mX12_isSheet : MR := (yX12_isSheet, cX12_isSheet, 1, (Option.some Jvm.ClassFile.FieldType.boolean))
abbrev mX12_sheet : MR := (yX12_sheet, cX12_sheet, 5, (Option.some Jvm.ClassFile.FieldType.int))
abbrev mX12_put : MR := (yX12_put, cX12_put, 4, (Option.some Jvm.ClassFile.FieldType.int))
abbrev mX12_move : MR := (yX12_move, cX12_move, 7, (Option.some Jvm.ClassFile.FieldType.int))
abbrev mX12_judge : MR := (yX12_judge, cX12_judge, 5, (Option.some Jvm.ClassFile.FieldType.int))
abbrev mX12_image : MR := (yX12_image, cX12_image, 2, (Option.some Jvm.ClassFile.FieldType.int))
abbrev mX12_restore : MR := (yX12_restore, cX12_restore, 2, (Option.some Jvm.ClassFile.FieldType.int))
abbrev mX12_tell : MR := (yX12_tell, cX12_tell, 2, (Option.some Jvm.ClassFile.FieldType.int))
abbrev mX12_check : MR := (yX12_check, cX12_check, 4, (Option.some Jvm.ClassFile.FieldType.int))
abbrev mX12_waterOfAll : MR := (yX12_waterOfAll, cX12_waterOfAll, 3, (Option.some Jvm.ClassFile.FieldType.int))
abbrev mX12_count : MR := (yX12_count, cX12_count, 2, (Option.some Jvm.ClassFile.FieldType.int))
abbrev mX12_told : MR := (yX12_told, cX12_told, 2, (Option.some Jvm.ClassFile.FieldType.int))
abbrev mJ11_isValidCodePoint_9a6ad : MR := (yJ11_isValidCodePoint_9a6ad, cJ11_isValidCodePoint_9a6ad, 2, (Option.some Jvm.ClassFile.FieldType.boolean))
abbrev mJ11_highSurrogate_5068e : MR := (yJ11_highSurrogate_5068e, cJ11_highSurrogate_5068e, 1, (Option.some Jvm.ClassFile.FieldType.char))
abbrev mJ11_lowSurrogate_5068e : MR := (yJ11_lowSurrogate_5068e, cJ11_lowSurrogate_5068e, 1, (Option.some Jvm.ClassFile.FieldType.char))
abbrev mJ6_bitCount_0f7a4 : MR := (yJ6_bitCount_0f7a4, cJ6_bitCount_0f7a4, 1, (Option.some Jvm.ClassFile.FieldType.int))
abbrev mJ9_abs_067f4 : MR := (yJ9_abs_067f4, cJ9_abs_067f4, 2, (Option.some Jvm.ClassFile.FieldType.long))
abbrev mJ9_max_7cf53 : MR := (yJ9_max_7cf53, cJ9_max_7cf53, 2, (Option.some Jvm.ClassFile.FieldType.int))
abbrev mJ9_min_7cf53 : MR := (yJ9_min_7cf53, cJ9_min_7cf53, 2, (Option.some Jvm.ClassFile.FieldType.int))
abbrev mJ0_length_8abf5 : MR := (yJ0_length_8abf5, cJ0_length_8abf5, 1, (Option.some Jvm.ClassFile.FieldType.int))
abbrev mJ0_indexOf_0f7a4 : MR := (yJ0_indexOf_0f7a4, cJ0_indexOf_0f7a4, 2, (Option.some Jvm.ClassFile.FieldType.int))
abbrev mJ0_indexOf_7cf53 : MR := (yJ0_indexOf_7cf53, cJ0_indexOf_7cf53, 3, (Option.some Jvm.ClassFile.FieldType.int))
abbrev mJ0_coder_7d493 : MR := (yJ0_coder_7d493, cJ0_coder_7d493, 1, (Option.some Jvm.ClassFile.FieldType.byte))
abbrev mJ0_isLatin1_aae02 : MR := (yJ0_isLatin1_aae02, cJ0_isLatin1_aae02, 1, (Option.some Jvm.ClassFile.FieldType.boolean))
abbrev mJ0_checkBoundsBeginEnd_23922 : MR := (yJ0_checkBoundsBeginEnd_23922, cJ0_checkBoundsBeginEnd_23922, 3, (Option.none : Option Jvm.ClassFile.FieldType))
abbrev mJ1_canEncode_9a6ad : MR := (yJ1_canEncode_9a6ad, cJ1_canEncode_9a6ad, 1, (Option.some Jvm.ClassFile.FieldType.boolean))
abbrev mJ1_indexOf_4cfef : MR := (yJ1_indexOf_4cfef, cJ1_indexOf_4cfef, 4, (Option.some Jvm.ClassFile.FieldType.int))
abbrev mJ1_indexOfChar_4cfef : MR := (yJ1_indexOfChar_4cfef, cJ1_indexOfChar_4cfef, 6, (Option.some Jvm.ClassFile.FieldType.int))
abbrev mJ2_getChar_3b067 : MR := (yJ2_getChar_3b067, cJ2_getChar_3b067, 2, (Option.some Jvm.ClassFile.FieldType.char))
abbrev mJ2_length_9d52b : MR := (yJ2_length_9d52b, cJ2_length_9d52b, 1, (Option.some Jvm.ClassFile.FieldType.int))
abbrev mJ2_indexOf_4cfef : MR := (yJ2_indexOf_4cfef, cJ2_indexOf_4cfef, 4, (Option.some Jvm.ClassFile.FieldType.int))
abbrev mJ2_indexOfChar_4cfef : MR := (yJ2_indexOfChar_4cfef, cJ2_indexOfChar_4cfef, 4, (Option.some Jvm.ClassFile.FieldType.int))
abbrev mJ2_indexOfCharUnsafe_4cfef : MR := (yJ2_indexOfCharUnsafe_4cfef, cJ2_indexOfCharUnsafe_4cfef, 5, (Option.some Jvm.ClassFile.FieldType.int))
abbrev mJ2_indexOfSupplementary_4cfef : MR := (yJ2_indexOfSupplementary_4cfef, cJ2_indexOfSupplementary_4cfef, 7, (Option.some Jvm.ClassFile.FieldType.int))
abbrev mJ2_checkBoundsBeginEnd_d044e : MR := (yJ2_checkBoundsBeginEnd_d044e, cJ2_checkBoundsBeginEnd_d044e, 3, (Option.none : Option Jvm.ClassFile.FieldType))
abbrev mJ3_checkFromToIndex_8c36e : MR := (yJ3_checkFromToIndex_8c36e, cJ3_checkFromToIndex_8c36e, 4, (Option.some Jvm.ClassFile.FieldType.int))
theorem ml_L_9 : Cond.methodLink RL 9 yX11_init ∈ lw_g := lg_in (tk_1 (List.mem_of_getElem? (i := 24) (by decide +kernel))) rfl
theorem ml_X11_1 : Cond.methodLink RX11 1 Lib.objectInit ∈ lw_g := lg_in (tk_1 (List.mem_of_getElem? (i := 27) (by decide +kernel))) rfl
theorem ml_X11_9 : Cond.methodLinkNest RX11 9 yX9_init "PailSpeech" ∈ lw_n := ln_in (tk_1 (List.mem_of_getElem? (i := 32) (by decide +kernel))) rfl
theorem ml_X9_3 : Cond.methodLink RX9 3 Lib.objectInit ∈ lw_g := lg_in (tk_1 (List.mem_of_getElem? (i := 35) (by decide +kernel))) rfl
theorem ml_X9_35 : Cond.methodLinkNest RX9 35 yX2_init "PailSpeech" ∈ lw_n := ln_in (tk_1 (List.mem_of_getElem? (i := 38) (by decide +kernel))) rfl
theorem ml_X2_3 : Cond.methodLink RX2 3 Lib.objectInit ∈ lw_g := lg_in (tk_1 (List.mem_of_getElem? (i := 41) (by decide +kernel))) rfl
theorem fl_X2_9 : FLk RX2 9 2 0 RX2 TX2 8 tyX2 := ⟨rfl, us_X2, by decide, rfl, lg_in (tk_1 (List.mem_of_getElem? (i := 42) (by decide +kernel))) rfl, tyX2_ok, nmX2⟩
theorem fl_X11_114 : FLk RX11 114 2 0 RX2 TX2 8 tyX2 := ⟨rfl, us_X2, by decide, rfl, lg_in (tk_1 (List.mem_of_getElem? (i := 43) (by decide +kernel))) rfl, tyX2_ok, nmX2⟩
theorem fl_X9_89 : FLk RX9 89 2 0 RX2 TX2 8 tyX2 := ⟨rfl, us_X2, by decide, rfl, lg_in (tk_1 (List.mem_of_getElem? (i := 44) (by decide +kernel))) rfl, tyX2_ok, nmX2⟩
theorem fl_X2_15 : FLk RX2 15 2 1 RX2 TX2 8 tyX2 := ⟨rfl, us_X2, by decide, rfl, lg_in (tk_1 (List.mem_of_getElem? (i := 45) (by decide +kernel))) rfl, tyX2_ok, nmX2⟩
theorem fl_X5_45 : FLk RX5 45 2 1 RX2 TX2 8 tyX2 := ⟨rfl, us_X2, by decide, rfl, lg_in (tk_1 (List.mem_of_getElem? (i := 46) (by decide +kernel))) rfl, tyX2_ok, nmX2⟩
theorem fl_X11_117 : FLk RX11 117 2 1 RX2 TX2 8 tyX2 := ⟨rfl, us_X2, by decide, rfl, lg_in (tk_1 (List.mem_of_getElem? (i := 47) (by decide +kernel))) rfl, tyX2_ok, nmX2⟩
theorem fl_X1_105 : FLk RX1 105 2 1 RX2 TX2 8 tyX2 := ⟨rfl, us_X2, by decide, rfl, lg_in (tk_1 (List.mem_of_getElem? (i := 48) (by decide +kernel))) rfl, tyX2_ok, nmX2⟩
theorem fl_X9_92 : FLk RX9 92 2 1 RX2 TX2 8 tyX2 := ⟨rfl, us_X2, by decide, rfl, lg_in (tk_1 (List.mem_of_getElem? (i := 49) (by decide +kernel))) rfl, tyX2_ok, nmX2⟩
theorem fl_X2_18 : FLk RX2 18 2 2 RX2 TX2 8 tyX2 := ⟨rfl, us_X2, by decide, rfl, lg_in (tk_1 (List.mem_of_getElem? (i := 50) (by decide +kernel))) rfl, tyX2_ok, nmX2⟩
theorem fl_X7_49 : FLk RX7 49 2 2 RX2 TX2 8 tyX2 := ⟨rfl, us_X2, by decide, rfl, lg_in (tk_1 (List.mem_of_getElem? (i := 51) (by decide +kernel))) rfl, tyX2_ok, nmX2⟩
theorem fl_X1_66 : FLk RX1 66 2 2 RX2 TX2 8 tyX2 := ⟨rfl, us_X2, by decide, rfl, lg_in (tk_1 (List.mem_of_getElem? (i := 52) (by decide +kernel))) rfl, tyX2_ok, nmX2⟩
theorem fl_X5_82 : FLk RX5 82 2 2 RX2 TX2 8 tyX2 := ⟨rfl, us_X2, by decide, rfl, lg_in (tk_1 (List.mem_of_getElem? (i := 53) (by decide +kernel))) rfl, tyX2_ok, nmX2⟩
theorem fl_X9_95 : FLk RX9 95 2 2 RX2 TX2 8 tyX2 := ⟨rfl, us_X2, by decide, rfl, lg_in (tk_1 (List.mem_of_getElem? (i := 54) (by decide +kernel))) rfl, tyX2_ok, nmX2⟩
theorem fl_X11_157 : FLk RX11 157 2 2 RX2 TX2 8 tyX2 := ⟨rfl, us_X2, by decide, rfl, lg_in (tk_1 (List.mem_of_getElem? (i := 55) (by decide +kernel))) rfl, tyX2_ok, nmX2⟩
theorem fl_X2_31 : FLk RX2 31 2 3 RX2 TX2 8 tyX2 := ⟨rfl, us_X2, by decide, rfl, lg_in (tk_1 (List.mem_of_getElem? (i := 56) (by decide +kernel))) rfl, tyX2_ok, nmX2⟩
theorem fl_X11_197 : FLk RX11 197 2 3 RX2 TX2 8 tyX2 := ⟨rfl, us_X2, by decide, rfl, lg_in (tk_1 (List.mem_of_getElem? (i := 57) (by decide +kernel))) rfl, tyX2_ok, nmX2⟩
theorem fl_X9_145 : FLk RX9 145 2 3 RX2 TX2 8 tyX2 := ⟨rfl, us_X2, by decide, rfl, lg_in (tk_1 (List.mem_of_getElem? (i := 58) (by decide +kernel))) rfl, tyX2_ok, nmX2⟩
theorem fl_X2_34 : FLk RX2 34 2 4 RX2 TX2 8 tyX2 := ⟨rfl, us_X2, by decide, rfl, lg_in (tk_1 (List.mem_of_getElem? (i := 59) (by decide +kernel))) rfl, tyX2_ok, nmX2⟩
theorem fl_X11_204 : FLk RX11 204 2 4 RX2 TX2 8 tyX2 := ⟨rfl, us_X2, by decide, rfl, lg_in (tk_1 (List.mem_of_getElem? (i := 60) (by decide +kernel))) rfl, tyX2_ok, nmX2⟩
theorem fl_X1_42 : FLk RX1 42 2 5 RX2 TX2 8 tyX2 := ⟨rfl, us_X2, by decide, rfl, lg_in (tk_1 (List.mem_of_getElem? (i := 61) (by decide +kernel))) rfl, tyX2_ok, nmX2⟩
theorem fl_X2_37 : FLk RX2 37 2 5 RX2 TX2 8 tyX2 := ⟨rfl, us_X2, by decide, rfl, lg_in (tk_1 (List.mem_of_getElem? (i := 62) (by decide +kernel))) rfl, tyX2_ok, nmX2⟩
theorem fl_X11_182 : FLk RX11 182 2 5 RX2 TX2 8 tyX2 := ⟨rfl, us_X2, by decide, rfl, lg_in (tk_1 (List.mem_of_getElem? (i := 63) (by decide +kernel))) rfl, tyX2_ok, nmX2⟩
theorem fl_X9_148 : FLk RX9 148 2 5 RX2 TX2 8 tyX2 := ⟨rfl, us_X2, by decide, rfl, lg_in (tk_1 (List.mem_of_getElem? (i := 64) (by decide +kernel))) rfl, tyX2_ok, nmX2⟩
theorem fl_X2_21 : FLk RX2 21 2 6 RX2 TX2 8 tyX2 := ⟨rfl, us_X2, by decide, rfl, lg_in (tk_1 (List.mem_of_getElem? (i := 65) (by decide +kernel))) rfl, tyX2_ok, nmX2⟩
theorem fl_X1_45 : FLk RX1 45 2 6 RX2 TX2 8 tyX2 := ⟨rfl, us_X2, by decide, rfl, lg_in (tk_1 (List.mem_of_getElem? (i := 66) (by decide +kernel))) rfl, tyX2_ok, nmX2⟩
theorem fl_X11_160 : FLk RX11 160 2 6 RX2 TX2 8 tyX2 := ⟨rfl, us_X2, by decide, rfl, lg_in (tk_1 (List.mem_of_getElem? (i := 67) (by decide +kernel))) rfl, tyX2_ok, nmX2⟩
theorem fl_X9_122 : FLk RX9 122 2 6 RX2 TX2 8 tyX2 := ⟨rfl, us_X2, by decide, rfl, lg_in (tk_1 (List.mem_of_getElem? (i := 68) (by decide +kernel))) rfl, tyX2_ok, nmX2⟩
theorem fl_X1_48 : FLk RX1 48 2 7 RX2 TX2 8 tyX2 := ⟨rfl, us_X2, by decide, rfl, lg_in (tk_1 (List.mem_of_getElem? (i := 69) (by decide +kernel))) rfl, tyX2_ok, nmX2⟩
theorem fl_X2_40 : FLk RX2 40 2 7 RX2 TX2 8 tyX2 := ⟨rfl, us_X2, by decide, rfl, lg_in (tk_1 (List.mem_of_getElem? (i := 70) (by decide +kernel))) rfl, tyX2_ok, nmX2⟩
theorem fl_X9_132 : FLk RX9 132 2 7 RX2 TX2 8 tyX2 := ⟨rfl, us_X2, by decide, rfl, lg_in (tk_1 (List.mem_of_getElem? (i := 71) (by decide +kernel))) rfl, tyX2_ok, nmX2⟩
theorem fl_X11_363 : FLk RX11 363 2 7 RX2 TX2 8 tyX2 := ⟨rfl, us_X2, by decide, rfl, lg_in (tk_1 (List.mem_of_getElem? (i := 72) (by decide +kernel))) rfl, tyX2_ok, nmX2⟩
theorem ml_X9_42 : Cond.methodLinkNest RX9 42 yX10_init "PailSpeech" ∈ lw_n := ln_in (tk_1 (List.mem_of_getElem? (i := 93) (by decide +kernel))) rfl
theorem ml_X10_3 : Cond.methodLink RX10 3 Lib.objectInit ∈ lw_g := lg_in (tk_1 (List.mem_of_getElem? (i := 96) (by decide +kernel))) rfl
theorem fl_X10_9 : FLk RX10 9 9 0 RX10 TX10 3 tyX10 := ⟨rfl, us_X10, by decide, rfl, lg_in (tk_1 (List.mem_of_getElem? (i := 97) (by decide +kernel))) rfl, tyX10_ok, nmX10⟩
theorem fl_X10_15 : FLk RX10 15 9 1 RX10 TX10 3 tyX10 := ⟨rfl, us_X10, by decide, rfl, lg_in (tk_1 (List.mem_of_getElem? (i := 98) (by decide +kernel))) rfl, tyX10_ok, nmX10⟩
theorem fl_X10_18 : FLk RX10 18 9 2 RX10 TX10 3 tyX10 := ⟨rfl, us_X10, by decide, rfl, lg_in (tk_1 (List.mem_of_getElem? (i := 99) (by decide +kernel))) rfl, tyX10_ok, nmX10⟩
theorem fl_X3_18 : FLk RX3 18 8 0 RX9 TX9 17 tyX9 := ⟨rfl, us_X9, by decide, rfl, lg_in (tk_1 (List.mem_of_getElem? (i := 107) (by decide +kernel))) rfl, tyX9_ok, nmX9⟩
theorem fl_X9_60 : FLk RX9 60 8 0 RX9 TX9 17 tyX9 := ⟨rfl, us_X9, by decide, rfl, lg_in (tk_1 (List.mem_of_getElem? (i := 108) (by decide +kernel))) rfl, tyX9_ok, nmX9⟩
theorem fl_X11_91 : FLk RX11 91 8 0 RX9 TX9 17 tyX9 := ⟨rfl, us_X9, by decide, rfl, lg_in (tk_1 (List.mem_of_getElem? (i := 109) (by decide +kernel))) rfl, tyX9_ok, nmX9⟩
theorem fl_X9_9 : FLk RX9 9 8 1 RX9 TX9 17 tyX9 := ⟨rfl, us_X9, by decide, rfl, lg_in (tk_1 (List.mem_of_getElem? (i := 110) (by decide +kernel))) rfl, tyX9_ok, nmX9⟩
theorem fl_X11_102 : FLk RX11 102 8 1 RX9 TX9 17 tyX9 := ⟨rfl, us_X9, by decide, rfl, lg_in (tk_1 (List.mem_of_getElem? (i := 111) (by decide +kernel))) rfl, tyX9_ok, nmX9⟩
theorem fl_X9_15 : FLk RX9 15 8 2 RX9 TX9 17 tyX9 := ⟨rfl, us_X9, by decide, rfl, lg_in (tk_1 (List.mem_of_getElem? (i := 112) (by decide +kernel))) rfl, tyX9_ok, nmX9⟩
theorem fl_X11_105 : FLk RX11 105 8 2 RX9 TX9 17 tyX9 := ⟨rfl, us_X9, by decide, rfl, lg_in (tk_1 (List.mem_of_getElem? (i := 113) (by decide +kernel))) rfl, tyX9_ok, nmX9⟩
theorem fl_X9_18 : FLk RX9 18 8 3 RX9 TX9 17 tyX9 := ⟨rfl, us_X9, by decide, rfl, lg_in (tk_1 (List.mem_of_getElem? (i := 114) (by decide +kernel))) rfl, tyX9_ok, nmX9⟩
theorem fl_X11_108 : FLk RX11 108 8 3 RX9 TX9 17 tyX9 := ⟨rfl, us_X9, by decide, rfl, lg_in (tk_1 (List.mem_of_getElem? (i := 115) (by decide +kernel))) rfl, tyX9_ok, nmX9⟩
theorem fl_X9_69 : FLk RX9 69 8 4 RX9 TX9 17 tyX9 := ⟨rfl, us_X9, by decide, rfl, lg_in (tk_1 (List.mem_of_getElem? (i := 116) (by decide +kernel))) rfl, tyX9_ok, nmX9⟩
theorem fl_X7_36 : FLk RX7 36 8 4 RX9 TX9 17 tyX9 := ⟨rfl, us_X9, by decide, rfl, lg_in (tk_1 (List.mem_of_getElem? (i := 117) (by decide +kernel))) rfl, tyX9_ok, nmX9⟩
theorem fl_X1_59 : FLk RX1 59 8 4 RX9 TX9 17 tyX9 := ⟨rfl, us_X9, by decide, rfl, lg_in (tk_1 (List.mem_of_getElem? (i := 118) (by decide +kernel))) rfl, tyX9_ok, nmX9⟩
theorem fl_X5_76 : FLk RX5 76 8 4 RX9 TX9 17 tyX9 := ⟨rfl, us_X9, by decide, rfl, lg_in (tk_1 (List.mem_of_getElem? (i := 119) (by decide +kernel))) rfl, tyX9_ok, nmX9⟩
theorem fl_X11_135 : FLk RX11 135 8 4 RX9 TX9 17 tyX9 := ⟨rfl, us_X9, by decide, rfl, lg_in (tk_1 (List.mem_of_getElem? (i := 120) (by decide +kernel))) rfl, tyX9_ok, nmX9⟩
theorem fl_X9_21 : FLk RX9 21 8 5 RX9 TX9 17 tyX9 := ⟨rfl, us_X9, by decide, rfl, lg_in (tk_1 (List.mem_of_getElem? (i := 121) (by decide +kernel))) rfl, tyX9_ok, nmX9⟩
theorem fl_X7_42 : FLk RX7 42 8 5 RX9 TX9 17 tyX9 := ⟨rfl, us_X9, by decide, rfl, lg_in (tk_1 (List.mem_of_getElem? (i := 122) (by decide +kernel))) rfl, tyX9_ok, nmX9⟩
theorem fl_X1_62 : FLk RX1 62 8 5 RX9 TX9 17 tyX9 := ⟨rfl, us_X9, by decide, rfl, lg_in (tk_1 (List.mem_of_getElem? (i := 123) (by decide +kernel))) rfl, tyX9_ok, nmX9⟩
theorem fl_X5_79 : FLk RX5 79 8 5 RX9 TX9 17 tyX9 := ⟨rfl, us_X9, by decide, rfl, lg_in (tk_1 (List.mem_of_getElem? (i := 124) (by decide +kernel))) rfl, tyX9_ok, nmX9⟩
theorem fl_X11_145 : FLk RX11 145 8 5 RX9 TX9 17 tyX9 := ⟨rfl, us_X9, by decide, rfl, lg_in (tk_1 (List.mem_of_getElem? (i := 125) (by decide +kernel))) rfl, tyX9_ok, nmX9⟩
theorem fl_X9_24 : FLk RX9 24 8 6 RX9 TX9 17 tyX9 := ⟨rfl, us_X9, by decide, rfl, lg_in (tk_1 (List.mem_of_getElem? (i := 126) (by decide +kernel))) rfl, tyX9_ok, nmX9⟩
theorem fl_X5_100 : FLk RX5 100 8 6 RX9 TX9 17 tyX9 := ⟨rfl, us_X9, by decide, rfl, lg_in (tk_1 (List.mem_of_getElem? (i := 127) (by decide +kernel))) rfl, tyX9_ok, nmX9⟩
theorem fl_X11_148 : FLk RX11 148 8 6 RX9 TX9 17 tyX9 := ⟨rfl, us_X9, by decide, rfl, lg_in (tk_1 (List.mem_of_getElem? (i := 128) (by decide +kernel))) rfl, tyX9_ok, nmX9⟩
theorem fl_X9_27 : FLk RX9 27 8 7 RX9 TX9 17 tyX9 := ⟨rfl, us_X9, by decide, rfl, lg_in (tk_1 (List.mem_of_getElem? (i := 129) (by decide +kernel))) rfl, tyX9_ok, nmX9⟩
theorem fl_X7_54 : FLk RX7 54 8 7 RX9 TX9 17 tyX9 := ⟨rfl, us_X9, by decide, rfl, lg_in (tk_1 (List.mem_of_getElem? (i := 130) (by decide +kernel))) rfl, tyX9_ok, nmX9⟩
theorem fl_X5_103 : FLk RX5 103 8 7 RX9 TX9 17 tyX9 := ⟨rfl, us_X9, by decide, rfl, lg_in (tk_1 (List.mem_of_getElem? (i := 131) (by decide +kernel))) rfl, tyX9_ok, nmX9⟩
theorem fl_X11_151 : FLk RX11 151 8 7 RX9 TX9 17 tyX9 := ⟨rfl, us_X9, by decide, rfl, lg_in (tk_1 (List.mem_of_getElem? (i := 132) (by decide +kernel))) rfl, tyX9_ok, nmX9⟩
theorem fl_X9_30 : FLk RX9 30 8 8 RX9 TX9 17 tyX9 := ⟨rfl, us_X9, by decide, rfl, lg_in (tk_1 (List.mem_of_getElem? (i := 133) (by decide +kernel))) rfl, tyX9_ok, nmX9⟩
theorem fl_X5_118 : FLk RX5 118 8 8 RX9 TX9 17 tyX9 := ⟨rfl, us_X9, by decide, rfl, lg_in (tk_1 (List.mem_of_getElem? (i := 134) (by decide +kernel))) rfl, tyX9_ok, nmX9⟩
theorem fl_X11_154 : FLk RX11 154 8 8 RX9 TX9 17 tyX9 := ⟨rfl, us_X9, by decide, rfl, lg_in (tk_1 (List.mem_of_getElem? (i := 135) (by decide +kernel))) rfl, tyX9_ok, nmX9⟩
theorem fl_X9_36 : FLk RX9 36 8 9 RX9 TX9 17 tyX9 := ⟨rfl, us_X9, by decide, rfl, lg_in (tk_1 (List.mem_of_getElem? (i := 136) (by decide +kernel))) rfl, tyX9_ok, nmX9⟩
theorem fl_X5_41 : FLk RX5 41 8 9 RX9 TX9 17 tyX9 := ⟨rfl, us_X9, by decide, rfl, lg_in (tk_1 (List.mem_of_getElem? (i := 137) (by decide +kernel))) rfl, tyX9_ok, nmX9⟩
theorem fl_X1_32 : FLk RX1 32 8 9 RX9 TX9 17 tyX9 := ⟨rfl, us_X9, by decide, rfl, lg_in (tk_1 (List.mem_of_getElem? (i := 138) (by decide +kernel))) rfl, tyX9_ok, nmX9⟩
theorem fl_X7_45 : FLk RX7 45 8 9 RX9 TX9 17 tyX9 := ⟨rfl, us_X9, by decide, rfl, lg_in (tk_1 (List.mem_of_getElem? (i := 139) (by decide +kernel))) rfl, tyX9_ok, nmX9⟩
theorem fl_X11_111 : FLk RX11 111 8 9 RX9 TX9 17 tyX9 := ⟨rfl, us_X9, by decide, rfl, lg_in (tk_1 (List.mem_of_getElem? (i := 140) (by decide +kernel))) rfl, tyX9_ok, nmX9⟩
theorem fl_X9_43 : FLk RX9 43 8 10 RX9 TX9 17 tyX9 := ⟨rfl, us_X9, by decide, rfl, lg_in (tk_1 (List.mem_of_getElem? (i := 141) (by decide +kernel))) rfl, tyX9_ok, nmX9⟩
theorem fl_X11_224 : FLk RX11 224 8 10 RX9 TX9 17 tyX9 := ⟨rfl, us_X9, by decide, rfl, lg_in (tk_1 (List.mem_of_getElem? (i := 142) (by decide +kernel))) rfl, tyX9_ok, nmX9⟩
theorem fl_X9_47 : FLk RX9 47 8 11 RX9 TX9 17 tyX9 := ⟨rfl, us_X9, by decide, rfl, lg_in (tk_1 (List.mem_of_getElem? (i := 143) (by decide +kernel))) rfl, tyX9_ok, nmX9⟩
theorem fl_X11_228 : FLk RX11 228 8 11 RX9 TX9 17 tyX9 := ⟨rfl, us_X9, by decide, rfl, lg_in (tk_1 (List.mem_of_getElem? (i := 144) (by decide +kernel))) rfl, tyX9_ok, nmX9⟩
theorem fl_X9_50 : FLk RX9 50 8 12 RX9 TX9 17 tyX9 := ⟨rfl, us_X9, by decide, rfl, lg_in (tk_1 (List.mem_of_getElem? (i := 145) (by decide +kernel))) rfl, tyX9_ok, nmX9⟩
theorem fl_X11_217 : FLk RX11 217 8 12 RX9 TX9 17 tyX9 := ⟨rfl, us_X9, by decide, rfl, lg_in (tk_1 (List.mem_of_getElem? (i := 146) (by decide +kernel))) rfl, tyX9_ok, nmX9⟩
theorem fl_X9_79 : FLk RX9 79 8 13 RX9 TX9 17 tyX9 := ⟨rfl, us_X9, by decide, rfl, lg_in (tk_1 (List.mem_of_getElem? (i := 147) (by decide +kernel))) rfl, tyX9_ok, nmX9⟩
theorem fl_X11_214 : FLk RX11 214 8 13 RX9 TX9 17 tyX9 := ⟨rfl, us_X9, by decide, rfl, lg_in (tk_1 (List.mem_of_getElem? (i := 148) (by decide +kernel))) rfl, tyX9_ok, nmX9⟩
theorem fl_X9_53 : FLk RX9 53 8 14 RX9 TX9 17 tyX9 := ⟨rfl, us_X9, by decide, rfl, lg_in (tk_1 (List.mem_of_getElem? (i := 149) (by decide +kernel))) rfl, tyX9_ok, nmX9⟩
theorem fl_X11_360 : FLk RX11 360 8 14 RX9 TX9 17 tyX9 := ⟨rfl, us_X9, by decide, rfl, lg_in (tk_1 (List.mem_of_getElem? (i := 150) (by decide +kernel))) rfl, tyX9_ok, nmX9⟩
theorem fl_X9_82 : FLk RX9 82 8 15 RX9 TX9 17 tyX9 := ⟨rfl, us_X9, by decide, rfl, lg_in (tk_1 (List.mem_of_getElem? (i := 151) (by decide +kernel))) rfl, tyX9_ok, nmX9⟩
theorem fl_X11_357 : FLk RX11 357 8 15 RX9 TX9 17 tyX9 := ⟨rfl, us_X9, by decide, rfl, lg_in (tk_1 (List.mem_of_getElem? (i := 152) (by decide +kernel))) rfl, tyX9_ok, nmX9⟩
theorem fl_X9_56 : FLk RX9 56 8 16 RX9 TX9 17 tyX9 := ⟨rfl, us_X9, by decide, rfl, lg_in (tk_1 (List.mem_of_getElem? (i := 153) (by decide +kernel))) rfl, tyX9_ok, nmX9⟩
theorem fl_X11_316 : FLk RX11 316 8 16 RX9 TX9 17 tyX9 := ⟨rfl, us_X9, by decide, rfl, lg_in (tk_1 (List.mem_of_getElem? (i := 154) (by decide +kernel))) rfl, tyX9_ok, nmX9⟩
theorem ml_X11_21 : Cond.methodLinkNest RX11 21 yX2_init "PailSpeech" ∈ lw_n := ln_in (tk_1 (List.mem_of_getElem? (i := 191) (by decide +kernel))) rfl
theorem ml_X11_28 : Cond.methodLinkNest RX11 28 yX6_init "PailSpeech" ∈ lw_n := ln_in (tk_1 (List.mem_of_getElem? (i := 194) (by decide +kernel))) rfl
theorem ml_X6_3 : Cond.methodLink RX6 3 Lib.objectInit ∈ lw_g := lg_in (tk_1 (List.mem_of_getElem? (i := 197) (by decide +kernel))) rfl
theorem ml_X6_11 : Cond.methodLinkNest RX6 11 yX10_init "PailSpeech" ∈ lw_n := ln_in (tk_1 (List.mem_of_getElem? (i := 199) (by decide +kernel))) rfl
theorem fl_X6_12 : FLk RX6 12 5 0 RX6 TX6 5 tyX6 := ⟨rfl, us_X6, by decide, rfl, lg_in (tk_1 (List.mem_of_getElem? (i := 201) (by decide +kernel))) rfl, tyX6_ok, nmX6⟩
theorem fl_X11_231 : FLk RX11 231 5 0 RX6 TX6 5 tyX6 := ⟨rfl, us_X6, by decide, rfl, lg_in (tk_1 (List.mem_of_getElem? (i := 202) (by decide +kernel))) rfl, tyX6_ok, nmX6⟩
theorem fl_X6_24 : FLk RX6 24 5 1 RX6 TX6 5 tyX6 := ⟨rfl, us_X6, by decide, rfl, lg_in (tk_1 (List.mem_of_getElem? (i := 203) (by decide +kernel))) rfl, tyX6_ok, nmX6⟩
theorem fl_X6_28 : FLk RX6 28 5 2 RX6 TX6 5 tyX6 := ⟨rfl, us_X6, by decide, rfl, lg_in (tk_1 (List.mem_of_getElem? (i := 204) (by decide +kernel))) rfl, tyX6_ok, nmX6⟩
theorem fl_X6_32 : FLk RX6 32 5 3 RX6 TX6 5 tyX6 := ⟨rfl, us_X6, by decide, rfl, lg_in (tk_1 (List.mem_of_getElem? (i := 205) (by decide +kernel))) rfl, tyX6_ok, nmX6⟩
theorem fl_X6_20 : FLk RX6 20 5 4 RX6 TX6 5 tyX6 := ⟨rfl, us_X6, by decide, rfl, lg_in (tk_1 (List.mem_of_getElem? (i := 206) (by decide +kernel))) rfl, tyX6_ok, nmX6⟩
theorem ml_X11_35 : Cond.methodLinkNest RX11 35 yX5_init "PailSpeech" ∈ lw_n := ln_in (tk_1 (List.mem_of_getElem? (i := 221) (by decide +kernel))) rfl
theorem ml_X5_3 : Cond.methodLink RX5 3 Lib.objectInit ∈ lw_g := lg_in (tk_1 (List.mem_of_getElem? (i := 224) (by decide +kernel))) rfl
theorem fl_X5_9 : FLk RX5 9 4 0 RX5 TX5 9 tyX5 := ⟨rfl, us_X5, by decide, rfl, lg_in (tk_1 (List.mem_of_getElem? (i := 225) (by decide +kernel))) rfl, tyX5_ok, nmX5⟩
theorem fl_X11_260 : FLk RX11 260 4 0 RX5 TX5 9 tyX5 := ⟨rfl, us_X5, by decide, rfl, lg_in (tk_1 (List.mem_of_getElem? (i := 226) (by decide +kernel))) rfl, tyX5_ok, nmX5⟩
theorem fl_X5_21 : FLk RX5 21 4 1 RX5 TX5 9 tyX5 := ⟨rfl, us_X5, by decide, rfl, lg_in (tk_1 (List.mem_of_getElem? (i := 227) (by decide +kernel))) rfl, tyX5_ok, nmX5⟩
theorem fl_X11_257 : FLk RX11 257 4 1 RX5 TX5 9 tyX5 := ⟨rfl, us_X5, by decide, rfl, lg_in (tk_1 (List.mem_of_getElem? (i := 228) (by decide +kernel))) rfl, tyX5_ok, nmX5⟩
theorem fl_X5_25 : FLk RX5 25 4 2 RX5 TX5 9 tyX5 := ⟨rfl, us_X5, by decide, rfl, lg_in (tk_1 (List.mem_of_getElem? (i := 229) (by decide +kernel))) rfl, tyX5_ok, nmX5⟩
theorem fl_X3_39 : FLk RX3 39 4 2 RX5 TX5 9 tyX5 := ⟨rfl, us_X5, by decide, rfl, lg_in (tk_1 (List.mem_of_getElem? (i := 230) (by decide +kernel))) rfl, tyX5_ok, nmX5⟩
theorem fl_X11_254 : FLk RX11 254 4 2 RX5 TX5 9 tyX5 := ⟨rfl, us_X5, by decide, rfl, lg_in (tk_1 (List.mem_of_getElem? (i := 231) (by decide +kernel))) rfl, tyX5_ok, nmX5⟩
theorem fl_X5_28 : FLk RX5 28 4 3 RX5 TX5 9 tyX5 := ⟨rfl, us_X5, by decide, rfl, lg_in (tk_1 (List.mem_of_getElem? (i := 232) (by decide +kernel))) rfl, tyX5_ok, nmX5⟩
theorem fl_X5_15 : FLk RX5 15 4 4 RX5 TX5 9 tyX5 := ⟨rfl, us_X5, by decide, rfl, lg_in (tk_1 (List.mem_of_getElem? (i := 233) (by decide +kernel))) rfl, tyX5_ok, nmX5⟩
theorem fl_X5_73 : FLk RX5 73 4 5 RX5 TX5 9 tyX5 := ⟨rfl, us_X5, by decide, rfl, lg_in (tk_1 (List.mem_of_getElem? (i := 234) (by decide +kernel))) rfl, tyX5_ok, nmX5⟩
theorem fl_X5_18 : FLk RX5 18 4 6 RX5 TX5 9 tyX5 := ⟨rfl, us_X5, by decide, rfl, lg_in (tk_1 (List.mem_of_getElem? (i := 235) (by decide +kernel))) rfl, tyX5_ok, nmX5⟩
theorem fl_X5_50 : FLk RX5 50 4 7 RX5 TX5 9 tyX5 := ⟨rfl, us_X5, by decide, rfl, lg_in (tk_1 (List.mem_of_getElem? (i := 236) (by decide +kernel))) rfl, tyX5_ok, nmX5⟩
theorem fl_X5_62 : FLk RX5 62 4 8 RX5 TX5 9 tyX5 := ⟨rfl, us_X5, by decide, rfl, lg_in (tk_1 (List.mem_of_getElem? (i := 237) (by decide +kernel))) rfl, tyX5_ok, nmX5⟩
theorem ml_X11_42 : Cond.methodLinkNest RX11 42 yX3_init "PailSpeech" ∈ lw_n := ln_in (tk_2 (List.mem_of_getElem? (i := 19) (by decide +kernel))) rfl
theorem ml_X3_3 : Cond.methodLink RX3 3 Lib.objectInit ∈ lw_g := lg_in (tk_2 (List.mem_of_getElem? (i := 22) (by decide +kernel))) rfl
theorem fl_X3_9 : FLk RX3 9 3 0 RX3 TX3 4 tyX3 := ⟨rfl, us_X3, by decide, rfl, lg_in (tk_2 (List.mem_of_getElem? (i := 23) (by decide +kernel))) rfl, tyX3_ok, nmX3⟩
theorem fl_X11_267 : FLk RX11 267 3 0 RX3 TX3 4 tyX3 := ⟨rfl, us_X3, by decide, rfl, lg_in (tk_2 (List.mem_of_getElem? (i := 24) (by decide +kernel))) rfl, tyX3_ok, nmX3⟩
theorem fl_X3_46 : FLk RX3 46 3 1 RX3 TX3 4 tyX3 := ⟨rfl, us_X3, by decide, rfl, lg_in (tk_2 (List.mem_of_getElem? (i := 25) (by decide +kernel))) rfl, tyX3_ok, nmX3⟩
theorem fl_X11_270 : FLk RX11 270 3 1 RX3 TX3 4 tyX3 := ⟨rfl, us_X3, by decide, rfl, lg_in (tk_2 (List.mem_of_getElem? (i := 26) (by decide +kernel))) rfl, tyX3_ok, nmX3⟩
theorem fl_X3_15 : FLk RX3 15 3 2 RX3 TX3 4 tyX3 := ⟨rfl, us_X3, by decide, rfl, lg_in (tk_2 (List.mem_of_getElem? (i := 27) (by decide +kernel))) rfl, tyX3_ok, nmX3⟩
theorem fl_X3_30 : FLk RX3 30 3 3 RX3 TX3 4 tyX3 := ⟨rfl, us_X3, by decide, rfl, lg_in (tk_2 (List.mem_of_getElem? (i := 28) (by decide +kernel))) rfl, tyX3_ok, nmX3⟩
theorem ml_X11_49 : Cond.methodLink RX11 49 yX1_init ∈ lw_g := lg_in (tk_2 (List.mem_of_getElem? (i := 40) (by decide +kernel))) rfl
theorem ml_X1_3 : Cond.methodLink RX1 3 Lib.objectInit ∈ lw_g := lg_in (tk_2 (List.mem_of_getElem? (i := 43) (by decide +kernel))) rfl
theorem ml_X1_17 : Cond.methodLinkNest RX1 17 yX2_init "PailSpeech" ∈ lw_n := ln_in (tk_2 (List.mem_of_getElem? (i := 46) (by decide +kernel))) rfl
theorem fl_X1_81 : FLk RX1 81 1 0 RX1 TX1 5 tyX1 := ⟨rfl, us_X1, by decide, rfl, lg_in (tk_2 (List.mem_of_getElem? (i := 47) (by decide +kernel))) rfl, tyX1_ok, nmX1⟩
theorem fl_X11_284 : FLk RX11 284 1 0 RX1 TX1 5 tyX1 := ⟨rfl, us_X1, by decide, rfl, lg_in (tk_2 (List.mem_of_getElem? (i := 48) (by decide +kernel))) rfl, tyX1_ok, nmX1⟩
theorem fl_X1_11 : FLk RX1 11 1 1 RX1 TX1 5 tyX1 := ⟨rfl, us_X1, by decide, rfl, lg_in (tk_2 (List.mem_of_getElem? (i := 49) (by decide +kernel))) rfl, tyX1_ok, nmX1⟩
theorem fl_X1_18 : FLk RX1 18 1 2 RX1 TX1 5 tyX1 := ⟨rfl, us_X1, by decide, rfl, lg_in (tk_2 (List.mem_of_getElem? (i := 50) (by decide +kernel))) rfl, tyX1_ok, nmX1⟩
theorem fl_X1_22 : FLk RX1 22 1 3 RX1 TX1 5 tyX1 := ⟨rfl, us_X1, by decide, rfl, lg_in (tk_2 (List.mem_of_getElem? (i := 51) (by decide +kernel))) rfl, tyX1_ok, nmX1⟩
theorem fl_X1_29 : FLk RX1 29 1 4 RX1 TX1 5 tyX1 := ⟨rfl, us_X1, by decide, rfl, lg_in (tk_2 (List.mem_of_getElem? (i := 52) (by decide +kernel))) rfl, tyX1_ok, nmX1⟩
theorem ml_X11_56 : Cond.methodLinkNest RX11 56 yX7_init "PailSpeech" ∈ lw_n := ln_in (tk_2 (List.mem_of_getElem? (i := 66) (by decide +kernel))) rfl
theorem ml_X7_3 : Cond.methodLink RX7 3 Lib.objectInit ∈ lw_g := lg_in (tk_2 (List.mem_of_getElem? (i := 69) (by decide +kernel))) rfl
theorem fl_X7_29 : FLk RX7 29 6 0 RX7 TX7 6 tyX7 := ⟨rfl, us_X7, by decide, rfl, lg_in (tk_2 (List.mem_of_getElem? (i := 70) (by decide +kernel))) rfl, tyX7_ok, nmX7⟩
theorem fl_X11_290 : FLk RX11 290 6 0 RX7 TX7 6 tyX7 := ⟨rfl, us_X7, by decide, rfl, lg_in (tk_2 (List.mem_of_getElem? (i := 71) (by decide +kernel))) rfl, tyX7_ok, nmX7⟩
theorem fl_X7_33 : FLk RX7 33 6 1 RX7 TX7 6 tyX7 := ⟨rfl, us_X7, by decide, rfl, lg_in (tk_2 (List.mem_of_getElem? (i := 72) (by decide +kernel))) rfl, tyX7_ok, nmX7⟩
theorem fl_X11_293 : FLk RX11 293 6 1 RX7 TX7 6 tyX7 := ⟨rfl, us_X7, by decide, rfl, lg_in (tk_2 (List.mem_of_getElem? (i := 73) (by decide +kernel))) rfl, tyX7_ok, nmX7⟩
theorem fl_X7_9 : FLk RX7 9 6 2 RX7 TX7 6 tyX7 := ⟨rfl, us_X7, by decide, rfl, lg_in (tk_2 (List.mem_of_getElem? (i := 74) (by decide +kernel))) rfl, tyX7_ok, nmX7⟩
theorem fl_X7_15 : FLk RX7 15 6 3 RX7 TX7 6 tyX7 := ⟨rfl, us_X7, by decide, rfl, lg_in (tk_2 (List.mem_of_getElem? (i := 75) (by decide +kernel))) rfl, tyX7_ok, nmX7⟩
theorem fl_X7_19 : FLk RX7 19 6 4 RX7 TX7 6 tyX7 := ⟨rfl, us_X7, by decide, rfl, lg_in (tk_2 (List.mem_of_getElem? (i := 76) (by decide +kernel))) rfl, tyX7_ok, nmX7⟩
theorem fl_X7_22 : FLk RX7 22 6 5 RX7 TX7 6 tyX7 := ⟨rfl, us_X7, by decide, rfl, lg_in (tk_2 (List.mem_of_getElem? (i := 77) (by decide +kernel))) rfl, tyX7_ok, nmX7⟩
theorem ml_X11_63 : Cond.methodLinkNest RX11 63 yX0_init "PailSpeech" ∈ lw_n := ln_in (tk_2 (List.mem_of_getElem? (i := 94) (by decide +kernel))) rfl
theorem ml_X0_3 : Cond.methodLink RX0 3 Lib.objectInit ∈ lw_g := lg_in (tk_2 (List.mem_of_getElem? (i := 97) (by decide +kernel))) rfl
theorem fl_X0_9 : FLk RX0 9 0 0 RX0 TX0 5 tyX0 := ⟨rfl, us_X0, by decide, rfl, lg_in (tk_2 (List.mem_of_getElem? (i := 98) (by decide +kernel))) rfl, tyX0_ok, nmX0⟩
theorem fl_X11_326 : FLk RX11 326 0 0 RX0 TX0 5 tyX0 := ⟨rfl, us_X0, by decide, rfl, lg_in (tk_2 (List.mem_of_getElem? (i := 99) (by decide +kernel))) rfl, tyX0_ok, nmX0⟩
theorem fl_X0_25 : FLk RX0 25 0 1 RX0 TX0 5 tyX0 := ⟨rfl, us_X0, by decide, rfl, lg_in (tk_2 (List.mem_of_getElem? (i := 100) (by decide +kernel))) rfl, tyX0_ok, nmX0⟩
theorem fl_X11_323 : FLk RX11 323 0 1 RX0 TX0 5 tyX0 := ⟨rfl, us_X0, by decide, rfl, lg_in (tk_2 (List.mem_of_getElem? (i := 101) (by decide +kernel))) rfl, tyX0_ok, nmX0⟩
theorem fl_X0_15 : FLk RX0 15 0 2 RX0 TX0 5 tyX0 := ⟨rfl, us_X0, by decide, rfl, lg_in (tk_2 (List.mem_of_getElem? (i := 102) (by decide +kernel))) rfl, tyX0_ok, nmX0⟩
theorem fl_X0_19 : FLk RX0 19 0 3 RX0 TX0 5 tyX0 := ⟨rfl, us_X0, by decide, rfl, lg_in (tk_2 (List.mem_of_getElem? (i := 103) (by decide +kernel))) rfl, tyX0_ok, nmX0⟩
theorem fl_X0_22 : FLk RX0 22 0 4 RX0 TX0 5 tyX0 := ⟨rfl, us_X0, by decide, rfl, lg_in (tk_2 (List.mem_of_getElem? (i := 104) (by decide +kernel))) rfl, tyX0_ok, nmX0⟩
theorem ml_X11_70 : Cond.methodLinkNest RX11 70 yX8_init "PailSpeech" ∈ lw_n := ln_in (tk_2 (List.mem_of_getElem? (i := 118) (by decide +kernel))) rfl
theorem ml_X8_3 : Cond.methodLink RX8 3 Lib.objectInit ∈ lw_g := lg_in (tk_2 (List.mem_of_getElem? (i := 121) (by decide +kernel))) rfl
theorem fl_X8_9 : FLk RX8 9 7 0 RX8 TX8 3 tyX8 := ⟨rfl, us_X8, by decide, rfl, lg_in (tk_2 (List.mem_of_getElem? (i := 124) (by decide +kernel))) rfl, tyX8_ok, nmX8⟩
theorem fl_X11_333 : FLk RX11 333 7 0 RX8 TX8 3 tyX8 := ⟨rfl, us_X8, by decide, rfl, lg_in (tk_2 (List.mem_of_getElem? (i := 125) (by decide +kernel))) rfl, tyX8_ok, nmX8⟩
theorem fl_X8_15 : FLk RX8 15 7 1 RX8 TX8 3 tyX8 := ⟨rfl, us_X8, by decide, rfl, lg_in (tk_2 (List.mem_of_getElem? (i := 126) (by decide +kernel))) rfl, tyX8_ok, nmX8⟩
theorem fl_X11_309 : FLk RX11 309 7 1 RX8 TX8 3 tyX8 := ⟨rfl, us_X8, by decide, rfl, lg_in (tk_2 (List.mem_of_getElem? (i := 127) (by decide +kernel))) rfl, tyX8_ok, nmX8⟩
theorem fl_X8_20 : FLk RX8 20 7 2 RX8 TX8 3 tyX8 := ⟨rfl, us_X8, by decide, rfl, lg_in (tk_2 (List.mem_of_getElem? (i := 128) (by decide +kernel))) rfl, tyX8_ok, nmX8⟩
theorem fl_X11_305 : FLk RX11 305 7 2 RX8 TX8 3 tyX8 := ⟨rfl, us_X8, by decide, rfl, lg_in (tk_2 (List.mem_of_getElem? (i := 129) (by decide +kernel))) rfl, tyX8_ok, nmX8⟩
theorem fl_X11_10 : FLk RX11 10 10 0 RX11 TX11 12 tyX11 := ⟨rfl, us_X11, by decide, rfl, lg_in (tk_2 (List.mem_of_getElem? (i := 137) (by decide +kernel))) rfl, tyX11_ok, nmX11⟩
theorem fl_X11_16 : FLk RX11 16 10 1 RX11 TX11 12 tyX11 := ⟨rfl, us_X11, by decide, rfl, lg_in (tk_2 (List.mem_of_getElem? (i := 138) (by decide +kernel))) rfl, tyX11_ok, nmX11⟩
theorem fl_X11_354 : FLk RX11 354 10 2 RX11 TX11 12 tyX11 := ⟨rfl, us_X11, by decide, rfl, lg_in (tk_2 (List.mem_of_getElem? (i := 139) (by decide +kernel))) rfl, tyX11_ok, nmX11⟩
theorem fl_X11_22 : FLk RX11 22 10 3 RX11 TX11 12 tyX11 := ⟨rfl, us_X11, by decide, rfl, lg_in (tk_2 (List.mem_of_getElem? (i := 140) (by decide +kernel))) rfl, tyX11_ok, nmX11⟩
theorem fl_X11_29 : FLk RX11 29 10 4 RX11 TX11 12 tyX11 := ⟨rfl, us_X11, by decide, rfl, lg_in (tk_2 (List.mem_of_getElem? (i := 141) (by decide +kernel))) rfl, tyX11_ok, nmX11⟩
theorem fl_X11_36 : FLk RX11 36 10 5 RX11 TX11 12 tyX11 := ⟨rfl, us_X11, by decide, rfl, lg_in (tk_2 (List.mem_of_getElem? (i := 142) (by decide +kernel))) rfl, tyX11_ok, nmX11⟩
theorem fl_X11_43 : FLk RX11 43 10 6 RX11 TX11 12 tyX11 := ⟨rfl, us_X11, by decide, rfl, lg_in (tk_2 (List.mem_of_getElem? (i := 143) (by decide +kernel))) rfl, tyX11_ok, nmX11⟩
theorem fl_X11_50 : FLk RX11 50 10 7 RX11 TX11 12 tyX11 := ⟨rfl, us_X11, by decide, rfl, lg_in (tk_2 (List.mem_of_getElem? (i := 144) (by decide +kernel))) rfl, tyX11_ok, nmX11⟩
theorem fl_X11_57 : FLk RX11 57 10 8 RX11 TX11 12 tyX11 := ⟨rfl, us_X11, by decide, rfl, lg_in (tk_2 (List.mem_of_getElem? (i := 145) (by decide +kernel))) rfl, tyX11_ok, nmX11⟩
theorem fl_X11_64 : FLk RX11 64 10 9 RX11 TX11 12 tyX11 := ⟨rfl, us_X11, by decide, rfl, lg_in (tk_2 (List.mem_of_getElem? (i := 146) (by decide +kernel))) rfl, tyX11_ok, nmX11⟩
theorem fl_X11_71 : FLk RX11 71 10 10 RX11 TX11 12 tyX11 := ⟨rfl, us_X11, by decide, rfl, lg_in (tk_2 (List.mem_of_getElem? (i := 147) (by decide +kernel))) rfl, tyX11_ok, nmX11⟩
theorem fl_X11_75 : FLk RX11 75 10 11 RX11 TX11 12 tyX11 := ⟨rfl, us_X11, by decide, rfl, lg_in (tk_2 (List.mem_of_getElem? (i := 148) (by decide +kernel))) rfl, tyX11_ok, nmX11⟩
theorem ml_L_13 : Cond.methodLink RL 13 yX11_party ∈ lw_g := lg_in (tk_2 (List.mem_of_getElem? (i := 174) (by decide +kernel))) rfl
theorem ml_X11_79 : Cond.methodLink RX11 79 yX11_isKm ∈ lw_g := lg_in (tk_2 (List.mem_of_getElem? (i := 178) (by decide +kernel))) rfl
theorem ml_X11_83 : Cond.methodLink RX11 83 yX11_within ∈ lw_g := lg_in (tk_2 (List.mem_of_getElem? (i := 181) (by decide +kernel))) rfl
theorem ml_X11_87 : Cond.methodLink RX11 87 yX11_refuse ∈ lw_g := lg_in (tk_2 (List.mem_of_getElem? (i := 184) (by decide +kernel))) rfl
theorem cw_X11_369 : Cond.constant RX11 369 (-1000000000) ∈ lw_g := lg_in (tk_2 (List.mem_of_getElem? (i := 188) (by decide +kernel))) rfl
theorem ml_X11_95 : Cond.methodLink RX11 95 yX9_addParty ∈ lw_g := lg_in (tk_2 (List.mem_of_getElem? (i := 189) (by decide +kernel))) rfl
theorem ml_X9_85 : Cond.methodLinkNest RX9 85 yX11_within "PailSpeech" ∈ lw_n := ln_in (tk_2 (List.mem_of_getElem? (i := 193) (by decide +kernel))) rfl
theorem ml_L_18 : Cond.methodLink RL 18 yX11_ofParty ∈ lw_g := lg_in (tk_2 (List.mem_of_getElem? (i := 194) (by decide +kernel))) rfl
theorem ml_X11_99 : Cond.methodLink RX11 99 yX9_hasParty ∈ lw_g := lg_in (tk_2 (List.mem_of_getElem? (i := 198) (by decide +kernel))) rfl
theorem ml_X11_120 : Cond.methodLink RX11 120 yX9_runs ∈ lw_g := lg_in (tk_2 (List.mem_of_getElem? (i := 202) (by decide +kernel))) rfl
theorem ml_X9_98 : Cond.methodLink RX9 98 yX9_hasParty ∈ lw_g := lg_in (tk_2 (List.mem_of_getElem? (i := 206) (by decide +kernel))) rfl
theorem ml_X9_102 : Cond.methodLink RX9 102 yX4_runs ∈ lw_g := lg_in (tk_2 (List.mem_of_getElem? (i := 207) (by decide +kernel))) rfl
theorem ml_X4_15 : Cond.methodLink RX4 15 yX4_atLeastOne ∈ lw_g := lg_in (tk_2 (List.mem_of_getElem? (i := 210) (by decide +kernel))) rfl
theorem ml_X11_123 : Cond.methodLink RX11 123 yX9_drips ∈ lw_g := lg_in (tk_2 (List.mem_of_getElem? (i := 213) (by decide +kernel))) rfl
theorem ml_X9_108 : Cond.methodLink RX9 108 yX4_drips ∈ lw_g := lg_in (tk_2 (List.mem_of_getElem? (i := 217) (by decide +kernel))) rfl
theorem ml_X11_126 : Cond.methodLink RX11 126 yX9_saidOf ∈ lw_g := lg_in (tk_2 (List.mem_of_getElem? (i := 220) (by decide +kernel))) rfl
theorem ml_L_22 : Cond.methodLink RL 22 yX11_become ∈ lw_g := lg_in (tk_2 (List.mem_of_getElem? (i := 224) (by decide +kernel))) rfl
theorem ml_L_26 : Cond.methodLink RL 26 yX11_as ∈ lw_g := lg_in (tk_2 (List.mem_of_getElem? (i := 228) (by decide +kernel))) rfl
theorem ml_X11_131 : Cond.methodLink RX11 131 yX4_isUnder ∈ lw_g := lg_in (tk_2 (List.mem_of_getElem? (i := 232) (by decide +kernel))) rfl
theorem ml_X4_11 : Cond.methodLink RX4 11 yX4_above ∈ lw_g := lg_in (tk_2 (List.mem_of_getElem? (i := 235) (by decide +kernel))) rfl
theorem ml_L_30 : Cond.methodLink RL 30 yX11_word ∈ lw_g := lg_in (tk_2 (List.mem_of_getElem? (i := 238) (by decide +kernel))) rfl
theorem ml_X11_138 : Cond.methodLink RX11 138 yX9_addWord ∈ lw_g := lg_in (tk_3 (List.mem_of_getElem? (i := 2) (by decide +kernel))) rfl
theorem ml_L_35 : Cond.methodLink RL 35 yX11_ofWord ∈ lw_g := lg_in (tk_3 (List.mem_of_getElem? (i := 6) (by decide +kernel))) rfl
theorem ml_X11_142 : Cond.methodLink RX11 142 yX9_hasWord ∈ lw_g := lg_in (tk_3 (List.mem_of_getElem? (i := 10) (by decide +kernel))) rfl
theorem ml_L_39 : Cond.methodLink RL 39 yX11_set ∈ lw_g := lg_in (tk_3 (List.mem_of_getElem? (i := 14) (by decide +kernel))) rfl
theorem ml_L_44 : Cond.methodLink RL 44 yX11_fetch ∈ lw_g := lg_in (tk_3 (List.mem_of_getElem? (i := 18) (by decide +kernel))) rfl
theorem ml_X11_163 : Cond.methodLink RX11 163 yJ9_min_7cf53 ∈ lw_g := lg_in (tk_3 (List.mem_of_getElem? (i := 22) (by decide +kernel))) rfl
theorem ml_L_48 : Cond.methodLink RL 48 yX11_pour ∈ lw_g := lg_in (tk_3 (List.mem_of_getElem? (i := 25) (by decide +kernel))) rfl
theorem ml_X11_168 : Cond.methodLink RX11 168 yX11_areTwo ∈ lw_g := lg_in (tk_3 (List.mem_of_getElem? (i := 29) (by decide +kernel))) rfl
theorem ml_L_52 : Cond.methodLink RL 52 yX11_object ∈ lw_g := lg_in (tk_3 (List.mem_of_getElem? (i := 33) (by decide +kernel))) rfl
theorem ml_X11_171 : Cond.methodLink RX11 171 yX9_speaker ∈ lw_g := lg_in (tk_3 (List.mem_of_getElem? (i := 37) (by decide +kernel))) rfl
theorem ml_X9_125 : Cond.methodLink RX9 125 yX9_hasWord ∈ lw_g := lg_in (tk_3 (List.mem_of_getElem? (i := 41) (by decide +kernel))) rfl
theorem ml_X11_175 : Cond.methodLink RX11 175 yX2_lose ∈ lw_g := lg_in (tk_3 (List.mem_of_getElem? (i := 42) (by decide +kernel))) rfl
theorem ml_X2_43 : Cond.methodLinkNest RX2 43 yX11_within "PailSpeech" ∈ lw_n := ln_in (tk_3 (List.mem_of_getElem? (i := 46) (by decide +kernel))) rfl
theorem ml_X2_47 : Cond.methodLink RX2 47 yJ9_min_7cf53 ∈ lw_g := lg_in (tk_3 (List.mem_of_getElem? (i := 47) (by decide +kernel))) rfl
theorem ml_X11_178 : Cond.methodLink RX11 178 yX2_floorGets ∈ lw_g := lg_in (tk_3 (List.mem_of_getElem? (i := 48) (by decide +kernel))) rfl
theorem cw_X2_53 : Cond.constant RX2 53 999999 ∈ lw_g := lg_in (tk_3 (List.mem_of_getElem? (i := 52) (by decide +kernel))) rfl
theorem ml_L_56 : Cond.methodLink RL 56 yX11_thumb ∈ lw_g := lg_in (tk_3 (List.mem_of_getElem? (i := 53) (by decide +kernel))) rfl
theorem ml_L_61 : Cond.methodLink RL 61 yX11_say ∈ lw_g := lg_in (tk_3 (List.mem_of_getElem? (i := 57) (by decide +kernel))) rfl
theorem ml_X11_185 : Cond.methodLink RX11 185 yX9_maySay ∈ lw_g := lg_in (tk_3 (List.mem_of_getElem? (i := 61) (by decide +kernel))) rfl
theorem ml_X9_128 : Cond.methodLink RX9 128 yX9_isFree ∈ lw_g := lg_in (tk_3 (List.mem_of_getElem? (i := 65) (by decide +kernel))) rfl
theorem ml_X11_189 : Cond.methodLink RX11 189 yX9_begin ∈ lw_g := lg_in (tk_3 (List.mem_of_getElem? (i := 69) (by decide +kernel))) rfl
theorem ml_L_65 : Cond.methodLink RL 65 yX11_stop ∈ lw_g := lg_in (tk_3 (List.mem_of_getElem? (i := 73) (by decide +kernel))) rfl
theorem ml_X11_193 : Cond.methodLink RX11 193 yX2_end ∈ lw_g := lg_in (tk_3 (List.mem_of_getElem? (i := 77) (by decide +kernel))) rfl
theorem ml_L_70 : Cond.methodLink RL 70 yX11_seconds ∈ lw_g := lg_in (tk_3 (List.mem_of_getElem? (i := 81) (by decide +kernel))) rfl
theorem cw_X11_200 : Cond.constant RX11 200 99999 ∈ lw_g := lg_in (tk_3 (List.mem_of_getElem? (i := 85) (by decide +kernel))) rfl
theorem ml_X11_201 : Cond.methodLink RX11 201 yX9_pass ∈ lw_g := lg_in (tk_3 (List.mem_of_getElem? (i := 86) (by decide +kernel))) rfl
theorem ml_X9_135 : Cond.methodLink RX9 135 yX9_speaker ∈ lw_g := lg_in (tk_3 (List.mem_of_getElem? (i := 90) (by decide +kernel))) rfl
theorem ml_X9_151 : Cond.methodLink RX9 151 yX9_tillEnd ∈ lw_g := lg_in (tk_3 (List.mem_of_getElem? (i := 91) (by decide +kernel))) rfl
theorem ml_X9_139 : Cond.methodLink RX9 139 yX9_runs ∈ lw_g := lg_in (tk_3 (List.mem_of_getElem? (i := 95) (by decide +kernel))) rfl
theorem ml_X9_142 : Cond.methodLinkNest RX9 142 yX11_quotient "PailSpeech" ∈ lw_n := ln_in (tk_3 (List.mem_of_getElem? (i := 96) (by decide +kernel))) rfl
theorem ml_X9_154 : Cond.methodLink RX9 154 yJ9_min_7cf53 ∈ lw_g := lg_in (tk_3 (List.mem_of_getElem? (i := 99) (by decide +kernel))) rfl
theorem ml_X9_159 : Cond.methodLink RX9 159 yX9_drain ∈ lw_g := lg_in (tk_3 (List.mem_of_getElem? (i := 100) (by decide +kernel))) rfl
theorem ml_X9_171 : Cond.methodLink RX9 171 yX9_drips ∈ lw_g := lg_in (tk_3 (List.mem_of_getElem? (i := 104) (by decide +kernel))) rfl
theorem ml_X9_173 : Cond.methodLink RX9 173 yX2_lose ∈ lw_g := lg_in (tk_3 (List.mem_of_getElem? (i := 105) (by decide +kernel))) rfl
theorem ml_X9_176 : Cond.methodLink RX9 176 yX2_floorGets ∈ lw_g := lg_in (tk_3 (List.mem_of_getElem? (i := 106) (by decide +kernel))) rfl
theorem ml_X9_163 : Cond.methodLink RX9 163 yX2_end ∈ lw_g := lg_in (tk_3 (List.mem_of_getElem? (i := 107) (by decide +kernel))) rfl
theorem cw_X9_167 : Cond.constant RX9 167 99999 ∈ lw_g := lg_in (tk_3 (List.mem_of_getElem? (i := 108) (by decide +kernel))) rfl
theorem ml_X9_168 : Cond.methodLink RX9 168 yX9_earBy ∈ lw_g := lg_in (tk_3 (List.mem_of_getElem? (i := 109) (by decide +kernel))) rfl
theorem ml_X9_111 : Cond.methodLink RX9 111 yX10_isThere ∈ lw_g := lg_in (tk_3 (List.mem_of_getElem? (i := 113) (by decide +kernel))) rfl
theorem ml_X9_115 : Cond.methodLink RX9 115 yX10_value ∈ lw_g := lg_in (tk_3 (List.mem_of_getElem? (i := 117) (by decide +kernel))) rfl
theorem ml_X10_22 : Cond.methodLinkNest RX10 22 yX11_within "PailSpeech" ∈ lw_n := ln_in (tk_3 (List.mem_of_getElem? (i := 121) (by decide +kernel))) rfl
theorem ml_X10_32 : Cond.methodLink RX10 32 yX10_truth ∈ lw_g := lg_in (tk_3 (List.mem_of_getElem? (i := 122) (by decide +kernel))) rfl
theorem ml_X10_36 : Cond.methodLink RX10 36 yX10_joint ∈ lw_g := lg_in (tk_3 (List.mem_of_getElem? (i := 125) (by decide +kernel))) rfl
theorem ml_X9_119 : Cond.methodLinkNest RX9 119 yX11_held "PailSpeech" ∈ lw_n := ln_in (tk_3 (List.mem_of_getElem? (i := 128) (by decide +kernel))) rfl
theorem ml_X11_370 : Cond.methodLink RX11 370 yJ9_max_7cf53 ∈ lw_g := lg_in (tk_3 (List.mem_of_getElem? (i := 131) (by decide +kernel))) rfl
theorem ml_L_74 : Cond.methodLink RL 74 yX11_loose ∈ lw_g := lg_in (tk_3 (List.mem_of_getElem? (i := 134) (by decide +kernel))) rfl
theorem ml_X11_207 : Cond.methodLink RX11 207 yX9_loseByDraws ∈ lw_g := lg_in (tk_3 (List.mem_of_getElem? (i := 138) (by decide +kernel))) rfl
theorem ml_X9_180 : Cond.methodLink RX9 180 yX9_draw ∈ lw_g := lg_in (tk_3 (List.mem_of_getElem? (i := 142) (by decide +kernel))) rfl
theorem cw_X9_184 : Cond.constant RX9 184 1103515245 ∈ lw_g := lg_in (tk_3 (List.mem_of_getElem? (i := 146) (by decide +kernel))) rfl
theorem ml_L_78 : Cond.methodLink RL 78 yX11_then ∈ lw_g := lg_in (tk_3 (List.mem_of_getElem? (i := 147) (by decide +kernel))) rfl
theorem ml_X11_210 : Cond.methodLink RX11 210 yX2_copy ∈ lw_g := lg_in (tk_3 (List.mem_of_getElem? (i := 151) (by decide +kernel))) rfl
theorem cp_X2_25 : cpW RX2 25 := ⟨lg_in (tk_3 (List.mem_of_getElem? (i := 155) (by decide +kernel))) rfl, lg_in (tk_3 (List.mem_of_getElem? (i := 157) (by decide +kernel))) rfl, lg_in (tk_3 (List.mem_of_getElem? (i := 156) (by decide +kernel))) rfl, lg_in (tk_1 (List.mem_of_getElem? (i := 15) (by decide +kernel))) rfl⟩
theorem ml_L_84 : Cond.methodLink RL 84 yX11_feed ∈ lw_g := lg_in (tk_3 (List.mem_of_getElem? (i := 158) (by decide +kernel))) rfl
theorem ml_L_89 : Cond.methodLink RL 89 yX11_text ∈ lw_g := lg_in (tk_3 (List.mem_of_getElem? (i := 162) (by decide +kernel))) rfl
theorem ml_X11_220 : Cond.methodLink RX11 220 yX6_read ∈ lw_g := lg_in (tk_3 (List.mem_of_getElem? (i := 166) (by decide +kernel))) rfl
theorem ml_X6_37 : Cond.methodLink RX6 37 yX10_clear ∈ lw_g := lg_in (tk_3 (List.mem_of_getElem? (i := 171) (by decide +kernel))) rfl
theorem ml_X6_40 : Cond.methodLink RX6 40 yX6_readT ∈ lw_g := lg_in (tk_3 (List.mem_of_getElem? (i := 175) (by decide +kernel))) rfl
theorem ml_X6_48 : Cond.methodLink RX6 48 yX6_readA ∈ lw_g := lg_in (tk_3 (List.mem_of_getElem? (i := 179) (by decide +kernel))) rfl
theorem ml_X6_59 : Cond.methodLink RX6 59 yX6_readB ∈ lw_g := lg_in (tk_3 (List.mem_of_getElem? (i := 183) (by decide +kernel))) rfl
theorem ml_X6_62 : Cond.methodLink RX6 62 yX6_readS ∈ lw_g := lg_in (tk_3 (List.mem_of_getElem? (i := 187) (by decide +kernel))) rfl
theorem ml_X6_65 : Cond.methodLink RX6 65 yX6_readP ∈ lw_g := lg_in (tk_3 (List.mem_of_getElem? (i := 191) (by decide +kernel))) rfl
theorem ml_X6_68 : Cond.methodLink RX6 68 yX6_readQ ∈ lw_g := lg_in (tk_3 (List.mem_of_getElem? (i := 195) (by decide +kernel))) rfl
theorem ml_X6_51 : Cond.methodLink RX6 51 yX6_next ∈ lw_g := lg_in (tk_3 (List.mem_of_getElem? (i := 199) (by decide +kernel))) rfl
theorem ml_X6_44 : Cond.methodLinkNest RX6 44 yX11_within "PailSpeech" ∈ lw_n := ln_in (tk_3 (List.mem_of_getElem? (i := 203) (by decide +kernel))) rfl
theorem ml_X6_71 : Cond.methodLink RX6 71 yX6_isDigit ∈ lw_g := lg_in (tk_3 (List.mem_of_getElem? (i := 204) (by decide +kernel))) rfl
theorem ml_X6_74 : Cond.methodLink RX6 74 yX6_readNumber ∈ lw_g := lg_in (tk_3 (List.mem_of_getElem? (i := 207) (by decide +kernel))) rfl
theorem ml_X6_55 : Cond.methodLink RX6 55 yX10_add ∈ lw_g := lg_in (tk_3 (List.mem_of_getElem? (i := 211) (by decide +kernel))) rfl
theorem ml_X6_77 : Cond.methodLink RX6 77 yX6_readOpen ∈ lw_g := lg_in (tk_3 (List.mem_of_getElem? (i := 215) (by decide +kernel))) rfl
theorem ml_X6_81 : Cond.methodLink RX6 81 yJ0_indexOf_0f7a4 ∈ lw_g := lg_in (tk_3 (List.mem_of_getElem? (i := 219) (by decide +kernel))) rfl
theorem ml_J0_633 : Cond.methodLink RJ0 633 yJ0_indexOf_7cf53 ∈ lw_g := lg_in (tk_3 (List.mem_of_getElem? (i := 223) (by decide +kernel))) rfl
theorem ml_J0_492 : Cond.methodLink RJ0 492 yJ0_isLatin1_aae02 ∈ lw_g := lg_in (tk_3 (List.mem_of_getElem? (i := 227) (by decide +kernel))) rfl
theorem ml_J0_505 : Cond.methodLink RJ0 505 yJ0_length_8abf5 ∈ lw_g := lg_in (tk_3 (List.mem_of_getElem? (i := 233) (by decide +kernel))) rfl
theorem ml_J0_335 : Cond.methodLink RJ0 335 yJ0_coder_7d493 ∈ lw_g := lg_in (tk_3 (List.mem_of_getElem? (i := 237) (by decide +kernel))) rfl
theorem ml_J0_637 : Cond.methodLink RJ0 637 yJ1_indexOf_4cfef ∈ lw_g := lg_in (tk_4 (List.mem_of_getElem? (i := 1) (by decide +kernel))) rfl
theorem ml_J1_88 : Cond.methodLink RJ1 88 yJ1_canEncode_9a6ad ∈ lw_g := lg_in (tk_4 (List.mem_of_getElem? (i := 4) (by decide +kernel))) rfl
theorem ml_J1_92 : Cond.methodLink RJ1 92 yJ9_max_7cf53 ∈ lw_g := lg_in (tk_4 (List.mem_of_getElem? (i := 7) (by decide +kernel))) rfl
theorem ml_J1_38 : Cond.methodLink RJ1 38 yJ9_min_7cf53 ∈ lw_g := lg_in (tk_4 (List.mem_of_getElem? (i := 8) (by decide +kernel))) rfl
theorem ml_J1_95 : Cond.methodLink RJ1 95 yJ1_indexOfChar_4cfef ∈ lw_g := lg_in (tk_4 (List.mem_of_getElem? (i := 9) (by decide +kernel))) rfl
theorem ml_J0_640 : Cond.methodLink RJ0 640 yJ2_indexOf_4cfef ∈ lw_g := lg_in (tk_4 (List.mem_of_getElem? (i := 12) (by decide +kernel))) rfl
theorem ml_J2_224 : Cond.methodLink RJ2 224 yJ9_max_7cf53 ∈ lw_g := lg_in (tk_4 (List.mem_of_getElem? (i := 15) (by decide +kernel))) rfl
theorem ml_J2_183 : Cond.methodLink RJ2 183 yJ9_min_7cf53 ∈ lw_g := lg_in (tk_4 (List.mem_of_getElem? (i := 16) (by decide +kernel))) rfl
theorem cw_J2_227 : Cond.constant RJ2 227 65536 ∈ lw_g := lg_in (tk_4 (List.mem_of_getElem? (i := 17) (by decide +kernel))) rfl
theorem ml_J2_228 : Cond.methodLink RJ2 228 yJ2_indexOfChar_4cfef ∈ lw_g := lg_in (tk_4 (List.mem_of_getElem? (i := 18) (by decide +kernel))) rfl
theorem ml_J2_96 : Cond.methodLink RJ2 96 yJ2_checkBoundsBeginEnd_d044e ∈ lw_g := lg_in (tk_4 (List.mem_of_getElem? (i := 21) (by decide +kernel))) rfl
theorem ml_J2_48 : Cond.methodLink RJ2 48 yJ2_length_9d52b ∈ lw_g := lg_in (tk_4 (List.mem_of_getElem? (i := 24) (by decide +kernel))) rfl
theorem ml_J2_241 : Cond.methodLink RJ2 241 yJ0_checkBoundsBeginEnd_23922 ∈ lw_g := lg_in (tk_4 (List.mem_of_getElem? (i := 27) (by decide +kernel))) rfl
theorem ml_J0_1062 : Cond.methodLink RJ0 1062 yJ3_checkFromToIndex_8c36e ∈ lw_g := lg_in (tk_4 (List.mem_of_getElem? (i := 32) (by decide +kernel))) rfl
theorem ml_J2_244 : Cond.methodLink RJ2 244 yJ2_indexOfCharUnsafe_4cfef ∈ lw_g := lg_in (tk_4 (List.mem_of_getElem? (i := 35) (by decide +kernel))) rfl
theorem ml_J2_71 : Cond.methodLink RJ2 71 yJ2_getChar_3b067 ∈ lw_g := lg_in (tk_4 (List.mem_of_getElem? (i := 38) (by decide +kernel))) rfl
theorem ml_J2_232 : Cond.methodLink RJ2 232 yJ2_indexOfSupplementary_4cfef ∈ lw_g := lg_in (tk_4 (List.mem_of_getElem? (i := 47) (by decide +kernel))) rfl
theorem ml_J2_164 : Cond.methodLink RJ2 164 yJ11_isValidCodePoint_9a6ad ∈ lw_g := lg_in (tk_4 (List.mem_of_getElem? (i := 50) (by decide +kernel))) rfl
theorem ml_J2_157 : Cond.methodLink RJ2 157 yJ11_highSurrogate_5068e ∈ lw_g := lg_in (tk_4 (List.mem_of_getElem? (i := 53) (by decide +kernel))) rfl
theorem cw_J11_110 : Cond.constant RJ11 110 55232 ∈ lw_g := lg_in (tk_4 (List.mem_of_getElem? (i := 56) (by decide +kernel))) rfl
theorem ml_J2_161 : Cond.methodLink RJ2 161 yJ11_lowSurrogate_5068e ∈ lw_g := lg_in (tk_4 (List.mem_of_getElem? (i := 57) (by decide +kernel))) rfl
theorem cw_J11_76 : Cond.constant RJ11 76 56320 ∈ lw_g := lg_in (tk_4 (List.mem_of_getElem? (i := 60) (by decide +kernel))) rfl
theorem ml_X11_234 : Cond.methodLink RX11 234 yX10_copy ∈ lw_g := lg_in (tk_4 (List.mem_of_getElem? (i := 61) (by decide +kernel))) rfl
theorem cp_X10_26 : cpW RX10 26 := ⟨lg_in (tk_4 (List.mem_of_getElem? (i := 65) (by decide +kernel))) rfl, lg_in (tk_3 (List.mem_of_getElem? (i := 157) (by decide +kernel))) rfl, lg_in (tk_3 (List.mem_of_getElem? (i := 156) (by decide +kernel))) rfl, lg_in (tk_1 (List.mem_of_getElem? (i := 15) (by decide +kernel))) rfl⟩
theorem ml_L_93 : Cond.methodLink RL 93 yX11_law ∈ lw_g := lg_in (tk_4 (List.mem_of_getElem? (i := 66) (by decide +kernel))) rfl
theorem ml_X11_239 : Cond.methodLink RX11 239 yX9_earBy ∈ lw_g := lg_in (tk_4 (List.mem_of_getElem? (i := 70) (by decide +kernel))) rfl
theorem ml_X11_243 : Cond.methodLink RX11 243 yX9_spillBy ∈ lw_g := lg_in (tk_4 (List.mem_of_getElem? (i := 71) (by decide +kernel))) rfl
theorem ml_L_97 : Cond.methodLink RL 97 yX11_best ∈ lw_g := lg_in (tk_4 (List.mem_of_getElem? (i := 75) (by decide +kernel))) rfl
theorem ml_X11_246 : Cond.methodLink RX11 246 yX9_sets ∈ lw_g := lg_in (tk_4 (List.mem_of_getElem? (i := 79) (by decide +kernel))) rfl
theorem ml_X11_250 : Cond.methodLink RX11 250 yX5_find ∈ lw_g := lg_in (tk_4 (List.mem_of_getElem? (i := 83) (by decide +kernel))) rfl
theorem ml_X5_31 : Cond.methodLink RX5 31 yX5_leastOf ∈ lw_g := lg_in (tk_4 (List.mem_of_getElem? (i := 87) (by decide +kernel))) rfl
theorem ml_X5_35 : Cond.methodLink RX5 35 yX9_hasParty ∈ lw_g := lg_in (tk_4 (List.mem_of_getElem? (i := 90) (by decide +kernel))) rfl
theorem ml_X5_52 : Cond.methodLink RX5 52 yX9_waterOf ∈ lw_g := lg_in (tk_4 (List.mem_of_getElem? (i := 91) (by decide +kernel))) rfl
theorem ml_X5_55 : Cond.methodLink RX5 55 yX9_runs ∈ lw_g := lg_in (tk_4 (List.mem_of_getElem? (i := 95) (by decide +kernel))) rfl
theorem ml_X5_58 : Cond.methodLinkNest RX5 58 yX11_quotient "PailSpeech" ∈ lw_n := ln_in (tk_4 (List.mem_of_getElem? (i := 96) (by decide +kernel))) rfl
theorem ml_X5_65 : Cond.methodLink RX5 65 yX5_gather ∈ lw_g := lg_in (tk_4 (List.mem_of_getElem? (i := 97) (by decide +kernel))) rfl
theorem ml_X5_69 : Cond.methodLink RX5 69 yX5_lengthen ∈ lw_g := lg_in (tk_4 (List.mem_of_getElem? (i := 101) (by decide +kernel))) rfl
theorem ml_X5_85 : Cond.methodLink RX5 85 yX5_mayCome ∈ lw_g := lg_in (tk_4 (List.mem_of_getElem? (i := 105) (by decide +kernel))) rfl
theorem ml_X5_93 : Cond.methodLink RX5 93 yX9_hasWord ∈ lw_g := lg_in (tk_4 (List.mem_of_getElem? (i := 108) (by decide +kernel))) rfl
theorem ml_X5_114 : Cond.methodLink RX5 114 yX9_isFree ∈ lw_g := lg_in (tk_4 (List.mem_of_getElem? (i := 109) (by decide +kernel))) rfl
theorem ml_X5_89 : Cond.methodLink RX5 89 yX5_append ∈ lw_g := lg_in (tk_4 (List.mem_of_getElem? (i := 110) (by decide +kernel))) rfl
theorem ml_X5_96 : Cond.methodLinkNest RX5 96 yX11_within "PailSpeech" ∈ lw_n := ln_in (tk_4 (List.mem_of_getElem? (i := 114) (by decide +kernel))) rfl
theorem ml_X5_106 : Cond.methodLink RX5 106 yX9_earBy ∈ lw_g := lg_in (tk_4 (List.mem_of_getElem? (i := 115) (by decide +kernel))) rfl
theorem ml_X5_110 : Cond.methodLink RX5 110 yX5_keepIfBetter ∈ lw_g := lg_in (tk_4 (List.mem_of_getElem? (i := 116) (by decide +kernel))) rfl
theorem ml_X5_121 : Cond.methodLinkNest RX5 121 yX11_held "PailSpeech" ∈ lw_n := ln_in (tk_4 (List.mem_of_getElem? (i := 120) (by decide +kernel))) rfl
theorem cp_X5_124 : cpW RX5 124 := ⟨lg_in (tk_4 (List.mem_of_getElem? (i := 121) (by decide +kernel))) rfl, lg_in (tk_3 (List.mem_of_getElem? (i := 157) (by decide +kernel))) rfl, lg_in (tk_3 (List.mem_of_getElem? (i := 156) (by decide +kernel))) rfl, lg_in (tk_1 (List.mem_of_getElem? (i := 15) (by decide +kernel))) rfl⟩
theorem ml_L_101 : Cond.methodLink RL 101 yX11_share ∈ lw_g := lg_in (tk_4 (List.mem_of_getElem? (i := 122) (by decide +kernel))) rfl
theorem ml_X11_263 : Cond.methodLink RX11 263 yX3_weigh ∈ lw_g := lg_in (tk_4 (List.mem_of_getElem? (i := 126) (by decide +kernel))) rfl
theorem ml_X3_24 : Cond.methodLink RX3 24 yJ9_min_7cf53 ∈ lw_g := lg_in (tk_4 (List.mem_of_getElem? (i := 130) (by decide +kernel))) rfl
theorem ml_X3_33 : Cond.methodLink RX3 33 yX5_find ∈ lw_g := lg_in (tk_4 (List.mem_of_getElem? (i := 131) (by decide +kernel))) rfl
theorem ml_X3_42 : Cond.methodLink RX3 42 yX3_factorial ∈ lw_g := lg_in (tk_4 (List.mem_of_getElem? (i := 132) (by decide +kernel))) rfl
theorem ml_X3_49 : Cond.methodLink RX3 49 yX3_gainOf ∈ lw_g := lg_in (tk_4 (List.mem_of_getElem? (i := 135) (by decide +kernel))) rfl
theorem ml_X3_52 : Cond.methodLink RX3 52 yJ6_bitCount_0f7a4 ∈ lw_g := lg_in (tk_4 (List.mem_of_getElem? (i := 139) (by decide +kernel))) rfl
theorem cw_J6_265 : Cond.constant RJ6 265 1431655765 ∈ lw_g := lg_in (tk_4 (List.mem_of_getElem? (i := 142) (by decide +kernel))) rfl
theorem cw_J6_266 : Cond.constant RJ6 266 858993459 ∈ lw_g := lg_in (tk_4 (List.mem_of_getElem? (i := 143) (by decide +kernel))) rfl
theorem cw_J6_267 : Cond.constant RJ6 267 252645135 ∈ lw_g := lg_in (tk_4 (List.mem_of_getElem? (i := 144) (by decide +kernel))) rfl
theorem ml_X11_273 : Cond.methodLink RX11 273 yX11_partOf ∈ lw_g := lg_in (tk_4 (List.mem_of_getElem? (i := 145) (by decide +kernel))) rfl
theorem ml_X11_373 : Cond.methodLink RX11 373 yJ9_abs_067f4 ∈ lw_g := lg_in (tk_4 (List.mem_of_getElem? (i := 148) (by decide +kernel))) rfl
theorem ml_X11_377 : Cond.methodLink RX11 377 yX11_common ∈ lw_g := lg_in (tk_4 (List.mem_of_getElem? (i := 151) (by decide +kernel))) rfl
theorem ml_L_106 : Cond.methodLink RL 106 yX11_leaves ∈ lw_g := lg_in (tk_4 (List.mem_of_getElem? (i := 154) (by decide +kernel))) rfl
theorem ml_X11_277 : Cond.methodLink RX11 277 yX3_leastLeaving ∈ lw_g := lg_in (tk_4 (List.mem_of_getElem? (i := 158) (by decide +kernel))) rfl
theorem ml_L_110 : Cond.methodLink RL 110 yX11_game ∈ lw_g := lg_in (tk_4 (List.mem_of_getElem? (i := 162) (by decide +kernel))) rfl
theorem ml_X11_280 : Cond.methodLink RX11 280 yX1_play ∈ lw_g := lg_in (tk_4 (List.mem_of_getElem? (i := 166) (by decide +kernel))) rfl
theorem ml_X1_25 : Cond.methodLinkNest RX1 25 yX11_held "PailSpeech" ∈ lw_n := ln_in (tk_4 (List.mem_of_getElem? (i := 170) (by decide +kernel))) rfl
theorem ml_X1_38 : Cond.methodLink RX1 38 yX2_copy ∈ lw_g := lg_in (tk_4 (List.mem_of_getElem? (i := 171) (by decide +kernel))) rfl
theorem ml_X1_51 : Cond.methodLink RX1 51 yX1_turn ∈ lw_g := lg_in (tk_4 (List.mem_of_getElem? (i := 172) (by decide +kernel))) rfl
theorem ml_X1_55 : Cond.methodLink RX1 55 yX1_growth ∈ lw_g := lg_in (tk_4 (List.mem_of_getElem? (i := 176) (by decide +kernel))) rfl
theorem ml_X1_102 : Cond.methodLink RX1 102 yX9_hasParty ∈ lw_g := lg_in (tk_4 (List.mem_of_getElem? (i := 180) (by decide +kernel))) rfl
theorem ml_X1_69 : Cond.methodLink RX1 69 yX9_isFree ∈ lw_g := lg_in (tk_4 (List.mem_of_getElem? (i := 181) (by decide +kernel))) rfl
theorem ml_X1_73 : Cond.methodLink RX1 73 yX1_valueOf ∈ lw_g := lg_in (tk_4 (List.mem_of_getElem? (i := 182) (by decide +kernel))) rfl
theorem ml_X1_84 : Cond.methodLinkNest RX1 84 yX11_within "PailSpeech" ∈ lw_n := ln_in (tk_4 (List.mem_of_getElem? (i := 186) (by decide +kernel))) rfl
theorem ml_X1_87 : Cond.methodLink RX1 87 yX9_hasWord ∈ lw_g := lg_in (tk_4 (List.mem_of_getElem? (i := 187) (by decide +kernel))) rfl
theorem ml_X1_91 : Cond.methodLink RX1 91 yX9_begin ∈ lw_g := lg_in (tk_4 (List.mem_of_getElem? (i := 188) (by decide +kernel))) rfl
theorem ml_X1_95 : Cond.methodLink RX1 95 yX9_tillEnd ∈ lw_g := lg_in (tk_4 (List.mem_of_getElem? (i := 189) (by decide +kernel))) rfl
theorem ml_X1_99 : Cond.methodLink RX1 99 yX9_pass ∈ lw_g := lg_in (tk_4 (List.mem_of_getElem? (i := 190) (by decide +kernel))) rfl
theorem ml_X1_77 : Cond.methodLink RX1 77 yX1_isBetter ∈ lw_g := lg_in (tk_4 (List.mem_of_getElem? (i := 191) (by decide +kernel))) rfl
theorem ml_L_114 : Cond.methodLink RL 114 yX11_odds ∈ lw_g := lg_in (tk_4 (List.mem_of_getElem? (i := 194) (by decide +kernel))) rfl
theorem ml_X11_287 : Cond.methodLink RX11 287 yX7_weigh ∈ lw_g := lg_in (tk_4 (List.mem_of_getElem? (i := 198) (by decide +kernel))) rfl
theorem ml_X7_25 : Cond.methodLink RX7 25 yX7_lay ∈ lw_g := lg_in (tk_4 (List.mem_of_getElem? (i := 202) (by decide +kernel))) rfl
theorem ml_L_119 : Cond.methodLink RL 119 yX11_carried ∈ lw_g := lg_in (tk_4 (List.mem_of_getElem? (i := 205) (by decide +kernel))) rfl
theorem ml_X11_296 : Cond.methodLink RX11 296 yX11_quotient ∈ lw_g := lg_in (tk_4 (List.mem_of_getElem? (i := 209) (by decide +kernel))) rfl
theorem ml_L_123 : Cond.methodLink RL 123 yX11_explained ∈ lw_g := lg_in (tk_4 (List.mem_of_getElem? (i := 210) (by decide +kernel))) rfl
theorem ml_X11_299 : Cond.methodLink RX11 299 yX8_has ∈ lw_g := lg_in (tk_4 (List.mem_of_getElem? (i := 214) (by decide +kernel))) rfl
theorem ml_X8_23 : Cond.methodLinkNest RX8 23 yX11_within "PailSpeech" ∈ lw_n := ln_in (tk_4 (List.mem_of_getElem? (i := 218) (by decide +kernel))) rfl
theorem ml_X11_302 : Cond.methodLink RX11 302 yX8_isMissing ∈ lw_g := lg_in (tk_4 (List.mem_of_getElem? (i := 219) (by decide +kernel))) rfl
theorem ml_X8_27 : Cond.methodLink RX8 27 yX8_has ∈ lw_g := lg_in (tk_4 (List.mem_of_getElem? (i := 223) (by decide +kernel))) rfl
theorem ml_X11_312 : Cond.methodLink RX11 312 yX11_firstUnlike ∈ lw_g := lg_in (tk_4 (List.mem_of_getElem? (i := 224) (by decide +kernel))) rfl
theorem ml_L_127 : Cond.methodLink RL 127 yX11_seed ∈ lw_g := lg_in (tk_4 (List.mem_of_getElem? (i := 228) (by decide +kernel))) rfl
theorem ml_L_131 : Cond.methodLink RL 131 yX11_voice ∈ lw_g := lg_in (tk_4 (List.mem_of_getElem? (i := 232) (by decide +kernel))) rfl
theorem ml_X11_319 : Cond.methodLink RX11 319 yX0_answer ∈ lw_g := lg_in (tk_4 (List.mem_of_getElem? (i := 236) (by decide +kernel))) rfl
theorem ml_X0_28 : Cond.methodLink RX0 28 yX0_call ∈ lw_g := lg_in (tk_5 (List.mem_of_getElem? (i := 0) (by decide +kernel))) rfl
theorem ml_X0_34 : Cond.methodLinkNest RX0 34 yX11_within "PailSpeech" ∈ lw_n := ln_in (tk_5 (List.mem_of_getElem? (i := 4) (by decide +kernel))) rfl
theorem fk_X0_38 : Cond.fieldLink RX0 38 "PailSpeech$Chorus" "BODIES" "[I" ∈ lw_g := lg_in (tk_5 (List.mem_of_getElem? (i := 5) (by decide +kernel))) rfl
theorem ml_X0_41 : Cond.methodLink RX0 41 yX0_run ∈ lw_g := lg_in (tk_5 (List.mem_of_getElem? (i := 7) (by decide +kernel))) rfl
theorem ml_X0_49 : Cond.methodLink RX0 49 yX0_own ∈ lw_g := lg_in (tk_5 (List.mem_of_getElem? (i := 11) (by decide +kernel))) rfl
theorem ml_X0_52 : Cond.methodLink RX0 52 yX0_above ∈ lw_g := lg_in (tk_5 (List.mem_of_getElem? (i := 15) (by decide +kernel))) rfl
theorem ml_X0_45 : Cond.methodLink RX0 45 yX4_above ∈ lw_g := lg_in (tk_5 (List.mem_of_getElem? (i := 19) (by decide +kernel))) rfl
theorem ml_L_135 : Cond.methodLink RL 135 yX11_trace ∈ lw_g := lg_in (tk_5 (List.mem_of_getElem? (i := 20) (by decide +kernel))) rfl
theorem ml_L_139 : Cond.methodLink RL 139 yX11_sheet ∈ lw_g := lg_in (tk_5 (List.mem_of_getElem? (i := 24) (by decide +kernel))) rfl
theorem ml_X11_329 : Cond.methodLink RX11 329 yX8_lay ∈ lw_g := lg_in (tk_5 (List.mem_of_getElem? (i := 28) (by decide +kernel))) rfl
theorem ml_L_143 : Cond.methodLink RL 143 yX11_put ∈ lw_g := lg_in (tk_5 (List.mem_of_getElem? (i := 32) (by decide +kernel))) rfl
theorem ml_X11_336 : Cond.methodLink RX11 336 yX8_cutTo ∈ lw_g := lg_in (tk_5 (List.mem_of_getElem? (i := 36) (by decide +kernel))) rfl
theorem ml_L_147 : Cond.methodLink RL 147 yX11_move ∈ lw_g := lg_in (tk_5 (List.mem_of_getElem? (i := 40) (by decide +kernel))) rfl
theorem ml_X11_339 : Cond.methodLink RX11 339 yX8_stand ∈ lw_g := lg_in (tk_5 (List.mem_of_getElem? (i := 44) (by decide +kernel))) rfl
theorem cp_X11_342 : cpW RX11 342 := ⟨lg_in (tk_5 (List.mem_of_getElem? (i := 48) (by decide +kernel))) rfl, lg_in (tk_3 (List.mem_of_getElem? (i := 157) (by decide +kernel))) rfl, lg_in (tk_3 (List.mem_of_getElem? (i := 156) (by decide +kernel))) rfl, lg_in (tk_1 (List.mem_of_getElem? (i := 15) (by decide +kernel))) rfl⟩
theorem ml_L_152 : Cond.methodLink RL 152 yX11_judge ∈ lw_g := lg_in (tk_5 (List.mem_of_getElem? (i := 49) (by decide +kernel))) rfl
theorem ml_X11_348 : Cond.methodLink RX11 348 yX9_tillEnd ∈ lw_g := lg_in (tk_5 (List.mem_of_getElem? (i := 53) (by decide +kernel))) rfl
theorem ml_L_156 : Cond.methodLink RL 156 yX11_image ∈ lw_g := lg_in (tk_5 (List.mem_of_getElem? (i := 54) (by decide +kernel))) rfl
theorem ml_X11_351 : Cond.methodLink RX11 351 yX9_copy ∈ lw_g := lg_in (tk_5 (List.mem_of_getElem? (i := 58) (by decide +kernel))) rfl
theorem cp_X9_63 : cpW RX9 63 := ⟨lg_in (tk_5 (List.mem_of_getElem? (i := 62) (by decide +kernel))) rfl, lg_in (tk_3 (List.mem_of_getElem? (i := 157) (by decide +kernel))) rfl, lg_in (tk_3 (List.mem_of_getElem? (i := 156) (by decide +kernel))) rfl, lg_in (tk_1 (List.mem_of_getElem? (i := 15) (by decide +kernel))) rfl⟩
theorem ml_X9_72 : Cond.methodLink RX9 72 yX2_copy ∈ lw_g := lg_in (tk_5 (List.mem_of_getElem? (i := 63) (by decide +kernel))) rfl
theorem ml_X9_76 : Cond.methodLink RX9 76 yX10_copy ∈ lw_g := lg_in (tk_5 (List.mem_of_getElem? (i := 64) (by decide +kernel))) rfl
theorem ml_L_160 : Cond.methodLink RL 160 yX11_restore ∈ lw_g := lg_in (tk_5 (List.mem_of_getElem? (i := 65) (by decide +kernel))) rfl
theorem ml_L_164 : Cond.methodLink RL 164 yX11_tell ∈ lw_g := lg_in (tk_5 (List.mem_of_getElem? (i := 69) (by decide +kernel))) rfl
theorem ml_L_168 : Cond.methodLink RL 168 yX11_check ∈ lw_g := lg_in (tk_5 (List.mem_of_getElem? (i := 73) (by decide +kernel))) rfl
theorem ml_L_172 : Cond.methodLink RL 172 yX11_count ∈ lw_g := lg_in (tk_5 (List.mem_of_getElem? (i := 77) (by decide +kernel))) rfl
theorem ml_X11_366 : Cond.methodLink RX11 366 yX9_waterOf ∈ lw_g := lg_in (tk_5 (List.mem_of_getElem? (i := 81) (by decide +kernel))) rfl
theorem ml_L_176 : Cond.methodLink RL 176 yX11_told ∈ lw_g := lg_in (tk_5 (List.mem_of_getElem? (i := 82) (by decide +kernel))) rfl
theorem ml_L_12 : Cond.methodLink RL 12 yX12_init ∈ lw_g := lg_in (tk_5 (List.mem_of_getElem? (i := 88) (by decide +kernel))) rfl
theorem ml_X12_1 : Cond.methodLink RX12 1 Lib.objectInit ∈ lw_g := lg_in (tk_5 (List.mem_of_getElem? (i := 91) (by decide +kernel))) rfl
theorem fl_X12_7 : FLk RX12 7 11 0 RX12 TX12 38 tyX12 := ⟨rfl, us_X12, by decide, rfl, lg_in (tk_5 (List.mem_of_getElem? (i := 92) (by decide +kernel))) rfl, tyX12_ok, nmX12⟩
theorem fl_X12_13 : FLk RX12 13 11 1 RX12 TX12 38 tyX12 := ⟨rfl, us_X12, by decide, rfl, lg_in (tk_5 (List.mem_of_getElem? (i := 93) (by decide +kernel))) rfl, tyX12_ok, nmX12⟩
theorem fl_X12_16 : FLk RX12 16 11 2 RX12 TX12 38 tyX12 := ⟨rfl, us_X12, by decide, rfl, lg_in (tk_5 (List.mem_of_getElem? (i := 94) (by decide +kernel))) rfl, tyX12_ok, nmX12⟩
theorem fl_X12_349 : FLk RX12 349 11 3 RX12 TX12 38 tyX12 := ⟨rfl, us_X12, by decide, rfl, lg_in (tk_5 (List.mem_of_getElem? (i := 95) (by decide +kernel))) rfl, tyX12_ok, nmX12⟩
theorem fl_X12_19 : FLk RX12 19 11 4 RX12 TX12 38 tyX12 := ⟨rfl, us_X12, by decide, rfl, lg_in (tk_5 (List.mem_of_getElem? (i := 96) (by decide +kernel))) rfl, tyX12_ok, nmX12⟩
theorem fl_X12_94 : FLk RX12 94 11 5 RX12 TX12 38 tyX12 := ⟨rfl, us_X12, by decide, rfl, lg_in (tk_5 (List.mem_of_getElem? (i := 97) (by decide +kernel))) rfl, tyX12_ok, nmX12⟩
theorem fl_X12_84 : FLk RX12 84 11 6 RX12 TX12 38 tyX12 := ⟨rfl, us_X12, by decide, rfl, lg_in (tk_5 (List.mem_of_getElem? (i := 98) (by decide +kernel))) rfl, tyX12_ok, nmX12⟩
theorem fl_X12_88 : FLk RX12 88 11 7 RX12 TX12 38 tyX12 := ⟨rfl, us_X12, by decide, rfl, lg_in (tk_5 (List.mem_of_getElem? (i := 99) (by decide +kernel))) rfl, tyX12_ok, nmX12⟩
theorem fl_X12_91 : FLk RX12 91 11 8 RX12 TX12 38 tyX12 := ⟨rfl, us_X12, by decide, rfl, lg_in (tk_5 (List.mem_of_getElem? (i := 100) (by decide +kernel))) rfl, tyX12_ok, nmX12⟩
theorem fl_X12_124 : FLk RX12 124 11 9 RX12 TX12 38 tyX12 := ⟨rfl, us_X12, by decide, rfl, lg_in (tk_5 (List.mem_of_getElem? (i := 101) (by decide +kernel))) rfl, tyX12_ok, nmX12⟩
theorem fl_X12_101 : FLk RX12 101 11 10 RX12 TX12 38 tyX12 := ⟨rfl, us_X12, by decide, rfl, lg_in (tk_5 (List.mem_of_getElem? (i := 102) (by decide +kernel))) rfl, tyX12_ok, nmX12⟩
theorem fl_X12_22 : FLk RX12 22 11 11 RX12 TX12 38 tyX12 := ⟨rfl, us_X12, by decide, rfl, lg_in (tk_5 (List.mem_of_getElem? (i := 103) (by decide +kernel))) rfl, tyX12_ok, nmX12⟩
theorem fl_X12_25 : FLk RX12 25 11 12 RX12 TX12 38 tyX12 := ⟨rfl, us_X12, by decide, rfl, lg_in (tk_5 (List.mem_of_getElem? (i := 104) (by decide +kernel))) rfl, tyX12_ok, nmX12⟩
theorem fl_X12_250 : FLk RX12 250 11 13 RX12 TX12 38 tyX12 := ⟨rfl, us_X12, by decide, rfl, lg_in (tk_5 (List.mem_of_getElem? (i := 105) (by decide +kernel))) rfl, tyX12_ok, nmX12⟩
theorem fl_X12_28 : FLk RX12 28 11 14 RX12 TX12 38 tyX12 := ⟨rfl, us_X12, by decide, rfl, lg_in (tk_5 (List.mem_of_getElem? (i := 106) (by decide +kernel))) rfl, tyX12_ok, nmX12⟩
theorem fl_X12_31 : FLk RX12 31 11 15 RX12 TX12 38 tyX12 := ⟨rfl, us_X12, by decide, rfl, lg_in (tk_5 (List.mem_of_getElem? (i := 107) (by decide +kernel))) rfl, tyX12_ok, nmX12⟩
theorem fl_X12_34 : FLk RX12 34 11 16 RX12 TX12 38 tyX12 := ⟨rfl, us_X12, by decide, rfl, lg_in (tk_5 (List.mem_of_getElem? (i := 108) (by decide +kernel))) rfl, tyX12_ok, nmX12⟩
theorem fl_X12_256 : FLk RX12 256 11 17 RX12 TX12 38 tyX12 := ⟨rfl, us_X12, by decide, rfl, lg_in (tk_5 (List.mem_of_getElem? (i := 109) (by decide +kernel))) rfl, tyX12_ok, nmX12⟩
theorem fl_X12_259 : FLk RX12 259 11 18 RX12 TX12 38 tyX12 := ⟨rfl, us_X12, by decide, rfl, lg_in (tk_5 (List.mem_of_getElem? (i := 110) (by decide +kernel))) rfl, tyX12_ok, nmX12⟩
theorem fl_X12_262 : FLk RX12 262 11 19 RX12 TX12 38 tyX12 := ⟨rfl, us_X12, by decide, rfl, lg_in (tk_5 (List.mem_of_getElem? (i := 111) (by decide +kernel))) rfl, tyX12_ok, nmX12⟩
theorem fl_X12_37 : FLk RX12 37 11 20 RX12 TX12 38 tyX12 := ⟨rfl, us_X12, by decide, rfl, lg_in (tk_5 (List.mem_of_getElem? (i := 112) (by decide +kernel))) rfl, tyX12_ok, nmX12⟩
theorem fl_X12_40 : FLk RX12 40 11 21 RX12 TX12 38 tyX12 := ⟨rfl, us_X12, by decide, rfl, lg_in (tk_5 (List.mem_of_getElem? (i := 113) (by decide +kernel))) rfl, tyX12_ok, nmX12⟩
theorem fl_X12_43 : FLk RX12 43 11 22 RX12 TX12 38 tyX12 := ⟨rfl, us_X12, by decide, rfl, lg_in (tk_5 (List.mem_of_getElem? (i := 114) (by decide +kernel))) rfl, tyX12_ok, nmX12⟩
theorem fl_X12_277 : FLk RX12 277 11 23 RX12 TX12 38 tyX12 := ⟨rfl, us_X12, by decide, rfl, lg_in (tk_5 (List.mem_of_getElem? (i := 115) (by decide +kernel))) rfl, tyX12_ok, nmX12⟩
theorem fl_X12_46 : FLk RX12 46 11 24 RX12 TX12 38 tyX12 := ⟨rfl, us_X12, by decide, rfl, lg_in (tk_5 (List.mem_of_getElem? (i := 116) (by decide +kernel))) rfl, tyX12_ok, nmX12⟩
theorem fl_X12_49 : FLk RX12 49 11 25 RX12 TX12 38 tyX12 := ⟨rfl, us_X12, by decide, rfl, lg_in (tk_5 (List.mem_of_getElem? (i := 117) (by decide +kernel))) rfl, tyX12_ok, nmX12⟩
theorem fl_X12_52 : FLk RX12 52 11 26 RX12 TX12 38 tyX12 := ⟨rfl, us_X12, by decide, rfl, lg_in (tk_5 (List.mem_of_getElem? (i := 118) (by decide +kernel))) rfl, tyX12_ok, nmX12⟩
theorem fl_X12_55 : FLk RX12 55 11 27 RX12 TX12 38 tyX12 := ⟨rfl, us_X12, by decide, rfl, lg_in (tk_5 (List.mem_of_getElem? (i := 119) (by decide +kernel))) rfl, tyX12_ok, nmX12⟩
theorem fl_X12_58 : FLk RX12 58 11 28 RX12 TX12 38 tyX12 := ⟨rfl, us_X12, by decide, rfl, lg_in (tk_5 (List.mem_of_getElem? (i := 120) (by decide +kernel))) rfl, tyX12_ok, nmX12⟩
theorem fl_X12_61 : FLk RX12 61 11 29 RX12 TX12 38 tyX12 := ⟨rfl, us_X12, by decide, rfl, lg_in (tk_5 (List.mem_of_getElem? (i := 121) (by decide +kernel))) rfl, tyX12_ok, nmX12⟩
theorem fl_X12_308 : FLk RX12 308 11 30 RX12 TX12 38 tyX12 := ⟨rfl, us_X12, by decide, rfl, lg_in (tk_5 (List.mem_of_getElem? (i := 122) (by decide +kernel))) rfl, tyX12_ok, nmX12⟩
theorem fl_X12_64 : FLk RX12 64 11 31 RX12 TX12 38 tyX12 := ⟨rfl, us_X12, by decide, rfl, lg_in (tk_5 (List.mem_of_getElem? (i := 123) (by decide +kernel))) rfl, tyX12_ok, nmX12⟩
theorem fl_X12_325 : FLk RX12 325 11 32 RX12 TX12 38 tyX12 := ⟨rfl, us_X12, by decide, rfl, lg_in (tk_5 (List.mem_of_getElem? (i := 124) (by decide +kernel))) rfl, tyX12_ok, nmX12⟩
theorem fl_X12_328 : FLk RX12 328 11 33 RX12 TX12 38 tyX12 := ⟨rfl, us_X12, by decide, rfl, lg_in (tk_5 (List.mem_of_getElem? (i := 125) (by decide +kernel))) rfl, tyX12_ok, nmX12⟩
theorem fl_X12_67 : FLk RX12 67 11 34 RX12 TX12 38 tyX12 := ⟨rfl, us_X12, by decide, rfl, lg_in (tk_5 (List.mem_of_getElem? (i := 126) (by decide +kernel))) rfl, tyX12_ok, nmX12⟩
theorem fl_X12_70 : FLk RX12 70 11 35 RX12 TX12 38 tyX12 := ⟨rfl, us_X12, by decide, rfl, lg_in (tk_5 (List.mem_of_getElem? (i := 127) (by decide +kernel))) rfl, tyX12_ok, nmX12⟩
theorem fl_X12_73 : FLk RX12 73 11 36 RX12 TX12 38 tyX12 := ⟨rfl, us_X12, by decide, rfl, lg_in (tk_5 (List.mem_of_getElem? (i := 128) (by decide +kernel))) rfl, tyX12_ok, nmX12⟩
theorem fl_X12_76 : FLk RX12 76 11 37 RX12 TX12 38 tyX12 := ⟨rfl, us_X12, by decide, rfl, lg_in (tk_5 (List.mem_of_getElem? (i := 129) (by decide +kernel))) rfl, tyX12_ok, nmX12⟩
theorem ml_L_88 : Cond.methodLink RL 88 yX12_feed ∈ lw_g := lg_in (tk_5 (List.mem_of_getElem? (i := 207) (by decide +kernel))) rfl
theorem cw_X12_141 : Cond.constantLong RX12 141 8 ∈ lw_g := lg_in (tk_5 (List.mem_of_getElem? (i := 211) (by decide +kernel))) rfl
theorem ml_X12_80 : Cond.methodLink RX12 80 yX12_in ∈ lw_g := lg_in (tk_5 (List.mem_of_getElem? (i := 212) (by decide +kernel))) rfl
theorem ml_X12_143 : Cond.methodLink RX12 143 yX12_finds ∈ lw_g := lg_in (tk_5 (List.mem_of_getElem? (i := 215) (by decide +kernel))) rfl
theorem cw_X12_79 : Cond.constant RX12 79 (-1000000000) ∈ lw_g := lg_in (tk_5 (List.mem_of_getElem? (i := 219) (by decide +kernel))) rfl
theorem cw_X12_146 : Cond.constantLong RX12 146 255 ∈ lw_g := lg_in (tk_5 (List.mem_of_getElem? (i := 220) (by decide +kernel))) rfl
theorem ml_L_92 : Cond.methodLink RL 92 yX12_text ∈ lw_g := lg_in (tk_5 (List.mem_of_getElem? (i := 221) (by decide +kernel))) rfl
theorem ml_X12_148 : Cond.methodLink RX12 148 yX12_worked ∈ lw_g := lg_in (tk_5 (List.mem_of_getElem? (i := 225) (by decide +kernel))) rfl
theorem ml_X12_130 : Cond.methodLink RX12 130 yX12_either ∈ lw_g := lg_in (tk_5 (List.mem_of_getElem? (i := 229) (by decide +kernel))) rfl
theorem ml_X12_105 : Cond.methodLink RX12 105 yX12_both ∈ lw_g := lg_in (tk_5 (List.mem_of_getElem? (i := 233) (by decide +kernel))) rfl
theorem ml_X12_112 : Cond.methodLink RX12 112 yX12_compared ∈ lw_g := lg_in (tk_5 (List.mem_of_getElem? (i := 237) (by decide +kernel))) rfl
theorem ml_X12_115 : Cond.methodLink RX12 115 yX12_sum ∈ lw_g := lg_in (tk_6 (List.mem_of_getElem? (i := 1) (by decide +kernel))) rfl
theorem ml_X12_118 : Cond.methodLink RX12 118 yX12_product ∈ lw_g := lg_in (tk_6 (List.mem_of_getElem? (i := 5) (by decide +kernel))) rfl
theorem ml_X12_121 : Cond.methodLink RX12 121 yX12_unit ∈ lw_g := lg_in (tk_6 (List.mem_of_getElem? (i := 9) (by decide +kernel))) rfl
theorem ml_X12_97 : Cond.methodLink RX12 97 yX12_here ∈ lw_g := lg_in (tk_6 (List.mem_of_getElem? (i := 13) (by decide +kernel))) rfl
theorem ml_X12_127 : Cond.methodLink RX12 127 yX12_wrong ∈ lw_g := lg_in (tk_6 (List.mem_of_getElem? (i := 17) (by decide +kernel))) rfl
theorem ml_X12_108 : Cond.methodLink RX12 108 yX12_takes ∈ lw_g := lg_in (tk_6 (List.mem_of_getElem? (i := 21) (by decide +kernel))) rfl
theorem ml_X12_133 : Cond.methodLink RX12 133 yX12_nameOf ∈ lw_g := lg_in (tk_6 (List.mem_of_getElem? (i := 25) (by decide +kernel))) rfl
theorem cw_X12_137 : Cond.constantLong RX12 137 48 ∈ lw_g := lg_in (tk_6 (List.mem_of_getElem? (i := 29) (by decide +kernel))) rfl
theorem cw_X12_139 : Cond.constantLong RX12 139 57 ∈ lw_g := lg_in (tk_6 (List.mem_of_getElem? (i := 30) (by decide +kernel))) rfl
theorem ml_L_96 : Cond.methodLink RL 96 yX12_law ∈ lw_g := lg_in (tk_6 (List.mem_of_getElem? (i := 31) (by decide +kernel))) rfl
theorem cw_X12_155 : Cond.constantLong RX12 155 999 ∈ lw_g := lg_in (tk_6 (List.mem_of_getElem? (i := 35) (by decide +kernel))) rfl
theorem ml_X12_157 : Cond.methodLink RX12 157 yX12_textGives ∈ lw_g := lg_in (tk_6 (List.mem_of_getElem? (i := 36) (by decide +kernel))) rfl
theorem ml_X12_152 : Cond.methodLink RX12 152 yX12_held ∈ lw_g := lg_in (tk_6 (List.mem_of_getElem? (i := 40) (by decide +kernel))) rfl
theorem ml_L_17 : Cond.methodLink RL 17 yX12_party ∈ lw_g := lg_in (tk_6 (List.mem_of_getElem? (i := 43) (by decide +kernel))) rfl
theorem cw_X12_165 : Cond.constantLong RX12 165 69 ∈ lw_g := lg_in (tk_6 (List.mem_of_getElem? (i := 47) (by decide +kernel))) rfl
theorem ml_X12_167 : Cond.methodLink RX12 167 yX12_sets ∈ lw_g := lg_in (tk_6 (List.mem_of_getElem? (i := 48) (by decide +kernel))) rfl
theorem ml_L_21 : Cond.methodLink RL 21 yX12_ofParty ∈ lw_g := lg_in (tk_6 (List.mem_of_getElem? (i := 52) (by decide +kernel))) rfl
theorem ml_X12_174 : Cond.methodLink RX12 174 yX12_isParty ∈ lw_g := lg_in (tk_6 (List.mem_of_getElem? (i := 56) (by decide +kernel))) rfl
theorem cw_X12_177 : Cond.constantLong RX12 177 7 ∈ lw_g := lg_in (tk_6 (List.mem_of_getElem? (i := 60) (by decide +kernel))) rfl
theorem ml_X12_161 : Cond.methodLink RX12 161 yX12_of ∈ lw_g := lg_in (tk_6 (List.mem_of_getElem? (i := 61) (by decide +kernel))) rfl
theorem ml_X12_179 : Cond.methodLink RX12 179 yX12_runs ∈ lw_g := lg_in (tk_6 (List.mem_of_getElem? (i := 65) (by decide +kernel))) rfl
theorem ml_X12_182 : Cond.methodLink RX12 182 yX12_drips ∈ lw_g := lg_in (tk_6 (List.mem_of_getElem? (i := 69) (by decide +kernel))) rfl
theorem ml_X12_185 : Cond.methodLink RX12 185 yX12_saidOf ∈ lw_g := lg_in (tk_6 (List.mem_of_getElem? (i := 73) (by decide +kernel))) rfl
theorem ml_X12_171 : Cond.methodLink RX12 171 yX12_its ∈ lw_g := lg_in (tk_6 (List.mem_of_getElem? (i := 77) (by decide +kernel))) rfl
theorem ml_L_25 : Cond.methodLink RL 25 yX12_become ∈ lw_g := lg_in (tk_6 (List.mem_of_getElem? (i := 81) (by decide +kernel))) rfl
theorem ml_L_29 : Cond.methodLink RL 29 yX12_as ∈ lw_g := lg_in (tk_6 (List.mem_of_getElem? (i := 85) (by decide +kernel))) rfl
theorem cw_X12_188 : Cond.constantLong RX12 188 6 ∈ lw_g := lg_in (tk_6 (List.mem_of_getElem? (i := 89) (by decide +kernel))) rfl
theorem ml_X12_190 : Cond.methodLink RX12 190 yX12_above ∈ lw_g := lg_in (tk_6 (List.mem_of_getElem? (i := 90) (by decide +kernel))) rfl
theorem ml_L_34 : Cond.methodLink RL 34 yX12_word ∈ lw_g := lg_in (tk_6 (List.mem_of_getElem? (i := 93) (by decide +kernel))) rfl
theorem cw_X12_193 : Cond.constantLong RX12 193 30 ∈ lw_g := lg_in (tk_6 (List.mem_of_getElem? (i := 97) (by decide +kernel))) rfl
theorem cw_X12_195 : Cond.constantLong RX12 195 99 ∈ lw_g := lg_in (tk_6 (List.mem_of_getElem? (i := 98) (by decide +kernel))) rfl
theorem cw_X12_197 : Cond.constantLong RX12 197 (-1) ∈ lw_g := lg_in (tk_6 (List.mem_of_getElem? (i := 99) (by decide +kernel))) rfl
theorem ml_X12_199 : Cond.methodLink RX12 199 yX12_puts ∈ lw_g := lg_in (tk_6 (List.mem_of_getElem? (i := 100) (by decide +kernel))) rfl
theorem ml_L_38 : Cond.methodLink RL 38 yX12_ofWord ∈ lw_g := lg_in (tk_6 (List.mem_of_getElem? (i := 104) (by decide +kernel))) rfl
theorem ml_X12_202 : Cond.methodLink RX12 202 yX12_isWord ∈ lw_g := lg_in (tk_6 (List.mem_of_getElem? (i := 108) (by decide +kernel))) rfl
theorem cw_X12_205 : Cond.constantLong RX12 205 4 ∈ lw_g := lg_in (tk_6 (List.mem_of_getElem? (i := 112) (by decide +kernel))) rfl
theorem ml_L_43 : Cond.methodLink RL 43 yX12_set ∈ lw_g := lg_in (tk_6 (List.mem_of_getElem? (i := 113) (by decide +kernel))) rfl
theorem cw_X12_207 : Cond.constantLong RX12 207 2 ∈ lw_g := lg_in (tk_6 (List.mem_of_getElem? (i := 117) (by decide +kernel))) rfl
theorem ml_L_47 : Cond.methodLink RL 47 yX12_fetch ∈ lw_g := lg_in (tk_6 (List.mem_of_getElem? (i := 118) (by decide +kernel))) rfl
theorem ml_L_51 : Cond.methodLink RL 51 yX12_pour ∈ lw_g := lg_in (tk_6 (List.mem_of_getElem? (i := 122) (by decide +kernel))) rfl
theorem ml_X12_210 : Cond.methodLink RX12 210 yX12_loses ∈ lw_g := lg_in (tk_6 (List.mem_of_getElem? (i := 126) (by decide +kernel))) rfl
theorem ml_L_55 : Cond.methodLink RL 55 yX12_object ∈ lw_g := lg_in (tk_6 (List.mem_of_getElem? (i := 130) (by decide +kernel))) rfl
theorem ml_X12_213 : Cond.methodLink RX12 213 yX12_speaks ∈ lw_g := lg_in (tk_6 (List.mem_of_getElem? (i := 134) (by decide +kernel))) rfl
theorem ml_X12_216 : Cond.methodLink RX12 216 yX12_spills ∈ lw_g := lg_in (tk_6 (List.mem_of_getElem? (i := 138) (by decide +kernel))) rfl
theorem cw_X12_209 : Cond.constant RX12 209 999999 ∈ lw_g := lg_in (tk_6 (List.mem_of_getElem? (i := 142) (by decide +kernel))) rfl
theorem ml_L_60 : Cond.methodLink RL 60 yX12_thumb ∈ lw_g := lg_in (tk_6 (List.mem_of_getElem? (i := 143) (by decide +kernel))) rfl
theorem ml_L_64 : Cond.methodLink RL 64 yX12_say ∈ lw_g := lg_in (tk_6 (List.mem_of_getElem? (i := 147) (by decide +kernel))) rfl
theorem ml_X12_220 : Cond.methodLink RX12 220 yX12_isReady ∈ lw_g := lg_in (tk_6 (List.mem_of_getElem? (i := 151) (by decide +kernel))) rfl
theorem ml_X12_223 : Cond.methodLink RX12 223 yX12_begins ∈ lw_g := lg_in (tk_6 (List.mem_of_getElem? (i := 155) (by decide +kernel))) rfl
theorem ml_L_69 : Cond.methodLink RL 69 yX12_stop ∈ lw_g := lg_in (tk_6 (List.mem_of_getElem? (i := 159) (by decide +kernel))) rfl
theorem ml_X12_226 : Cond.methodLink RX12 226 yX12_ends ∈ lw_g := lg_in (tk_6 (List.mem_of_getElem? (i := 163) (by decide +kernel))) rfl
theorem ml_L_73 : Cond.methodLink RL 73 yX12_seconds ∈ lw_g := lg_in (tk_6 (List.mem_of_getElem? (i := 167) (by decide +kernel))) rfl
theorem cw_X12_233 : Cond.constantLong RX12 233 300 ∈ lw_g := lg_in (tk_6 (List.mem_of_getElem? (i := 171) (by decide +kernel))) rfl
theorem cw_X12_232 : Cond.constant RX12 232 99999 ∈ lw_g := lg_in (tk_6 (List.mem_of_getElem? (i := 172) (by decide +kernel))) rfl
theorem ml_X12_235 : Cond.methodLink RX12 235 yX12_aSecond ∈ lw_g := lg_in (tk_6 (List.mem_of_getElem? (i := 173) (by decide +kernel))) rfl
theorem ml_X12_229 : Cond.methodLink RX12 229 yX12_earOf ∈ lw_g := lg_in (tk_6 (List.mem_of_getElem? (i := 177) (by decide +kernel))) rfl
theorem ml_L_77 : Cond.methodLink RL 77 yX12_loose ∈ lw_g := lg_in (tk_6 (List.mem_of_getElem? (i := 181) (by decide +kernel))) rfl
theorem ml_X12_239 : Cond.methodLink RX12 239 yX12_drawn ∈ lw_g := lg_in (tk_6 (List.mem_of_getElem? (i := 185) (by decide +kernel))) rfl
theorem cw_X12_238 : Cond.constant RX12 238 1103515245 ∈ lw_g := lg_in (tk_6 (List.mem_of_getElem? (i := 189) (by decide +kernel))) rfl
theorem ml_L_81 : Cond.methodLink RL 81 yX12_then ∈ lw_g := lg_in (tk_6 (List.mem_of_getElem? (i := 190) (by decide +kernel))) rfl
theorem cw_X12_242 : Cond.constantLong RX12 242 3 ∈ lw_g := lg_in (tk_6 (List.mem_of_getElem? (i := 194) (by decide +kernel))) rfl
theorem ml_X12_244 : Cond.methodLink RX12 244 yX12_keepAside ∈ lw_g := lg_in (tk_6 (List.mem_of_getElem? (i := 195) (by decide +kernel))) rfl
theorem ml_X12_247 : Cond.methodLink RX12 247 yX12_putBack ∈ lw_g := lg_in (tk_6 (List.mem_of_getElem? (i := 199) (by decide +kernel))) rfl
theorem ml_L_100 : Cond.methodLink RL 100 yX12_best ∈ lw_g := lg_in (tk_6 (List.mem_of_getElem? (i := 203) (by decide +kernel))) rfl
theorem cw_X12_269 : Cond.constantLong RX12 269 (-2) ∈ lw_g := lg_in (tk_6 (List.mem_of_getElem? (i := 207) (by decide +kernel))) rfl
theorem ml_X12_271 : Cond.methodLink RX12 271 yX12_findBest ∈ lw_g := lg_in (tk_6 (List.mem_of_getElem? (i := 208) (by decide +kernel))) rfl
theorem ml_X12_253 : Cond.methodLink RX12 253 yX12_findPool ∈ lw_g := lg_in (tk_6 (List.mem_of_getElem? (i := 212) (by decide +kernel))) rfl
theorem ml_X12_265 : Cond.methodLink RX12 265 yX12_mayCome ∈ lw_g := lg_in (tk_6 (List.mem_of_getElem? (i := 216) (by decide +kernel))) rfl
theorem ml_L_105 : Cond.methodLink RL 105 yX12_share ∈ lw_g := lg_in (tk_6 (List.mem_of_getElem? (i := 220) (by decide +kernel))) rfl
theorem ml_X12_283 : Cond.methodLink RX12 283 yX12_findShares ∈ lw_g := lg_in (tk_6 (List.mem_of_getElem? (i := 224) (by decide +kernel))) rfl
theorem ml_X12_274 : Cond.methodLink RX12 274 yX12_inOrders ∈ lw_g := lg_in (tk_6 (List.mem_of_getElem? (i := 228) (by decide +kernel))) rfl
theorem ml_X12_280 : Cond.methodLink RX12 280 yX12_ones ∈ lw_g := lg_in (tk_6 (List.mem_of_getElem? (i := 231) (by decide +kernel))) rfl
theorem ml_X12_286 : Cond.methodLink RX12 286 yX12_common ∈ lw_g := lg_in (tk_6 (List.mem_of_getElem? (i := 234) (by decide +kernel))) rfl
theorem ml_L_109 : Cond.methodLink RL 109 yX12_leaves ∈ lw_g := lg_in (tk_6 (List.mem_of_getElem? (i := 237) (by decide +kernel))) rfl
theorem ml_L_113 : Cond.methodLink RL 113 yX12_game ∈ lw_g := lg_in (tk_7 (List.mem_of_getElem? (i := 1) (by decide +kernel))) rfl
theorem ml_X12_305 : Cond.methodLink RX12 305 yX12_findGame ∈ lw_g := lg_in (tk_7 (List.mem_of_getElem? (i := 5) (by decide +kernel))) rfl
theorem ml_X12_290 : Cond.methodLink RX12 290 yX12_standsAt ∈ lw_g := lg_in (tk_7 (List.mem_of_getElem? (i := 9) (by decide +kernel))) rfl
theorem ml_X12_293 : Cond.methodLink RX12 293 yX12_backTo ∈ lw_g := lg_in (tk_7 (List.mem_of_getElem? (i := 13) (by decide +kernel))) rfl
theorem ml_X12_296 : Cond.methodLink RX12 296 yX12_comesTo ∈ lw_g := lg_in (tk_7 (List.mem_of_getElem? (i := 17) (by decide +kernel))) rfl
theorem ml_X12_299 : Cond.methodLink RX12 299 yX12_pickOf ∈ lw_g := lg_in (tk_7 (List.mem_of_getElem? (i := 21) (by decide +kernel))) rfl
theorem ml_X12_302 : Cond.methodLink RX12 302 yX12_goes ∈ lw_g := lg_in (tk_7 (List.mem_of_getElem? (i := 25) (by decide +kernel))) rfl
theorem ml_L_118 : Cond.methodLink RL 118 yX12_odds ∈ lw_g := lg_in (tk_7 (List.mem_of_getElem? (i := 29) (by decide +kernel))) rfl
theorem cw_X12_311 : Cond.constantLong RX12 311 16 ∈ lw_g := lg_in (tk_7 (List.mem_of_getElem? (i := 33) (by decide +kernel))) rfl
theorem ml_X12_313 : Cond.methodLink RX12 313 yX12_hearsOf ∈ lw_g := lg_in (tk_7 (List.mem_of_getElem? (i := 34) (by decide +kernel))) rfl
theorem ml_L_122 : Cond.methodLink RL 122 yX12_carried ∈ lw_g := lg_in (tk_7 (List.mem_of_getElem? (i := 38) (by decide +kernel))) rfl
theorem cw_X12_317 : Cond.constantLong RX12 317 9999 ∈ lw_g := lg_in (tk_7 (List.mem_of_getElem? (i := 42) (by decide +kernel))) rfl
theorem ml_L_126 : Cond.methodLink RL 126 yX12_explained ∈ lw_g := lg_in (tk_7 (List.mem_of_getElem? (i := 43) (by decide +kernel))) rfl
theorem ml_X12_319 : Cond.methodLink RX12 319 yX12_isSheet ∈ lw_g := lg_in (tk_7 (List.mem_of_getElem? (i := 47) (by decide +kernel))) rfl
theorem ml_X12_322 : Cond.methodLink RX12 322 yX12_floorsOf ∈ lw_g := lg_in (tk_7 (List.mem_of_getElem? (i := 50) (by decide +kernel))) rfl
theorem ml_L_130 : Cond.methodLink RL 130 yX12_seed ∈ lw_g := lg_in (tk_7 (List.mem_of_getElem? (i := 54) (by decide +kernel))) rfl
theorem ml_L_134 : Cond.methodLink RL 134 yX12_voice ∈ lw_g := lg_in (tk_7 (List.mem_of_getElem? (i := 58) (by decide +kernel))) rfl
theorem ml_X12_337 : Cond.methodLink RX12 337 yX12_own ∈ lw_g := lg_in (tk_7 (List.mem_of_getElem? (i := 62) (by decide +kernel))) rfl
theorem ml_X12_334 : Cond.methodLink RX12 334 yX12_poursBy ∈ lw_g := lg_in (tk_7 (List.mem_of_getElem? (i := 66) (by decide +kernel))) rfl
theorem ml_X12_331 : Cond.methodLink RX12 331 yX12_ran ∈ lw_g := lg_in (tk_7 (List.mem_of_getElem? (i := 70) (by decide +kernel))) rfl
theorem ml_X12_340 : Cond.methodLink RX12 340 yX12_speaksBy ∈ lw_g := lg_in (tk_7 (List.mem_of_getElem? (i := 74) (by decide +kernel))) rfl
theorem ml_X12_343 : Cond.methodLink RX12 343 yX12_restsBy ∈ lw_g := lg_in (tk_7 (List.mem_of_getElem? (i := 78) (by decide +kernel))) rfl
theorem ml_X12_346 : Cond.methodLink RX12 346 yX12_tellsBy ∈ lw_g := lg_in (tk_7 (List.mem_of_getElem? (i := 82) (by decide +kernel))) rfl
theorem ml_L_138 : Cond.methodLink RL 138 yX12_trace ∈ lw_g := lg_in (tk_7 (List.mem_of_getElem? (i := 86) (by decide +kernel))) rfl
theorem ml_L_142 : Cond.methodLink RL 142 yX12_sheet ∈ lw_g := lg_in (tk_7 (List.mem_of_getElem? (i := 90) (by decide +kernel))) rfl
theorem ml_L_146 : Cond.methodLink RL 146 yX12_put ∈ lw_g := lg_in (tk_7 (List.mem_of_getElem? (i := 94) (by decide +kernel))) rfl
theorem ml_L_151 : Cond.methodLink RL 151 yX12_move ∈ lw_g := lg_in (tk_7 (List.mem_of_getElem? (i := 98) (by decide +kernel))) rfl
theorem ml_L_155 : Cond.methodLink RL 155 yX12_judge ∈ lw_g := lg_in (tk_7 (List.mem_of_getElem? (i := 102) (by decide +kernel))) rfl
theorem ml_L_159 : Cond.methodLink RL 159 yX12_image ∈ lw_g := lg_in (tk_7 (List.mem_of_getElem? (i := 106) (by decide +kernel))) rfl
theorem ml_L_163 : Cond.methodLink RL 163 yX12_restore ∈ lw_g := lg_in (tk_7 (List.mem_of_getElem? (i := 110) (by decide +kernel))) rfl
theorem ml_L_167 : Cond.methodLink RL 167 yX12_tell ∈ lw_g := lg_in (tk_7 (List.mem_of_getElem? (i := 114) (by decide +kernel))) rfl
theorem ml_L_171 : Cond.methodLink RL 171 yX12_check ∈ lw_g := lg_in (tk_7 (List.mem_of_getElem? (i := 118) (by decide +kernel))) rfl
theorem ml_L_175 : Cond.methodLink RL 175 yX12_count ∈ lw_g := lg_in (tk_7 (List.mem_of_getElem? (i := 122) (by decide +kernel))) rfl
theorem ml_X12_352 : Cond.methodLink RX12 352 yX12_waterOfAll ∈ lw_g := lg_in (tk_7 (List.mem_of_getElem? (i := 126) (by decide +kernel))) rfl
theorem ml_L_179 : Cond.methodLink RL 179 yX12_told ∈ lw_g := lg_in (tk_7 (List.mem_of_getElem? (i := 130) (by decide +kernel))) rfl
theorem cw_X12_355 : Cond.constantLong RX12 355 5 ∈ lw_g := lg_in (tk_7 (List.mem_of_getElem? (i := 134) (by decide +kernel))) rfl
theorem cw_L_82 : Cond.constantLong RL 82 4294967295 ∈ lw_g := lg_in (tk_7 (List.mem_of_getElem? (i := 135) (by decide +kernel))) rfl
theorem im_X0_init : Cond.instanceMethod yX0_init ∈ lw_g := lg_in (tk_2 (List.mem_of_getElem? (i := 95) (by decide +kernel))) rfl
theorem pa_X0_init : pars mX0_init 0 := ⟨⟨by decide, by decide⟩, by decide +kernel, by decide, lg_in (tk_2 (List.mem_of_getElem? (i := 96) (by decide +kernel))) rfl, lg_in (tk_1 (List.mem_of_getElem? (i := 10) (by decide +kernel))) rfl⟩
theorem im_X0_answer : Cond.instanceMethod yX0_answer ∈ lw_g := lg_in (tk_4 (List.mem_of_getElem? (i := 237) (by decide +kernel))) rfl
theorem se_X0_answer : Cond.selects RX0 yX0_answer yX0_answer ∈ lw_g := lg_in (tk_4 (List.mem_of_getElem? (i := 238) (by decide +kernel))) rfl
theorem pa_X0_answer : pars mX0_answer 5 := ⟨⟨by decide, by decide⟩, by decide +kernel, by decide, lg_in (tk_4 (List.mem_of_getElem? (i := 239) (by decide +kernel))) rfl, lg_in (tk_1 (List.mem_of_getElem? (i := 10) (by decide +kernel))) rfl⟩
theorem im_X0_call : Cond.instanceMethod yX0_call ∈ lw_g := lg_in (tk_5 (List.mem_of_getElem? (i := 2) (by decide +kernel))) rfl
theorem se_X0_call : Cond.selects RX0 yX0_call yX0_call ∈ lw_g := lg_in (tk_p (List.mem_of_getElem? (i := 22) (by decide +kernel))) rfl
theorem pa_X0_call : pars mX0_call 4 := ⟨⟨by decide, by decide⟩, by decide +kernel, by decide, lg_in (tk_5 (List.mem_of_getElem? (i := 3) (by decide +kernel))) rfl, lg_in (tk_1 (List.mem_of_getElem? (i := 10) (by decide +kernel))) rfl⟩
theorem im_X0_own : Cond.instanceMethod yX0_own ∈ lw_g := lg_in (tk_5 (List.mem_of_getElem? (i := 13) (by decide +kernel))) rfl
theorem se_X0_own : Cond.selects RX0 yX0_own yX0_own ∈ lw_g := lg_in (tk_p (List.mem_of_getElem? (i := 24) (by decide +kernel))) rfl
theorem pa_X0_own : pars mX0_own 3 := ⟨⟨by decide, by decide⟩, by decide +kernel, by decide, lg_in (tk_5 (List.mem_of_getElem? (i := 14) (by decide +kernel))) rfl, lg_in (tk_1 (List.mem_of_getElem? (i := 10) (by decide +kernel))) rfl⟩
theorem im_X0_above : Cond.instanceMethod yX0_above ∈ lw_g := lg_in (tk_5 (List.mem_of_getElem? (i := 17) (by decide +kernel))) rfl
theorem se_X0_above : Cond.selects RX0 yX0_above yX0_above ∈ lw_g := lg_in (tk_p (List.mem_of_getElem? (i := 25) (by decide +kernel))) rfl
theorem pa_X0_above : pars mX0_above 4 := ⟨⟨by decide, by decide⟩, by decide +kernel, by decide, lg_in (tk_5 (List.mem_of_getElem? (i := 18) (by decide +kernel))) rfl, lg_in (tk_1 (List.mem_of_getElem? (i := 10) (by decide +kernel))) rfl⟩
theorem im_X0_run : Cond.instanceMethod yX0_run ∈ lw_g := lg_in (tk_5 (List.mem_of_getElem? (i := 9) (by decide +kernel))) rfl
theorem se_X0_run : Cond.selects RX0 yX0_run yX0_run ∈ lw_g := lg_in (tk_p (List.mem_of_getElem? (i := 23) (by decide +kernel))) rfl
theorem pa_X0_run : pars mX0_run 3 := ⟨⟨by decide, by decide⟩, by decide +kernel, by decide, lg_in (tk_5 (List.mem_of_getElem? (i := 10) (by decide +kernel))) rfl, lg_in (tk_1 (List.mem_of_getElem? (i := 10) (by decide +kernel))) rfl⟩
theorem im_X1_init : Cond.instanceMethod yX1_init ∈ lw_g := lg_in (tk_2 (List.mem_of_getElem? (i := 41) (by decide +kernel))) rfl
theorem pa_X1_init : pars mX1_init 0 := ⟨⟨by decide, by decide⟩, by decide +kernel, by decide, lg_in (tk_2 (List.mem_of_getElem? (i := 42) (by decide +kernel))) rfl, lg_in (tk_1 (List.mem_of_getElem? (i := 8) (by decide +kernel))) rfl⟩
theorem im_X1_play : Cond.instanceMethod yX1_play ∈ lw_g := lg_in (tk_4 (List.mem_of_getElem? (i := 167) (by decide +kernel))) rfl
theorem se_X1_play : Cond.selects RX1 yX1_play yX1_play ∈ lw_g := lg_in (tk_4 (List.mem_of_getElem? (i := 168) (by decide +kernel))) rfl
theorem pa_X1_play : pars mX1_play 4 := ⟨⟨by decide, by decide⟩, by decide +kernel, by decide, lg_in (tk_4 (List.mem_of_getElem? (i := 169) (by decide +kernel))) rfl, lg_in (tk_1 (List.mem_of_getElem? (i := 8) (by decide +kernel))) rfl⟩
theorem im_X1_turn : Cond.instanceMethod yX1_turn ∈ lw_g := lg_in (tk_4 (List.mem_of_getElem? (i := 174) (by decide +kernel))) rfl
theorem se_X1_turn : Cond.selects RX1 yX1_turn yX1_turn ∈ lw_g := lg_in (tk_p (List.mem_of_getElem? (i := 18) (by decide +kernel))) rfl
theorem pa_X1_turn : pars mX1_turn 2 := ⟨⟨by decide, by decide⟩, by decide +kernel, by decide, lg_in (tk_4 (List.mem_of_getElem? (i := 175) (by decide +kernel))) rfl, lg_in (tk_1 (List.mem_of_getElem? (i := 8) (by decide +kernel))) rfl⟩
theorem im_X1_valueOf : Cond.instanceMethod yX1_valueOf ∈ lw_g := lg_in (tk_4 (List.mem_of_getElem? (i := 184) (by decide +kernel))) rfl
theorem se_X1_valueOf : Cond.selects RX1 yX1_valueOf yX1_valueOf ∈ lw_g := lg_in (tk_p (List.mem_of_getElem? (i := 20) (by decide +kernel))) rfl
theorem pa_X1_valueOf : pars mX1_valueOf 3 := ⟨⟨by decide, by decide⟩, by decide +kernel, by decide, lg_in (tk_4 (List.mem_of_getElem? (i := 185) (by decide +kernel))) rfl, lg_in (tk_1 (List.mem_of_getElem? (i := 8) (by decide +kernel))) rfl⟩
theorem ss_X1_isBetter : Cond.static yX1_isBetter ∈ lw_g := lg_in (tk_4 (List.mem_of_getElem? (i := 192) (by decide +kernel))) rfl
theorem pa_X1_isBetter : pars mX1_isBetter 3 := ⟨⟨by decide, by decide⟩, by decide +kernel, by decide, lg_in (tk_4 (List.mem_of_getElem? (i := 193) (by decide +kernel))) rfl, lg_in (tk_1 (List.mem_of_getElem? (i := 8) (by decide +kernel))) rfl⟩
theorem im_X1_growth : Cond.instanceMethod yX1_growth ∈ lw_g := lg_in (tk_4 (List.mem_of_getElem? (i := 178) (by decide +kernel))) rfl
theorem se_X1_growth : Cond.selects RX1 yX1_growth yX1_growth ∈ lw_g := lg_in (tk_p (List.mem_of_getElem? (i := 19) (by decide +kernel))) rfl
theorem pa_X1_growth : pars mX1_growth 2 := ⟨⟨by decide, by decide⟩, by decide +kernel, by decide, lg_in (tk_4 (List.mem_of_getElem? (i := 179) (by decide +kernel))) rfl, lg_in (tk_1 (List.mem_of_getElem? (i := 8) (by decide +kernel))) rfl⟩
theorem im_X2_init : Cond.instanceMethod yX2_init ∈ lw_g := lg_in (tk_1 (List.mem_of_getElem? (i := 39) (by decide +kernel))) rfl
theorem pa_X2_init : pars mX2_init 0 := ⟨⟨by decide, by decide⟩, by decide +kernel, by decide, lg_in (tk_1 (List.mem_of_getElem? (i := 40) (by decide +kernel))) rfl, lg_in (tk_1 (List.mem_of_getElem? (i := 3) (by decide +kernel))) rfl⟩
theorem im_X2_copy : Cond.instanceMethod yX2_copy ∈ lw_g := lg_in (tk_3 (List.mem_of_getElem? (i := 152) (by decide +kernel))) rfl
theorem se_X2_copy : Cond.selects RX2 yX2_copy yX2_copy ∈ lw_g := lg_in (tk_3 (List.mem_of_getElem? (i := 153) (by decide +kernel))) rfl
theorem pa_X2_copy : pars mX2_copy 1 := ⟨⟨by decide, by decide⟩, by decide +kernel, by decide, lg_in (tk_3 (List.mem_of_getElem? (i := 154) (by decide +kernel))) rfl, lg_in (tk_1 (List.mem_of_getElem? (i := 3) (by decide +kernel))) rfl⟩
theorem im_X2_lose : Cond.instanceMethod yX2_lose ∈ lw_g := lg_in (tk_3 (List.mem_of_getElem? (i := 43) (by decide +kernel))) rfl
theorem se_X2_lose : Cond.selects RX2 yX2_lose yX2_lose ∈ lw_g := lg_in (tk_3 (List.mem_of_getElem? (i := 44) (by decide +kernel))) rfl
theorem pa_X2_lose : pars mX2_lose 2 := ⟨⟨by decide, by decide⟩, by decide +kernel, by decide, lg_in (tk_3 (List.mem_of_getElem? (i := 45) (by decide +kernel))) rfl, lg_in (tk_1 (List.mem_of_getElem? (i := 3) (by decide +kernel))) rfl⟩
theorem im_X2_floorGets : Cond.instanceMethod yX2_floorGets ∈ lw_g := lg_in (tk_3 (List.mem_of_getElem? (i := 49) (by decide +kernel))) rfl
theorem se_X2_floorGets : Cond.selects RX2 yX2_floorGets yX2_floorGets ∈ lw_g := lg_in (tk_3 (List.mem_of_getElem? (i := 50) (by decide +kernel))) rfl
theorem pa_X2_floorGets : pars mX2_floorGets 1 := ⟨⟨by decide, by decide⟩, by decide +kernel, by decide, lg_in (tk_3 (List.mem_of_getElem? (i := 51) (by decide +kernel))) rfl, lg_in (tk_1 (List.mem_of_getElem? (i := 3) (by decide +kernel))) rfl⟩
theorem im_X2_end : Cond.instanceMethod yX2_end ∈ lw_g := lg_in (tk_3 (List.mem_of_getElem? (i := 78) (by decide +kernel))) rfl
theorem se_X2_end : Cond.selects RX2 yX2_end yX2_end ∈ lw_g := lg_in (tk_3 (List.mem_of_getElem? (i := 79) (by decide +kernel))) rfl
theorem pa_X2_end : pars mX2_end 2 := ⟨⟨by decide, by decide⟩, by decide +kernel, by decide, lg_in (tk_3 (List.mem_of_getElem? (i := 80) (by decide +kernel))) rfl, lg_in (tk_1 (List.mem_of_getElem? (i := 3) (by decide +kernel))) rfl⟩
theorem im_X3_init : Cond.instanceMethod yX3_init ∈ lw_g := lg_in (tk_2 (List.mem_of_getElem? (i := 20) (by decide +kernel))) rfl
theorem pa_X3_init : pars mX3_init 0 := ⟨⟨by decide, by decide⟩, by decide +kernel, by decide, lg_in (tk_2 (List.mem_of_getElem? (i := 21) (by decide +kernel))) rfl, lg_in (tk_1 (List.mem_of_getElem? (i := 7) (by decide +kernel))) rfl⟩
theorem im_X3_weigh : Cond.instanceMethod yX3_weigh ∈ lw_g := lg_in (tk_4 (List.mem_of_getElem? (i := 127) (by decide +kernel))) rfl
theorem se_X3_weigh : Cond.selects RX3 yX3_weigh yX3_weigh ∈ lw_g := lg_in (tk_4 (List.mem_of_getElem? (i := 128) (by decide +kernel))) rfl
theorem pa_X3_weigh : pars mX3_weigh 2 := ⟨⟨by decide, by decide⟩, by decide +kernel, by decide, lg_in (tk_4 (List.mem_of_getElem? (i := 129) (by decide +kernel))) rfl, lg_in (tk_1 (List.mem_of_getElem? (i := 7) (by decide +kernel))) rfl⟩
theorem im_X3_gainOf : Cond.instanceMethod yX3_gainOf ∈ lw_g := lg_in (tk_4 (List.mem_of_getElem? (i := 137) (by decide +kernel))) rfl
theorem se_X3_gainOf : Cond.selects RX3 yX3_gainOf yX3_gainOf ∈ lw_g := lg_in (tk_p (List.mem_of_getElem? (i := 17) (by decide +kernel))) rfl
theorem pa_X3_gainOf : pars mX3_gainOf 2 := ⟨⟨by decide, by decide⟩, by decide +kernel, by decide, lg_in (tk_4 (List.mem_of_getElem? (i := 138) (by decide +kernel))) rfl, lg_in (tk_1 (List.mem_of_getElem? (i := 7) (by decide +kernel))) rfl⟩
theorem im_X3_leastLeaving : Cond.instanceMethod yX3_leastLeaving ∈ lw_g := lg_in (tk_4 (List.mem_of_getElem? (i := 159) (by decide +kernel))) rfl
theorem se_X3_leastLeaving : Cond.selects RX3 yX3_leastLeaving yX3_leastLeaving ∈ lw_g := lg_in (tk_4 (List.mem_of_getElem? (i := 160) (by decide +kernel))) rfl
theorem pa_X3_leastLeaving : pars mX3_leastLeaving 0 := ⟨⟨by decide, by decide⟩, by decide +kernel, by decide, lg_in (tk_4 (List.mem_of_getElem? (i := 161) (by decide +kernel))) rfl, lg_in (tk_1 (List.mem_of_getElem? (i := 7) (by decide +kernel))) rfl⟩
theorem ss_X3_factorial : Cond.static yX3_factorial ∈ lw_g := lg_in (tk_4 (List.mem_of_getElem? (i := 133) (by decide +kernel))) rfl
theorem pa_X3_factorial : pars mX3_factorial 1 := ⟨⟨by decide, by decide⟩, by decide +kernel, by decide, lg_in (tk_4 (List.mem_of_getElem? (i := 134) (by decide +kernel))) rfl, lg_in (tk_1 (List.mem_of_getElem? (i := 7) (by decide +kernel))) rfl⟩
theorem ss_X4_above : Cond.static yX4_above ∈ lw_g := lg_in (tk_2 (List.mem_of_getElem? (i := 236) (by decide +kernel))) rfl
theorem pa_X4_above : pars mX4_above 1 := ⟨⟨by decide, by decide⟩, by decide +kernel, by decide, lg_in (tk_2 (List.mem_of_getElem? (i := 237) (by decide +kernel))) rfl, lg_in (tk_1 (List.mem_of_getElem? (i := 13) (by decide +kernel))) rfl⟩
theorem ss_X4_isUnder : Cond.static yX4_isUnder ∈ lw_g := lg_in (tk_2 (List.mem_of_getElem? (i := 233) (by decide +kernel))) rfl
theorem pa_X4_isUnder : pars mX4_isUnder 2 := ⟨⟨by decide, by decide⟩, by decide +kernel, by decide, lg_in (tk_2 (List.mem_of_getElem? (i := 234) (by decide +kernel))) rfl, lg_in (tk_1 (List.mem_of_getElem? (i := 13) (by decide +kernel))) rfl⟩
theorem ss_X4_runs : Cond.static yX4_runs ∈ lw_g := lg_in (tk_2 (List.mem_of_getElem? (i := 208) (by decide +kernel))) rfl
theorem pa_X4_runs : pars mX4_runs 2 := ⟨⟨by decide, by decide⟩, by decide +kernel, by decide, lg_in (tk_2 (List.mem_of_getElem? (i := 209) (by decide +kernel))) rfl, lg_in (tk_1 (List.mem_of_getElem? (i := 13) (by decide +kernel))) rfl⟩
theorem ss_X4_atLeastOne : Cond.static yX4_atLeastOne ∈ lw_g := lg_in (tk_2 (List.mem_of_getElem? (i := 211) (by decide +kernel))) rfl
theorem pa_X4_atLeastOne : pars mX4_atLeastOne 1 := ⟨⟨by decide, by decide⟩, by decide +kernel, by decide, lg_in (tk_2 (List.mem_of_getElem? (i := 212) (by decide +kernel))) rfl, lg_in (tk_1 (List.mem_of_getElem? (i := 13) (by decide +kernel))) rfl⟩
theorem ss_X4_drips : Cond.static yX4_drips ∈ lw_g := lg_in (tk_2 (List.mem_of_getElem? (i := 218) (by decide +kernel))) rfl
theorem pa_X4_drips : pars mX4_drips 2 := ⟨⟨by decide, by decide⟩, by decide +kernel, by decide, lg_in (tk_2 (List.mem_of_getElem? (i := 219) (by decide +kernel))) rfl, lg_in (tk_1 (List.mem_of_getElem? (i := 13) (by decide +kernel))) rfl⟩
theorem im_X5_init : Cond.instanceMethod yX5_init ∈ lw_g := lg_in (tk_1 (List.mem_of_getElem? (i := 222) (by decide +kernel))) rfl
theorem pa_X5_init : pars mX5_init 0 := ⟨⟨by decide, by decide⟩, by decide +kernel, by decide, lg_in (tk_1 (List.mem_of_getElem? (i := 223) (by decide +kernel))) rfl, lg_in (tk_1 (List.mem_of_getElem? (i := 6) (by decide +kernel))) rfl⟩
theorem im_X5_find : Cond.instanceMethod yX5_find ∈ lw_g := lg_in (tk_4 (List.mem_of_getElem? (i := 84) (by decide +kernel))) rfl
theorem se_X5_find : Cond.selects RX5 yX5_find yX5_find ∈ lw_g := lg_in (tk_4 (List.mem_of_getElem? (i := 85) (by decide +kernel))) rfl
theorem pa_X5_find : pars mX5_find 2 := ⟨⟨by decide, by decide⟩, by decide +kernel, by decide, lg_in (tk_4 (List.mem_of_getElem? (i := 86) (by decide +kernel))) rfl, lg_in (tk_1 (List.mem_of_getElem? (i := 6) (by decide +kernel))) rfl⟩
theorem ss_X5_leastOf : Cond.static yX5_leastOf ∈ lw_g := lg_in (tk_4 (List.mem_of_getElem? (i := 88) (by decide +kernel))) rfl
theorem pa_X5_leastOf : pars mX5_leastOf 1 := ⟨⟨by decide, by decide⟩, by decide +kernel, by decide, lg_in (tk_4 (List.mem_of_getElem? (i := 89) (by decide +kernel))) rfl, lg_in (tk_1 (List.mem_of_getElem? (i := 6) (by decide +kernel))) rfl⟩
theorem im_X5_gather : Cond.instanceMethod yX5_gather ∈ lw_g := lg_in (tk_4 (List.mem_of_getElem? (i := 99) (by decide +kernel))) rfl
theorem se_X5_gather : Cond.selects RX5 yX5_gather yX5_gather ∈ lw_g := lg_in (tk_p (List.mem_of_getElem? (i := 13) (by decide +kernel))) rfl
theorem pa_X5_gather : pars mX5_gather 2 := ⟨⟨by decide, by decide⟩, by decide +kernel, by decide, lg_in (tk_4 (List.mem_of_getElem? (i := 100) (by decide +kernel))) rfl, lg_in (tk_1 (List.mem_of_getElem? (i := 6) (by decide +kernel))) rfl⟩
theorem im_X5_lengthen : Cond.instanceMethod yX5_lengthen ∈ lw_g := lg_in (tk_4 (List.mem_of_getElem? (i := 103) (by decide +kernel))) rfl
theorem se_X5_lengthen : Cond.selects RX5 yX5_lengthen yX5_lengthen ∈ lw_g := lg_in (tk_p (List.mem_of_getElem? (i := 14) (by decide +kernel))) rfl
theorem pa_X5_lengthen : pars mX5_lengthen 5 := ⟨⟨by decide, by decide⟩, by decide +kernel, by decide, lg_in (tk_4 (List.mem_of_getElem? (i := 104) (by decide +kernel))) rfl, lg_in (tk_1 (List.mem_of_getElem? (i := 6) (by decide +kernel))) rfl⟩
theorem im_X5_append : Cond.instanceMethod yX5_append ∈ lw_g := lg_in (tk_4 (List.mem_of_getElem? (i := 112) (by decide +kernel))) rfl
theorem se_X5_append : Cond.selects RX5 yX5_append yX5_append ∈ lw_g := lg_in (tk_p (List.mem_of_getElem? (i := 15) (by decide +kernel))) rfl
theorem pa_X5_append : pars mX5_append 6 := ⟨⟨by decide, by decide⟩, by decide +kernel, by decide, lg_in (tk_4 (List.mem_of_getElem? (i := 113) (by decide +kernel))) rfl, lg_in (tk_1 (List.mem_of_getElem? (i := 6) (by decide +kernel))) rfl⟩
theorem ss_X5_mayCome : Cond.static yX5_mayCome ∈ lw_g := lg_in (tk_4 (List.mem_of_getElem? (i := 106) (by decide +kernel))) rfl
theorem pa_X5_mayCome : pars mX5_mayCome 3 := ⟨⟨by decide, by decide⟩, by decide +kernel, by decide, lg_in (tk_4 (List.mem_of_getElem? (i := 107) (by decide +kernel))) rfl, lg_in (tk_1 (List.mem_of_getElem? (i := 6) (by decide +kernel))) rfl⟩
theorem im_X5_keepIfBetter : Cond.instanceMethod yX5_keepIfBetter ∈ lw_g := lg_in (tk_4 (List.mem_of_getElem? (i := 118) (by decide +kernel))) rfl
theorem se_X5_keepIfBetter : Cond.selects RX5 yX5_keepIfBetter yX5_keepIfBetter ∈ lw_g := lg_in (tk_p (List.mem_of_getElem? (i := 16) (by decide +kernel))) rfl
theorem pa_X5_keepIfBetter : pars mX5_keepIfBetter 3 := ⟨⟨by decide, by decide⟩, by decide +kernel, by decide, lg_in (tk_4 (List.mem_of_getElem? (i := 119) (by decide +kernel))) rfl, lg_in (tk_1 (List.mem_of_getElem? (i := 6) (by decide +kernel))) rfl⟩
theorem im_X6_init : Cond.instanceMethod yX6_init ∈ lw_g := lg_in (tk_1 (List.mem_of_getElem? (i := 195) (by decide +kernel))) rfl
theorem pa_X6_init : pars mX6_init 0 := ⟨⟨by decide, by decide⟩, by decide +kernel, by decide, lg_in (tk_1 (List.mem_of_getElem? (i := 196) (by decide +kernel))) rfl, lg_in (tk_1 (List.mem_of_getElem? (i := 5) (by decide +kernel))) rfl⟩
theorem im_X6_read : Cond.instanceMethod yX6_read ∈ lw_g := lg_in (tk_3 (List.mem_of_getElem? (i := 167) (by decide +kernel))) rfl
theorem se_X6_read : Cond.selects RX6 yX6_read yX6_read ∈ lw_g := lg_in (tk_3 (List.mem_of_getElem? (i := 168) (by decide +kernel))) rfl
theorem pa_X6_read : pars mX6_read 3 := ⟨⟨by decide, by decide⟩, by decide +kernel, by decide, lg_in (tk_3 (List.mem_of_getElem? (i := 169) (by decide +kernel))) rfl, lg_in (tk_1 (List.mem_of_getElem? (i := 5) (by decide +kernel))) rfl⟩
theorem im_X6_next : Cond.instanceMethod yX6_next ∈ lw_g := lg_in (tk_3 (List.mem_of_getElem? (i := 201) (by decide +kernel))) rfl
theorem se_X6_next : Cond.selects RX6 yX6_next yX6_next ∈ lw_g := lg_in (tk_p (List.mem_of_getElem? (i := 10) (by decide +kernel))) rfl
theorem pa_X6_next : pars mX6_next 0 := ⟨⟨by decide, by decide⟩, by decide +kernel, by decide, lg_in (tk_3 (List.mem_of_getElem? (i := 202) (by decide +kernel))) rfl, lg_in (tk_1 (List.mem_of_getElem? (i := 5) (by decide +kernel))) rfl⟩
theorem im_X6_readT : Cond.instanceMethod yX6_readT ∈ lw_g := lg_in (tk_3 (List.mem_of_getElem? (i := 177) (by decide +kernel))) rfl
theorem se_X6_readT : Cond.selects RX6 yX6_readT yX6_readT ∈ lw_g := lg_in (tk_p (List.mem_of_getElem? (i := 4) (by decide +kernel))) rfl
theorem pa_X6_readT : pars mX6_readT 1 := ⟨⟨by decide, by decide⟩, by decide +kernel, by decide, lg_in (tk_3 (List.mem_of_getElem? (i := 178) (by decide +kernel))) rfl, lg_in (tk_1 (List.mem_of_getElem? (i := 5) (by decide +kernel))) rfl⟩
theorem im_X6_readA : Cond.instanceMethod yX6_readA ∈ lw_g := lg_in (tk_3 (List.mem_of_getElem? (i := 181) (by decide +kernel))) rfl
theorem se_X6_readA : Cond.selects RX6 yX6_readA yX6_readA ∈ lw_g := lg_in (tk_p (List.mem_of_getElem? (i := 5) (by decide +kernel))) rfl
theorem pa_X6_readA : pars mX6_readA 1 := ⟨⟨by decide, by decide⟩, by decide +kernel, by decide, lg_in (tk_3 (List.mem_of_getElem? (i := 182) (by decide +kernel))) rfl, lg_in (tk_1 (List.mem_of_getElem? (i := 5) (by decide +kernel))) rfl⟩
theorem im_X6_readB : Cond.instanceMethod yX6_readB ∈ lw_g := lg_in (tk_3 (List.mem_of_getElem? (i := 185) (by decide +kernel))) rfl
theorem se_X6_readB : Cond.selects RX6 yX6_readB yX6_readB ∈ lw_g := lg_in (tk_p (List.mem_of_getElem? (i := 6) (by decide +kernel))) rfl
theorem pa_X6_readB : pars mX6_readB 1 := ⟨⟨by decide, by decide⟩, by decide +kernel, by decide, lg_in (tk_3 (List.mem_of_getElem? (i := 186) (by decide +kernel))) rfl, lg_in (tk_1 (List.mem_of_getElem? (i := 5) (by decide +kernel))) rfl⟩
theorem im_X6_readS : Cond.instanceMethod yX6_readS ∈ lw_g := lg_in (tk_3 (List.mem_of_getElem? (i := 189) (by decide +kernel))) rfl
theorem se_X6_readS : Cond.selects RX6 yX6_readS yX6_readS ∈ lw_g := lg_in (tk_p (List.mem_of_getElem? (i := 7) (by decide +kernel))) rfl
theorem pa_X6_readS : pars mX6_readS 1 := ⟨⟨by decide, by decide⟩, by decide +kernel, by decide, lg_in (tk_3 (List.mem_of_getElem? (i := 190) (by decide +kernel))) rfl, lg_in (tk_1 (List.mem_of_getElem? (i := 5) (by decide +kernel))) rfl⟩
theorem im_X6_readP : Cond.instanceMethod yX6_readP ∈ lw_g := lg_in (tk_3 (List.mem_of_getElem? (i := 193) (by decide +kernel))) rfl
theorem se_X6_readP : Cond.selects RX6 yX6_readP yX6_readP ∈ lw_g := lg_in (tk_p (List.mem_of_getElem? (i := 8) (by decide +kernel))) rfl
theorem pa_X6_readP : pars mX6_readP 1 := ⟨⟨by decide, by decide⟩, by decide +kernel, by decide, lg_in (tk_3 (List.mem_of_getElem? (i := 194) (by decide +kernel))) rfl, lg_in (tk_1 (List.mem_of_getElem? (i := 5) (by decide +kernel))) rfl⟩
theorem im_X6_readQ : Cond.instanceMethod yX6_readQ ∈ lw_g := lg_in (tk_3 (List.mem_of_getElem? (i := 197) (by decide +kernel))) rfl
theorem se_X6_readQ : Cond.selects RX6 yX6_readQ yX6_readQ ∈ lw_g := lg_in (tk_p (List.mem_of_getElem? (i := 9) (by decide +kernel))) rfl
theorem pa_X6_readQ : pars mX6_readQ 1 := ⟨⟨by decide, by decide⟩, by decide +kernel, by decide, lg_in (tk_3 (List.mem_of_getElem? (i := 198) (by decide +kernel))) rfl, lg_in (tk_1 (List.mem_of_getElem? (i := 5) (by decide +kernel))) rfl⟩
theorem im_X6_readOpen : Cond.instanceMethod yX6_readOpen ∈ lw_g := lg_in (tk_3 (List.mem_of_getElem? (i := 217) (by decide +kernel))) rfl
theorem se_X6_readOpen : Cond.selects RX6 yX6_readOpen yX6_readOpen ∈ lw_g := lg_in (tk_p (List.mem_of_getElem? (i := 12) (by decide +kernel))) rfl
theorem pa_X6_readOpen : pars mX6_readOpen 2 := ⟨⟨by decide, by decide⟩, by decide +kernel, by decide, lg_in (tk_3 (List.mem_of_getElem? (i := 218) (by decide +kernel))) rfl, lg_in (tk_1 (List.mem_of_getElem? (i := 5) (by decide +kernel))) rfl⟩
theorem im_X6_readNumber : Cond.instanceMethod yX6_readNumber ∈ lw_g := lg_in (tk_3 (List.mem_of_getElem? (i := 209) (by decide +kernel))) rfl
theorem se_X6_readNumber : Cond.selects RX6 yX6_readNumber yX6_readNumber ∈ lw_g := lg_in (tk_p (List.mem_of_getElem? (i := 11) (by decide +kernel))) rfl
theorem pa_X6_readNumber : pars mX6_readNumber 0 := ⟨⟨by decide, by decide⟩, by decide +kernel, by decide, lg_in (tk_3 (List.mem_of_getElem? (i := 210) (by decide +kernel))) rfl, lg_in (tk_1 (List.mem_of_getElem? (i := 5) (by decide +kernel))) rfl⟩
theorem ss_X6_isDigit : Cond.static yX6_isDigit ∈ lw_g := lg_in (tk_3 (List.mem_of_getElem? (i := 205) (by decide +kernel))) rfl
theorem pa_X6_isDigit : pars mX6_isDigit 1 := ⟨⟨by decide, by decide⟩, by decide +kernel, by decide, lg_in (tk_3 (List.mem_of_getElem? (i := 206) (by decide +kernel))) rfl, lg_in (tk_1 (List.mem_of_getElem? (i := 5) (by decide +kernel))) rfl⟩
theorem im_X7_init : Cond.instanceMethod yX7_init ∈ lw_g := lg_in (tk_2 (List.mem_of_getElem? (i := 67) (by decide +kernel))) rfl
theorem pa_X7_init : pars mX7_init 0 := ⟨⟨by decide, by decide⟩, by decide +kernel, by decide, lg_in (tk_2 (List.mem_of_getElem? (i := 68) (by decide +kernel))) rfl, lg_in (tk_1 (List.mem_of_getElem? (i := 9) (by decide +kernel))) rfl⟩
theorem im_X7_weigh : Cond.instanceMethod yX7_weigh ∈ lw_g := lg_in (tk_4 (List.mem_of_getElem? (i := 199) (by decide +kernel))) rfl
theorem se_X7_weigh : Cond.selects RX7 yX7_weigh yX7_weigh ∈ lw_g := lg_in (tk_4 (List.mem_of_getElem? (i := 200) (by decide +kernel))) rfl
theorem pa_X7_weigh : pars mX7_weigh 4 := ⟨⟨by decide, by decide⟩, by decide +kernel, by decide, lg_in (tk_4 (List.mem_of_getElem? (i := 201) (by decide +kernel))) rfl, lg_in (tk_1 (List.mem_of_getElem? (i := 9) (by decide +kernel))) rfl⟩
theorem ss_X7_lay : Cond.static yX7_lay ∈ lw_g := lg_in (tk_4 (List.mem_of_getElem? (i := 203) (by decide +kernel))) rfl
theorem pa_X7_lay : pars mX7_lay 5 := ⟨⟨by decide, by decide⟩, by decide +kernel, by decide, lg_in (tk_4 (List.mem_of_getElem? (i := 204) (by decide +kernel))) rfl, lg_in (tk_1 (List.mem_of_getElem? (i := 9) (by decide +kernel))) rfl⟩
theorem im_X8_init : Cond.instanceMethod yX8_init ∈ lw_g := lg_in (tk_2 (List.mem_of_getElem? (i := 119) (by decide +kernel))) rfl
theorem pa_X8_init : pars mX8_init 0 := ⟨⟨by decide, by decide⟩, by decide +kernel, by decide, lg_in (tk_2 (List.mem_of_getElem? (i := 120) (by decide +kernel))) rfl, lg_in (tk_1 (List.mem_of_getElem? (i := 11) (by decide +kernel))) rfl⟩
theorem im_X8_has : Cond.instanceMethod yX8_has ∈ lw_g := lg_in (tk_4 (List.mem_of_getElem? (i := 215) (by decide +kernel))) rfl
theorem se_X8_has : Cond.selects RX8 yX8_has yX8_has ∈ lw_g := lg_in (tk_4 (List.mem_of_getElem? (i := 216) (by decide +kernel))) rfl
theorem pa_X8_has : pars mX8_has 1 := ⟨⟨by decide, by decide⟩, by decide +kernel, by decide, lg_in (tk_4 (List.mem_of_getElem? (i := 217) (by decide +kernel))) rfl, lg_in (tk_1 (List.mem_of_getElem? (i := 11) (by decide +kernel))) rfl⟩
theorem im_X8_isMissing : Cond.instanceMethod yX8_isMissing ∈ lw_g := lg_in (tk_4 (List.mem_of_getElem? (i := 220) (by decide +kernel))) rfl
theorem se_X8_isMissing : Cond.selects RX8 yX8_isMissing yX8_isMissing ∈ lw_g := lg_in (tk_4 (List.mem_of_getElem? (i := 221) (by decide +kernel))) rfl
theorem pa_X8_isMissing : pars mX8_isMissing 1 := ⟨⟨by decide, by decide⟩, by decide +kernel, by decide, lg_in (tk_4 (List.mem_of_getElem? (i := 222) (by decide +kernel))) rfl, lg_in (tk_1 (List.mem_of_getElem? (i := 11) (by decide +kernel))) rfl⟩
theorem im_X8_lay : Cond.instanceMethod yX8_lay ∈ lw_g := lg_in (tk_5 (List.mem_of_getElem? (i := 29) (by decide +kernel))) rfl
theorem se_X8_lay : Cond.selects RX8 yX8_lay yX8_lay ∈ lw_g := lg_in (tk_5 (List.mem_of_getElem? (i := 30) (by decide +kernel))) rfl
theorem pa_X8_lay : pars mX8_lay 3 := ⟨⟨by decide, by decide⟩, by decide +kernel, by decide, lg_in (tk_5 (List.mem_of_getElem? (i := 31) (by decide +kernel))) rfl, lg_in (tk_1 (List.mem_of_getElem? (i := 11) (by decide +kernel))) rfl⟩
theorem im_X8_cutTo : Cond.instanceMethod yX8_cutTo ∈ lw_g := lg_in (tk_5 (List.mem_of_getElem? (i := 37) (by decide +kernel))) rfl
theorem se_X8_cutTo : Cond.selects RX8 yX8_cutTo yX8_cutTo ∈ lw_g := lg_in (tk_5 (List.mem_of_getElem? (i := 38) (by decide +kernel))) rfl
theorem pa_X8_cutTo : pars mX8_cutTo 2 := ⟨⟨by decide, by decide⟩, by decide +kernel, by decide, lg_in (tk_5 (List.mem_of_getElem? (i := 39) (by decide +kernel))) rfl, lg_in (tk_1 (List.mem_of_getElem? (i := 11) (by decide +kernel))) rfl⟩
theorem im_X8_stand : Cond.instanceMethod yX8_stand ∈ lw_g := lg_in (tk_5 (List.mem_of_getElem? (i := 45) (by decide +kernel))) rfl
theorem se_X8_stand : Cond.selects RX8 yX8_stand yX8_stand ∈ lw_g := lg_in (tk_5 (List.mem_of_getElem? (i := 46) (by decide +kernel))) rfl
theorem pa_X8_stand : pars mX8_stand 3 := ⟨⟨by decide, by decide⟩, by decide +kernel, by decide, lg_in (tk_5 (List.mem_of_getElem? (i := 47) (by decide +kernel))) rfl, lg_in (tk_1 (List.mem_of_getElem? (i := 11) (by decide +kernel))) rfl⟩
theorem im_X9_init : Cond.instanceMethod yX9_init ∈ lw_g := lg_in (tk_1 (List.mem_of_getElem? (i := 33) (by decide +kernel))) rfl
theorem pa_X9_init : pars mX9_init 0 := ⟨⟨by decide, by decide⟩, by decide +kernel, by decide, lg_in (tk_1 (List.mem_of_getElem? (i := 34) (by decide +kernel))) rfl, lg_in (tk_1 (List.mem_of_getElem? (i := 2) (by decide +kernel))) rfl⟩
theorem im_X9_copy : Cond.instanceMethod yX9_copy ∈ lw_g := lg_in (tk_5 (List.mem_of_getElem? (i := 59) (by decide +kernel))) rfl
theorem se_X9_copy : Cond.selects RX9 yX9_copy yX9_copy ∈ lw_g := lg_in (tk_5 (List.mem_of_getElem? (i := 60) (by decide +kernel))) rfl
theorem pa_X9_copy : pars mX9_copy 1 := ⟨⟨by decide, by decide⟩, by decide +kernel, by decide, lg_in (tk_5 (List.mem_of_getElem? (i := 61) (by decide +kernel))) rfl, lg_in (tk_1 (List.mem_of_getElem? (i := 2) (by decide +kernel))) rfl⟩
theorem im_X9_hasParty : Cond.instanceMethod yX9_hasParty ∈ lw_g := lg_in (tk_2 (List.mem_of_getElem? (i := 199) (by decide +kernel))) rfl
theorem se_X9_hasParty : Cond.selects RX9 yX9_hasParty yX9_hasParty ∈ lw_g := lg_in (tk_2 (List.mem_of_getElem? (i := 200) (by decide +kernel))) rfl
theorem pa_X9_hasParty : pars mX9_hasParty 1 := ⟨⟨by decide, by decide⟩, by decide +kernel, by decide, lg_in (tk_2 (List.mem_of_getElem? (i := 201) (by decide +kernel))) rfl, lg_in (tk_1 (List.mem_of_getElem? (i := 2) (by decide +kernel))) rfl⟩
theorem im_X9_hasWord : Cond.instanceMethod yX9_hasWord ∈ lw_g := lg_in (tk_3 (List.mem_of_getElem? (i := 11) (by decide +kernel))) rfl
theorem se_X9_hasWord : Cond.selects RX9 yX9_hasWord yX9_hasWord ∈ lw_g := lg_in (tk_3 (List.mem_of_getElem? (i := 12) (by decide +kernel))) rfl
theorem pa_X9_hasWord : pars mX9_hasWord 1 := ⟨⟨by decide, by decide⟩, by decide +kernel, by decide, lg_in (tk_3 (List.mem_of_getElem? (i := 13) (by decide +kernel))) rfl, lg_in (tk_1 (List.mem_of_getElem? (i := 2) (by decide +kernel))) rfl⟩
theorem im_X9_sets : Cond.instanceMethod yX9_sets ∈ lw_g := lg_in (tk_4 (List.mem_of_getElem? (i := 80) (by decide +kernel))) rfl
theorem se_X9_sets : Cond.selects RX9 yX9_sets yX9_sets ∈ lw_g := lg_in (tk_4 (List.mem_of_getElem? (i := 81) (by decide +kernel))) rfl
theorem pa_X9_sets : pars mX9_sets 0 := ⟨⟨by decide, by decide⟩, by decide +kernel, by decide, lg_in (tk_4 (List.mem_of_getElem? (i := 82) (by decide +kernel))) rfl, lg_in (tk_1 (List.mem_of_getElem? (i := 2) (by decide +kernel))) rfl⟩
theorem im_X9_addParty : Cond.instanceMethod yX9_addParty ∈ lw_g := lg_in (tk_2 (List.mem_of_getElem? (i := 190) (by decide +kernel))) rfl
theorem se_X9_addParty : Cond.selects RX9 yX9_addParty yX9_addParty ∈ lw_g := lg_in (tk_2 (List.mem_of_getElem? (i := 191) (by decide +kernel))) rfl
theorem pa_X9_addParty : pars mX9_addParty 2 := ⟨⟨by decide, by decide⟩, by decide +kernel, by decide, lg_in (tk_2 (List.mem_of_getElem? (i := 192) (by decide +kernel))) rfl, lg_in (tk_1 (List.mem_of_getElem? (i := 2) (by decide +kernel))) rfl⟩
theorem im_X9_addWord : Cond.instanceMethod yX9_addWord ∈ lw_g := lg_in (tk_3 (List.mem_of_getElem? (i := 3) (by decide +kernel))) rfl
theorem se_X9_addWord : Cond.selects RX9 yX9_addWord yX9_addWord ∈ lw_g := lg_in (tk_3 (List.mem_of_getElem? (i := 4) (by decide +kernel))) rfl
theorem pa_X9_addWord : pars mX9_addWord 4 := ⟨⟨by decide, by decide⟩, by decide +kernel, by decide, lg_in (tk_3 (List.mem_of_getElem? (i := 5) (by decide +kernel))) rfl, lg_in (tk_1 (List.mem_of_getElem? (i := 2) (by decide +kernel))) rfl⟩
theorem im_X9_runs : Cond.instanceMethod yX9_runs ∈ lw_g := lg_in (tk_2 (List.mem_of_getElem? (i := 203) (by decide +kernel))) rfl
theorem se_X9_runs : Cond.selects RX9 yX9_runs yX9_runs ∈ lw_g := lg_in (tk_2 (List.mem_of_getElem? (i := 204) (by decide +kernel))) rfl
theorem pa_X9_runs : pars mX9_runs 1 := ⟨⟨by decide, by decide⟩, by decide +kernel, by decide, lg_in (tk_2 (List.mem_of_getElem? (i := 205) (by decide +kernel))) rfl, lg_in (tk_1 (List.mem_of_getElem? (i := 2) (by decide +kernel))) rfl⟩
theorem im_X9_drips : Cond.instanceMethod yX9_drips ∈ lw_g := lg_in (tk_2 (List.mem_of_getElem? (i := 214) (by decide +kernel))) rfl
theorem se_X9_drips : Cond.selects RX9 yX9_drips yX9_drips ∈ lw_g := lg_in (tk_2 (List.mem_of_getElem? (i := 215) (by decide +kernel))) rfl
theorem pa_X9_drips : pars mX9_drips 1 := ⟨⟨by decide, by decide⟩, by decide +kernel, by decide, lg_in (tk_2 (List.mem_of_getElem? (i := 216) (by decide +kernel))) rfl, lg_in (tk_1 (List.mem_of_getElem? (i := 2) (by decide +kernel))) rfl⟩
theorem im_X9_saidOf : Cond.instanceMethod yX9_saidOf ∈ lw_g := lg_in (tk_2 (List.mem_of_getElem? (i := 221) (by decide +kernel))) rfl
theorem se_X9_saidOf : Cond.selects RX9 yX9_saidOf yX9_saidOf ∈ lw_g := lg_in (tk_2 (List.mem_of_getElem? (i := 222) (by decide +kernel))) rfl
theorem pa_X9_saidOf : pars mX9_saidOf 1 := ⟨⟨by decide, by decide⟩, by decide +kernel, by decide, lg_in (tk_2 (List.mem_of_getElem? (i := 223) (by decide +kernel))) rfl, lg_in (tk_1 (List.mem_of_getElem? (i := 2) (by decide +kernel))) rfl⟩
theorem im_X9_waterOf : Cond.instanceMethod yX9_waterOf ∈ lw_g := lg_in (tk_4 (List.mem_of_getElem? (i := 92) (by decide +kernel))) rfl
theorem se_X9_waterOf : Cond.selects RX9 yX9_waterOf yX9_waterOf ∈ lw_g := lg_in (tk_4 (List.mem_of_getElem? (i := 93) (by decide +kernel))) rfl
theorem pa_X9_waterOf : pars mX9_waterOf 1 := ⟨⟨by decide, by decide⟩, by decide +kernel, by decide, lg_in (tk_4 (List.mem_of_getElem? (i := 94) (by decide +kernel))) rfl, lg_in (tk_1 (List.mem_of_getElem? (i := 2) (by decide +kernel))) rfl⟩
theorem im_X9_earBy : Cond.instanceMethod yX9_earBy ∈ lw_g := lg_in (tk_3 (List.mem_of_getElem? (i := 110) (by decide +kernel))) rfl
theorem se_X9_earBy : Cond.selects RX9 yX9_earBy yX9_earBy ∈ lw_g := lg_in (tk_3 (List.mem_of_getElem? (i := 111) (by decide +kernel))) rfl
theorem pa_X9_earBy : pars mX9_earBy 3 := ⟨⟨by decide, by decide⟩, by decide +kernel, by decide, lg_in (tk_3 (List.mem_of_getElem? (i := 112) (by decide +kernel))) rfl, lg_in (tk_1 (List.mem_of_getElem? (i := 2) (by decide +kernel))) rfl⟩
theorem im_X9_spillBy : Cond.instanceMethod yX9_spillBy ∈ lw_g := lg_in (tk_4 (List.mem_of_getElem? (i := 72) (by decide +kernel))) rfl
theorem se_X9_spillBy : Cond.selects RX9 yX9_spillBy yX9_spillBy ∈ lw_g := lg_in (tk_4 (List.mem_of_getElem? (i := 73) (by decide +kernel))) rfl
theorem pa_X9_spillBy : pars mX9_spillBy 3 := ⟨⟨by decide, by decide⟩, by decide +kernel, by decide, lg_in (tk_4 (List.mem_of_getElem? (i := 74) (by decide +kernel))) rfl, lg_in (tk_1 (List.mem_of_getElem? (i := 2) (by decide +kernel))) rfl⟩
theorem im_X9_speaker : Cond.instanceMethod yX9_speaker ∈ lw_g := lg_in (tk_3 (List.mem_of_getElem? (i := 38) (by decide +kernel))) rfl
theorem se_X9_speaker : Cond.selects RX9 yX9_speaker yX9_speaker ∈ lw_g := lg_in (tk_3 (List.mem_of_getElem? (i := 39) (by decide +kernel))) rfl
theorem pa_X9_speaker : pars mX9_speaker 1 := ⟨⟨by decide, by decide⟩, by decide +kernel, by decide, lg_in (tk_3 (List.mem_of_getElem? (i := 40) (by decide +kernel))) rfl, lg_in (tk_1 (List.mem_of_getElem? (i := 2) (by decide +kernel))) rfl⟩
theorem im_X9_isFree : Cond.instanceMethod yX9_isFree ∈ lw_g := lg_in (tk_3 (List.mem_of_getElem? (i := 66) (by decide +kernel))) rfl
theorem se_X9_isFree : Cond.selects RX9 yX9_isFree yX9_isFree ∈ lw_g := lg_in (tk_3 (List.mem_of_getElem? (i := 67) (by decide +kernel))) rfl
theorem pa_X9_isFree : pars mX9_isFree 2 := ⟨⟨by decide, by decide⟩, by decide +kernel, by decide, lg_in (tk_3 (List.mem_of_getElem? (i := 68) (by decide +kernel))) rfl, lg_in (tk_1 (List.mem_of_getElem? (i := 2) (by decide +kernel))) rfl⟩
theorem im_X9_maySay : Cond.instanceMethod yX9_maySay ∈ lw_g := lg_in (tk_3 (List.mem_of_getElem? (i := 62) (by decide +kernel))) rfl
theorem se_X9_maySay : Cond.selects RX9 yX9_maySay yX9_maySay ∈ lw_g := lg_in (tk_3 (List.mem_of_getElem? (i := 63) (by decide +kernel))) rfl
theorem pa_X9_maySay : pars mX9_maySay 2 := ⟨⟨by decide, by decide⟩, by decide +kernel, by decide, lg_in (tk_3 (List.mem_of_getElem? (i := 64) (by decide +kernel))) rfl, lg_in (tk_1 (List.mem_of_getElem? (i := 2) (by decide +kernel))) rfl⟩
theorem im_X9_begin : Cond.instanceMethod yX9_begin ∈ lw_g := lg_in (tk_3 (List.mem_of_getElem? (i := 70) (by decide +kernel))) rfl
theorem se_X9_begin : Cond.selects RX9 yX9_begin yX9_begin ∈ lw_g := lg_in (tk_3 (List.mem_of_getElem? (i := 71) (by decide +kernel))) rfl
theorem pa_X9_begin : pars mX9_begin 2 := ⟨⟨by decide, by decide⟩, by decide +kernel, by decide, lg_in (tk_3 (List.mem_of_getElem? (i := 72) (by decide +kernel))) rfl, lg_in (tk_1 (List.mem_of_getElem? (i := 2) (by decide +kernel))) rfl⟩
theorem im_X9_tillEnd : Cond.instanceMethod yX9_tillEnd ∈ lw_g := lg_in (tk_3 (List.mem_of_getElem? (i := 92) (by decide +kernel))) rfl
theorem se_X9_tillEnd : Cond.selects RX9 yX9_tillEnd yX9_tillEnd ∈ lw_g := lg_in (tk_3 (List.mem_of_getElem? (i := 93) (by decide +kernel))) rfl
theorem pa_X9_tillEnd : pars mX9_tillEnd 1 := ⟨⟨by decide, by decide⟩, by decide +kernel, by decide, lg_in (tk_3 (List.mem_of_getElem? (i := 94) (by decide +kernel))) rfl, lg_in (tk_1 (List.mem_of_getElem? (i := 2) (by decide +kernel))) rfl⟩
theorem im_X9_pass : Cond.instanceMethod yX9_pass ∈ lw_g := lg_in (tk_3 (List.mem_of_getElem? (i := 87) (by decide +kernel))) rfl
theorem se_X9_pass : Cond.selects RX9 yX9_pass yX9_pass ∈ lw_g := lg_in (tk_3 (List.mem_of_getElem? (i := 88) (by decide +kernel))) rfl
theorem pa_X9_pass : pars mX9_pass 2 := ⟨⟨by decide, by decide⟩, by decide +kernel, by decide, lg_in (tk_3 (List.mem_of_getElem? (i := 89) (by decide +kernel))) rfl, lg_in (tk_1 (List.mem_of_getElem? (i := 2) (by decide +kernel))) rfl⟩
theorem im_X9_drain : Cond.instanceMethod yX9_drain ∈ lw_g := lg_in (tk_3 (List.mem_of_getElem? (i := 102) (by decide +kernel))) rfl
theorem se_X9_drain : Cond.selects RX9 yX9_drain yX9_drain ∈ lw_g := lg_in (tk_p (List.mem_of_getElem? (i := 2) (by decide +kernel))) rfl
theorem pa_X9_drain : pars mX9_drain 2 := ⟨⟨by decide, by decide⟩, by decide +kernel, by decide, lg_in (tk_3 (List.mem_of_getElem? (i := 103) (by decide +kernel))) rfl, lg_in (tk_1 (List.mem_of_getElem? (i := 2) (by decide +kernel))) rfl⟩
theorem im_X9_loseByDraws : Cond.instanceMethod yX9_loseByDraws ∈ lw_g := lg_in (tk_3 (List.mem_of_getElem? (i := 139) (by decide +kernel))) rfl
theorem se_X9_loseByDraws : Cond.selects RX9 yX9_loseByDraws yX9_loseByDraws ∈ lw_g := lg_in (tk_3 (List.mem_of_getElem? (i := 140) (by decide +kernel))) rfl
theorem pa_X9_loseByDraws : pars mX9_loseByDraws 0 := ⟨⟨by decide, by decide⟩, by decide +kernel, by decide, lg_in (tk_3 (List.mem_of_getElem? (i := 141) (by decide +kernel))) rfl, lg_in (tk_1 (List.mem_of_getElem? (i := 2) (by decide +kernel))) rfl⟩
theorem im_X9_draw : Cond.instanceMethod yX9_draw ∈ lw_g := lg_in (tk_3 (List.mem_of_getElem? (i := 144) (by decide +kernel))) rfl
theorem se_X9_draw : Cond.selects RX9 yX9_draw yX9_draw ∈ lw_g := lg_in (tk_p (List.mem_of_getElem? (i := 3) (by decide +kernel))) rfl
theorem pa_X9_draw : pars mX9_draw 0 := ⟨⟨by decide, by decide⟩, by decide +kernel, by decide, lg_in (tk_3 (List.mem_of_getElem? (i := 145) (by decide +kernel))) rfl, lg_in (tk_1 (List.mem_of_getElem? (i := 2) (by decide +kernel))) rfl⟩
theorem im_X10_init : Cond.instanceMethod yX10_init ∈ lw_g := lg_in (tk_1 (List.mem_of_getElem? (i := 94) (by decide +kernel))) rfl
theorem pa_X10_init : pars mX10_init 0 := ⟨⟨by decide, by decide⟩, by decide +kernel, by decide, lg_in (tk_1 (List.mem_of_getElem? (i := 95) (by decide +kernel))) rfl, lg_in (tk_1 (List.mem_of_getElem? (i := 4) (by decide +kernel))) rfl⟩
theorem im_X10_isThere : Cond.instanceMethod yX10_isThere ∈ lw_g := lg_in (tk_3 (List.mem_of_getElem? (i := 114) (by decide +kernel))) rfl
theorem se_X10_isThere : Cond.selects RX10 yX10_isThere yX10_isThere ∈ lw_g := lg_in (tk_3 (List.mem_of_getElem? (i := 115) (by decide +kernel))) rfl
theorem pa_X10_isThere : pars mX10_isThere 0 := ⟨⟨by decide, by decide⟩, by decide +kernel, by decide, lg_in (tk_3 (List.mem_of_getElem? (i := 116) (by decide +kernel))) rfl, lg_in (tk_1 (List.mem_of_getElem? (i := 4) (by decide +kernel))) rfl⟩
theorem im_X10_clear : Cond.instanceMethod yX10_clear ∈ lw_g := lg_in (tk_3 (List.mem_of_getElem? (i := 172) (by decide +kernel))) rfl
theorem se_X10_clear : Cond.selects RX10 yX10_clear yX10_clear ∈ lw_g := lg_in (tk_3 (List.mem_of_getElem? (i := 173) (by decide +kernel))) rfl
theorem pa_X10_clear : pars mX10_clear 0 := ⟨⟨by decide, by decide⟩, by decide +kernel, by decide, lg_in (tk_3 (List.mem_of_getElem? (i := 174) (by decide +kernel))) rfl, lg_in (tk_1 (List.mem_of_getElem? (i := 4) (by decide +kernel))) rfl⟩
theorem im_X10_add : Cond.instanceMethod yX10_add ∈ lw_g := lg_in (tk_3 (List.mem_of_getElem? (i := 212) (by decide +kernel))) rfl
theorem se_X10_add : Cond.selects RX10 yX10_add yX10_add ∈ lw_g := lg_in (tk_3 (List.mem_of_getElem? (i := 213) (by decide +kernel))) rfl
theorem pa_X10_add : pars mX10_add 1 := ⟨⟨by decide, by decide⟩, by decide +kernel, by decide, lg_in (tk_3 (List.mem_of_getElem? (i := 214) (by decide +kernel))) rfl, lg_in (tk_1 (List.mem_of_getElem? (i := 4) (by decide +kernel))) rfl⟩
theorem im_X10_copy : Cond.instanceMethod yX10_copy ∈ lw_g := lg_in (tk_4 (List.mem_of_getElem? (i := 62) (by decide +kernel))) rfl
theorem se_X10_copy : Cond.selects RX10 yX10_copy yX10_copy ∈ lw_g := lg_in (tk_4 (List.mem_of_getElem? (i := 63) (by decide +kernel))) rfl
theorem pa_X10_copy : pars mX10_copy 1 := ⟨⟨by decide, by decide⟩, by decide +kernel, by decide, lg_in (tk_4 (List.mem_of_getElem? (i := 64) (by decide +kernel))) rfl, lg_in (tk_1 (List.mem_of_getElem? (i := 4) (by decide +kernel))) rfl⟩
theorem im_X10_value : Cond.instanceMethod yX10_value ∈ lw_g := lg_in (tk_3 (List.mem_of_getElem? (i := 118) (by decide +kernel))) rfl
theorem se_X10_value : Cond.selects RX10 yX10_value yX10_value ∈ lw_g := lg_in (tk_3 (List.mem_of_getElem? (i := 119) (by decide +kernel))) rfl
theorem pa_X10_value : pars mX10_value 3 := ⟨⟨by decide, by decide⟩, by decide +kernel, by decide, lg_in (tk_3 (List.mem_of_getElem? (i := 120) (by decide +kernel))) rfl, lg_in (tk_1 (List.mem_of_getElem? (i := 4) (by decide +kernel))) rfl⟩
theorem ss_X10_truth : Cond.static yX10_truth ∈ lw_g := lg_in (tk_3 (List.mem_of_getElem? (i := 123) (by decide +kernel))) rfl
theorem pa_X10_truth : pars mX10_truth 1 := ⟨⟨by decide, by decide⟩, by decide +kernel, by decide, lg_in (tk_3 (List.mem_of_getElem? (i := 124) (by decide +kernel))) rfl, lg_in (tk_1 (List.mem_of_getElem? (i := 4) (by decide +kernel))) rfl⟩
theorem ss_X10_joint : Cond.static yX10_joint ∈ lw_g := lg_in (tk_3 (List.mem_of_getElem? (i := 126) (by decide +kernel))) rfl
theorem pa_X10_joint : pars mX10_joint 3 := ⟨⟨by decide, by decide⟩, by decide +kernel, by decide, lg_in (tk_3 (List.mem_of_getElem? (i := 127) (by decide +kernel))) rfl, lg_in (tk_1 (List.mem_of_getElem? (i := 4) (by decide +kernel))) rfl⟩
theorem im_X11_init : Cond.instanceMethod yX11_init ∈ lw_g := lg_in (tk_1 (List.mem_of_getElem? (i := 25) (by decide +kernel))) rfl
theorem pa_X11_init : pars mX11_init 0 := ⟨⟨by decide, by decide⟩, by decide +kernel, by decide, lg_in (tk_1 (List.mem_of_getElem? (i := 26) (by decide +kernel))) rfl, lg_in (tk_1 (List.mem_of_getElem? (i := 1) (by decide +kernel))) rfl⟩
theorem im_X11_party : Cond.instanceMethod yX11_party ∈ lw_g := lg_in (tk_2 (List.mem_of_getElem? (i := 175) (by decide +kernel))) rfl
theorem se_X11_party : Cond.selects RX11 yX11_party yX11_party ∈ lw_g := lg_in (tk_2 (List.mem_of_getElem? (i := 176) (by decide +kernel))) rfl
theorem pa_X11_party : pars mX11_party 2 := ⟨⟨by decide, by decide⟩, by decide +kernel, by decide, lg_in (tk_2 (List.mem_of_getElem? (i := 177) (by decide +kernel))) rfl, lg_in (tk_1 (List.mem_of_getElem? (i := 1) (by decide +kernel))) rfl⟩
theorem im_X11_ofParty : Cond.instanceMethod yX11_ofParty ∈ lw_g := lg_in (tk_2 (List.mem_of_getElem? (i := 195) (by decide +kernel))) rfl
theorem se_X11_ofParty : Cond.selects RX11 yX11_ofParty yX11_ofParty ∈ lw_g := lg_in (tk_2 (List.mem_of_getElem? (i := 196) (by decide +kernel))) rfl
theorem pa_X11_ofParty : pars mX11_ofParty 2 := ⟨⟨by decide, by decide⟩, by decide +kernel, by decide, lg_in (tk_2 (List.mem_of_getElem? (i := 197) (by decide +kernel))) rfl, lg_in (tk_1 (List.mem_of_getElem? (i := 1) (by decide +kernel))) rfl⟩
theorem im_X11_become : Cond.instanceMethod yX11_become ∈ lw_g := lg_in (tk_2 (List.mem_of_getElem? (i := 225) (by decide +kernel))) rfl
theorem se_X11_become : Cond.selects RX11 yX11_become yX11_become ∈ lw_g := lg_in (tk_2 (List.mem_of_getElem? (i := 226) (by decide +kernel))) rfl
theorem pa_X11_become : pars mX11_become 2 := ⟨⟨by decide, by decide⟩, by decide +kernel, by decide, lg_in (tk_2 (List.mem_of_getElem? (i := 227) (by decide +kernel))) rfl, lg_in (tk_1 (List.mem_of_getElem? (i := 1) (by decide +kernel))) rfl⟩
theorem im_X11_as : Cond.instanceMethod yX11_as ∈ lw_g := lg_in (tk_2 (List.mem_of_getElem? (i := 229) (by decide +kernel))) rfl
theorem se_X11_as : Cond.selects RX11 yX11_as yX11_as ∈ lw_g := lg_in (tk_2 (List.mem_of_getElem? (i := 230) (by decide +kernel))) rfl
theorem pa_X11_as : pars mX11_as 2 := ⟨⟨by decide, by decide⟩, by decide +kernel, by decide, lg_in (tk_2 (List.mem_of_getElem? (i := 231) (by decide +kernel))) rfl, lg_in (tk_1 (List.mem_of_getElem? (i := 1) (by decide +kernel))) rfl⟩
theorem im_X11_word : Cond.instanceMethod yX11_word ∈ lw_g := lg_in (tk_2 (List.mem_of_getElem? (i := 239) (by decide +kernel))) rfl
theorem se_X11_word : Cond.selects RX11 yX11_word yX11_word ∈ lw_g := lg_in (tk_3 (List.mem_of_getElem? (i := 0) (by decide +kernel))) rfl
theorem pa_X11_word : pars mX11_word 4 := ⟨⟨by decide, by decide⟩, by decide +kernel, by decide, lg_in (tk_3 (List.mem_of_getElem? (i := 1) (by decide +kernel))) rfl, lg_in (tk_1 (List.mem_of_getElem? (i := 1) (by decide +kernel))) rfl⟩
theorem im_X11_ofWord : Cond.instanceMethod yX11_ofWord ∈ lw_g := lg_in (tk_3 (List.mem_of_getElem? (i := 7) (by decide +kernel))) rfl
theorem se_X11_ofWord : Cond.selects RX11 yX11_ofWord yX11_ofWord ∈ lw_g := lg_in (tk_3 (List.mem_of_getElem? (i := 8) (by decide +kernel))) rfl
theorem pa_X11_ofWord : pars mX11_ofWord 2 := ⟨⟨by decide, by decide⟩, by decide +kernel, by decide, lg_in (tk_3 (List.mem_of_getElem? (i := 9) (by decide +kernel))) rfl, lg_in (tk_1 (List.mem_of_getElem? (i := 1) (by decide +kernel))) rfl⟩
theorem im_X11_set : Cond.instanceMethod yX11_set ∈ lw_g := lg_in (tk_3 (List.mem_of_getElem? (i := 15) (by decide +kernel))) rfl
theorem se_X11_set : Cond.selects RX11 yX11_set yX11_set ∈ lw_g := lg_in (tk_3 (List.mem_of_getElem? (i := 16) (by decide +kernel))) rfl
theorem pa_X11_set : pars mX11_set 3 := ⟨⟨by decide, by decide⟩, by decide +kernel, by decide, lg_in (tk_3 (List.mem_of_getElem? (i := 17) (by decide +kernel))) rfl, lg_in (tk_1 (List.mem_of_getElem? (i := 1) (by decide +kernel))) rfl⟩
theorem im_X11_fetch : Cond.instanceMethod yX11_fetch ∈ lw_g := lg_in (tk_3 (List.mem_of_getElem? (i := 19) (by decide +kernel))) rfl
theorem se_X11_fetch : Cond.selects RX11 yX11_fetch yX11_fetch ∈ lw_g := lg_in (tk_3 (List.mem_of_getElem? (i := 20) (by decide +kernel))) rfl
theorem pa_X11_fetch : pars mX11_fetch 2 := ⟨⟨by decide, by decide⟩, by decide +kernel, by decide, lg_in (tk_3 (List.mem_of_getElem? (i := 21) (by decide +kernel))) rfl, lg_in (tk_1 (List.mem_of_getElem? (i := 1) (by decide +kernel))) rfl⟩
theorem im_X11_pour : Cond.instanceMethod yX11_pour ∈ lw_g := lg_in (tk_3 (List.mem_of_getElem? (i := 26) (by decide +kernel))) rfl
theorem se_X11_pour : Cond.selects RX11 yX11_pour yX11_pour ∈ lw_g := lg_in (tk_3 (List.mem_of_getElem? (i := 27) (by decide +kernel))) rfl
theorem pa_X11_pour : pars mX11_pour 3 := ⟨⟨by decide, by decide⟩, by decide +kernel, by decide, lg_in (tk_3 (List.mem_of_getElem? (i := 28) (by decide +kernel))) rfl, lg_in (tk_1 (List.mem_of_getElem? (i := 1) (by decide +kernel))) rfl⟩
theorem im_X11_object : Cond.instanceMethod yX11_object ∈ lw_g := lg_in (tk_3 (List.mem_of_getElem? (i := 34) (by decide +kernel))) rfl
theorem se_X11_object : Cond.selects RX11 yX11_object yX11_object ∈ lw_g := lg_in (tk_3 (List.mem_of_getElem? (i := 35) (by decide +kernel))) rfl
theorem pa_X11_object : pars mX11_object 2 := ⟨⟨by decide, by decide⟩, by decide +kernel, by decide, lg_in (tk_3 (List.mem_of_getElem? (i := 36) (by decide +kernel))) rfl, lg_in (tk_1 (List.mem_of_getElem? (i := 1) (by decide +kernel))) rfl⟩
theorem im_X11_thumb : Cond.instanceMethod yX11_thumb ∈ lw_g := lg_in (tk_3 (List.mem_of_getElem? (i := 54) (by decide +kernel))) rfl
theorem se_X11_thumb : Cond.selects RX11 yX11_thumb yX11_thumb ∈ lw_g := lg_in (tk_3 (List.mem_of_getElem? (i := 55) (by decide +kernel))) rfl
theorem pa_X11_thumb : pars mX11_thumb 1 := ⟨⟨by decide, by decide⟩, by decide +kernel, by decide, lg_in (tk_3 (List.mem_of_getElem? (i := 56) (by decide +kernel))) rfl, lg_in (tk_1 (List.mem_of_getElem? (i := 1) (by decide +kernel))) rfl⟩
theorem im_X11_say : Cond.instanceMethod yX11_say ∈ lw_g := lg_in (tk_3 (List.mem_of_getElem? (i := 58) (by decide +kernel))) rfl
theorem se_X11_say : Cond.selects RX11 yX11_say yX11_say ∈ lw_g := lg_in (tk_3 (List.mem_of_getElem? (i := 59) (by decide +kernel))) rfl
theorem pa_X11_say : pars mX11_say 1 := ⟨⟨by decide, by decide⟩, by decide +kernel, by decide, lg_in (tk_3 (List.mem_of_getElem? (i := 60) (by decide +kernel))) rfl, lg_in (tk_1 (List.mem_of_getElem? (i := 1) (by decide +kernel))) rfl⟩
theorem im_X11_stop : Cond.instanceMethod yX11_stop ∈ lw_g := lg_in (tk_3 (List.mem_of_getElem? (i := 74) (by decide +kernel))) rfl
theorem se_X11_stop : Cond.selects RX11 yX11_stop yX11_stop ∈ lw_g := lg_in (tk_3 (List.mem_of_getElem? (i := 75) (by decide +kernel))) rfl
theorem pa_X11_stop : pars mX11_stop 0 := ⟨⟨by decide, by decide⟩, by decide +kernel, by decide, lg_in (tk_3 (List.mem_of_getElem? (i := 76) (by decide +kernel))) rfl, lg_in (tk_1 (List.mem_of_getElem? (i := 1) (by decide +kernel))) rfl⟩
theorem im_X11_seconds : Cond.instanceMethod yX11_seconds ∈ lw_g := lg_in (tk_3 (List.mem_of_getElem? (i := 82) (by decide +kernel))) rfl
theorem se_X11_seconds : Cond.selects RX11 yX11_seconds yX11_seconds ∈ lw_g := lg_in (tk_3 (List.mem_of_getElem? (i := 83) (by decide +kernel))) rfl
theorem pa_X11_seconds : pars mX11_seconds 1 := ⟨⟨by decide, by decide⟩, by decide +kernel, by decide, lg_in (tk_3 (List.mem_of_getElem? (i := 84) (by decide +kernel))) rfl, lg_in (tk_1 (List.mem_of_getElem? (i := 1) (by decide +kernel))) rfl⟩
theorem im_X11_loose : Cond.instanceMethod yX11_loose ∈ lw_g := lg_in (tk_3 (List.mem_of_getElem? (i := 135) (by decide +kernel))) rfl
theorem se_X11_loose : Cond.selects RX11 yX11_loose yX11_loose ∈ lw_g := lg_in (tk_3 (List.mem_of_getElem? (i := 136) (by decide +kernel))) rfl
theorem pa_X11_loose : pars mX11_loose 1 := ⟨⟨by decide, by decide⟩, by decide +kernel, by decide, lg_in (tk_3 (List.mem_of_getElem? (i := 137) (by decide +kernel))) rfl, lg_in (tk_1 (List.mem_of_getElem? (i := 1) (by decide +kernel))) rfl⟩
theorem im_X11_then : Cond.instanceMethod yX11_then ∈ lw_g := lg_in (tk_3 (List.mem_of_getElem? (i := 148) (by decide +kernel))) rfl
theorem se_X11_then : Cond.selects RX11 yX11_then yX11_then ∈ lw_g := lg_in (tk_3 (List.mem_of_getElem? (i := 149) (by decide +kernel))) rfl
theorem pa_X11_then : pars mX11_then 3 := ⟨⟨by decide, by decide⟩, by decide +kernel, by decide, lg_in (tk_3 (List.mem_of_getElem? (i := 150) (by decide +kernel))) rfl, lg_in (tk_1 (List.mem_of_getElem? (i := 1) (by decide +kernel))) rfl⟩
theorem im_X11_feed : Cond.instanceMethod yX11_feed ∈ lw_g := lg_in (tk_3 (List.mem_of_getElem? (i := 159) (by decide +kernel))) rfl
theorem se_X11_feed : Cond.selects RX11 yX11_feed yX11_feed ∈ lw_g := lg_in (tk_3 (List.mem_of_getElem? (i := 160) (by decide +kernel))) rfl
theorem pa_X11_feed : pars mX11_feed 2 := ⟨⟨by decide, by decide⟩, by decide +kernel, by decide, lg_in (tk_3 (List.mem_of_getElem? (i := 161) (by decide +kernel))) rfl, lg_in (tk_1 (List.mem_of_getElem? (i := 1) (by decide +kernel))) rfl⟩
theorem im_X11_text : Cond.instanceMethod yX11_text ∈ lw_g := lg_in (tk_3 (List.mem_of_getElem? (i := 163) (by decide +kernel))) rfl
theorem se_X11_text : Cond.selects RX11 yX11_text yX11_text ∈ lw_g := lg_in (tk_3 (List.mem_of_getElem? (i := 164) (by decide +kernel))) rfl
theorem pa_X11_text : pars mX11_text 1 := ⟨⟨by decide, by decide⟩, by decide +kernel, by decide, lg_in (tk_3 (List.mem_of_getElem? (i := 165) (by decide +kernel))) rfl, lg_in (tk_1 (List.mem_of_getElem? (i := 1) (by decide +kernel))) rfl⟩
theorem im_X11_law : Cond.instanceMethod yX11_law ∈ lw_g := lg_in (tk_4 (List.mem_of_getElem? (i := 67) (by decide +kernel))) rfl
theorem se_X11_law : Cond.selects RX11 yX11_law yX11_law ∈ lw_g := lg_in (tk_4 (List.mem_of_getElem? (i := 68) (by decide +kernel))) rfl
theorem pa_X11_law : pars mX11_law 4 := ⟨⟨by decide, by decide⟩, by decide +kernel, by decide, lg_in (tk_4 (List.mem_of_getElem? (i := 69) (by decide +kernel))) rfl, lg_in (tk_1 (List.mem_of_getElem? (i := 1) (by decide +kernel))) rfl⟩
theorem im_X11_best : Cond.instanceMethod yX11_best ∈ lw_g := lg_in (tk_4 (List.mem_of_getElem? (i := 76) (by decide +kernel))) rfl
theorem se_X11_best : Cond.selects RX11 yX11_best yX11_best ∈ lw_g := lg_in (tk_4 (List.mem_of_getElem? (i := 77) (by decide +kernel))) rfl
theorem pa_X11_best : pars mX11_best 2 := ⟨⟨by decide, by decide⟩, by decide +kernel, by decide, lg_in (tk_4 (List.mem_of_getElem? (i := 78) (by decide +kernel))) rfl, lg_in (tk_1 (List.mem_of_getElem? (i := 1) (by decide +kernel))) rfl⟩
theorem im_X11_share : Cond.instanceMethod yX11_share ∈ lw_g := lg_in (tk_4 (List.mem_of_getElem? (i := 123) (by decide +kernel))) rfl
theorem se_X11_share : Cond.selects RX11 yX11_share yX11_share ∈ lw_g := lg_in (tk_4 (List.mem_of_getElem? (i := 124) (by decide +kernel))) rfl
theorem pa_X11_share : pars mX11_share 2 := ⟨⟨by decide, by decide⟩, by decide +kernel, by decide, lg_in (tk_4 (List.mem_of_getElem? (i := 125) (by decide +kernel))) rfl, lg_in (tk_1 (List.mem_of_getElem? (i := 1) (by decide +kernel))) rfl⟩
theorem im_X11_leaves : Cond.instanceMethod yX11_leaves ∈ lw_g := lg_in (tk_4 (List.mem_of_getElem? (i := 155) (by decide +kernel))) rfl
theorem se_X11_leaves : Cond.selects RX11 yX11_leaves yX11_leaves ∈ lw_g := lg_in (tk_4 (List.mem_of_getElem? (i := 156) (by decide +kernel))) rfl
theorem pa_X11_leaves : pars mX11_leaves 0 := ⟨⟨by decide, by decide⟩, by decide +kernel, by decide, lg_in (tk_4 (List.mem_of_getElem? (i := 157) (by decide +kernel))) rfl, lg_in (tk_1 (List.mem_of_getElem? (i := 1) (by decide +kernel))) rfl⟩
theorem im_X11_game : Cond.instanceMethod yX11_game ∈ lw_g := lg_in (tk_4 (List.mem_of_getElem? (i := 163) (by decide +kernel))) rfl
theorem se_X11_game : Cond.selects RX11 yX11_game yX11_game ∈ lw_g := lg_in (tk_4 (List.mem_of_getElem? (i := 164) (by decide +kernel))) rfl
theorem pa_X11_game : pars mX11_game 4 := ⟨⟨by decide, by decide⟩, by decide +kernel, by decide, lg_in (tk_4 (List.mem_of_getElem? (i := 165) (by decide +kernel))) rfl, lg_in (tk_1 (List.mem_of_getElem? (i := 1) (by decide +kernel))) rfl⟩
theorem im_X11_odds : Cond.instanceMethod yX11_odds ∈ lw_g := lg_in (tk_4 (List.mem_of_getElem? (i := 195) (by decide +kernel))) rfl
theorem se_X11_odds : Cond.selects RX11 yX11_odds yX11_odds ∈ lw_g := lg_in (tk_4 (List.mem_of_getElem? (i := 196) (by decide +kernel))) rfl
theorem pa_X11_odds : pars mX11_odds 4 := ⟨⟨by decide, by decide⟩, by decide +kernel, by decide, lg_in (tk_4 (List.mem_of_getElem? (i := 197) (by decide +kernel))) rfl, lg_in (tk_1 (List.mem_of_getElem? (i := 1) (by decide +kernel))) rfl⟩
theorem im_X11_carried : Cond.instanceMethod yX11_carried ∈ lw_g := lg_in (tk_4 (List.mem_of_getElem? (i := 206) (by decide +kernel))) rfl
theorem se_X11_carried : Cond.selects RX11 yX11_carried yX11_carried ∈ lw_g := lg_in (tk_4 (List.mem_of_getElem? (i := 207) (by decide +kernel))) rfl
theorem pa_X11_carried : pars mX11_carried 4 := ⟨⟨by decide, by decide⟩, by decide +kernel, by decide, lg_in (tk_4 (List.mem_of_getElem? (i := 208) (by decide +kernel))) rfl, lg_in (tk_1 (List.mem_of_getElem? (i := 1) (by decide +kernel))) rfl⟩
theorem im_X11_explained : Cond.instanceMethod yX11_explained ∈ lw_g := lg_in (tk_4 (List.mem_of_getElem? (i := 211) (by decide +kernel))) rfl
theorem se_X11_explained : Cond.selects RX11 yX11_explained yX11_explained ∈ lw_g := lg_in (tk_4 (List.mem_of_getElem? (i := 212) (by decide +kernel))) rfl
theorem pa_X11_explained : pars mX11_explained 2 := ⟨⟨by decide, by decide⟩, by decide +kernel, by decide, lg_in (tk_4 (List.mem_of_getElem? (i := 213) (by decide +kernel))) rfl, lg_in (tk_1 (List.mem_of_getElem? (i := 1) (by decide +kernel))) rfl⟩
theorem im_X11_seed : Cond.instanceMethod yX11_seed ∈ lw_g := lg_in (tk_4 (List.mem_of_getElem? (i := 229) (by decide +kernel))) rfl
theorem se_X11_seed : Cond.selects RX11 yX11_seed yX11_seed ∈ lw_g := lg_in (tk_4 (List.mem_of_getElem? (i := 230) (by decide +kernel))) rfl
theorem pa_X11_seed : pars mX11_seed 1 := ⟨⟨by decide, by decide⟩, by decide +kernel, by decide, lg_in (tk_4 (List.mem_of_getElem? (i := 231) (by decide +kernel))) rfl, lg_in (tk_1 (List.mem_of_getElem? (i := 1) (by decide +kernel))) rfl⟩
theorem im_X11_voice : Cond.instanceMethod yX11_voice ∈ lw_g := lg_in (tk_4 (List.mem_of_getElem? (i := 233) (by decide +kernel))) rfl
theorem se_X11_voice : Cond.selects RX11 yX11_voice yX11_voice ∈ lw_g := lg_in (tk_4 (List.mem_of_getElem? (i := 234) (by decide +kernel))) rfl
theorem pa_X11_voice : pars mX11_voice 3 := ⟨⟨by decide, by decide⟩, by decide +kernel, by decide, lg_in (tk_4 (List.mem_of_getElem? (i := 235) (by decide +kernel))) rfl, lg_in (tk_1 (List.mem_of_getElem? (i := 1) (by decide +kernel))) rfl⟩
theorem im_X11_trace : Cond.instanceMethod yX11_trace ∈ lw_g := lg_in (tk_5 (List.mem_of_getElem? (i := 21) (by decide +kernel))) rfl
theorem se_X11_trace : Cond.selects RX11 yX11_trace yX11_trace ∈ lw_g := lg_in (tk_5 (List.mem_of_getElem? (i := 22) (by decide +kernel))) rfl
theorem pa_X11_trace : pars mX11_trace 1 := ⟨⟨by decide, by decide⟩, by decide +kernel, by decide, lg_in (tk_5 (List.mem_of_getElem? (i := 23) (by decide +kernel))) rfl, lg_in (tk_1 (List.mem_of_getElem? (i := 1) (by decide +kernel))) rfl⟩
theorem im_X11_sheet : Cond.instanceMethod yX11_sheet ∈ lw_g := lg_in (tk_5 (List.mem_of_getElem? (i := 25) (by decide +kernel))) rfl
theorem se_X11_sheet : Cond.selects RX11 yX11_sheet yX11_sheet ∈ lw_g := lg_in (tk_5 (List.mem_of_getElem? (i := 26) (by decide +kernel))) rfl
theorem pa_X11_sheet : pars mX11_sheet 3 := ⟨⟨by decide, by decide⟩, by decide +kernel, by decide, lg_in (tk_5 (List.mem_of_getElem? (i := 27) (by decide +kernel))) rfl, lg_in (tk_1 (List.mem_of_getElem? (i := 1) (by decide +kernel))) rfl⟩
theorem im_X11_put : Cond.instanceMethod yX11_put ∈ lw_g := lg_in (tk_5 (List.mem_of_getElem? (i := 33) (by decide +kernel))) rfl
theorem se_X11_put : Cond.selects RX11 yX11_put yX11_put ∈ lw_g := lg_in (tk_5 (List.mem_of_getElem? (i := 34) (by decide +kernel))) rfl
theorem pa_X11_put : pars mX11_put 3 := ⟨⟨by decide, by decide⟩, by decide +kernel, by decide, lg_in (tk_5 (List.mem_of_getElem? (i := 35) (by decide +kernel))) rfl, lg_in (tk_1 (List.mem_of_getElem? (i := 1) (by decide +kernel))) rfl⟩
theorem im_X11_move : Cond.instanceMethod yX11_move ∈ lw_g := lg_in (tk_5 (List.mem_of_getElem? (i := 41) (by decide +kernel))) rfl
theorem se_X11_move : Cond.selects RX11 yX11_move yX11_move ∈ lw_g := lg_in (tk_5 (List.mem_of_getElem? (i := 42) (by decide +kernel))) rfl
theorem pa_X11_move : pars mX11_move 5 := ⟨⟨by decide, by decide⟩, by decide +kernel, by decide, lg_in (tk_5 (List.mem_of_getElem? (i := 43) (by decide +kernel))) rfl, lg_in (tk_1 (List.mem_of_getElem? (i := 1) (by decide +kernel))) rfl⟩
theorem im_X11_judge : Cond.instanceMethod yX11_judge ∈ lw_g := lg_in (tk_5 (List.mem_of_getElem? (i := 50) (by decide +kernel))) rfl
theorem se_X11_judge : Cond.selects RX11 yX11_judge yX11_judge ∈ lw_g := lg_in (tk_5 (List.mem_of_getElem? (i := 51) (by decide +kernel))) rfl
theorem pa_X11_judge : pars mX11_judge 1 := ⟨⟨by decide, by decide⟩, by decide +kernel, by decide, lg_in (tk_5 (List.mem_of_getElem? (i := 52) (by decide +kernel))) rfl, lg_in (tk_1 (List.mem_of_getElem? (i := 1) (by decide +kernel))) rfl⟩
theorem im_X11_image : Cond.instanceMethod yX11_image ∈ lw_g := lg_in (tk_5 (List.mem_of_getElem? (i := 55) (by decide +kernel))) rfl
theorem se_X11_image : Cond.selects RX11 yX11_image yX11_image ∈ lw_g := lg_in (tk_5 (List.mem_of_getElem? (i := 56) (by decide +kernel))) rfl
theorem pa_X11_image : pars mX11_image 0 := ⟨⟨by decide, by decide⟩, by decide +kernel, by decide, lg_in (tk_5 (List.mem_of_getElem? (i := 57) (by decide +kernel))) rfl, lg_in (tk_1 (List.mem_of_getElem? (i := 1) (by decide +kernel))) rfl⟩
theorem im_X11_restore : Cond.instanceMethod yX11_restore ∈ lw_g := lg_in (tk_5 (List.mem_of_getElem? (i := 66) (by decide +kernel))) rfl
theorem se_X11_restore : Cond.selects RX11 yX11_restore yX11_restore ∈ lw_g := lg_in (tk_5 (List.mem_of_getElem? (i := 67) (by decide +kernel))) rfl
theorem pa_X11_restore : pars mX11_restore 0 := ⟨⟨by decide, by decide⟩, by decide +kernel, by decide, lg_in (tk_5 (List.mem_of_getElem? (i := 68) (by decide +kernel))) rfl, lg_in (tk_1 (List.mem_of_getElem? (i := 1) (by decide +kernel))) rfl⟩
theorem im_X11_tell : Cond.instanceMethod yX11_tell ∈ lw_g := lg_in (tk_5 (List.mem_of_getElem? (i := 70) (by decide +kernel))) rfl
theorem se_X11_tell : Cond.selects RX11 yX11_tell yX11_tell ∈ lw_g := lg_in (tk_5 (List.mem_of_getElem? (i := 71) (by decide +kernel))) rfl
theorem pa_X11_tell : pars mX11_tell 1 := ⟨⟨by decide, by decide⟩, by decide +kernel, by decide, lg_in (tk_5 (List.mem_of_getElem? (i := 72) (by decide +kernel))) rfl, lg_in (tk_1 (List.mem_of_getElem? (i := 1) (by decide +kernel))) rfl⟩
theorem im_X11_check : Cond.instanceMethod yX11_check ∈ lw_g := lg_in (tk_5 (List.mem_of_getElem? (i := 74) (by decide +kernel))) rfl
theorem se_X11_check : Cond.selects RX11 yX11_check yX11_check ∈ lw_g := lg_in (tk_5 (List.mem_of_getElem? (i := 75) (by decide +kernel))) rfl
theorem pa_X11_check : pars mX11_check 0 := ⟨⟨by decide, by decide⟩, by decide +kernel, by decide, lg_in (tk_5 (List.mem_of_getElem? (i := 76) (by decide +kernel))) rfl, lg_in (tk_1 (List.mem_of_getElem? (i := 1) (by decide +kernel))) rfl⟩
theorem im_X11_count : Cond.instanceMethod yX11_count ∈ lw_g := lg_in (tk_5 (List.mem_of_getElem? (i := 78) (by decide +kernel))) rfl
theorem se_X11_count : Cond.selects RX11 yX11_count yX11_count ∈ lw_g := lg_in (tk_5 (List.mem_of_getElem? (i := 79) (by decide +kernel))) rfl
theorem pa_X11_count : pars mX11_count 1 := ⟨⟨by decide, by decide⟩, by decide +kernel, by decide, lg_in (tk_5 (List.mem_of_getElem? (i := 80) (by decide +kernel))) rfl, lg_in (tk_1 (List.mem_of_getElem? (i := 1) (by decide +kernel))) rfl⟩
theorem im_X11_told : Cond.instanceMethod yX11_told ∈ lw_g := lg_in (tk_5 (List.mem_of_getElem? (i := 83) (by decide +kernel))) rfl
theorem se_X11_told : Cond.selects RX11 yX11_told yX11_told ∈ lw_g := lg_in (tk_5 (List.mem_of_getElem? (i := 84) (by decide +kernel))) rfl
theorem pa_X11_told : pars mX11_told 1 := ⟨⟨by decide, by decide⟩, by decide +kernel, by decide, lg_in (tk_5 (List.mem_of_getElem? (i := 85) (by decide +kernel))) rfl, lg_in (tk_1 (List.mem_of_getElem? (i := 1) (by decide +kernel))) rfl⟩
theorem im_X11_refuse : Cond.instanceMethod yX11_refuse ∈ lw_g := lg_in (tk_2 (List.mem_of_getElem? (i := 186) (by decide +kernel))) rfl
theorem se_X11_refuse : Cond.selects RX11 yX11_refuse yX11_refuse ∈ lw_g := lg_in (tk_p (List.mem_of_getElem? (i := 0) (by decide +kernel))) rfl
theorem pa_X11_refuse : pars mX11_refuse 1 := ⟨⟨by decide, by decide⟩, by decide +kernel, by decide, lg_in (tk_2 (List.mem_of_getElem? (i := 187) (by decide +kernel))) rfl, lg_in (tk_1 (List.mem_of_getElem? (i := 1) (by decide +kernel))) rfl⟩
theorem ss_X11_within : Cond.static yX11_within ∈ lw_g := lg_in (tk_2 (List.mem_of_getElem? (i := 182) (by decide +kernel))) rfl
theorem pa_X11_within : pars mX11_within 3 := ⟨⟨by decide, by decide⟩, by decide +kernel, by decide, lg_in (tk_2 (List.mem_of_getElem? (i := 183) (by decide +kernel))) rfl, lg_in (tk_1 (List.mem_of_getElem? (i := 1) (by decide +kernel))) rfl⟩
theorem ss_X11_isKm : Cond.static yX11_isKm ∈ lw_g := lg_in (tk_2 (List.mem_of_getElem? (i := 179) (by decide +kernel))) rfl
theorem pa_X11_isKm : pars mX11_isKm 1 := ⟨⟨by decide, by decide⟩, by decide +kernel, by decide, lg_in (tk_2 (List.mem_of_getElem? (i := 180) (by decide +kernel))) rfl, lg_in (tk_1 (List.mem_of_getElem? (i := 1) (by decide +kernel))) rfl⟩
theorem im_X11_areTwo : Cond.instanceMethod yX11_areTwo ∈ lw_g := lg_in (tk_3 (List.mem_of_getElem? (i := 31) (by decide +kernel))) rfl
theorem se_X11_areTwo : Cond.selects RX11 yX11_areTwo yX11_areTwo ∈ lw_g := lg_in (tk_p (List.mem_of_getElem? (i := 1) (by decide +kernel))) rfl
theorem pa_X11_areTwo : pars mX11_areTwo 2 := ⟨⟨by decide, by decide⟩, by decide +kernel, by decide, lg_in (tk_3 (List.mem_of_getElem? (i := 32) (by decide +kernel))) rfl, lg_in (tk_1 (List.mem_of_getElem? (i := 1) (by decide +kernel))) rfl⟩
theorem im_X11_firstUnlike : Cond.instanceMethod yX11_firstUnlike ∈ lw_g := lg_in (tk_4 (List.mem_of_getElem? (i := 226) (by decide +kernel))) rfl
theorem se_X11_firstUnlike : Cond.selects RX11 yX11_firstUnlike yX11_firstUnlike ∈ lw_g := lg_in (tk_p (List.mem_of_getElem? (i := 21) (by decide +kernel))) rfl
theorem pa_X11_firstUnlike : pars mX11_firstUnlike 2 := ⟨⟨by decide, by decide⟩, by decide +kernel, by decide, lg_in (tk_4 (List.mem_of_getElem? (i := 227) (by decide +kernel))) rfl, lg_in (tk_1 (List.mem_of_getElem? (i := 1) (by decide +kernel))) rfl⟩
theorem ss_X11_held : Cond.static yX11_held ∈ lw_g := lg_in (tk_3 (List.mem_of_getElem? (i := 129) (by decide +kernel))) rfl
theorem pa_X11_held : pars mX11_held 3 := ⟨⟨by decide, by decide⟩, by decide +kernel, by decide, lg_in (tk_3 (List.mem_of_getElem? (i := 130) (by decide +kernel))) rfl, lg_in (tk_1 (List.mem_of_getElem? (i := 1) (by decide +kernel))) rfl⟩
theorem ss_X11_quotient : Cond.static yX11_quotient ∈ lw_g := lg_in (tk_3 (List.mem_of_getElem? (i := 97) (by decide +kernel))) rfl
theorem pa_X11_quotient : pars mX11_quotient 2 := ⟨⟨by decide, by decide⟩, by decide +kernel, by decide, lg_in (tk_3 (List.mem_of_getElem? (i := 98) (by decide +kernel))) rfl, lg_in (tk_1 (List.mem_of_getElem? (i := 1) (by decide +kernel))) rfl⟩
theorem ss_X11_common : Cond.static yX11_common ∈ lw_g := lg_in (tk_4 (List.mem_of_getElem? (i := 152) (by decide +kernel))) rfl
theorem pa_X11_common : pars mX11_common 2 := ⟨⟨by decide, by decide⟩, by decide +kernel, by decide, lg_in (tk_4 (List.mem_of_getElem? (i := 153) (by decide +kernel))) rfl, lg_in (tk_1 (List.mem_of_getElem? (i := 1) (by decide +kernel))) rfl⟩
theorem ss_X11_partOf : Cond.static yX11_partOf ∈ lw_g := lg_in (tk_4 (List.mem_of_getElem? (i := 146) (by decide +kernel))) rfl
theorem pa_X11_partOf : pars mX11_partOf 3 := ⟨⟨by decide, by decide⟩, by decide +kernel, by decide, lg_in (tk_4 (List.mem_of_getElem? (i := 147) (by decide +kernel))) rfl, lg_in (tk_1 (List.mem_of_getElem? (i := 1) (by decide +kernel))) rfl⟩
theorem im_X12_init : Cond.instanceMethod yX12_init ∈ lw_g := lg_in (tk_5 (List.mem_of_getElem? (i := 89) (by decide +kernel))) rfl
theorem pa_X12_init : pars mX12_init 0 := ⟨⟨by decide, by decide⟩, by decide +kernel, by decide, lg_in (tk_5 (List.mem_of_getElem? (i := 90) (by decide +kernel))) rfl, lg_in (tk_1 (List.mem_of_getElem? (i := 12) (by decide +kernel))) rfl⟩
theorem im_X12_finds : Cond.instanceMethod yX12_finds ∈ lw_g := lg_in (tk_5 (List.mem_of_getElem? (i := 217) (by decide +kernel))) rfl
theorem se_X12_finds : Cond.selects RX12 yX12_finds yX12_finds ∈ lw_g := lg_in (tk_p (List.mem_of_getElem? (i := 26) (by decide +kernel))) rfl
theorem pa_X12_finds : pars mX12_finds 1 := ⟨⟨by decide, by decide⟩, by decide +kernel, by decide, lg_in (tk_5 (List.mem_of_getElem? (i := 218) (by decide +kernel))) rfl, lg_in (tk_1 (List.mem_of_getElem? (i := 12) (by decide +kernel))) rfl⟩
theorem ss_X12_in : Cond.static yX12_in ∈ lw_g := lg_in (tk_5 (List.mem_of_getElem? (i := 213) (by decide +kernel))) rfl
theorem pa_X12_in : pars mX12_in 3 := ⟨⟨by decide, by decide⟩, by decide +kernel, by decide, lg_in (tk_5 (List.mem_of_getElem? (i := 214) (by decide +kernel))) rfl, lg_in (tk_1 (List.mem_of_getElem? (i := 12) (by decide +kernel))) rfl⟩
theorem ss_X12_held : Cond.static yX12_held ∈ lw_g := lg_in (tk_6 (List.mem_of_getElem? (i := 41) (by decide +kernel))) rfl
theorem pa_X12_held : pars mX12_held 3 := ⟨⟨by decide, by decide⟩, by decide +kernel, by decide, lg_in (tk_6 (List.mem_of_getElem? (i := 42) (by decide +kernel))) rfl, lg_in (tk_1 (List.mem_of_getElem? (i := 12) (by decide +kernel))) rfl⟩
theorem im_X12_isParty : Cond.instanceMethod yX12_isParty ∈ lw_g := lg_in (tk_6 (List.mem_of_getElem? (i := 58) (by decide +kernel))) rfl
theorem se_X12_isParty : Cond.selects RX12 yX12_isParty yX12_isParty ∈ lw_g := lg_in (tk_p (List.mem_of_getElem? (i := 40) (by decide +kernel))) rfl
theorem pa_X12_isParty : pars mX12_isParty 1 := ⟨⟨by decide, by decide⟩, by decide +kernel, by decide, lg_in (tk_6 (List.mem_of_getElem? (i := 59) (by decide +kernel))) rfl, lg_in (tk_1 (List.mem_of_getElem? (i := 12) (by decide +kernel))) rfl⟩
theorem im_X12_isWord : Cond.instanceMethod yX12_isWord ∈ lw_g := lg_in (tk_6 (List.mem_of_getElem? (i := 110) (by decide +kernel))) rfl
theorem se_X12_isWord : Cond.selects RX12 yX12_isWord yX12_isWord ∈ lw_g := lg_in (tk_p (List.mem_of_getElem? (i := 47) (by decide +kernel))) rfl
theorem pa_X12_isWord : pars mX12_isWord 1 := ⟨⟨by decide, by decide⟩, by decide +kernel, by decide, lg_in (tk_6 (List.mem_of_getElem? (i := 111) (by decide +kernel))) rfl, lg_in (tk_1 (List.mem_of_getElem? (i := 12) (by decide +kernel))) rfl⟩
theorem im_X12_of : Cond.instanceMethod yX12_of ∈ lw_g := lg_in (tk_6 (List.mem_of_getElem? (i := 63) (by decide +kernel))) rfl
theorem se_X12_of : Cond.selects RX12 yX12_of yX12_of ∈ lw_g := lg_in (tk_p (List.mem_of_getElem? (i := 41) (by decide +kernel))) rfl
theorem pa_X12_of : pars mX12_of 2 := ⟨⟨by decide, by decide⟩, by decide +kernel, by decide, lg_in (tk_6 (List.mem_of_getElem? (i := 64) (by decide +kernel))) rfl, lg_in (tk_1 (List.mem_of_getElem? (i := 12) (by decide +kernel))) rfl⟩
theorem im_X12_sets : Cond.instanceMethod yX12_sets ∈ lw_g := lg_in (tk_6 (List.mem_of_getElem? (i := 50) (by decide +kernel))) rfl
theorem se_X12_sets : Cond.selects RX12 yX12_sets yX12_sets ∈ lw_g := lg_in (tk_p (List.mem_of_getElem? (i := 39) (by decide +kernel))) rfl
theorem pa_X12_sets : pars mX12_sets 3 := ⟨⟨by decide, by decide⟩, by decide +kernel, by decide, lg_in (tk_6 (List.mem_of_getElem? (i := 51) (by decide +kernel))) rfl, lg_in (tk_1 (List.mem_of_getElem? (i := 12) (by decide +kernel))) rfl⟩
theorem im_X12_its : Cond.instanceMethod yX12_its ∈ lw_g := lg_in (tk_6 (List.mem_of_getElem? (i := 79) (by decide +kernel))) rfl
theorem se_X12_its : Cond.selects RX12 yX12_its yX12_its ∈ lw_g := lg_in (tk_p (List.mem_of_getElem? (i := 45) (by decide +kernel))) rfl
theorem pa_X12_its : pars mX12_its 2 := ⟨⟨by decide, by decide⟩, by decide +kernel, by decide, lg_in (tk_6 (List.mem_of_getElem? (i := 80) (by decide +kernel))) rfl, lg_in (tk_1 (List.mem_of_getElem? (i := 12) (by decide +kernel))) rfl⟩
theorem im_X12_puts : Cond.instanceMethod yX12_puts ∈ lw_g := lg_in (tk_6 (List.mem_of_getElem? (i := 102) (by decide +kernel))) rfl
theorem se_X12_puts : Cond.selects RX12 yX12_puts yX12_puts ∈ lw_g := lg_in (tk_p (List.mem_of_getElem? (i := 46) (by decide +kernel))) rfl
theorem pa_X12_puts : pars mX12_puts 3 := ⟨⟨by decide, by decide⟩, by decide +kernel, by decide, lg_in (tk_6 (List.mem_of_getElem? (i := 103) (by decide +kernel))) rfl, lg_in (tk_1 (List.mem_of_getElem? (i := 12) (by decide +kernel))) rfl⟩
theorem im_X12_keepAside : Cond.instanceMethod yX12_keepAside ∈ lw_g := lg_in (tk_6 (List.mem_of_getElem? (i := 197) (by decide +kernel))) rfl
theorem se_X12_keepAside : Cond.selects RX12 yX12_keepAside yX12_keepAside ∈ lw_g := lg_in (tk_p (List.mem_of_getElem? (i := 57) (by decide +kernel))) rfl
theorem pa_X12_keepAside : pars mX12_keepAside 0 := ⟨⟨by decide, by decide⟩, by decide +kernel, by decide, lg_in (tk_6 (List.mem_of_getElem? (i := 198) (by decide +kernel))) rfl, lg_in (tk_1 (List.mem_of_getElem? (i := 12) (by decide +kernel))) rfl⟩
theorem im_X12_putBack : Cond.instanceMethod yX12_putBack ∈ lw_g := lg_in (tk_6 (List.mem_of_getElem? (i := 201) (by decide +kernel))) rfl
theorem se_X12_putBack : Cond.selects RX12 yX12_putBack yX12_putBack ∈ lw_g := lg_in (tk_p (List.mem_of_getElem? (i := 58) (by decide +kernel))) rfl
theorem pa_X12_putBack : pars mX12_putBack 0 := ⟨⟨by decide, by decide⟩, by decide +kernel, by decide, lg_in (tk_6 (List.mem_of_getElem? (i := 202) (by decide +kernel))) rfl, lg_in (tk_1 (List.mem_of_getElem? (i := 12) (by decide +kernel))) rfl⟩
theorem im_X12_here : Cond.instanceMethod yX12_here ∈ lw_g := lg_in (tk_6 (List.mem_of_getElem? (i := 15) (by decide +kernel))) rfl
theorem se_X12_here : Cond.selects RX12 yX12_here yX12_here ∈ lw_g := lg_in (tk_p (List.mem_of_getElem? (i := 34) (by decide +kernel))) rfl
theorem pa_X12_here : pars mX12_here 0 := ⟨⟨by decide, by decide⟩, by decide +kernel, by decide, lg_in (tk_6 (List.mem_of_getElem? (i := 16) (by decide +kernel))) rfl, lg_in (tk_1 (List.mem_of_getElem? (i := 12) (by decide +kernel))) rfl⟩
theorem im_X12_wrong : Cond.instanceMethod yX12_wrong ∈ lw_g := lg_in (tk_6 (List.mem_of_getElem? (i := 19) (by decide +kernel))) rfl
theorem se_X12_wrong : Cond.selects RX12 yX12_wrong yX12_wrong ∈ lw_g := lg_in (tk_p (List.mem_of_getElem? (i := 35) (by decide +kernel))) rfl
theorem pa_X12_wrong : pars mX12_wrong 0 := ⟨⟨by decide, by decide⟩, by decide +kernel, by decide, lg_in (tk_6 (List.mem_of_getElem? (i := 20) (by decide +kernel))) rfl, lg_in (tk_1 (List.mem_of_getElem? (i := 12) (by decide +kernel))) rfl⟩
theorem im_X12_takes : Cond.instanceMethod yX12_takes ∈ lw_g := lg_in (tk_6 (List.mem_of_getElem? (i := 23) (by decide +kernel))) rfl
theorem se_X12_takes : Cond.selects RX12 yX12_takes yX12_takes ∈ lw_g := lg_in (tk_p (List.mem_of_getElem? (i := 36) (by decide +kernel))) rfl
theorem pa_X12_takes : pars mX12_takes 1 := ⟨⟨by decide, by decide⟩, by decide +kernel, by decide, lg_in (tk_6 (List.mem_of_getElem? (i := 24) (by decide +kernel))) rfl, lg_in (tk_1 (List.mem_of_getElem? (i := 12) (by decide +kernel))) rfl⟩
theorem im_X12_nameOf : Cond.instanceMethod yX12_nameOf ∈ lw_g := lg_in (tk_6 (List.mem_of_getElem? (i := 27) (by decide +kernel))) rfl
theorem se_X12_nameOf : Cond.selects RX12 yX12_nameOf yX12_nameOf ∈ lw_g := lg_in (tk_p (List.mem_of_getElem? (i := 37) (by decide +kernel))) rfl
theorem pa_X12_nameOf : pars mX12_nameOf 1 := ⟨⟨by decide, by decide⟩, by decide +kernel, by decide, lg_in (tk_6 (List.mem_of_getElem? (i := 28) (by decide +kernel))) rfl, lg_in (tk_1 (List.mem_of_getElem? (i := 12) (by decide +kernel))) rfl⟩
theorem im_X12_either : Cond.instanceMethod yX12_either ∈ lw_g := lg_in (tk_5 (List.mem_of_getElem? (i := 231) (by decide +kernel))) rfl
theorem se_X12_either : Cond.selects RX12 yX12_either yX12_either ∈ lw_g := lg_in (tk_p (List.mem_of_getElem? (i := 28) (by decide +kernel))) rfl
theorem pa_X12_either : pars mX12_either 0 := ⟨⟨by decide, by decide⟩, by decide +kernel, by decide, lg_in (tk_5 (List.mem_of_getElem? (i := 232) (by decide +kernel))) rfl, lg_in (tk_1 (List.mem_of_getElem? (i := 12) (by decide +kernel))) rfl⟩
theorem im_X12_both : Cond.instanceMethod yX12_both ∈ lw_g := lg_in (tk_5 (List.mem_of_getElem? (i := 235) (by decide +kernel))) rfl
theorem se_X12_both : Cond.selects RX12 yX12_both yX12_both ∈ lw_g := lg_in (tk_p (List.mem_of_getElem? (i := 29) (by decide +kernel))) rfl
theorem pa_X12_both : pars mX12_both 0 := ⟨⟨by decide, by decide⟩, by decide +kernel, by decide, lg_in (tk_5 (List.mem_of_getElem? (i := 236) (by decide +kernel))) rfl, lg_in (tk_1 (List.mem_of_getElem? (i := 12) (by decide +kernel))) rfl⟩
theorem im_X12_compared : Cond.instanceMethod yX12_compared ∈ lw_g := lg_in (tk_5 (List.mem_of_getElem? (i := 239) (by decide +kernel))) rfl
theorem se_X12_compared : Cond.selects RX12 yX12_compared yX12_compared ∈ lw_g := lg_in (tk_p (List.mem_of_getElem? (i := 30) (by decide +kernel))) rfl
theorem pa_X12_compared : pars mX12_compared 0 := ⟨⟨by decide, by decide⟩, by decide +kernel, by decide, lg_in (tk_6 (List.mem_of_getElem? (i := 0) (by decide +kernel))) rfl, lg_in (tk_1 (List.mem_of_getElem? (i := 12) (by decide +kernel))) rfl⟩
theorem im_X12_sum : Cond.instanceMethod yX12_sum ∈ lw_g := lg_in (tk_6 (List.mem_of_getElem? (i := 3) (by decide +kernel))) rfl
theorem se_X12_sum : Cond.selects RX12 yX12_sum yX12_sum ∈ lw_g := lg_in (tk_p (List.mem_of_getElem? (i := 31) (by decide +kernel))) rfl
theorem pa_X12_sum : pars mX12_sum 0 := ⟨⟨by decide, by decide⟩, by decide +kernel, by decide, lg_in (tk_6 (List.mem_of_getElem? (i := 4) (by decide +kernel))) rfl, lg_in (tk_1 (List.mem_of_getElem? (i := 12) (by decide +kernel))) rfl⟩
theorem im_X12_product : Cond.instanceMethod yX12_product ∈ lw_g := lg_in (tk_6 (List.mem_of_getElem? (i := 7) (by decide +kernel))) rfl
theorem se_X12_product : Cond.selects RX12 yX12_product yX12_product ∈ lw_g := lg_in (tk_p (List.mem_of_getElem? (i := 32) (by decide +kernel))) rfl
theorem pa_X12_product : pars mX12_product 0 := ⟨⟨by decide, by decide⟩, by decide +kernel, by decide, lg_in (tk_6 (List.mem_of_getElem? (i := 8) (by decide +kernel))) rfl, lg_in (tk_1 (List.mem_of_getElem? (i := 12) (by decide +kernel))) rfl⟩
theorem im_X12_unit : Cond.instanceMethod yX12_unit ∈ lw_g := lg_in (tk_6 (List.mem_of_getElem? (i := 11) (by decide +kernel))) rfl
theorem se_X12_unit : Cond.selects RX12 yX12_unit yX12_unit ∈ lw_g := lg_in (tk_p (List.mem_of_getElem? (i := 33) (by decide +kernel))) rfl
theorem pa_X12_unit : pars mX12_unit 0 := ⟨⟨by decide, by decide⟩, by decide +kernel, by decide, lg_in (tk_6 (List.mem_of_getElem? (i := 12) (by decide +kernel))) rfl, lg_in (tk_1 (List.mem_of_getElem? (i := 12) (by decide +kernel))) rfl⟩
theorem im_X12_worked : Cond.instanceMethod yX12_worked ∈ lw_g := lg_in (tk_5 (List.mem_of_getElem? (i := 227) (by decide +kernel))) rfl
theorem se_X12_worked : Cond.selects RX12 yX12_worked yX12_worked ∈ lw_g := lg_in (tk_p (List.mem_of_getElem? (i := 27) (by decide +kernel))) rfl
theorem pa_X12_worked : pars mX12_worked 3 := ⟨⟨by decide, by decide⟩, by decide +kernel, by decide, lg_in (tk_5 (List.mem_of_getElem? (i := 228) (by decide +kernel))) rfl, lg_in (tk_1 (List.mem_of_getElem? (i := 12) (by decide +kernel))) rfl⟩
theorem im_X12_feed : Cond.instanceMethod yX12_feed ∈ lw_g := lg_in (tk_5 (List.mem_of_getElem? (i := 208) (by decide +kernel))) rfl
theorem se_X12_feed : Cond.selects RX12 yX12_feed yX12_feed ∈ lw_g := lg_in (tk_5 (List.mem_of_getElem? (i := 209) (by decide +kernel))) rfl
theorem pa_X12_feed : pars mX12_feed 2 := ⟨⟨by decide, by decide⟩, by decide +kernel, by decide, lg_in (tk_5 (List.mem_of_getElem? (i := 210) (by decide +kernel))) rfl, lg_in (tk_1 (List.mem_of_getElem? (i := 12) (by decide +kernel))) rfl⟩
theorem im_X12_text : Cond.instanceMethod yX12_text ∈ lw_g := lg_in (tk_5 (List.mem_of_getElem? (i := 222) (by decide +kernel))) rfl
theorem se_X12_text : Cond.selects RX12 yX12_text yX12_text ∈ lw_g := lg_in (tk_5 (List.mem_of_getElem? (i := 223) (by decide +kernel))) rfl
theorem pa_X12_text : pars mX12_text 1 := ⟨⟨by decide, by decide⟩, by decide +kernel, by decide, lg_in (tk_5 (List.mem_of_getElem? (i := 224) (by decide +kernel))) rfl, lg_in (tk_1 (List.mem_of_getElem? (i := 12) (by decide +kernel))) rfl⟩
theorem im_X12_textGives : Cond.instanceMethod yX12_textGives ∈ lw_g := lg_in (tk_6 (List.mem_of_getElem? (i := 38) (by decide +kernel))) rfl
theorem se_X12_textGives : Cond.selects RX12 yX12_textGives yX12_textGives ∈ lw_g := lg_in (tk_p (List.mem_of_getElem? (i := 38) (by decide +kernel))) rfl
theorem pa_X12_textGives : pars mX12_textGives 4 := ⟨⟨by decide, by decide⟩, by decide +kernel, by decide, lg_in (tk_6 (List.mem_of_getElem? (i := 39) (by decide +kernel))) rfl, lg_in (tk_1 (List.mem_of_getElem? (i := 12) (by decide +kernel))) rfl⟩
theorem im_X12_law : Cond.instanceMethod yX12_law ∈ lw_g := lg_in (tk_6 (List.mem_of_getElem? (i := 32) (by decide +kernel))) rfl
theorem se_X12_law : Cond.selects RX12 yX12_law yX12_law ∈ lw_g := lg_in (tk_6 (List.mem_of_getElem? (i := 33) (by decide +kernel))) rfl
theorem pa_X12_law : pars mX12_law 4 := ⟨⟨by decide, by decide⟩, by decide +kernel, by decide, lg_in (tk_6 (List.mem_of_getElem? (i := 34) (by decide +kernel))) rfl, lg_in (tk_1 (List.mem_of_getElem? (i := 12) (by decide +kernel))) rfl⟩
theorem im_X12_runs : Cond.instanceMethod yX12_runs ∈ lw_g := lg_in (tk_6 (List.mem_of_getElem? (i := 67) (by decide +kernel))) rfl
theorem se_X12_runs : Cond.selects RX12 yX12_runs yX12_runs ∈ lw_g := lg_in (tk_p (List.mem_of_getElem? (i := 42) (by decide +kernel))) rfl
theorem pa_X12_runs : pars mX12_runs 1 := ⟨⟨by decide, by decide⟩, by decide +kernel, by decide, lg_in (tk_6 (List.mem_of_getElem? (i := 68) (by decide +kernel))) rfl, lg_in (tk_1 (List.mem_of_getElem? (i := 12) (by decide +kernel))) rfl⟩
theorem im_X12_drips : Cond.instanceMethod yX12_drips ∈ lw_g := lg_in (tk_6 (List.mem_of_getElem? (i := 71) (by decide +kernel))) rfl
theorem se_X12_drips : Cond.selects RX12 yX12_drips yX12_drips ∈ lw_g := lg_in (tk_p (List.mem_of_getElem? (i := 43) (by decide +kernel))) rfl
theorem pa_X12_drips : pars mX12_drips 1 := ⟨⟨by decide, by decide⟩, by decide +kernel, by decide, lg_in (tk_6 (List.mem_of_getElem? (i := 72) (by decide +kernel))) rfl, lg_in (tk_1 (List.mem_of_getElem? (i := 12) (by decide +kernel))) rfl⟩
theorem ss_X12_above : Cond.static yX12_above ∈ lw_g := lg_in (tk_6 (List.mem_of_getElem? (i := 91) (by decide +kernel))) rfl
theorem pa_X12_above : pars mX12_above 1 := ⟨⟨by decide, by decide⟩, by decide +kernel, by decide, lg_in (tk_6 (List.mem_of_getElem? (i := 92) (by decide +kernel))) rfl, lg_in (tk_1 (List.mem_of_getElem? (i := 12) (by decide +kernel))) rfl⟩
theorem im_X12_party : Cond.instanceMethod yX12_party ∈ lw_g := lg_in (tk_6 (List.mem_of_getElem? (i := 44) (by decide +kernel))) rfl
theorem se_X12_party : Cond.selects RX12 yX12_party yX12_party ∈ lw_g := lg_in (tk_6 (List.mem_of_getElem? (i := 45) (by decide +kernel))) rfl
theorem pa_X12_party : pars mX12_party 2 := ⟨⟨by decide, by decide⟩, by decide +kernel, by decide, lg_in (tk_6 (List.mem_of_getElem? (i := 46) (by decide +kernel))) rfl, lg_in (tk_1 (List.mem_of_getElem? (i := 12) (by decide +kernel))) rfl⟩
theorem im_X12_saidOf : Cond.instanceMethod yX12_saidOf ∈ lw_g := lg_in (tk_6 (List.mem_of_getElem? (i := 75) (by decide +kernel))) rfl
theorem se_X12_saidOf : Cond.selects RX12 yX12_saidOf yX12_saidOf ∈ lw_g := lg_in (tk_p (List.mem_of_getElem? (i := 44) (by decide +kernel))) rfl
theorem pa_X12_saidOf : pars mX12_saidOf 1 := ⟨⟨by decide, by decide⟩, by decide +kernel, by decide, lg_in (tk_6 (List.mem_of_getElem? (i := 76) (by decide +kernel))) rfl, lg_in (tk_1 (List.mem_of_getElem? (i := 12) (by decide +kernel))) rfl⟩
theorem im_X12_ofParty : Cond.instanceMethod yX12_ofParty ∈ lw_g := lg_in (tk_6 (List.mem_of_getElem? (i := 53) (by decide +kernel))) rfl
theorem se_X12_ofParty : Cond.selects RX12 yX12_ofParty yX12_ofParty ∈ lw_g := lg_in (tk_6 (List.mem_of_getElem? (i := 54) (by decide +kernel))) rfl
theorem pa_X12_ofParty : pars mX12_ofParty 2 := ⟨⟨by decide, by decide⟩, by decide +kernel, by decide, lg_in (tk_6 (List.mem_of_getElem? (i := 55) (by decide +kernel))) rfl, lg_in (tk_1 (List.mem_of_getElem? (i := 12) (by decide +kernel))) rfl⟩
theorem im_X12_become : Cond.instanceMethod yX12_become ∈ lw_g := lg_in (tk_6 (List.mem_of_getElem? (i := 82) (by decide +kernel))) rfl
theorem se_X12_become : Cond.selects RX12 yX12_become yX12_become ∈ lw_g := lg_in (tk_6 (List.mem_of_getElem? (i := 83) (by decide +kernel))) rfl
theorem pa_X12_become : pars mX12_become 2 := ⟨⟨by decide, by decide⟩, by decide +kernel, by decide, lg_in (tk_6 (List.mem_of_getElem? (i := 84) (by decide +kernel))) rfl, lg_in (tk_1 (List.mem_of_getElem? (i := 12) (by decide +kernel))) rfl⟩
theorem im_X12_as : Cond.instanceMethod yX12_as ∈ lw_g := lg_in (tk_6 (List.mem_of_getElem? (i := 86) (by decide +kernel))) rfl
theorem se_X12_as : Cond.selects RX12 yX12_as yX12_as ∈ lw_g := lg_in (tk_6 (List.mem_of_getElem? (i := 87) (by decide +kernel))) rfl
theorem pa_X12_as : pars mX12_as 2 := ⟨⟨by decide, by decide⟩, by decide +kernel, by decide, lg_in (tk_6 (List.mem_of_getElem? (i := 88) (by decide +kernel))) rfl, lg_in (tk_1 (List.mem_of_getElem? (i := 12) (by decide +kernel))) rfl⟩
theorem im_X12_word : Cond.instanceMethod yX12_word ∈ lw_g := lg_in (tk_6 (List.mem_of_getElem? (i := 94) (by decide +kernel))) rfl
theorem se_X12_word : Cond.selects RX12 yX12_word yX12_word ∈ lw_g := lg_in (tk_6 (List.mem_of_getElem? (i := 95) (by decide +kernel))) rfl
theorem pa_X12_word : pars mX12_word 4 := ⟨⟨by decide, by decide⟩, by decide +kernel, by decide, lg_in (tk_6 (List.mem_of_getElem? (i := 96) (by decide +kernel))) rfl, lg_in (tk_1 (List.mem_of_getElem? (i := 12) (by decide +kernel))) rfl⟩
theorem im_X12_ofWord : Cond.instanceMethod yX12_ofWord ∈ lw_g := lg_in (tk_6 (List.mem_of_getElem? (i := 105) (by decide +kernel))) rfl
theorem se_X12_ofWord : Cond.selects RX12 yX12_ofWord yX12_ofWord ∈ lw_g := lg_in (tk_6 (List.mem_of_getElem? (i := 106) (by decide +kernel))) rfl
theorem pa_X12_ofWord : pars mX12_ofWord 2 := ⟨⟨by decide, by decide⟩, by decide +kernel, by decide, lg_in (tk_6 (List.mem_of_getElem? (i := 107) (by decide +kernel))) rfl, lg_in (tk_1 (List.mem_of_getElem? (i := 12) (by decide +kernel))) rfl⟩
theorem im_X12_set : Cond.instanceMethod yX12_set ∈ lw_g := lg_in (tk_6 (List.mem_of_getElem? (i := 114) (by decide +kernel))) rfl
theorem se_X12_set : Cond.selects RX12 yX12_set yX12_set ∈ lw_g := lg_in (tk_6 (List.mem_of_getElem? (i := 115) (by decide +kernel))) rfl
theorem pa_X12_set : pars mX12_set 3 := ⟨⟨by decide, by decide⟩, by decide +kernel, by decide, lg_in (tk_6 (List.mem_of_getElem? (i := 116) (by decide +kernel))) rfl, lg_in (tk_1 (List.mem_of_getElem? (i := 12) (by decide +kernel))) rfl⟩
theorem im_X12_spills : Cond.instanceMethod yX12_spills ∈ lw_g := lg_in (tk_6 (List.mem_of_getElem? (i := 140) (by decide +kernel))) rfl
theorem se_X12_spills : Cond.selects RX12 yX12_spills yX12_spills ∈ lw_g := lg_in (tk_p (List.mem_of_getElem? (i := 50) (by decide +kernel))) rfl
theorem pa_X12_spills : pars mX12_spills 1 := ⟨⟨by decide, by decide⟩, by decide +kernel, by decide, lg_in (tk_6 (List.mem_of_getElem? (i := 141) (by decide +kernel))) rfl, lg_in (tk_1 (List.mem_of_getElem? (i := 12) (by decide +kernel))) rfl⟩
theorem im_X12_loses : Cond.instanceMethod yX12_loses ∈ lw_g := lg_in (tk_6 (List.mem_of_getElem? (i := 128) (by decide +kernel))) rfl
theorem se_X12_loses : Cond.selects RX12 yX12_loses yX12_loses ∈ lw_g := lg_in (tk_p (List.mem_of_getElem? (i := 48) (by decide +kernel))) rfl
theorem pa_X12_loses : pars mX12_loses 2 := ⟨⟨by decide, by decide⟩, by decide +kernel, by decide, lg_in (tk_6 (List.mem_of_getElem? (i := 129) (by decide +kernel))) rfl, lg_in (tk_1 (List.mem_of_getElem? (i := 12) (by decide +kernel))) rfl⟩
theorem im_X12_fetch : Cond.instanceMethod yX12_fetch ∈ lw_g := lg_in (tk_6 (List.mem_of_getElem? (i := 119) (by decide +kernel))) rfl
theorem se_X12_fetch : Cond.selects RX12 yX12_fetch yX12_fetch ∈ lw_g := lg_in (tk_6 (List.mem_of_getElem? (i := 120) (by decide +kernel))) rfl
theorem pa_X12_fetch : pars mX12_fetch 2 := ⟨⟨by decide, by decide⟩, by decide +kernel, by decide, lg_in (tk_6 (List.mem_of_getElem? (i := 121) (by decide +kernel))) rfl, lg_in (tk_1 (List.mem_of_getElem? (i := 12) (by decide +kernel))) rfl⟩
theorem im_X12_pour : Cond.instanceMethod yX12_pour ∈ lw_g := lg_in (tk_6 (List.mem_of_getElem? (i := 123) (by decide +kernel))) rfl
theorem se_X12_pour : Cond.selects RX12 yX12_pour yX12_pour ∈ lw_g := lg_in (tk_6 (List.mem_of_getElem? (i := 124) (by decide +kernel))) rfl
theorem pa_X12_pour : pars mX12_pour 3 := ⟨⟨by decide, by decide⟩, by decide +kernel, by decide, lg_in (tk_6 (List.mem_of_getElem? (i := 125) (by decide +kernel))) rfl, lg_in (tk_1 (List.mem_of_getElem? (i := 12) (by decide +kernel))) rfl⟩
theorem im_X12_speaks : Cond.instanceMethod yX12_speaks ∈ lw_g := lg_in (tk_6 (List.mem_of_getElem? (i := 136) (by decide +kernel))) rfl
theorem se_X12_speaks : Cond.selects RX12 yX12_speaks yX12_speaks ∈ lw_g := lg_in (tk_p (List.mem_of_getElem? (i := 49) (by decide +kernel))) rfl
theorem pa_X12_speaks : pars mX12_speaks 0 := ⟨⟨by decide, by decide⟩, by decide +kernel, by decide, lg_in (tk_6 (List.mem_of_getElem? (i := 137) (by decide +kernel))) rfl, lg_in (tk_1 (List.mem_of_getElem? (i := 12) (by decide +kernel))) rfl⟩
theorem im_X12_object : Cond.instanceMethod yX12_object ∈ lw_g := lg_in (tk_6 (List.mem_of_getElem? (i := 131) (by decide +kernel))) rfl
theorem se_X12_object : Cond.selects RX12 yX12_object yX12_object ∈ lw_g := lg_in (tk_6 (List.mem_of_getElem? (i := 132) (by decide +kernel))) rfl
theorem pa_X12_object : pars mX12_object 2 := ⟨⟨by decide, by decide⟩, by decide +kernel, by decide, lg_in (tk_6 (List.mem_of_getElem? (i := 133) (by decide +kernel))) rfl, lg_in (tk_1 (List.mem_of_getElem? (i := 12) (by decide +kernel))) rfl⟩
theorem im_X12_thumb : Cond.instanceMethod yX12_thumb ∈ lw_g := lg_in (tk_6 (List.mem_of_getElem? (i := 144) (by decide +kernel))) rfl
theorem se_X12_thumb : Cond.selects RX12 yX12_thumb yX12_thumb ∈ lw_g := lg_in (tk_6 (List.mem_of_getElem? (i := 145) (by decide +kernel))) rfl
theorem pa_X12_thumb : pars mX12_thumb 1 := ⟨⟨by decide, by decide⟩, by decide +kernel, by decide, lg_in (tk_6 (List.mem_of_getElem? (i := 146) (by decide +kernel))) rfl, lg_in (tk_1 (List.mem_of_getElem? (i := 12) (by decide +kernel))) rfl⟩
theorem im_X12_isReady : Cond.instanceMethod yX12_isReady ∈ lw_g := lg_in (tk_6 (List.mem_of_getElem? (i := 153) (by decide +kernel))) rfl
theorem se_X12_isReady : Cond.selects RX12 yX12_isReady yX12_isReady ∈ lw_g := lg_in (tk_p (List.mem_of_getElem? (i := 51) (by decide +kernel))) rfl
theorem pa_X12_isReady : pars mX12_isReady 1 := ⟨⟨by decide, by decide⟩, by decide +kernel, by decide, lg_in (tk_6 (List.mem_of_getElem? (i := 154) (by decide +kernel))) rfl, lg_in (tk_1 (List.mem_of_getElem? (i := 12) (by decide +kernel))) rfl⟩
theorem im_X12_begins : Cond.instanceMethod yX12_begins ∈ lw_g := lg_in (tk_6 (List.mem_of_getElem? (i := 157) (by decide +kernel))) rfl
theorem se_X12_begins : Cond.selects RX12 yX12_begins yX12_begins ∈ lw_g := lg_in (tk_p (List.mem_of_getElem? (i := 52) (by decide +kernel))) rfl
theorem pa_X12_begins : pars mX12_begins 1 := ⟨⟨by decide, by decide⟩, by decide +kernel, by decide, lg_in (tk_6 (List.mem_of_getElem? (i := 158) (by decide +kernel))) rfl, lg_in (tk_1 (List.mem_of_getElem? (i := 12) (by decide +kernel))) rfl⟩
theorem im_X12_ends : Cond.instanceMethod yX12_ends ∈ lw_g := lg_in (tk_6 (List.mem_of_getElem? (i := 165) (by decide +kernel))) rfl
theorem se_X12_ends : Cond.selects RX12 yX12_ends yX12_ends ∈ lw_g := lg_in (tk_p (List.mem_of_getElem? (i := 53) (by decide +kernel))) rfl
theorem pa_X12_ends : pars mX12_ends 1 := ⟨⟨by decide, by decide⟩, by decide +kernel, by decide, lg_in (tk_6 (List.mem_of_getElem? (i := 166) (by decide +kernel))) rfl, lg_in (tk_1 (List.mem_of_getElem? (i := 12) (by decide +kernel))) rfl⟩
theorem im_X12_say : Cond.instanceMethod yX12_say ∈ lw_g := lg_in (tk_6 (List.mem_of_getElem? (i := 148) (by decide +kernel))) rfl
theorem se_X12_say : Cond.selects RX12 yX12_say yX12_say ∈ lw_g := lg_in (tk_6 (List.mem_of_getElem? (i := 149) (by decide +kernel))) rfl
theorem pa_X12_say : pars mX12_say 1 := ⟨⟨by decide, by decide⟩, by decide +kernel, by decide, lg_in (tk_6 (List.mem_of_getElem? (i := 150) (by decide +kernel))) rfl, lg_in (tk_1 (List.mem_of_getElem? (i := 12) (by decide +kernel))) rfl⟩
theorem im_X12_stop : Cond.instanceMethod yX12_stop ∈ lw_g := lg_in (tk_6 (List.mem_of_getElem? (i := 160) (by decide +kernel))) rfl
theorem se_X12_stop : Cond.selects RX12 yX12_stop yX12_stop ∈ lw_g := lg_in (tk_6 (List.mem_of_getElem? (i := 161) (by decide +kernel))) rfl
theorem pa_X12_stop : pars mX12_stop 0 := ⟨⟨by decide, by decide⟩, by decide +kernel, by decide, lg_in (tk_6 (List.mem_of_getElem? (i := 162) (by decide +kernel))) rfl, lg_in (tk_1 (List.mem_of_getElem? (i := 12) (by decide +kernel))) rfl⟩
theorem im_X12_earOf : Cond.instanceMethod yX12_earOf ∈ lw_g := lg_in (tk_6 (List.mem_of_getElem? (i := 179) (by decide +kernel))) rfl
theorem se_X12_earOf : Cond.selects RX12 yX12_earOf yX12_earOf ∈ lw_g := lg_in (tk_p (List.mem_of_getElem? (i := 55) (by decide +kernel))) rfl
theorem pa_X12_earOf : pars mX12_earOf 2 := ⟨⟨by decide, by decide⟩, by decide +kernel, by decide, lg_in (tk_6 (List.mem_of_getElem? (i := 180) (by decide +kernel))) rfl, lg_in (tk_1 (List.mem_of_getElem? (i := 12) (by decide +kernel))) rfl⟩
theorem im_X12_aSecond : Cond.instanceMethod yX12_aSecond ∈ lw_g := lg_in (tk_6 (List.mem_of_getElem? (i := 175) (by decide +kernel))) rfl
theorem se_X12_aSecond : Cond.selects RX12 yX12_aSecond yX12_aSecond ∈ lw_g := lg_in (tk_p (List.mem_of_getElem? (i := 54) (by decide +kernel))) rfl
theorem pa_X12_aSecond : pars mX12_aSecond 0 := ⟨⟨by decide, by decide⟩, by decide +kernel, by decide, lg_in (tk_6 (List.mem_of_getElem? (i := 176) (by decide +kernel))) rfl, lg_in (tk_1 (List.mem_of_getElem? (i := 12) (by decide +kernel))) rfl⟩
theorem im_X12_seconds : Cond.instanceMethod yX12_seconds ∈ lw_g := lg_in (tk_6 (List.mem_of_getElem? (i := 168) (by decide +kernel))) rfl
theorem se_X12_seconds : Cond.selects RX12 yX12_seconds yX12_seconds ∈ lw_g := lg_in (tk_6 (List.mem_of_getElem? (i := 169) (by decide +kernel))) rfl
theorem pa_X12_seconds : pars mX12_seconds 1 := ⟨⟨by decide, by decide⟩, by decide +kernel, by decide, lg_in (tk_6 (List.mem_of_getElem? (i := 170) (by decide +kernel))) rfl, lg_in (tk_1 (List.mem_of_getElem? (i := 12) (by decide +kernel))) rfl⟩
theorem im_X12_drawn : Cond.instanceMethod yX12_drawn ∈ lw_g := lg_in (tk_6 (List.mem_of_getElem? (i := 187) (by decide +kernel))) rfl
theorem se_X12_drawn : Cond.selects RX12 yX12_drawn yX12_drawn ∈ lw_g := lg_in (tk_p (List.mem_of_getElem? (i := 56) (by decide +kernel))) rfl
theorem pa_X12_drawn : pars mX12_drawn 0 := ⟨⟨by decide, by decide⟩, by decide +kernel, by decide, lg_in (tk_6 (List.mem_of_getElem? (i := 188) (by decide +kernel))) rfl, lg_in (tk_1 (List.mem_of_getElem? (i := 12) (by decide +kernel))) rfl⟩
theorem im_X12_loose : Cond.instanceMethod yX12_loose ∈ lw_g := lg_in (tk_6 (List.mem_of_getElem? (i := 182) (by decide +kernel))) rfl
theorem se_X12_loose : Cond.selects RX12 yX12_loose yX12_loose ∈ lw_g := lg_in (tk_6 (List.mem_of_getElem? (i := 183) (by decide +kernel))) rfl
theorem pa_X12_loose : pars mX12_loose 1 := ⟨⟨by decide, by decide⟩, by decide +kernel, by decide, lg_in (tk_6 (List.mem_of_getElem? (i := 184) (by decide +kernel))) rfl, lg_in (tk_1 (List.mem_of_getElem? (i := 12) (by decide +kernel))) rfl⟩
theorem im_X12_then : Cond.instanceMethod yX12_then ∈ lw_g := lg_in (tk_6 (List.mem_of_getElem? (i := 191) (by decide +kernel))) rfl
theorem se_X12_then : Cond.selects RX12 yX12_then yX12_then ∈ lw_g := lg_in (tk_6 (List.mem_of_getElem? (i := 192) (by decide +kernel))) rfl
theorem pa_X12_then : pars mX12_then 3 := ⟨⟨by decide, by decide⟩, by decide +kernel, by decide, lg_in (tk_6 (List.mem_of_getElem? (i := 193) (by decide +kernel))) rfl, lg_in (tk_1 (List.mem_of_getElem? (i := 12) (by decide +kernel))) rfl⟩
theorem im_X12_findPool : Cond.instanceMethod yX12_findPool ∈ lw_g := lg_in (tk_6 (List.mem_of_getElem? (i := 214) (by decide +kernel))) rfl
theorem se_X12_findPool : Cond.selects RX12 yX12_findPool yX12_findPool ∈ lw_g := lg_in (tk_p (List.mem_of_getElem? (i := 60) (by decide +kernel))) rfl
theorem pa_X12_findPool : pars mX12_findPool 1 := ⟨⟨by decide, by decide⟩, by decide +kernel, by decide, lg_in (tk_6 (List.mem_of_getElem? (i := 215) (by decide +kernel))) rfl, lg_in (tk_1 (List.mem_of_getElem? (i := 12) (by decide +kernel))) rfl⟩
theorem im_X12_mayCome : Cond.instanceMethod yX12_mayCome ∈ lw_g := lg_in (tk_6 (List.mem_of_getElem? (i := 218) (by decide +kernel))) rfl
theorem se_X12_mayCome : Cond.selects RX12 yX12_mayCome yX12_mayCome ∈ lw_g := lg_in (tk_p (List.mem_of_getElem? (i := 61) (by decide +kernel))) rfl
theorem pa_X12_mayCome : pars mX12_mayCome 4 := ⟨⟨by decide, by decide⟩, by decide +kernel, by decide, lg_in (tk_6 (List.mem_of_getElem? (i := 219) (by decide +kernel))) rfl, lg_in (tk_1 (List.mem_of_getElem? (i := 12) (by decide +kernel))) rfl⟩
theorem im_X12_findBest : Cond.instanceMethod yX12_findBest ∈ lw_g := lg_in (tk_6 (List.mem_of_getElem? (i := 210) (by decide +kernel))) rfl
theorem se_X12_findBest : Cond.selects RX12 yX12_findBest yX12_findBest ∈ lw_g := lg_in (tk_p (List.mem_of_getElem? (i := 59) (by decide +kernel))) rfl
theorem pa_X12_findBest : pars mX12_findBest 1 := ⟨⟨by decide, by decide⟩, by decide +kernel, by decide, lg_in (tk_6 (List.mem_of_getElem? (i := 211) (by decide +kernel))) rfl, lg_in (tk_1 (List.mem_of_getElem? (i := 12) (by decide +kernel))) rfl⟩
theorem im_X12_best : Cond.instanceMethod yX12_best ∈ lw_g := lg_in (tk_6 (List.mem_of_getElem? (i := 204) (by decide +kernel))) rfl
theorem se_X12_best : Cond.selects RX12 yX12_best yX12_best ∈ lw_g := lg_in (tk_6 (List.mem_of_getElem? (i := 205) (by decide +kernel))) rfl
theorem pa_X12_best : pars mX12_best 2 := ⟨⟨by decide, by decide⟩, by decide +kernel, by decide, lg_in (tk_6 (List.mem_of_getElem? (i := 206) (by decide +kernel))) rfl, lg_in (tk_1 (List.mem_of_getElem? (i := 12) (by decide +kernel))) rfl⟩
theorem ss_X12_ones : Cond.static yX12_ones ∈ lw_g := lg_in (tk_6 (List.mem_of_getElem? (i := 232) (by decide +kernel))) rfl
theorem pa_X12_ones : pars mX12_ones 1 := ⟨⟨by decide, by decide⟩, by decide +kernel, by decide, lg_in (tk_6 (List.mem_of_getElem? (i := 233) (by decide +kernel))) rfl, lg_in (tk_1 (List.mem_of_getElem? (i := 12) (by decide +kernel))) rfl⟩
theorem ss_X12_inOrders : Cond.static yX12_inOrders ∈ lw_g := lg_in (tk_6 (List.mem_of_getElem? (i := 229) (by decide +kernel))) rfl
theorem pa_X12_inOrders : pars mX12_inOrders 1 := ⟨⟨by decide, by decide⟩, by decide +kernel, by decide, lg_in (tk_6 (List.mem_of_getElem? (i := 230) (by decide +kernel))) rfl, lg_in (tk_1 (List.mem_of_getElem? (i := 12) (by decide +kernel))) rfl⟩
theorem im_X12_findShares : Cond.instanceMethod yX12_findShares ∈ lw_g := lg_in (tk_6 (List.mem_of_getElem? (i := 226) (by decide +kernel))) rfl
theorem se_X12_findShares : Cond.selects RX12 yX12_findShares yX12_findShares ∈ lw_g := lg_in (tk_p (List.mem_of_getElem? (i := 62) (by decide +kernel))) rfl
theorem pa_X12_findShares : pars mX12_findShares 0 := ⟨⟨by decide, by decide⟩, by decide +kernel, by decide, lg_in (tk_6 (List.mem_of_getElem? (i := 227) (by decide +kernel))) rfl, lg_in (tk_1 (List.mem_of_getElem? (i := 12) (by decide +kernel))) rfl⟩
theorem ss_X12_common : Cond.static yX12_common ∈ lw_g := lg_in (tk_6 (List.mem_of_getElem? (i := 235) (by decide +kernel))) rfl
theorem pa_X12_common : pars mX12_common 2 := ⟨⟨by decide, by decide⟩, by decide +kernel, by decide, lg_in (tk_6 (List.mem_of_getElem? (i := 236) (by decide +kernel))) rfl, lg_in (tk_1 (List.mem_of_getElem? (i := 12) (by decide +kernel))) rfl⟩
theorem im_X12_share : Cond.instanceMethod yX12_share ∈ lw_g := lg_in (tk_6 (List.mem_of_getElem? (i := 221) (by decide +kernel))) rfl
theorem se_X12_share : Cond.selects RX12 yX12_share yX12_share ∈ lw_g := lg_in (tk_6 (List.mem_of_getElem? (i := 222) (by decide +kernel))) rfl
theorem pa_X12_share : pars mX12_share 2 := ⟨⟨by decide, by decide⟩, by decide +kernel, by decide, lg_in (tk_6 (List.mem_of_getElem? (i := 223) (by decide +kernel))) rfl, lg_in (tk_1 (List.mem_of_getElem? (i := 12) (by decide +kernel))) rfl⟩
theorem im_X12_leaves : Cond.instanceMethod yX12_leaves ∈ lw_g := lg_in (tk_6 (List.mem_of_getElem? (i := 238) (by decide +kernel))) rfl
theorem se_X12_leaves : Cond.selects RX12 yX12_leaves yX12_leaves ∈ lw_g := lg_in (tk_6 (List.mem_of_getElem? (i := 239) (by decide +kernel))) rfl
theorem pa_X12_leaves : pars mX12_leaves 0 := ⟨⟨by decide, by decide⟩, by decide +kernel, by decide, lg_in (tk_7 (List.mem_of_getElem? (i := 0) (by decide +kernel))) rfl, lg_in (tk_1 (List.mem_of_getElem? (i := 12) (by decide +kernel))) rfl⟩
theorem im_X12_standsAt : Cond.instanceMethod yX12_standsAt ∈ lw_g := lg_in (tk_7 (List.mem_of_getElem? (i := 11) (by decide +kernel))) rfl
theorem se_X12_standsAt : Cond.selects RX12 yX12_standsAt yX12_standsAt ∈ lw_g := lg_in (tk_p (List.mem_of_getElem? (i := 64) (by decide +kernel))) rfl
theorem pa_X12_standsAt : pars mX12_standsAt 1 := ⟨⟨by decide, by decide⟩, by decide +kernel, by decide, lg_in (tk_7 (List.mem_of_getElem? (i := 12) (by decide +kernel))) rfl, lg_in (tk_1 (List.mem_of_getElem? (i := 12) (by decide +kernel))) rfl⟩
theorem im_X12_backTo : Cond.instanceMethod yX12_backTo ∈ lw_g := lg_in (tk_7 (List.mem_of_getElem? (i := 15) (by decide +kernel))) rfl
theorem se_X12_backTo : Cond.selects RX12 yX12_backTo yX12_backTo ∈ lw_g := lg_in (tk_p (List.mem_of_getElem? (i := 65) (by decide +kernel))) rfl
theorem pa_X12_backTo : pars mX12_backTo 1 := ⟨⟨by decide, by decide⟩, by decide +kernel, by decide, lg_in (tk_7 (List.mem_of_getElem? (i := 16) (by decide +kernel))) rfl, lg_in (tk_1 (List.mem_of_getElem? (i := 12) (by decide +kernel))) rfl⟩
theorem im_X12_pickOf : Cond.instanceMethod yX12_pickOf ∈ lw_g := lg_in (tk_7 (List.mem_of_getElem? (i := 23) (by decide +kernel))) rfl
theorem se_X12_pickOf : Cond.selects RX12 yX12_pickOf yX12_pickOf ∈ lw_g := lg_in (tk_p (List.mem_of_getElem? (i := 67) (by decide +kernel))) rfl
theorem pa_X12_pickOf : pars mX12_pickOf 2 := ⟨⟨by decide, by decide⟩, by decide +kernel, by decide, lg_in (tk_7 (List.mem_of_getElem? (i := 24) (by decide +kernel))) rfl, lg_in (tk_1 (List.mem_of_getElem? (i := 12) (by decide +kernel))) rfl⟩
theorem im_X12_goes : Cond.instanceMethod yX12_goes ∈ lw_g := lg_in (tk_7 (List.mem_of_getElem? (i := 27) (by decide +kernel))) rfl
theorem se_X12_goes : Cond.selects RX12 yX12_goes yX12_goes ∈ lw_g := lg_in (tk_p (List.mem_of_getElem? (i := 68) (by decide +kernel))) rfl
theorem pa_X12_goes : pars mX12_goes 1 := ⟨⟨by decide, by decide⟩, by decide +kernel, by decide, lg_in (tk_7 (List.mem_of_getElem? (i := 28) (by decide +kernel))) rfl, lg_in (tk_1 (List.mem_of_getElem? (i := 12) (by decide +kernel))) rfl⟩
theorem im_X12_comesTo : Cond.instanceMethod yX12_comesTo ∈ lw_g := lg_in (tk_7 (List.mem_of_getElem? (i := 19) (by decide +kernel))) rfl
theorem se_X12_comesTo : Cond.selects RX12 yX12_comesTo yX12_comesTo ∈ lw_g := lg_in (tk_p (List.mem_of_getElem? (i := 66) (by decide +kernel))) rfl
theorem pa_X12_comesTo : pars mX12_comesTo 3 := ⟨⟨by decide, by decide⟩, by decide +kernel, by decide, lg_in (tk_7 (List.mem_of_getElem? (i := 20) (by decide +kernel))) rfl, lg_in (tk_1 (List.mem_of_getElem? (i := 12) (by decide +kernel))) rfl⟩
theorem im_X12_findGame : Cond.instanceMethod yX12_findGame ∈ lw_g := lg_in (tk_7 (List.mem_of_getElem? (i := 7) (by decide +kernel))) rfl
theorem se_X12_findGame : Cond.selects RX12 yX12_findGame yX12_findGame ∈ lw_g := lg_in (tk_p (List.mem_of_getElem? (i := 63) (by decide +kernel))) rfl
theorem pa_X12_findGame : pars mX12_findGame 3 := ⟨⟨by decide, by decide⟩, by decide +kernel, by decide, lg_in (tk_7 (List.mem_of_getElem? (i := 8) (by decide +kernel))) rfl, lg_in (tk_1 (List.mem_of_getElem? (i := 12) (by decide +kernel))) rfl⟩
theorem im_X12_game : Cond.instanceMethod yX12_game ∈ lw_g := lg_in (tk_7 (List.mem_of_getElem? (i := 2) (by decide +kernel))) rfl
theorem se_X12_game : Cond.selects RX12 yX12_game yX12_game ∈ lw_g := lg_in (tk_7 (List.mem_of_getElem? (i := 3) (by decide +kernel))) rfl
theorem pa_X12_game : pars mX12_game 4 := ⟨⟨by decide, by decide⟩, by decide +kernel, by decide, lg_in (tk_7 (List.mem_of_getElem? (i := 4) (by decide +kernel))) rfl, lg_in (tk_1 (List.mem_of_getElem? (i := 12) (by decide +kernel))) rfl⟩
theorem im_X12_hearsOf : Cond.instanceMethod yX12_hearsOf ∈ lw_g := lg_in (tk_7 (List.mem_of_getElem? (i := 36) (by decide +kernel))) rfl
theorem se_X12_hearsOf : Cond.selects RX12 yX12_hearsOf yX12_hearsOf ∈ lw_g := lg_in (tk_p (List.mem_of_getElem? (i := 69) (by decide +kernel))) rfl
theorem pa_X12_hearsOf : pars mX12_hearsOf 2 := ⟨⟨by decide, by decide⟩, by decide +kernel, by decide, lg_in (tk_7 (List.mem_of_getElem? (i := 37) (by decide +kernel))) rfl, lg_in (tk_1 (List.mem_of_getElem? (i := 12) (by decide +kernel))) rfl⟩
theorem im_X12_odds : Cond.instanceMethod yX12_odds ∈ lw_g := lg_in (tk_7 (List.mem_of_getElem? (i := 30) (by decide +kernel))) rfl
theorem se_X12_odds : Cond.selects RX12 yX12_odds yX12_odds ∈ lw_g := lg_in (tk_7 (List.mem_of_getElem? (i := 31) (by decide +kernel))) rfl
theorem pa_X12_odds : pars mX12_odds 4 := ⟨⟨by decide, by decide⟩, by decide +kernel, by decide, lg_in (tk_7 (List.mem_of_getElem? (i := 32) (by decide +kernel))) rfl, lg_in (tk_1 (List.mem_of_getElem? (i := 12) (by decide +kernel))) rfl⟩
theorem im_X12_carried : Cond.instanceMethod yX12_carried ∈ lw_g := lg_in (tk_7 (List.mem_of_getElem? (i := 39) (by decide +kernel))) rfl
theorem se_X12_carried : Cond.selects RX12 yX12_carried yX12_carried ∈ lw_g := lg_in (tk_7 (List.mem_of_getElem? (i := 40) (by decide +kernel))) rfl
theorem pa_X12_carried : pars mX12_carried 4 := ⟨⟨by decide, by decide⟩, by decide +kernel, by decide, lg_in (tk_7 (List.mem_of_getElem? (i := 41) (by decide +kernel))) rfl, lg_in (tk_1 (List.mem_of_getElem? (i := 12) (by decide +kernel))) rfl⟩
theorem im_X12_floorsOf : Cond.instanceMethod yX12_floorsOf ∈ lw_g := lg_in (tk_7 (List.mem_of_getElem? (i := 52) (by decide +kernel))) rfl
theorem se_X12_floorsOf : Cond.selects RX12 yX12_floorsOf yX12_floorsOf ∈ lw_g := lg_in (tk_p (List.mem_of_getElem? (i := 70) (by decide +kernel))) rfl
theorem pa_X12_floorsOf : pars mX12_floorsOf 1 := ⟨⟨by decide, by decide⟩, by decide +kernel, by decide, lg_in (tk_7 (List.mem_of_getElem? (i := 53) (by decide +kernel))) rfl, lg_in (tk_1 (List.mem_of_getElem? (i := 12) (by decide +kernel))) rfl⟩
theorem im_X12_explained : Cond.instanceMethod yX12_explained ∈ lw_g := lg_in (tk_7 (List.mem_of_getElem? (i := 44) (by decide +kernel))) rfl
theorem se_X12_explained : Cond.selects RX12 yX12_explained yX12_explained ∈ lw_g := lg_in (tk_7 (List.mem_of_getElem? (i := 45) (by decide +kernel))) rfl
theorem pa_X12_explained : pars mX12_explained 2 := ⟨⟨by decide, by decide⟩, by decide +kernel, by decide, lg_in (tk_7 (List.mem_of_getElem? (i := 46) (by decide +kernel))) rfl, lg_in (tk_1 (List.mem_of_getElem? (i := 12) (by decide +kernel))) rfl⟩
theorem im_X12_seed : Cond.instanceMethod yX12_seed ∈ lw_g := lg_in (tk_7 (List.mem_of_getElem? (i := 55) (by decide +kernel))) rfl
theorem se_X12_seed : Cond.selects RX12 yX12_seed yX12_seed ∈ lw_g := lg_in (tk_7 (List.mem_of_getElem? (i := 56) (by decide +kernel))) rfl
theorem pa_X12_seed : pars mX12_seed 1 := ⟨⟨by decide, by decide⟩, by decide +kernel, by decide, lg_in (tk_7 (List.mem_of_getElem? (i := 57) (by decide +kernel))) rfl, lg_in (tk_1 (List.mem_of_getElem? (i := 12) (by decide +kernel))) rfl⟩
theorem im_X12_ran : Cond.instanceMethod yX12_ran ∈ lw_g := lg_in (tk_7 (List.mem_of_getElem? (i := 72) (by decide +kernel))) rfl
theorem se_X12_ran : Cond.selects RX12 yX12_ran yX12_ran ∈ lw_g := lg_in (tk_p (List.mem_of_getElem? (i := 73) (by decide +kernel))) rfl
theorem pa_X12_ran : pars mX12_ran 1 := ⟨⟨by decide, by decide⟩, by decide +kernel, by decide, lg_in (tk_7 (List.mem_of_getElem? (i := 73) (by decide +kernel))) rfl, lg_in (tk_1 (List.mem_of_getElem? (i := 12) (by decide +kernel))) rfl⟩
theorem im_X12_own : Cond.instanceMethod yX12_own ∈ lw_g := lg_in (tk_7 (List.mem_of_getElem? (i := 64) (by decide +kernel))) rfl
theorem se_X12_own : Cond.selects RX12 yX12_own yX12_own ∈ lw_g := lg_in (tk_p (List.mem_of_getElem? (i := 71) (by decide +kernel))) rfl
theorem pa_X12_own : pars mX12_own 0 := ⟨⟨by decide, by decide⟩, by decide +kernel, by decide, lg_in (tk_7 (List.mem_of_getElem? (i := 65) (by decide +kernel))) rfl, lg_in (tk_1 (List.mem_of_getElem? (i := 12) (by decide +kernel))) rfl⟩
theorem im_X12_poursBy : Cond.instanceMethod yX12_poursBy ∈ lw_g := lg_in (tk_7 (List.mem_of_getElem? (i := 68) (by decide +kernel))) rfl
theorem se_X12_poursBy : Cond.selects RX12 yX12_poursBy yX12_poursBy ∈ lw_g := lg_in (tk_p (List.mem_of_getElem? (i := 72) (by decide +kernel))) rfl
theorem pa_X12_poursBy : pars mX12_poursBy 2 := ⟨⟨by decide, by decide⟩, by decide +kernel, by decide, lg_in (tk_7 (List.mem_of_getElem? (i := 69) (by decide +kernel))) rfl, lg_in (tk_1 (List.mem_of_getElem? (i := 12) (by decide +kernel))) rfl⟩
theorem im_X12_speaksBy : Cond.instanceMethod yX12_speaksBy ∈ lw_g := lg_in (tk_7 (List.mem_of_getElem? (i := 76) (by decide +kernel))) rfl
theorem se_X12_speaksBy : Cond.selects RX12 yX12_speaksBy yX12_speaksBy ∈ lw_g := lg_in (tk_p (List.mem_of_getElem? (i := 74) (by decide +kernel))) rfl
theorem pa_X12_speaksBy : pars mX12_speaksBy 2 := ⟨⟨by decide, by decide⟩, by decide +kernel, by decide, lg_in (tk_7 (List.mem_of_getElem? (i := 77) (by decide +kernel))) rfl, lg_in (tk_1 (List.mem_of_getElem? (i := 12) (by decide +kernel))) rfl⟩
theorem im_X12_restsBy : Cond.instanceMethod yX12_restsBy ∈ lw_g := lg_in (tk_7 (List.mem_of_getElem? (i := 80) (by decide +kernel))) rfl
theorem se_X12_restsBy : Cond.selects RX12 yX12_restsBy yX12_restsBy ∈ lw_g := lg_in (tk_p (List.mem_of_getElem? (i := 75) (by decide +kernel))) rfl
theorem pa_X12_restsBy : pars mX12_restsBy 2 := ⟨⟨by decide, by decide⟩, by decide +kernel, by decide, lg_in (tk_7 (List.mem_of_getElem? (i := 81) (by decide +kernel))) rfl, lg_in (tk_1 (List.mem_of_getElem? (i := 12) (by decide +kernel))) rfl⟩
theorem im_X12_tellsBy : Cond.instanceMethod yX12_tellsBy ∈ lw_g := lg_in (tk_7 (List.mem_of_getElem? (i := 84) (by decide +kernel))) rfl
theorem se_X12_tellsBy : Cond.selects RX12 yX12_tellsBy yX12_tellsBy ∈ lw_g := lg_in (tk_p (List.mem_of_getElem? (i := 76) (by decide +kernel))) rfl
theorem pa_X12_tellsBy : pars mX12_tellsBy 2 := ⟨⟨by decide, by decide⟩, by decide +kernel, by decide, lg_in (tk_7 (List.mem_of_getElem? (i := 85) (by decide +kernel))) rfl, lg_in (tk_1 (List.mem_of_getElem? (i := 12) (by decide +kernel))) rfl⟩
theorem im_X12_voice : Cond.instanceMethod yX12_voice ∈ lw_g := lg_in (tk_7 (List.mem_of_getElem? (i := 59) (by decide +kernel))) rfl
theorem se_X12_voice : Cond.selects RX12 yX12_voice yX12_voice ∈ lw_g := lg_in (tk_7 (List.mem_of_getElem? (i := 60) (by decide +kernel))) rfl
theorem pa_X12_voice : pars mX12_voice 3 := ⟨⟨by decide, by decide⟩, by decide +kernel, by decide, lg_in (tk_7 (List.mem_of_getElem? (i := 61) (by decide +kernel))) rfl, lg_in (tk_1 (List.mem_of_getElem? (i := 12) (by decide +kernel))) rfl⟩
theorem im_X12_trace : Cond.instanceMethod yX12_trace ∈ lw_g := lg_in (tk_7 (List.mem_of_getElem? (i := 87) (by decide +kernel))) rfl
theorem se_X12_trace : Cond.selects RX12 yX12_trace yX12_trace ∈ lw_g := lg_in (tk_7 (List.mem_of_getElem? (i := 88) (by decide +kernel))) rfl
theorem pa_X12_trace : pars mX12_trace 1 := ⟨⟨by decide, by decide⟩, by decide +kernel, by decide, lg_in (tk_7 (List.mem_of_getElem? (i := 89) (by decide +kernel))) rfl, lg_in (tk_1 (List.mem_of_getElem? (i := 12) (by decide +kernel))) rfl⟩
theorem ss_X12_isSheet : Cond.static yX12_isSheet ∈ lw_g := lg_in (tk_7 (List.mem_of_getElem? (i := 48) (by decide +kernel))) rfl
theorem pa_X12_isSheet : pars mX12_isSheet 1 := ⟨⟨by decide, by decide⟩, by decide +kernel, by decide, lg_in (tk_7 (List.mem_of_getElem? (i := 49) (by decide +kernel))) rfl, lg_in (tk_1 (List.mem_of_getElem? (i := 12) (by decide +kernel))) rfl⟩
theorem im_X12_sheet : Cond.instanceMethod yX12_sheet ∈ lw_g := lg_in (tk_7 (List.mem_of_getElem? (i := 91) (by decide +kernel))) rfl
theorem se_X12_sheet : Cond.selects RX12 yX12_sheet yX12_sheet ∈ lw_g := lg_in (tk_7 (List.mem_of_getElem? (i := 92) (by decide +kernel))) rfl
theorem pa_X12_sheet : pars mX12_sheet 3 := ⟨⟨by decide, by decide⟩, by decide +kernel, by decide, lg_in (tk_7 (List.mem_of_getElem? (i := 93) (by decide +kernel))) rfl, lg_in (tk_1 (List.mem_of_getElem? (i := 12) (by decide +kernel))) rfl⟩
theorem im_X12_put : Cond.instanceMethod yX12_put ∈ lw_g := lg_in (tk_7 (List.mem_of_getElem? (i := 95) (by decide +kernel))) rfl
theorem se_X12_put : Cond.selects RX12 yX12_put yX12_put ∈ lw_g := lg_in (tk_7 (List.mem_of_getElem? (i := 96) (by decide +kernel))) rfl
theorem pa_X12_put : pars mX12_put 3 := ⟨⟨by decide, by decide⟩, by decide +kernel, by decide, lg_in (tk_7 (List.mem_of_getElem? (i := 97) (by decide +kernel))) rfl, lg_in (tk_1 (List.mem_of_getElem? (i := 12) (by decide +kernel))) rfl⟩
theorem im_X12_move : Cond.instanceMethod yX12_move ∈ lw_g := lg_in (tk_7 (List.mem_of_getElem? (i := 99) (by decide +kernel))) rfl
theorem se_X12_move : Cond.selects RX12 yX12_move yX12_move ∈ lw_g := lg_in (tk_7 (List.mem_of_getElem? (i := 100) (by decide +kernel))) rfl
theorem pa_X12_move : pars mX12_move 5 := ⟨⟨by decide, by decide⟩, by decide +kernel, by decide, lg_in (tk_7 (List.mem_of_getElem? (i := 101) (by decide +kernel))) rfl, lg_in (tk_1 (List.mem_of_getElem? (i := 12) (by decide +kernel))) rfl⟩
theorem im_X12_judge : Cond.instanceMethod yX12_judge ∈ lw_g := lg_in (tk_7 (List.mem_of_getElem? (i := 103) (by decide +kernel))) rfl
theorem se_X12_judge : Cond.selects RX12 yX12_judge yX12_judge ∈ lw_g := lg_in (tk_7 (List.mem_of_getElem? (i := 104) (by decide +kernel))) rfl
theorem pa_X12_judge : pars mX12_judge 1 := ⟨⟨by decide, by decide⟩, by decide +kernel, by decide, lg_in (tk_7 (List.mem_of_getElem? (i := 105) (by decide +kernel))) rfl, lg_in (tk_1 (List.mem_of_getElem? (i := 12) (by decide +kernel))) rfl⟩
theorem im_X12_image : Cond.instanceMethod yX12_image ∈ lw_g := lg_in (tk_7 (List.mem_of_getElem? (i := 107) (by decide +kernel))) rfl
theorem se_X12_image : Cond.selects RX12 yX12_image yX12_image ∈ lw_g := lg_in (tk_7 (List.mem_of_getElem? (i := 108) (by decide +kernel))) rfl
theorem pa_X12_image : pars mX12_image 0 := ⟨⟨by decide, by decide⟩, by decide +kernel, by decide, lg_in (tk_7 (List.mem_of_getElem? (i := 109) (by decide +kernel))) rfl, lg_in (tk_1 (List.mem_of_getElem? (i := 12) (by decide +kernel))) rfl⟩
theorem im_X12_restore : Cond.instanceMethod yX12_restore ∈ lw_g := lg_in (tk_7 (List.mem_of_getElem? (i := 111) (by decide +kernel))) rfl
theorem se_X12_restore : Cond.selects RX12 yX12_restore yX12_restore ∈ lw_g := lg_in (tk_7 (List.mem_of_getElem? (i := 112) (by decide +kernel))) rfl
theorem pa_X12_restore : pars mX12_restore 0 := ⟨⟨by decide, by decide⟩, by decide +kernel, by decide, lg_in (tk_7 (List.mem_of_getElem? (i := 113) (by decide +kernel))) rfl, lg_in (tk_1 (List.mem_of_getElem? (i := 12) (by decide +kernel))) rfl⟩
theorem im_X12_tell : Cond.instanceMethod yX12_tell ∈ lw_g := lg_in (tk_7 (List.mem_of_getElem? (i := 115) (by decide +kernel))) rfl
theorem se_X12_tell : Cond.selects RX12 yX12_tell yX12_tell ∈ lw_g := lg_in (tk_7 (List.mem_of_getElem? (i := 116) (by decide +kernel))) rfl
theorem pa_X12_tell : pars mX12_tell 1 := ⟨⟨by decide, by decide⟩, by decide +kernel, by decide, lg_in (tk_7 (List.mem_of_getElem? (i := 117) (by decide +kernel))) rfl, lg_in (tk_1 (List.mem_of_getElem? (i := 12) (by decide +kernel))) rfl⟩
theorem im_X12_check : Cond.instanceMethod yX12_check ∈ lw_g := lg_in (tk_7 (List.mem_of_getElem? (i := 119) (by decide +kernel))) rfl
theorem se_X12_check : Cond.selects RX12 yX12_check yX12_check ∈ lw_g := lg_in (tk_7 (List.mem_of_getElem? (i := 120) (by decide +kernel))) rfl
theorem pa_X12_check : pars mX12_check 0 := ⟨⟨by decide, by decide⟩, by decide +kernel, by decide, lg_in (tk_7 (List.mem_of_getElem? (i := 121) (by decide +kernel))) rfl, lg_in (tk_1 (List.mem_of_getElem? (i := 12) (by decide +kernel))) rfl⟩
theorem im_X12_waterOfAll : Cond.instanceMethod yX12_waterOfAll ∈ lw_g := lg_in (tk_7 (List.mem_of_getElem? (i := 128) (by decide +kernel))) rfl
theorem se_X12_waterOfAll : Cond.selects RX12 yX12_waterOfAll yX12_waterOfAll ∈ lw_g := lg_in (tk_p (List.mem_of_getElem? (i := 77) (by decide +kernel))) rfl
theorem pa_X12_waterOfAll : pars mX12_waterOfAll 0 := ⟨⟨by decide, by decide⟩, by decide +kernel, by decide, lg_in (tk_7 (List.mem_of_getElem? (i := 129) (by decide +kernel))) rfl, lg_in (tk_1 (List.mem_of_getElem? (i := 12) (by decide +kernel))) rfl⟩
theorem im_X12_count : Cond.instanceMethod yX12_count ∈ lw_g := lg_in (tk_7 (List.mem_of_getElem? (i := 123) (by decide +kernel))) rfl
theorem se_X12_count : Cond.selects RX12 yX12_count yX12_count ∈ lw_g := lg_in (tk_7 (List.mem_of_getElem? (i := 124) (by decide +kernel))) rfl
theorem pa_X12_count : pars mX12_count 1 := ⟨⟨by decide, by decide⟩, by decide +kernel, by decide, lg_in (tk_7 (List.mem_of_getElem? (i := 125) (by decide +kernel))) rfl, lg_in (tk_1 (List.mem_of_getElem? (i := 12) (by decide +kernel))) rfl⟩
theorem im_X12_told : Cond.instanceMethod yX12_told ∈ lw_g := lg_in (tk_7 (List.mem_of_getElem? (i := 131) (by decide +kernel))) rfl
theorem se_X12_told : Cond.selects RX12 yX12_told yX12_told ∈ lw_g := lg_in (tk_7 (List.mem_of_getElem? (i := 132) (by decide +kernel))) rfl
theorem pa_X12_told : pars mX12_told 1 := ⟨⟨by decide, by decide⟩, by decide +kernel, by decide, lg_in (tk_7 (List.mem_of_getElem? (i := 133) (by decide +kernel))) rfl, lg_in (tk_1 (List.mem_of_getElem? (i := 12) (by decide +kernel))) rfl⟩
theorem ss_J11_isValidCodePoint_9a6ad : Cond.static yJ11_isValidCodePoint_9a6ad ∈ lw_g := lg_in (tk_4 (List.mem_of_getElem? (i := 51) (by decide +kernel))) rfl
theorem pa_J11_isValidCodePoint_9a6ad : pars mJ11_isValidCodePoint_9a6ad 1 := ⟨⟨by decide, by decide⟩, by decide +kernel, by decide, lg_in (tk_4 (List.mem_of_getElem? (i := 52) (by decide +kernel))) rfl, lg_in (tk_1 (List.mem_of_getElem? (i := 20) (by decide +kernel))) rfl⟩
theorem ss_J11_highSurrogate_5068e : Cond.static yJ11_highSurrogate_5068e ∈ lw_g := lg_in (tk_4 (List.mem_of_getElem? (i := 54) (by decide +kernel))) rfl
theorem pa_J11_highSurrogate_5068e : pars mJ11_highSurrogate_5068e 1 := ⟨⟨by decide, by decide⟩, by decide +kernel, by decide, lg_in (tk_4 (List.mem_of_getElem? (i := 55) (by decide +kernel))) rfl, lg_in (tk_1 (List.mem_of_getElem? (i := 20) (by decide +kernel))) rfl⟩
theorem ss_J11_lowSurrogate_5068e : Cond.static yJ11_lowSurrogate_5068e ∈ lw_g := lg_in (tk_4 (List.mem_of_getElem? (i := 58) (by decide +kernel))) rfl
theorem pa_J11_lowSurrogate_5068e : pars mJ11_lowSurrogate_5068e 1 := ⟨⟨by decide, by decide⟩, by decide +kernel, by decide, lg_in (tk_4 (List.mem_of_getElem? (i := 59) (by decide +kernel))) rfl, lg_in (tk_1 (List.mem_of_getElem? (i := 20) (by decide +kernel))) rfl⟩
theorem ss_J6_bitCount_0f7a4 : Cond.static yJ6_bitCount_0f7a4 ∈ lw_g := lg_in (tk_4 (List.mem_of_getElem? (i := 140) (by decide +kernel))) rfl
theorem pa_J6_bitCount_0f7a4 : pars mJ6_bitCount_0f7a4 1 := ⟨⟨by decide, by decide⟩, by decide +kernel, by decide, lg_in (tk_4 (List.mem_of_getElem? (i := 141) (by decide +kernel))) rfl, lg_in (tk_1 (List.mem_of_getElem? (i := 21) (by decide +kernel))) rfl⟩
theorem ss_J9_abs_067f4 : Cond.static yJ9_abs_067f4 ∈ lw_g := lg_in (tk_4 (List.mem_of_getElem? (i := 149) (by decide +kernel))) rfl
theorem pa_J9_abs_067f4 : pars mJ9_abs_067f4 1 := ⟨⟨by decide, by decide⟩, by decide +kernel, by decide, lg_in (tk_4 (List.mem_of_getElem? (i := 150) (by decide +kernel))) rfl, lg_in (tk_1 (List.mem_of_getElem? (i := 14) (by decide +kernel))) rfl⟩
theorem ss_J9_max_7cf53 : Cond.static yJ9_max_7cf53 ∈ lw_g := lg_in (tk_3 (List.mem_of_getElem? (i := 132) (by decide +kernel))) rfl
theorem pa_J9_max_7cf53 : pars mJ9_max_7cf53 2 := ⟨⟨by decide, by decide⟩, by decide +kernel, by decide, lg_in (tk_3 (List.mem_of_getElem? (i := 133) (by decide +kernel))) rfl, lg_in (tk_1 (List.mem_of_getElem? (i := 14) (by decide +kernel))) rfl⟩
theorem ss_J9_min_7cf53 : Cond.static yJ9_min_7cf53 ∈ lw_g := lg_in (tk_3 (List.mem_of_getElem? (i := 23) (by decide +kernel))) rfl
theorem pa_J9_min_7cf53 : pars mJ9_min_7cf53 2 := ⟨⟨by decide, by decide⟩, by decide +kernel, by decide, lg_in (tk_3 (List.mem_of_getElem? (i := 24) (by decide +kernel))) rfl, lg_in (tk_1 (List.mem_of_getElem? (i := 14) (by decide +kernel))) rfl⟩
theorem im_J0_length_8abf5 : Cond.instanceMethod yJ0_length_8abf5 ∈ lw_g := lg_in (tk_3 (List.mem_of_getElem? (i := 234) (by decide +kernel))) rfl
theorem se_J0_length_8abf5 : Cond.selects RJ0 yJ0_length_8abf5 yJ0_length_8abf5 ∈ lw_g := lg_in (tk_3 (List.mem_of_getElem? (i := 235) (by decide +kernel))) rfl
theorem pa_J0_length_8abf5 : pars mJ0_length_8abf5 0 := ⟨⟨by decide, by decide⟩, by decide +kernel, by decide, lg_in (tk_3 (List.mem_of_getElem? (i := 236) (by decide +kernel))) rfl, lg_in (tk_1 (List.mem_of_getElem? (i := 16) (by decide +kernel))) rfl⟩
theorem im_J0_indexOf_0f7a4 : Cond.instanceMethod yJ0_indexOf_0f7a4 ∈ lw_g := lg_in (tk_3 (List.mem_of_getElem? (i := 220) (by decide +kernel))) rfl
theorem se_J0_indexOf_0f7a4 : Cond.selects RJ0 yJ0_indexOf_0f7a4 yJ0_indexOf_0f7a4 ∈ lw_g := lg_in (tk_3 (List.mem_of_getElem? (i := 221) (by decide +kernel))) rfl
theorem pa_J0_indexOf_0f7a4 : pars mJ0_indexOf_0f7a4 1 := ⟨⟨by decide, by decide⟩, by decide +kernel, by decide, lg_in (tk_3 (List.mem_of_getElem? (i := 222) (by decide +kernel))) rfl, lg_in (tk_1 (List.mem_of_getElem? (i := 16) (by decide +kernel))) rfl⟩
theorem im_J0_indexOf_7cf53 : Cond.instanceMethod yJ0_indexOf_7cf53 ∈ lw_g := lg_in (tk_3 (List.mem_of_getElem? (i := 224) (by decide +kernel))) rfl
theorem se_J0_indexOf_7cf53 : Cond.selects RJ0 yJ0_indexOf_7cf53 yJ0_indexOf_7cf53 ∈ lw_g := lg_in (tk_3 (List.mem_of_getElem? (i := 225) (by decide +kernel))) rfl
theorem pa_J0_indexOf_7cf53 : pars mJ0_indexOf_7cf53 2 := ⟨⟨by decide, by decide⟩, by decide +kernel, by decide, lg_in (tk_3 (List.mem_of_getElem? (i := 226) (by decide +kernel))) rfl, lg_in (tk_1 (List.mem_of_getElem? (i := 16) (by decide +kernel))) rfl⟩
theorem im_J0_coder_7d493 : Cond.instanceMethod yJ0_coder_7d493 ∈ lw_g := lg_in (tk_3 (List.mem_of_getElem? (i := 238) (by decide +kernel))) rfl
theorem se_J0_coder_7d493 : Cond.selects RJ0 yJ0_coder_7d493 yJ0_coder_7d493 ∈ lw_g := lg_in (tk_3 (List.mem_of_getElem? (i := 239) (by decide +kernel))) rfl
theorem pa_J0_coder_7d493 : pars mJ0_coder_7d493 0 := ⟨⟨by decide, by decide⟩, by decide +kernel, by decide, lg_in (tk_4 (List.mem_of_getElem? (i := 0) (by decide +kernel))) rfl, lg_in (tk_1 (List.mem_of_getElem? (i := 16) (by decide +kernel))) rfl⟩
theorem im_J0_isLatin1_aae02 : Cond.instanceMethod yJ0_isLatin1_aae02 ∈ lw_g := lg_in (tk_3 (List.mem_of_getElem? (i := 228) (by decide +kernel))) rfl
theorem se_J0_isLatin1_aae02 : Cond.selects RJ0 yJ0_isLatin1_aae02 yJ0_isLatin1_aae02 ∈ lw_g := lg_in (tk_3 (List.mem_of_getElem? (i := 229) (by decide +kernel))) rfl
theorem pa_J0_isLatin1_aae02 : pars mJ0_isLatin1_aae02 0 := ⟨⟨by decide, by decide⟩, by decide +kernel, by decide, lg_in (tk_3 (List.mem_of_getElem? (i := 230) (by decide +kernel))) rfl, lg_in (tk_1 (List.mem_of_getElem? (i := 16) (by decide +kernel))) rfl⟩
theorem ss_J0_checkBoundsBeginEnd_23922 : Cond.static yJ0_checkBoundsBeginEnd_23922 ∈ lw_g := lg_in (tk_4 (List.mem_of_getElem? (i := 28) (by decide +kernel))) rfl
theorem pa_J0_checkBoundsBeginEnd_23922 : pars mJ0_checkBoundsBeginEnd_23922 3 := ⟨⟨by decide, by decide⟩, by decide +kernel, by decide, lg_in (tk_4 (List.mem_of_getElem? (i := 29) (by decide +kernel))) rfl, lg_in (tk_1 (List.mem_of_getElem? (i := 16) (by decide +kernel))) rfl⟩
theorem ss_J1_canEncode_9a6ad : Cond.static yJ1_canEncode_9a6ad ∈ lw_g := lg_in (tk_4 (List.mem_of_getElem? (i := 5) (by decide +kernel))) rfl
theorem pa_J1_canEncode_9a6ad : pars mJ1_canEncode_9a6ad 1 := ⟨⟨by decide, by decide⟩, by decide +kernel, by decide, lg_in (tk_4 (List.mem_of_getElem? (i := 6) (by decide +kernel))) rfl, lg_in (tk_1 (List.mem_of_getElem? (i := 17) (by decide +kernel))) rfl⟩
theorem ss_J1_indexOf_4cfef : Cond.static yJ1_indexOf_4cfef ∈ lw_g := lg_in (tk_4 (List.mem_of_getElem? (i := 2) (by decide +kernel))) rfl
theorem pa_J1_indexOf_4cfef : pars mJ1_indexOf_4cfef 4 := ⟨⟨by decide, by decide⟩, by decide +kernel, by decide, lg_in (tk_4 (List.mem_of_getElem? (i := 3) (by decide +kernel))) rfl, lg_in (tk_1 (List.mem_of_getElem? (i := 17) (by decide +kernel))) rfl⟩
theorem ss_J1_indexOfChar_4cfef : Cond.static yJ1_indexOfChar_4cfef ∈ lw_g := lg_in (tk_4 (List.mem_of_getElem? (i := 10) (by decide +kernel))) rfl
theorem pa_J1_indexOfChar_4cfef : pars mJ1_indexOfChar_4cfef 4 := ⟨⟨by decide, by decide⟩, by decide +kernel, by decide, lg_in (tk_4 (List.mem_of_getElem? (i := 11) (by decide +kernel))) rfl, lg_in (tk_1 (List.mem_of_getElem? (i := 17) (by decide +kernel))) rfl⟩
theorem ss_J2_getChar_3b067 : Cond.static yJ2_getChar_3b067 ∈ lw_g := lg_in (tk_4 (List.mem_of_getElem? (i := 39) (by decide +kernel))) rfl
theorem pa_J2_getChar_3b067 : pars mJ2_getChar_3b067 2 := ⟨⟨by decide, by decide⟩, by decide +kernel, by decide, lg_in (tk_4 (List.mem_of_getElem? (i := 40) (by decide +kernel))) rfl, lg_in (tk_1 (List.mem_of_getElem? (i := 18) (by decide +kernel))) rfl⟩
theorem ss_J2_length_9d52b : Cond.static yJ2_length_9d52b ∈ lw_g := lg_in (tk_4 (List.mem_of_getElem? (i := 25) (by decide +kernel))) rfl
theorem pa_J2_length_9d52b : pars mJ2_length_9d52b 1 := ⟨⟨by decide, by decide⟩, by decide +kernel, by decide, lg_in (tk_4 (List.mem_of_getElem? (i := 26) (by decide +kernel))) rfl, lg_in (tk_1 (List.mem_of_getElem? (i := 18) (by decide +kernel))) rfl⟩
theorem ss_J2_indexOf_4cfef : Cond.static yJ2_indexOf_4cfef ∈ lw_g := lg_in (tk_4 (List.mem_of_getElem? (i := 13) (by decide +kernel))) rfl
theorem pa_J2_indexOf_4cfef : pars mJ2_indexOf_4cfef 4 := ⟨⟨by decide, by decide⟩, by decide +kernel, by decide, lg_in (tk_4 (List.mem_of_getElem? (i := 14) (by decide +kernel))) rfl, lg_in (tk_1 (List.mem_of_getElem? (i := 18) (by decide +kernel))) rfl⟩
theorem ss_J2_indexOfChar_4cfef : Cond.static yJ2_indexOfChar_4cfef ∈ lw_g := lg_in (tk_4 (List.mem_of_getElem? (i := 19) (by decide +kernel))) rfl
theorem pa_J2_indexOfChar_4cfef : pars mJ2_indexOfChar_4cfef 4 := ⟨⟨by decide, by decide⟩, by decide +kernel, by decide, lg_in (tk_4 (List.mem_of_getElem? (i := 20) (by decide +kernel))) rfl, lg_in (tk_1 (List.mem_of_getElem? (i := 18) (by decide +kernel))) rfl⟩
theorem ss_J2_indexOfCharUnsafe_4cfef : Cond.static yJ2_indexOfCharUnsafe_4cfef ∈ lw_g := lg_in (tk_4 (List.mem_of_getElem? (i := 36) (by decide +kernel))) rfl
theorem pa_J2_indexOfCharUnsafe_4cfef : pars mJ2_indexOfCharUnsafe_4cfef 4 := ⟨⟨by decide, by decide⟩, by decide +kernel, by decide, lg_in (tk_4 (List.mem_of_getElem? (i := 37) (by decide +kernel))) rfl, lg_in (tk_1 (List.mem_of_getElem? (i := 18) (by decide +kernel))) rfl⟩
theorem ss_J2_indexOfSupplementary_4cfef : Cond.static yJ2_indexOfSupplementary_4cfef ∈ lw_g := lg_in (tk_4 (List.mem_of_getElem? (i := 48) (by decide +kernel))) rfl
theorem pa_J2_indexOfSupplementary_4cfef : pars mJ2_indexOfSupplementary_4cfef 4 := ⟨⟨by decide, by decide⟩, by decide +kernel, by decide, lg_in (tk_4 (List.mem_of_getElem? (i := 49) (by decide +kernel))) rfl, lg_in (tk_1 (List.mem_of_getElem? (i := 18) (by decide +kernel))) rfl⟩
theorem ss_J2_checkBoundsBeginEnd_d044e : Cond.static yJ2_checkBoundsBeginEnd_d044e ∈ lw_g := lg_in (tk_4 (List.mem_of_getElem? (i := 22) (by decide +kernel))) rfl
theorem pa_J2_checkBoundsBeginEnd_d044e : pars mJ2_checkBoundsBeginEnd_d044e 3 := ⟨⟨by decide, by decide⟩, by decide +kernel, by decide, lg_in (tk_4 (List.mem_of_getElem? (i := 23) (by decide +kernel))) rfl, lg_in (tk_1 (List.mem_of_getElem? (i := 18) (by decide +kernel))) rfl⟩
theorem ss_J3_checkFromToIndex_8c36e : Cond.static yJ3_checkFromToIndex_8c36e ∈ lw_g := lg_in (tk_4 (List.mem_of_getElem? (i := 33) (by decide +kernel))) rfl
theorem pa_J3_checkFromToIndex_8c36e : pars mJ3_checkFromToIndex_8c36e 4 := ⟨⟨by decide, by decide⟩, by decide +kernel, by decide, lg_in (tk_4 (List.mem_of_getElem? (i := 34) (by decide +kernel))) rfl, lg_in (tk_1 (List.mem_of_getElem? (i := 19) (by decide +kernel))) rfl⟩
theorem oi_i : Cond.instanceMethod Lib.objectInit ∈ lw_g := lg_in (tk_1 (List.mem_of_getElem? (i := 28) (by decide +kernel))) rfl
theorem oi_c : Cond.code Lib.objectInit ⟨#[0xb1]⟩ 1 none ∈ lw_g := lg_in (tk_1 (List.mem_of_getElem? (i := 29) (by decide +kernel))) rfl
