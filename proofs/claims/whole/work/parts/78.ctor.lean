/-! the class made anew -/
section
variable {G : GG} {D n : Nat} {I : Nat → Nat → Int32} {J : Nat → Nat → Int64} {Q : Option Value → MH → Prop}
def NF (I I' : Nat → Nat → Int32) (J' : Nat → Nat → Int64) : Prop := I' 0 = I 0 ∧ I' 1 = I 1 ∧ I' 2 = I 2 ∧ I' 6 0 = 0 ∧ I' 6 3 = 0 ∧ I' 12 1 = 0 ∧ I' 12 5 = 0 ∧ I' 14 0 = 0 ∧ I' 14 1 = 0 ∧ I' 14 2 = 0 ∧ I' 14 3 = 0 ∧ I' 15 0 = 0 ∧ I' 15 1 = 0 ∧ I' 15 2 = 0 ∧ I' 15 3 = 0 ∧ I' 59 1 = 0 ∧ I' 65 1 = 0 ∧ I' 71 1 = 0 ∧ I' 39 1 = -1 ∧ I' 41 1 = -1 ∧ I' 43 1 = -1 ∧ I' 45 1 = -1 ∧ I' 47 1 = -1 ∧ I' 49 1 = -1 ∧ I' 51 1 = -1 ∧ I' 53 1 = -1 ∧ I' 55 1 = -1 ∧ I' 57 1 = -1 ∧ I' 3 12 = 0 ∧ I' 38 = (fun _ => 0) ∧ I' 3 13 = 0 ∧ J' 3 14 = 0 ∧ J' 3 15 = 1 ∧ J' 28 2 = 0 ∧ J' 29 = (fun _ => 0) ∧ True
def S77 (n : Nat) : SHL := [(20, n, []), (20, 6, []), (20, 6, []), (10, 16, [some 4, some 5, some 6, some 12, some 18, some 19, some 28, some 31, some 32, some 33, some 36, some 38, none, none, none, none]), (17, 6, [some 39, some 41, some 43, some 45, some 47, some 49]), (17, 4, [some 51, some 53, some 55, some 57]), (9, 7, [none, some 7, some 8, none, some 9, some 10, some 11]), (12, 5, []), (12, 5, []), (12, 12, []), (12, 12, []), (12, 12, []), (0, 6, [some 6, none, some 13, some 16, some 17, none]), (16, 2, [some 14, some 15]), (7, 4, [none, none, none, none]), (7, 4, [none, none, none, none]), (12, 40, []), (12, 40, []), (15, 3, [some 59, some 65, some 71]), (4, 5, [some 20, some 26, some 27, none, none]), (9, 7, [none, some 21, some 22, none, some 23, some 24, some 25]), (12, 5, []), (12, 5, []), (12, 12, []), (12, 12, []), (12, 12, []), (12, 2, []), (12, 2, []), (2, 3, [some 29, some 30, none]), (13, 2048, []), (13, 2048, []), (5, 4, [some 12, some 6, some 28, none]), (1, 5, [some 12, some 6, some 28, none, none]), (6, 5, [some 12, some 6, some 34, none, some 35]), (12, 8, []), (12, 324, []), (3, 3, [some 6, some 37, none]), (12, 5, []), (12, 6, []), (8, 2, [some 40, none]), (12, 40, []), (8, 2, [some 42, none]), (12, 40, []), (8, 2, [some 44, none]), (12, 40, []), (8, 2, [some 46, none]), (12, 40, []), (8, 2, [some 48, none]), (12, 40, []), (8, 2, [some 50, none]), (12, 40, []), (8, 2, [some 52, none]), (12, 80, []), (8, 2, [some 54, none]), (12, 80, []), (8, 2, [some 56, none]), (12, 80, []), (8, 2, [some 58, none]), (12, 80, []), (0, 6, [some 6, none, some 60, some 63, some 64, none]), (16, 2, [some 61, some 62]), (7, 4, [none, none, none, none]), (7, 4, [none, none, none, none]), (12, 40, []), (12, 40, []), (0, 6, [some 6, none, some 66, some 69, some 70, none]), (16, 2, [some 67, some 68]), (7, 4, [none, none, none, none]), (7, 4, [none, none, none, none]), (12, 40, []), (12, 40, []), (0, 6, [some 6, none, some 72, some 75, some 76, none]), (16, 2, [some 73, some 74]), (7, 4, [none, none, none, none]), (7, 4, [none, none, none, none]), (12, 40, []), (12, 40, [])]
set_option maxRecDepth 100000 in
set_option maxHeartbeats 8000000 in
theorem n_duel (h : ∀ I' J', NF I I' J' → Q none (S77 n, I', J')) : MT G (D + 5) 92 [.ref 3] ([(20, n, []), (20, 6, []), (20, 6, []), (10, 16, [none, none, none, none, none, none, none, none, none, none, none, none, none, none, none, none])], I, J) Q := by
  refine MT.by ck92 (by decide) rfl (Nat.le_of_ble_eq_true rfl) rfl 300 [] ?_
  conv => whnf
  try dsimp only
  refine ⟨⟨by decide, by decide, by decide, by decide⟩, ?_⟩
  conv => whnf
  try dsimp only
  refine ⟨⟨by decide, by decide, by decide, by decide⟩, ?_⟩
  conv => whnf
  try dsimp only
  refine ⟨⟨by decide, by decide⟩, ?_⟩
  conv => whnf
  try dsimp only
  refine ⟨⟨by decide, by decide⟩, ?_⟩
  refine MT.by ck78 (by decide) rfl (Nat.le_of_ble_eq_true rfl) rfl 300 [] ?_
  conv => whnf
  try dsimp only
  refine ⟨⟨by decide, by decide, by decide, by decide⟩, ?_⟩
  conv => whnf
  try dsimp only
  refine ⟨⟨by decide, by decide, by decide, by decide⟩, ?_⟩
  conv => whnf
  try dsimp only
  refine ⟨⟨by decide, by decide, by decide, by decide⟩, ?_⟩
  conv => whnf
  try dsimp only
  refine ⟨⟨by decide, by decide, by decide, by decide⟩, ?_⟩
  conv => whnf
  try dsimp only
  refine ⟨⟨by decide, by decide, by decide, by decide⟩, ?_⟩
  conv => whnf
  try dsimp only
  refine ⟨trivial, ?_⟩
  show EV G 92 _ _ _ _ _ _ ([(20, n, []), (20, 6, []), (20, 6, []), (10, 16, [some 4, some 5, none, none, none, none, none, none, none, none, none, none, none, none, none, none]), (17, 6, [none, none, none, none, none, none]), (17, 4, [none, none, none, none]), (9, 7, [none, some 7, some 8, none, some 9, some 10, some 11]), (12, 5, []), (12, 5, []), (12, 12, []), (12, 12, []), (12, 12, [])], _, _) Q
  refine EV.at ck92 (by decide) 300 [] ?_
  conv => whnf
  try dsimp only
  refine ⟨⟨by decide, by decide⟩, ?_⟩
  conv => whnf
  try dsimp only
  refine ⟨⟨by decide, by decide⟩, ?_⟩
  refine MT.by ck0 (by decide) rfl (Nat.le_of_ble_eq_true rfl) rfl 300 [] ?_
  conv => whnf
  try dsimp only
  refine ⟨Or.inl rfl, ?_⟩
  conv => whnf
  try dsimp only
  refine ⟨⟨by decide, by decide, by decide, by decide⟩, ?_⟩
  conv => whnf
  try dsimp only
  refine ⟨⟨by decide, by decide⟩, ?_⟩
  conv => whnf
  try dsimp only
  refine ⟨⟨by decide, by decide⟩, ?_⟩
  refine MT.by ck66 (by decide) rfl (Nat.le_of_ble_eq_true rfl) rfl 300 [] ?_
  conv => whnf
  try dsimp only
  refine ⟨trivial, ?_⟩
  show EV G 0 _ _ _ _ _ _ ([(20, n, []), (20, 6, []), (20, 6, []), (10, 16, [some 4, some 5, some 6, none, none, none, none, none, none, none, none, none, none, none, none, none]), (17, 6, [none, none, none, none, none, none]), (17, 4, [none, none, none, none]), (9, 7, [none, some 7, some 8, none, some 9, some 10, some 11]), (12, 5, []), (12, 5, []), (12, 12, []), (12, 12, []), (12, 12, []), (0, 6, [none, none, none, none, none, none]), (16, 2, [none, none]), (7, 4, [none, none, none, none])], _, _) _
  refine EV.at ck0 (by decide) 300 [] ?_
  conv => whnf
  try dsimp only
  refine ⟨by unfold vp_in; decide, ?_⟩
  conv => whnf
  try dsimp only
  refine ⟨⟨by decide, by decide⟩, ?_⟩
  conv => whnf
  try dsimp only
  refine ⟨⟨by decide, by decide⟩, ?_⟩
  refine MT.by ck66 (by decide) rfl (Nat.le_of_ble_eq_true rfl) rfl 300 [] ?_
  conv => whnf
  try dsimp only
  refine ⟨trivial, ?_⟩
  show EV G 0 _ _ _ _ _ _ ([(20, n, []), (20, 6, []), (20, 6, []), (10, 16, [some 4, some 5, some 6, none, none, none, none, none, none, none, none, none, none, none, none, none]), (17, 6, [none, none, none, none, none, none]), (17, 4, [none, none, none, none]), (9, 7, [none, some 7, some 8, none, some 9, some 10, some 11]), (12, 5, []), (12, 5, []), (12, 12, []), (12, 12, []), (12, 12, []), (0, 6, [none, none, none, none, none, none]), (16, 2, [some 14, none]), (7, 4, [none, none, none, none]), (7, 4, [none, none, none, none])], _, _) _
  refine EV.at ck0 (by decide) 300 [] ?_
  conv => whnf
  try dsimp only
  refine ⟨by unfold vp_in; decide, ?_⟩
  conv => whnf
  try dsimp only
  refine ⟨⟨by decide, by decide, by decide, by decide⟩, ?_⟩
  conv => whnf
  try dsimp only
  refine ⟨⟨by decide, by decide, by decide, by decide⟩, ?_⟩
  conv => whnf
  try dsimp only
  refine ⟨trivial, ?_⟩
  show EV G 92 _ _ _ _ _ _ ([(20, n, []), (20, 6, []), (20, 6, []), (10, 16, [some 4, some 5, some 6, none, none, none, none, none, none, none, none, none, none, none, none, none]), (17, 6, [none, none, none, none, none, none]), (17, 4, [none, none, none, none]), (9, 7, [none, some 7, some 8, none, some 9, some 10, some 11]), (12, 5, []), (12, 5, []), (12, 12, []), (12, 12, []), (12, 12, []), (0, 6, [some 6, none, some 13, some 16, some 17, none]), (16, 2, [some 14, some 15]), (7, 4, [none, none, none, none]), (7, 4, [none, none, none, none]), (12, 40, []), (12, 40, [])], _, _) Q
  refine EV.at ck92 (by decide) 300 [] ?_
  conv => whnf
  try dsimp only
  refine ⟨⟨by decide, by decide, by decide, by decide⟩, ?_⟩
  conv => whnf
  try dsimp only
  refine ⟨⟨by decide, by decide⟩, ?_⟩
  conv => whnf
  try dsimp only
  refine ⟨⟨by decide, by decide⟩, ?_⟩
  refine MT.by ck36 (by decide) rfl (Nat.le_of_ble_eq_true rfl) rfl 300 [] ?_
  conv => whnf
  try dsimp only
  refine ⟨⟨by decide, by decide⟩, ?_⟩
  conv => whnf
  try dsimp only
  refine ⟨⟨by decide, by decide⟩, ?_⟩
  refine MT.by ck78 (by decide) rfl (Nat.le_of_ble_eq_true rfl) rfl 300 [] ?_
  conv => whnf
  try dsimp only
  refine ⟨⟨by decide, by decide, by decide, by decide⟩, ?_⟩
  conv => whnf
  try dsimp only
  refine ⟨⟨by decide, by decide, by decide, by decide⟩, ?_⟩
  conv => whnf
  try dsimp only
  refine ⟨⟨by decide, by decide, by decide, by decide⟩, ?_⟩
  conv => whnf
  try dsimp only
  refine ⟨⟨by decide, by decide, by decide, by decide⟩, ?_⟩
  conv => whnf
  try dsimp only
  refine ⟨⟨by decide, by decide, by decide, by decide⟩, ?_⟩
  conv => whnf
  try dsimp only
  refine ⟨trivial, ?_⟩
  show EV G 36 _ _ _ _ _ _ ([(20, n, []), (20, 6, []), (20, 6, []), (10, 16, [some 4, some 5, some 6, some 12, some 18, none, none, none, none, none, none, none, none, none, none, none]), (17, 6, [none, none, none, none, none, none]), (17, 4, [none, none, none, none]), (9, 7, [none, some 7, some 8, none, some 9, some 10, some 11]), (12, 5, []), (12, 5, []), (12, 12, []), (12, 12, []), (12, 12, []), (0, 6, [some 6, none, some 13, some 16, some 17, none]), (16, 2, [some 14, some 15]), (7, 4, [none, none, none, none]), (7, 4, [none, none, none, none]), (12, 40, []), (12, 40, []), (15, 3, [none, none, none]), (4, 5, [none, none, none, none, none]), (9, 7, [none, some 21, some 22, none, some 23, some 24, some 25]), (12, 5, []), (12, 5, []), (12, 12, []), (12, 12, []), (12, 12, [])], _, _) _
  refine EV.at ck36 (by decide) 300 [] ?_
  conv => whnf
  try dsimp only
  refine ⟨⟨by decide, by decide, by decide, by decide⟩, ?_⟩
  conv => whnf
  try dsimp only
  refine ⟨⟨by decide, by decide, by decide, by decide⟩, ?_⟩
  conv => whnf
  try dsimp only
  refine ⟨trivial, ?_⟩
  show EV G 92 _ _ _ _ _ _ ([(20, n, []), (20, 6, []), (20, 6, []), (10, 16, [some 4, some 5, some 6, some 12, some 18, none, none, none, none, none, none, none, none, none, none, none]), (17, 6, [none, none, none, none, none, none]), (17, 4, [none, none, none, none]), (9, 7, [none, some 7, some 8, none, some 9, some 10, some 11]), (12, 5, []), (12, 5, []), (12, 12, []), (12, 12, []), (12, 12, []), (0, 6, [some 6, none, some 13, some 16, some 17, none]), (16, 2, [some 14, some 15]), (7, 4, [none, none, none, none]), (7, 4, [none, none, none, none]), (12, 40, []), (12, 40, []), (15, 3, [none, none, none]), (4, 5, [some 20, some 26, some 27, none, none]), (9, 7, [none, some 21, some 22, none, some 23, some 24, some 25]), (12, 5, []), (12, 5, []), (12, 12, []), (12, 12, []), (12, 12, []), (12, 2, []), (12, 2, [])], _, _) Q
  refine EV.at ck92 (by decide) 300 [] ?_
  conv => whnf
  try dsimp only
  refine ⟨⟨by decide, by decide⟩, ?_⟩
  conv => whnf
  try dsimp only
  refine ⟨⟨by decide, by decide⟩, ?_⟩
  refine MT.by ck21 (by decide) rfl (Nat.le_of_ble_eq_true rfl) rfl 300 [] ?_
  conv => whnf
  try dsimp only
  refine ⟨⟨by decide, by decide, by decide, by decide⟩, ?_⟩
  conv => whnf
  try dsimp only
  refine ⟨⟨by decide, by decide, by decide, by decide⟩, ?_⟩
  conv => whnf
  try dsimp only
  refine ⟨trivial, ?_⟩
  show EV G 92 _ _ _ _ _ _ ([(20, n, []), (20, 6, []), (20, 6, []), (10, 16, [some 4, some 5, some 6, some 12, some 18, some 19, none, none, none, none, none, none, none, none, none, none]), (17, 6, [none, none, none, none, none, none]), (17, 4, [none, none, none, none]), (9, 7, [none, some 7, some 8, none, some 9, some 10, some 11]), (12, 5, []), (12, 5, []), (12, 12, []), (12, 12, []), (12, 12, []), (0, 6, [some 6, none, some 13, some 16, some 17, none]), (16, 2, [some 14, some 15]), (7, 4, [none, none, none, none]), (7, 4, [none, none, none, none]), (12, 40, []), (12, 40, []), (15, 3, [none, none, none]), (4, 5, [some 20, some 26, some 27, none, none]), (9, 7, [none, some 21, some 22, none, some 23, some 24, some 25]), (12, 5, []), (12, 5, []), (12, 12, []), (12, 12, []), (12, 12, []), (12, 2, []), (12, 2, []), (2, 3, [some 29, some 30, none]), (13, 2048, []), (13, 2048, [])], _, _) Q
  refine EV.at ck92 (by decide) 300 [] ?_
  conv => whnf
  try dsimp only
  refine ⟨⟨by decide, by decide⟩, ?_⟩
  conv => whnf
  try dsimp only
  refine ⟨⟨by decide, by decide⟩, ?_⟩
  refine MT.by ck43 (by decide) rfl (Nat.le_of_ble_eq_true rfl) rfl 300 [] ?_
  conv => whnf
  try dsimp only
  refine ⟨trivial, ?_⟩
  show EV G 92 _ _ _ _ _ _ ([(20, n, []), (20, 6, []), (20, 6, []), (10, 16, [some 4, some 5, some 6, some 12, some 18, some 19, some 28, none, none, none, none, none, none, none, none, none]), (17, 6, [none, none, none, none, none, none]), (17, 4, [none, none, none, none]), (9, 7, [none, some 7, some 8, none, some 9, some 10, some 11]), (12, 5, []), (12, 5, []), (12, 12, []), (12, 12, []), (12, 12, []), (0, 6, [some 6, none, some 13, some 16, some 17, none]), (16, 2, [some 14, some 15]), (7, 4, [none, none, none, none]), (7, 4, [none, none, none, none]), (12, 40, []), (12, 40, []), (15, 3, [none, none, none]), (4, 5, [some 20, some 26, some 27, none, none]), (9, 7, [none, some 21, some 22, none, some 23, some 24, some 25]), (12, 5, []), (12, 5, []), (12, 12, []), (12, 12, []), (12, 12, []), (12, 2, []), (12, 2, []), (2, 3, [some 29, some 30, none]), (13, 2048, []), (13, 2048, []), (5, 4, [some 12, some 6, some 28, none])], _, _) Q
  refine EV.at ck92 (by decide) 300 [] ?_
  conv => whnf
  try dsimp only
  refine ⟨⟨by decide, by decide⟩, ?_⟩
  conv => whnf
  try dsimp only
  refine ⟨⟨by decide, by decide⟩, ?_⟩
  refine MT.by ck14 (by decide) rfl (Nat.le_of_ble_eq_true rfl) rfl 300 [] ?_
  conv => whnf
  try dsimp only
  refine ⟨trivial, ?_⟩
  show EV G 92 _ _ _ _ _ _ ([(20, n, []), (20, 6, []), (20, 6, []), (10, 16, [some 4, some 5, some 6, some 12, some 18, some 19, some 28, some 31, none, none, none, none, none, none, none, none]), (17, 6, [none, none, none, none, none, none]), (17, 4, [none, none, none, none]), (9, 7, [none, some 7, some 8, none, some 9, some 10, some 11]), (12, 5, []), (12, 5, []), (12, 12, []), (12, 12, []), (12, 12, []), (0, 6, [some 6, none, some 13, some 16, some 17, none]), (16, 2, [some 14, some 15]), (7, 4, [none, none, none, none]), (7, 4, [none, none, none, none]), (12, 40, []), (12, 40, []), (15, 3, [none, none, none]), (4, 5, [some 20, some 26, some 27, none, none]), (9, 7, [none, some 21, some 22, none, some 23, some 24, some 25]), (12, 5, []), (12, 5, []), (12, 12, []), (12, 12, []), (12, 12, []), (12, 2, []), (12, 2, []), (2, 3, [some 29, some 30, none]), (13, 2048, []), (13, 2048, []), (5, 4, [some 12, some 6, some 28, none]), (1, 5, [some 12, some 6, some 28, none, none])], _, _) Q
  refine EV.at ck92 (by decide) 300 [] ?_
  conv => whnf
  try dsimp only
  refine ⟨⟨by decide, by decide⟩, ?_⟩
  conv => whnf
  try dsimp only
  refine ⟨⟨by decide, by decide⟩, ?_⟩
  refine MT.by ck57 (by decide) rfl (Nat.le_of_ble_eq_true rfl) rfl 300 [] ?_
  conv => whnf
  try dsimp only
  refine ⟨⟨by decide, by decide, by decide, by decide⟩, ?_⟩
  conv => whnf
  try dsimp only
  refine ⟨⟨by decide, by decide, by decide, by decide⟩, ?_⟩
  conv => whnf
  try dsimp only
  refine ⟨trivial, ?_⟩
  show EV G 92 _ _ _ _ _ _ ([(20, n, []), (20, 6, []), (20, 6, []), (10, 16, [some 4, some 5, some 6, some 12, some 18, some 19, some 28, some 31, some 32, none, none, none, none, none, none, none]), (17, 6, [none, none, none, none, none, none]), (17, 4, [none, none, none, none]), (9, 7, [none, some 7, some 8, none, some 9, some 10, some 11]), (12, 5, []), (12, 5, []), (12, 12, []), (12, 12, []), (12, 12, []), (0, 6, [some 6, none, some 13, some 16, some 17, none]), (16, 2, [some 14, some 15]), (7, 4, [none, none, none, none]), (7, 4, [none, none, none, none]), (12, 40, []), (12, 40, []), (15, 3, [none, none, none]), (4, 5, [some 20, some 26, some 27, none, none]), (9, 7, [none, some 21, some 22, none, some 23, some 24, some 25]), (12, 5, []), (12, 5, []), (12, 12, []), (12, 12, []), (12, 12, []), (12, 2, []), (12, 2, []), (2, 3, [some 29, some 30, none]), (13, 2048, []), (13, 2048, []), (5, 4, [some 12, some 6, some 28, none]), (1, 5, [some 12, some 6, some 28, none, none]), (6, 5, [some 12, some 6, some 34, none, some 35]), (12, 8, []), (12, 324, [])], _, _) Q
  refine EV.at ck92 (by decide) 300 [] ?_
  conv => whnf
  try dsimp only
  refine ⟨⟨by decide, by decide⟩, ?_⟩
  conv => whnf
  try dsimp only
  refine ⟨⟨by decide, by decide⟩, ?_⟩
  refine MT.by ck27 (by decide) rfl (Nat.le_of_ble_eq_true rfl) rfl 300 [] ?_
  conv => whnf
  try dsimp only
  refine ⟨⟨by decide, by decide, by decide, by decide⟩, ?_⟩
  conv => whnf
  try dsimp only
  refine ⟨trivial, ?_⟩
  show EV G 92 _ _ _ _ _ _ ([(20, n, []), (20, 6, []), (20, 6, []), (10, 16, [some 4, some 5, some 6, some 12, some 18, some 19, some 28, some 31, some 32, some 33, none, none, none, none, none, none]), (17, 6, [none, none, none, none, none, none]), (17, 4, [none, none, none, none]), (9, 7, [none, some 7, some 8, none, some 9, some 10, some 11]), (12, 5, []), (12, 5, []), (12, 12, []), (12, 12, []), (12, 12, []), (0, 6, [some 6, none, some 13, some 16, some 17, none]), (16, 2, [some 14, some 15]), (7, 4, [none, none, none, none]), (7, 4, [none, none, none, none]), (12, 40, []), (12, 40, []), (15, 3, [none, none, none]), (4, 5, [some 20, some 26, some 27, none, none]), (9, 7, [none, some 21, some 22, none, some 23, some 24, some 25]), (12, 5, []), (12, 5, []), (12, 12, []), (12, 12, []), (12, 12, []), (12, 2, []), (12, 2, []), (2, 3, [some 29, some 30, none]), (13, 2048, []), (13, 2048, []), (5, 4, [some 12, some 6, some 28, none]), (1, 5, [some 12, some 6, some 28, none, none]), (6, 5, [some 12, some 6, some 34, none, some 35]), (12, 8, []), (12, 324, []), (3, 3, [some 6, some 37, none]), (12, 5, [])], _, _) Q
  refine EV.at ck92 (by decide) 300 [] ?_
  conv => whnf
  try dsimp only
  refine ⟨⟨by decide, by decide, by decide, by decide⟩, ?_⟩
  conv => whnf
  try dsimp only
  first | refine ⟨fun h1 => absurd h1 (by decide), fun _ => ?_⟩ | refine ⟨fun _ => ?_, fun h1 => absurd (by decide) h1⟩ | refine ⟨fun h1 => absurd (by decide) h1, fun _ => ?_⟩ | refine ⟨fun _ => ?_, fun h1 => absurd h1 (by decide)⟩
  conv => whnf
  try dsimp only
  refine ⟨⟨by decide, by decide⟩, ?_⟩
  conv => whnf
  try dsimp only
  refine ⟨⟨by decide, by decide⟩, ?_⟩
  refine MT.by ck71 (by decide) rfl (Nat.le_of_ble_eq_true rfl) rfl 300 [] ?_
  conv => whnf
  try dsimp only
  refine ⟨⟨by decide, by decide, by decide, by decide⟩, ?_⟩
  conv => whnf
  try dsimp only
  refine ⟨trivial, ?_⟩
  show EV G 92 _ _ _ _ _ _ ([(20, n, []), (20, 6, []), (20, 6, []), (10, 16, [some 4, some 5, some 6, some 12, some 18, some 19, some 28, some 31, some 32, some 33, some 36, some 38, none, none, none, none]), (17, 6, [none, none, none, none, none, none]), (17, 4, [none, none, none, none]), (9, 7, [none, some 7, some 8, none, some 9, some 10, some 11]), (12, 5, []), (12, 5, []), (12, 12, []), (12, 12, []), (12, 12, []), (0, 6, [some 6, none, some 13, some 16, some 17, none]), (16, 2, [some 14, some 15]), (7, 4, [none, none, none, none]), (7, 4, [none, none, none, none]), (12, 40, []), (12, 40, []), (15, 3, [none, none, none]), (4, 5, [some 20, some 26, some 27, none, none]), (9, 7, [none, some 21, some 22, none, some 23, some 24, some 25]), (12, 5, []), (12, 5, []), (12, 12, []), (12, 12, []), (12, 12, []), (12, 2, []), (12, 2, []), (2, 3, [some 29, some 30, none]), (13, 2048, []), (13, 2048, []), (5, 4, [some 12, some 6, some 28, none]), (1, 5, [some 12, some 6, some 28, none, none]), (6, 5, [some 12, some 6, some 34, none, some 35]), (12, 8, []), (12, 324, []), (3, 3, [some 6, some 37, none]), (12, 5, []), (12, 6, []), (8, 2, [some 40, none]), (12, 40, [])], _, _) Q
  refine EV.at ck92 (by decide) 300 [] ?_
  conv => whnf
  try dsimp only
  refine ⟨by unfold vp_in; decide, ?_⟩
  conv => whnf
  try dsimp only
  refine ⟨trivial, ?_⟩
  refine EV.at ck92 (by decide) 300 [] ?_
  conv => whnf
  try dsimp only
  first | refine ⟨fun h1 => absurd h1 (by decide), fun _ => ?_⟩ | refine ⟨fun _ => ?_, fun h1 => absurd (by decide) h1⟩ | refine ⟨fun h1 => absurd (by decide) h1, fun _ => ?_⟩ | refine ⟨fun _ => ?_, fun h1 => absurd h1 (by decide)⟩
  conv => whnf
  try dsimp only
  refine ⟨⟨by decide, by decide⟩, ?_⟩
  conv => whnf
  try dsimp only
  refine ⟨⟨by decide, by decide⟩, ?_⟩
  refine MT.by ck71 (by decide) rfl (Nat.le_of_ble_eq_true rfl) rfl 300 [] ?_
  conv => whnf
  try dsimp only
  refine ⟨⟨by decide, by decide, by decide, by decide⟩, ?_⟩
  conv => whnf
  try dsimp only
  refine ⟨trivial, ?_⟩
  show EV G 92 _ _ _ _ _ _ ([(20, n, []), (20, 6, []), (20, 6, []), (10, 16, [some 4, some 5, some 6, some 12, some 18, some 19, some 28, some 31, some 32, some 33, some 36, some 38, none, none, none, none]), (17, 6, [some 39, none, none, none, none, none]), (17, 4, [none, none, none, none]), (9, 7, [none, some 7, some 8, none, some 9, some 10, some 11]), (12, 5, []), (12, 5, []), (12, 12, []), (12, 12, []), (12, 12, []), (0, 6, [some 6, none, some 13, some 16, some 17, none]), (16, 2, [some 14, some 15]), (7, 4, [none, none, none, none]), (7, 4, [none, none, none, none]), (12, 40, []), (12, 40, []), (15, 3, [none, none, none]), (4, 5, [some 20, some 26, some 27, none, none]), (9, 7, [none, some 21, some 22, none, some 23, some 24, some 25]), (12, 5, []), (12, 5, []), (12, 12, []), (12, 12, []), (12, 12, []), (12, 2, []), (12, 2, []), (2, 3, [some 29, some 30, none]), (13, 2048, []), (13, 2048, []), (5, 4, [some 12, some 6, some 28, none]), (1, 5, [some 12, some 6, some 28, none, none]), (6, 5, [some 12, some 6, some 34, none, some 35]), (12, 8, []), (12, 324, []), (3, 3, [some 6, some 37, none]), (12, 5, []), (12, 6, []), (8, 2, [some 40, none]), (12, 40, []), (8, 2, [some 42, none]), (12, 40, [])], _, _) Q
  refine EV.at ck92 (by decide) 300 [] ?_
  conv => whnf
  try dsimp only
  refine ⟨by unfold vp_in; decide, ?_⟩
  conv => whnf
  try dsimp only
  refine ⟨trivial, ?_⟩
  refine EV.at ck92 (by decide) 300 [] ?_
  conv => whnf
  try dsimp only
  first | refine ⟨fun h1 => absurd h1 (by decide), fun _ => ?_⟩ | refine ⟨fun _ => ?_, fun h1 => absurd (by decide) h1⟩ | refine ⟨fun h1 => absurd (by decide) h1, fun _ => ?_⟩ | refine ⟨fun _ => ?_, fun h1 => absurd h1 (by decide)⟩
  conv => whnf
  try dsimp only
  refine ⟨⟨by decide, by decide⟩, ?_⟩
  conv => whnf
  try dsimp only
  refine ⟨⟨by decide, by decide⟩, ?_⟩
  refine MT.by ck71 (by decide) rfl (Nat.le_of_ble_eq_true rfl) rfl 300 [] ?_
  conv => whnf
  try dsimp only
  refine ⟨⟨by decide, by decide, by decide, by decide⟩, ?_⟩
  conv => whnf
  try dsimp only
  refine ⟨trivial, ?_⟩
  show EV G 92 _ _ _ _ _ _ ([(20, n, []), (20, 6, []), (20, 6, []), (10, 16, [some 4, some 5, some 6, some 12, some 18, some 19, some 28, some 31, some 32, some 33, some 36, some 38, none, none, none, none]), (17, 6, [some 39, some 41, none, none, none, none]), (17, 4, [none, none, none, none]), (9, 7, [none, some 7, some 8, none, some 9, some 10, some 11]), (12, 5, []), (12, 5, []), (12, 12, []), (12, 12, []), (12, 12, []), (0, 6, [some 6, none, some 13, some 16, some 17, none]), (16, 2, [some 14, some 15]), (7, 4, [none, none, none, none]), (7, 4, [none, none, none, none]), (12, 40, []), (12, 40, []), (15, 3, [none, none, none]), (4, 5, [some 20, some 26, some 27, none, none]), (9, 7, [none, some 21, some 22, none, some 23, some 24, some 25]), (12, 5, []), (12, 5, []), (12, 12, []), (12, 12, []), (12, 12, []), (12, 2, []), (12, 2, []), (2, 3, [some 29, some 30, none]), (13, 2048, []), (13, 2048, []), (5, 4, [some 12, some 6, some 28, none]), (1, 5, [some 12, some 6, some 28, none, none]), (6, 5, [some 12, some 6, some 34, none, some 35]), (12, 8, []), (12, 324, []), (3, 3, [some 6, some 37, none]), (12, 5, []), (12, 6, []), (8, 2, [some 40, none]), (12, 40, []), (8, 2, [some 42, none]), (12, 40, []), (8, 2, [some 44, none]), (12, 40, [])], _, _) Q
  refine EV.at ck92 (by decide) 300 [] ?_
  conv => whnf
  try dsimp only
  refine ⟨by unfold vp_in; decide, ?_⟩
  conv => whnf
  try dsimp only
  refine ⟨trivial, ?_⟩
  refine EV.at ck92 (by decide) 300 [] ?_
  conv => whnf
  try dsimp only
  first | refine ⟨fun h1 => absurd h1 (by decide), fun _ => ?_⟩ | refine ⟨fun _ => ?_, fun h1 => absurd (by decide) h1⟩ | refine ⟨fun h1 => absurd (by decide) h1, fun _ => ?_⟩ | refine ⟨fun _ => ?_, fun h1 => absurd h1 (by decide)⟩
  conv => whnf
  try dsimp only
  refine ⟨⟨by decide, by decide⟩, ?_⟩
  conv => whnf
  try dsimp only
  refine ⟨⟨by decide, by decide⟩, ?_⟩
  refine MT.by ck71 (by decide) rfl (Nat.le_of_ble_eq_true rfl) rfl 300 [] ?_
  conv => whnf
  try dsimp only
  refine ⟨⟨by decide, by decide, by decide, by decide⟩, ?_⟩
  conv => whnf
  try dsimp only
  refine ⟨trivial, ?_⟩
  show EV G 92 _ _ _ _ _ _ ([(20, n, []), (20, 6, []), (20, 6, []), (10, 16, [some 4, some 5, some 6, some 12, some 18, some 19, some 28, some 31, some 32, some 33, some 36, some 38, none, none, none, none]), (17, 6, [some 39, some 41, some 43, none, none, none]), (17, 4, [none, none, none, none]), (9, 7, [none, some 7, some 8, none, some 9, some 10, some 11]), (12, 5, []), (12, 5, []), (12, 12, []), (12, 12, []), (12, 12, []), (0, 6, [some 6, none, some 13, some 16, some 17, none]), (16, 2, [some 14, some 15]), (7, 4, [none, none, none, none]), (7, 4, [none, none, none, none]), (12, 40, []), (12, 40, []), (15, 3, [none, none, none]), (4, 5, [some 20, some 26, some 27, none, none]), (9, 7, [none, some 21, some 22, none, some 23, some 24, some 25]), (12, 5, []), (12, 5, []), (12, 12, []), (12, 12, []), (12, 12, []), (12, 2, []), (12, 2, []), (2, 3, [some 29, some 30, none]), (13, 2048, []), (13, 2048, []), (5, 4, [some 12, some 6, some 28, none]), (1, 5, [some 12, some 6, some 28, none, none]), (6, 5, [some 12, some 6, some 34, none, some 35]), (12, 8, []), (12, 324, []), (3, 3, [some 6, some 37, none]), (12, 5, []), (12, 6, []), (8, 2, [some 40, none]), (12, 40, []), (8, 2, [some 42, none]), (12, 40, []), (8, 2, [some 44, none]), (12, 40, []), (8, 2, [some 46, none]), (12, 40, [])], _, _) Q
  refine EV.at ck92 (by decide) 300 [] ?_
  conv => whnf
  try dsimp only
  refine ⟨by unfold vp_in; decide, ?_⟩
  conv => whnf
  try dsimp only
  refine ⟨trivial, ?_⟩
  refine EV.at ck92 (by decide) 300 [] ?_
  conv => whnf
  try dsimp only
  first | refine ⟨fun h1 => absurd h1 (by decide), fun _ => ?_⟩ | refine ⟨fun _ => ?_, fun h1 => absurd (by decide) h1⟩ | refine ⟨fun h1 => absurd (by decide) h1, fun _ => ?_⟩ | refine ⟨fun _ => ?_, fun h1 => absurd h1 (by decide)⟩
  conv => whnf
  try dsimp only
  refine ⟨⟨by decide, by decide⟩, ?_⟩
  conv => whnf
  try dsimp only
  refine ⟨⟨by decide, by decide⟩, ?_⟩
  refine MT.by ck71 (by decide) rfl (Nat.le_of_ble_eq_true rfl) rfl 300 [] ?_
  conv => whnf
  try dsimp only
  refine ⟨⟨by decide, by decide, by decide, by decide⟩, ?_⟩
  conv => whnf
  try dsimp only
  refine ⟨trivial, ?_⟩
  show EV G 92 _ _ _ _ _ _ ([(20, n, []), (20, 6, []), (20, 6, []), (10, 16, [some 4, some 5, some 6, some 12, some 18, some 19, some 28, some 31, some 32, some 33, some 36, some 38, none, none, none, none]), (17, 6, [some 39, some 41, some 43, some 45, none, none]), (17, 4, [none, none, none, none]), (9, 7, [none, some 7, some 8, none, some 9, some 10, some 11]), (12, 5, []), (12, 5, []), (12, 12, []), (12, 12, []), (12, 12, []), (0, 6, [some 6, none, some 13, some 16, some 17, none]), (16, 2, [some 14, some 15]), (7, 4, [none, none, none, none]), (7, 4, [none, none, none, none]), (12, 40, []), (12, 40, []), (15, 3, [none, none, none]), (4, 5, [some 20, some 26, some 27, none, none]), (9, 7, [none, some 21, some 22, none, some 23, some 24, some 25]), (12, 5, []), (12, 5, []), (12, 12, []), (12, 12, []), (12, 12, []), (12, 2, []), (12, 2, []), (2, 3, [some 29, some 30, none]), (13, 2048, []), (13, 2048, []), (5, 4, [some 12, some 6, some 28, none]), (1, 5, [some 12, some 6, some 28, none, none]), (6, 5, [some 12, some 6, some 34, none, some 35]), (12, 8, []), (12, 324, []), (3, 3, [some 6, some 37, none]), (12, 5, []), (12, 6, []), (8, 2, [some 40, none]), (12, 40, []), (8, 2, [some 42, none]), (12, 40, []), (8, 2, [some 44, none]), (12, 40, []), (8, 2, [some 46, none]), (12, 40, []), (8, 2, [some 48, none]), (12, 40, [])], _, _) Q
  refine EV.at ck92 (by decide) 300 [] ?_
  conv => whnf
  try dsimp only
  refine ⟨by unfold vp_in; decide, ?_⟩
  conv => whnf
  try dsimp only
  refine ⟨trivial, ?_⟩
  refine EV.at ck92 (by decide) 300 [] ?_
  conv => whnf
  try dsimp only
  first | refine ⟨fun h1 => absurd h1 (by decide), fun _ => ?_⟩ | refine ⟨fun _ => ?_, fun h1 => absurd (by decide) h1⟩ | refine ⟨fun h1 => absurd (by decide) h1, fun _ => ?_⟩ | refine ⟨fun _ => ?_, fun h1 => absurd h1 (by decide)⟩
  conv => whnf
  try dsimp only
  refine ⟨⟨by decide, by decide⟩, ?_⟩
  conv => whnf
  try dsimp only
  refine ⟨⟨by decide, by decide⟩, ?_⟩
  refine MT.by ck71 (by decide) rfl (Nat.le_of_ble_eq_true rfl) rfl 300 [] ?_
  conv => whnf
  try dsimp only
  refine ⟨⟨by decide, by decide, by decide, by decide⟩, ?_⟩
  conv => whnf
  try dsimp only
  refine ⟨trivial, ?_⟩
  show EV G 92 _ _ _ _ _ _ ([(20, n, []), (20, 6, []), (20, 6, []), (10, 16, [some 4, some 5, some 6, some 12, some 18, some 19, some 28, some 31, some 32, some 33, some 36, some 38, none, none, none, none]), (17, 6, [some 39, some 41, some 43, some 45, some 47, none]), (17, 4, [none, none, none, none]), (9, 7, [none, some 7, some 8, none, some 9, some 10, some 11]), (12, 5, []), (12, 5, []), (12, 12, []), (12, 12, []), (12, 12, []), (0, 6, [some 6, none, some 13, some 16, some 17, none]), (16, 2, [some 14, some 15]), (7, 4, [none, none, none, none]), (7, 4, [none, none, none, none]), (12, 40, []), (12, 40, []), (15, 3, [none, none, none]), (4, 5, [some 20, some 26, some 27, none, none]), (9, 7, [none, some 21, some 22, none, some 23, some 24, some 25]), (12, 5, []), (12, 5, []), (12, 12, []), (12, 12, []), (12, 12, []), (12, 2, []), (12, 2, []), (2, 3, [some 29, some 30, none]), (13, 2048, []), (13, 2048, []), (5, 4, [some 12, some 6, some 28, none]), (1, 5, [some 12, some 6, some 28, none, none]), (6, 5, [some 12, some 6, some 34, none, some 35]), (12, 8, []), (12, 324, []), (3, 3, [some 6, some 37, none]), (12, 5, []), (12, 6, []), (8, 2, [some 40, none]), (12, 40, []), (8, 2, [some 42, none]), (12, 40, []), (8, 2, [some 44, none]), (12, 40, []), (8, 2, [some 46, none]), (12, 40, []), (8, 2, [some 48, none]), (12, 40, []), (8, 2, [some 50, none]), (12, 40, [])], _, _) Q
  refine EV.at ck92 (by decide) 300 [] ?_
  conv => whnf
  try dsimp only
  refine ⟨by unfold vp_in; decide, ?_⟩
  conv => whnf
  try dsimp only
  refine ⟨trivial, ?_⟩
  refine EV.at ck92 (by decide) 300 [] ?_
  conv => whnf
  try dsimp only
  first | refine ⟨fun h1 => absurd h1 (by decide), fun _ => ?_⟩ | refine ⟨fun _ => ?_, fun h1 => absurd (by decide) h1⟩ | refine ⟨fun h1 => absurd (by decide) h1, fun _ => ?_⟩ | refine ⟨fun _ => ?_, fun h1 => absurd h1 (by decide)⟩
  conv => whnf
  try dsimp only
  first | refine ⟨fun h1 => absurd h1 (by decide), fun _ => ?_⟩ | refine ⟨fun _ => ?_, fun h1 => absurd (by decide) h1⟩ | refine ⟨fun h1 => absurd (by decide) h1, fun _ => ?_⟩ | refine ⟨fun _ => ?_, fun h1 => absurd h1 (by decide)⟩
  conv => whnf
  try dsimp only
  refine ⟨⟨by decide, by decide⟩, ?_⟩
  conv => whnf
  try dsimp only
  refine ⟨⟨by decide, by decide⟩, ?_⟩
  refine MT.by ck71 (by decide) rfl (Nat.le_of_ble_eq_true rfl) rfl 300 [] ?_
  conv => whnf
  try dsimp only
  refine ⟨⟨by decide, by decide, by decide, by decide⟩, ?_⟩
  conv => whnf
  try dsimp only
  refine ⟨trivial, ?_⟩
  show EV G 92 _ _ _ _ _ _ ([(20, n, []), (20, 6, []), (20, 6, []), (10, 16, [some 4, some 5, some 6, some 12, some 18, some 19, some 28, some 31, some 32, some 33, some 36, some 38, none, none, none, none]), (17, 6, [some 39, some 41, some 43, some 45, some 47, some 49]), (17, 4, [none, none, none, none]), (9, 7, [none, some 7, some 8, none, some 9, some 10, some 11]), (12, 5, []), (12, 5, []), (12, 12, []), (12, 12, []), (12, 12, []), (0, 6, [some 6, none, some 13, some 16, some 17, none]), (16, 2, [some 14, some 15]), (7, 4, [none, none, none, none]), (7, 4, [none, none, none, none]), (12, 40, []), (12, 40, []), (15, 3, [none, none, none]), (4, 5, [some 20, some 26, some 27, none, none]), (9, 7, [none, some 21, some 22, none, some 23, some 24, some 25]), (12, 5, []), (12, 5, []), (12, 12, []), (12, 12, []), (12, 12, []), (12, 2, []), (12, 2, []), (2, 3, [some 29, some 30, none]), (13, 2048, []), (13, 2048, []), (5, 4, [some 12, some 6, some 28, none]), (1, 5, [some 12, some 6, some 28, none, none]), (6, 5, [some 12, some 6, some 34, none, some 35]), (12, 8, []), (12, 324, []), (3, 3, [some 6, some 37, none]), (12, 5, []), (12, 6, []), (8, 2, [some 40, none]), (12, 40, []), (8, 2, [some 42, none]), (12, 40, []), (8, 2, [some 44, none]), (12, 40, []), (8, 2, [some 46, none]), (12, 40, []), (8, 2, [some 48, none]), (12, 40, []), (8, 2, [some 50, none]), (12, 40, []), (8, 2, [some 52, none]), (12, 80, [])], _, _) Q
  refine EV.at ck92 (by decide) 300 [] ?_
  conv => whnf
  try dsimp only
  refine ⟨by unfold vp_in; decide, ?_⟩
  conv => whnf
  try dsimp only
  refine ⟨trivial, ?_⟩
  refine EV.at ck92 (by decide) 300 [] ?_
  conv => whnf
  try dsimp only
  first | refine ⟨fun h1 => absurd h1 (by decide), fun _ => ?_⟩ | refine ⟨fun _ => ?_, fun h1 => absurd (by decide) h1⟩ | refine ⟨fun h1 => absurd (by decide) h1, fun _ => ?_⟩ | refine ⟨fun _ => ?_, fun h1 => absurd h1 (by decide)⟩
  conv => whnf
  try dsimp only
  refine ⟨⟨by decide, by decide⟩, ?_⟩
  conv => whnf
  try dsimp only
  refine ⟨⟨by decide, by decide⟩, ?_⟩
  refine MT.by ck71 (by decide) rfl (Nat.le_of_ble_eq_true rfl) rfl 300 [] ?_
  conv => whnf
  try dsimp only
  refine ⟨⟨by decide, by decide, by decide, by decide⟩, ?_⟩
  conv => whnf
  try dsimp only
  refine ⟨trivial, ?_⟩
  show EV G 92 _ _ _ _ _ _ ([(20, n, []), (20, 6, []), (20, 6, []), (10, 16, [some 4, some 5, some 6, some 12, some 18, some 19, some 28, some 31, some 32, some 33, some 36, some 38, none, none, none, none]), (17, 6, [some 39, some 41, some 43, some 45, some 47, some 49]), (17, 4, [some 51, none, none, none]), (9, 7, [none, some 7, some 8, none, some 9, some 10, some 11]), (12, 5, []), (12, 5, []), (12, 12, []), (12, 12, []), (12, 12, []), (0, 6, [some 6, none, some 13, some 16, some 17, none]), (16, 2, [some 14, some 15]), (7, 4, [none, none, none, none]), (7, 4, [none, none, none, none]), (12, 40, []), (12, 40, []), (15, 3, [none, none, none]), (4, 5, [some 20, some 26, some 27, none, none]), (9, 7, [none, some 21, some 22, none, some 23, some 24, some 25]), (12, 5, []), (12, 5, []), (12, 12, []), (12, 12, []), (12, 12, []), (12, 2, []), (12, 2, []), (2, 3, [some 29, some 30, none]), (13, 2048, []), (13, 2048, []), (5, 4, [some 12, some 6, some 28, none]), (1, 5, [some 12, some 6, some 28, none, none]), (6, 5, [some 12, some 6, some 34, none, some 35]), (12, 8, []), (12, 324, []), (3, 3, [some 6, some 37, none]), (12, 5, []), (12, 6, []), (8, 2, [some 40, none]), (12, 40, []), (8, 2, [some 42, none]), (12, 40, []), (8, 2, [some 44, none]), (12, 40, []), (8, 2, [some 46, none]), (12, 40, []), (8, 2, [some 48, none]), (12, 40, []), (8, 2, [some 50, none]), (12, 40, []), (8, 2, [some 52, none]), (12, 80, []), (8, 2, [some 54, none]), (12, 80, [])], _, _) Q
  refine EV.at ck92 (by decide) 300 [] ?_
  conv => whnf
  try dsimp only
  refine ⟨by unfold vp_in; decide, ?_⟩
  conv => whnf
  try dsimp only
  refine ⟨trivial, ?_⟩
  refine EV.at ck92 (by decide) 300 [] ?_
  conv => whnf
  try dsimp only
  first | refine ⟨fun h1 => absurd h1 (by decide), fun _ => ?_⟩ | refine ⟨fun _ => ?_, fun h1 => absurd (by decide) h1⟩ | refine ⟨fun h1 => absurd (by decide) h1, fun _ => ?_⟩ | refine ⟨fun _ => ?_, fun h1 => absurd h1 (by decide)⟩
  conv => whnf
  try dsimp only
  refine ⟨⟨by decide, by decide⟩, ?_⟩
  conv => whnf
  try dsimp only
  refine ⟨⟨by decide, by decide⟩, ?_⟩
  refine MT.by ck71 (by decide) rfl (Nat.le_of_ble_eq_true rfl) rfl 300 [] ?_
  conv => whnf
  try dsimp only
  refine ⟨⟨by decide, by decide, by decide, by decide⟩, ?_⟩
  conv => whnf
  try dsimp only
  refine ⟨trivial, ?_⟩
  show EV G 92 _ _ _ _ _ _ ([(20, n, []), (20, 6, []), (20, 6, []), (10, 16, [some 4, some 5, some 6, some 12, some 18, some 19, some 28, some 31, some 32, some 33, some 36, some 38, none, none, none, none]), (17, 6, [some 39, some 41, some 43, some 45, some 47, some 49]), (17, 4, [some 51, some 53, none, none]), (9, 7, [none, some 7, some 8, none, some 9, some 10, some 11]), (12, 5, []), (12, 5, []), (12, 12, []), (12, 12, []), (12, 12, []), (0, 6, [some 6, none, some 13, some 16, some 17, none]), (16, 2, [some 14, some 15]), (7, 4, [none, none, none, none]), (7, 4, [none, none, none, none]), (12, 40, []), (12, 40, []), (15, 3, [none, none, none]), (4, 5, [some 20, some 26, some 27, none, none]), (9, 7, [none, some 21, some 22, none, some 23, some 24, some 25]), (12, 5, []), (12, 5, []), (12, 12, []), (12, 12, []), (12, 12, []), (12, 2, []), (12, 2, []), (2, 3, [some 29, some 30, none]), (13, 2048, []), (13, 2048, []), (5, 4, [some 12, some 6, some 28, none]), (1, 5, [some 12, some 6, some 28, none, none]), (6, 5, [some 12, some 6, some 34, none, some 35]), (12, 8, []), (12, 324, []), (3, 3, [some 6, some 37, none]), (12, 5, []), (12, 6, []), (8, 2, [some 40, none]), (12, 40, []), (8, 2, [some 42, none]), (12, 40, []), (8, 2, [some 44, none]), (12, 40, []), (8, 2, [some 46, none]), (12, 40, []), (8, 2, [some 48, none]), (12, 40, []), (8, 2, [some 50, none]), (12, 40, []), (8, 2, [some 52, none]), (12, 80, []), (8, 2, [some 54, none]), (12, 80, []), (8, 2, [some 56, none]), (12, 80, [])], _, _) Q
  refine EV.at ck92 (by decide) 300 [] ?_
  conv => whnf
  try dsimp only
  refine ⟨by unfold vp_in; decide, ?_⟩
  conv => whnf
  try dsimp only
  refine ⟨trivial, ?_⟩
  refine EV.at ck92 (by decide) 300 [] ?_
  conv => whnf
  try dsimp only
  first | refine ⟨fun h1 => absurd h1 (by decide), fun _ => ?_⟩ | refine ⟨fun _ => ?_, fun h1 => absurd (by decide) h1⟩ | refine ⟨fun h1 => absurd (by decide) h1, fun _ => ?_⟩ | refine ⟨fun _ => ?_, fun h1 => absurd h1 (by decide)⟩
  conv => whnf
  try dsimp only
  refine ⟨⟨by decide, by decide⟩, ?_⟩
  conv => whnf
  try dsimp only
  refine ⟨⟨by decide, by decide⟩, ?_⟩
  refine MT.by ck71 (by decide) rfl (Nat.le_of_ble_eq_true rfl) rfl 300 [] ?_
  conv => whnf
  try dsimp only
  refine ⟨⟨by decide, by decide, by decide, by decide⟩, ?_⟩
  conv => whnf
  try dsimp only
  refine ⟨trivial, ?_⟩
  show EV G 92 _ _ _ _ _ _ ([(20, n, []), (20, 6, []), (20, 6, []), (10, 16, [some 4, some 5, some 6, some 12, some 18, some 19, some 28, some 31, some 32, some 33, some 36, some 38, none, none, none, none]), (17, 6, [some 39, some 41, some 43, some 45, some 47, some 49]), (17, 4, [some 51, some 53, some 55, none]), (9, 7, [none, some 7, some 8, none, some 9, some 10, some 11]), (12, 5, []), (12, 5, []), (12, 12, []), (12, 12, []), (12, 12, []), (0, 6, [some 6, none, some 13, some 16, some 17, none]), (16, 2, [some 14, some 15]), (7, 4, [none, none, none, none]), (7, 4, [none, none, none, none]), (12, 40, []), (12, 40, []), (15, 3, [none, none, none]), (4, 5, [some 20, some 26, some 27, none, none]), (9, 7, [none, some 21, some 22, none, some 23, some 24, some 25]), (12, 5, []), (12, 5, []), (12, 12, []), (12, 12, []), (12, 12, []), (12, 2, []), (12, 2, []), (2, 3, [some 29, some 30, none]), (13, 2048, []), (13, 2048, []), (5, 4, [some 12, some 6, some 28, none]), (1, 5, [some 12, some 6, some 28, none, none]), (6, 5, [some 12, some 6, some 34, none, some 35]), (12, 8, []), (12, 324, []), (3, 3, [some 6, some 37, none]), (12, 5, []), (12, 6, []), (8, 2, [some 40, none]), (12, 40, []), (8, 2, [some 42, none]), (12, 40, []), (8, 2, [some 44, none]), (12, 40, []), (8, 2, [some 46, none]), (12, 40, []), (8, 2, [some 48, none]), (12, 40, []), (8, 2, [some 50, none]), (12, 40, []), (8, 2, [some 52, none]), (12, 80, []), (8, 2, [some 54, none]), (12, 80, []), (8, 2, [some 56, none]), (12, 80, []), (8, 2, [some 58, none]), (12, 80, [])], _, _) Q
  refine EV.at ck92 (by decide) 300 [] ?_
  conv => whnf
  try dsimp only
  refine ⟨by unfold vp_in; decide, ?_⟩
  conv => whnf
  try dsimp only
  refine ⟨trivial, ?_⟩
  refine EV.at ck92 (by decide) 300 [] ?_
  conv => whnf
  try dsimp only
  first | refine ⟨fun h1 => absurd h1 (by decide), fun _ => ?_⟩ | refine ⟨fun _ => ?_, fun h1 => absurd (by decide) h1⟩ | refine ⟨fun h1 => absurd (by decide) h1, fun _ => ?_⟩ | refine ⟨fun _ => ?_, fun h1 => absurd h1 (by decide)⟩
  conv => whnf
  try dsimp only
  first | refine ⟨fun h1 => absurd h1 (by decide), fun _ => ?_⟩ | refine ⟨fun _ => ?_, fun h1 => absurd (by decide) h1⟩ | refine ⟨fun h1 => absurd (by decide) h1, fun _ => ?_⟩ | refine ⟨fun _ => ?_, fun h1 => absurd h1 (by decide)⟩
  conv => whnf
  try dsimp only
  refine ⟨⟨by decide, by decide⟩, ?_⟩
  conv => whnf
  try dsimp only
  refine ⟨⟨by decide, by decide⟩, ?_⟩
  refine MT.by ck0 (by decide) rfl (Nat.le_of_ble_eq_true rfl) rfl 300 [] ?_
  conv => whnf
  try dsimp only
  refine ⟨Or.inl rfl, ?_⟩
  conv => whnf
  try dsimp only
  refine ⟨⟨by decide, by decide, by decide, by decide⟩, ?_⟩
  conv => whnf
  try dsimp only
  refine ⟨⟨by decide, by decide⟩, ?_⟩
  conv => whnf
  try dsimp only
  refine ⟨⟨by decide, by decide⟩, ?_⟩
  refine MT.by ck66 (by decide) rfl (Nat.le_of_ble_eq_true rfl) rfl 300 [] ?_
  conv => whnf
  try dsimp only
  refine ⟨trivial, ?_⟩
  show EV G 0 _ _ _ _ _ _ ([(20, n, []), (20, 6, []), (20, 6, []), (10, 16, [some 4, some 5, some 6, some 12, some 18, some 19, some 28, some 31, some 32, some 33, some 36, some 38, none, none, none, none]), (17, 6, [some 39, some 41, some 43, some 45, some 47, some 49]), (17, 4, [some 51, some 53, some 55, some 57]), (9, 7, [none, some 7, some 8, none, some 9, some 10, some 11]), (12, 5, []), (12, 5, []), (12, 12, []), (12, 12, []), (12, 12, []), (0, 6, [some 6, none, some 13, some 16, some 17, none]), (16, 2, [some 14, some 15]), (7, 4, [none, none, none, none]), (7, 4, [none, none, none, none]), (12, 40, []), (12, 40, []), (15, 3, [none, none, none]), (4, 5, [some 20, some 26, some 27, none, none]), (9, 7, [none, some 21, some 22, none, some 23, some 24, some 25]), (12, 5, []), (12, 5, []), (12, 12, []), (12, 12, []), (12, 12, []), (12, 2, []), (12, 2, []), (2, 3, [some 29, some 30, none]), (13, 2048, []), (13, 2048, []), (5, 4, [some 12, some 6, some 28, none]), (1, 5, [some 12, some 6, some 28, none, none]), (6, 5, [some 12, some 6, some 34, none, some 35]), (12, 8, []), (12, 324, []), (3, 3, [some 6, some 37, none]), (12, 5, []), (12, 6, []), (8, 2, [some 40, none]), (12, 40, []), (8, 2, [some 42, none]), (12, 40, []), (8, 2, [some 44, none]), (12, 40, []), (8, 2, [some 46, none]), (12, 40, []), (8, 2, [some 48, none]), (12, 40, []), (8, 2, [some 50, none]), (12, 40, []), (8, 2, [some 52, none]), (12, 80, []), (8, 2, [some 54, none]), (12, 80, []), (8, 2, [some 56, none]), (12, 80, []), (8, 2, [some 58, none]), (12, 80, []), (0, 6, [none, none, none, none, none, none]), (16, 2, [none, none]), (7, 4, [none, none, none, none])], _, _) _
  refine EV.at ck0 (by decide) 300 [] ?_
  conv => whnf
  try dsimp only
  refine ⟨by unfold vp_in; decide, ?_⟩
  conv => whnf
  try dsimp only
  refine ⟨⟨by decide, by decide⟩, ?_⟩
  conv => whnf
  try dsimp only
  refine ⟨⟨by decide, by decide⟩, ?_⟩
  refine MT.by ck66 (by decide) rfl (Nat.le_of_ble_eq_true rfl) rfl 300 [] ?_
  conv => whnf
  try dsimp only
  refine ⟨trivial, ?_⟩
  show EV G 0 _ _ _ _ _ _ ([(20, n, []), (20, 6, []), (20, 6, []), (10, 16, [some 4, some 5, some 6, some 12, some 18, some 19, some 28, some 31, some 32, some 33, some 36, some 38, none, none, none, none]), (17, 6, [some 39, some 41, some 43, some 45, some 47, some 49]), (17, 4, [some 51, some 53, some 55, some 57]), (9, 7, [none, some 7, some 8, none, some 9, some 10, some 11]), (12, 5, []), (12, 5, []), (12, 12, []), (12, 12, []), (12, 12, []), (0, 6, [some 6, none, some 13, some 16, some 17, none]), (16, 2, [some 14, some 15]), (7, 4, [none, none, none, none]), (7, 4, [none, none, none, none]), (12, 40, []), (12, 40, []), (15, 3, [none, none, none]), (4, 5, [some 20, some 26, some 27, none, none]), (9, 7, [none, some 21, some 22, none, some 23, some 24, some 25]), (12, 5, []), (12, 5, []), (12, 12, []), (12, 12, []), (12, 12, []), (12, 2, []), (12, 2, []), (2, 3, [some 29, some 30, none]), (13, 2048, []), (13, 2048, []), (5, 4, [some 12, some 6, some 28, none]), (1, 5, [some 12, some 6, some 28, none, none]), (6, 5, [some 12, some 6, some 34, none, some 35]), (12, 8, []), (12, 324, []), (3, 3, [some 6, some 37, none]), (12, 5, []), (12, 6, []), (8, 2, [some 40, none]), (12, 40, []), (8, 2, [some 42, none]), (12, 40, []), (8, 2, [some 44, none]), (12, 40, []), (8, 2, [some 46, none]), (12, 40, []), (8, 2, [some 48, none]), (12, 40, []), (8, 2, [some 50, none]), (12, 40, []), (8, 2, [some 52, none]), (12, 80, []), (8, 2, [some 54, none]), (12, 80, []), (8, 2, [some 56, none]), (12, 80, []), (8, 2, [some 58, none]), (12, 80, []), (0, 6, [none, none, none, none, none, none]), (16, 2, [some 61, none]), (7, 4, [none, none, none, none]), (7, 4, [none, none, none, none])], _, _) _
  refine EV.at ck0 (by decide) 300 [] ?_
  conv => whnf
  try dsimp only
  refine ⟨by unfold vp_in; decide, ?_⟩
  conv => whnf
  try dsimp only
  refine ⟨⟨by decide, by decide, by decide, by decide⟩, ?_⟩
  conv => whnf
  try dsimp only
  refine ⟨⟨by decide, by decide, by decide, by decide⟩, ?_⟩
  conv => whnf
  try dsimp only
  refine ⟨trivial, ?_⟩
  show EV G 92 _ _ _ _ _ _ ([(20, n, []), (20, 6, []), (20, 6, []), (10, 16, [some 4, some 5, some 6, some 12, some 18, some 19, some 28, some 31, some 32, some 33, some 36, some 38, none, none, none, none]), (17, 6, [some 39, some 41, some 43, some 45, some 47, some 49]), (17, 4, [some 51, some 53, some 55, some 57]), (9, 7, [none, some 7, some 8, none, some 9, some 10, some 11]), (12, 5, []), (12, 5, []), (12, 12, []), (12, 12, []), (12, 12, []), (0, 6, [some 6, none, some 13, some 16, some 17, none]), (16, 2, [some 14, some 15]), (7, 4, [none, none, none, none]), (7, 4, [none, none, none, none]), (12, 40, []), (12, 40, []), (15, 3, [none, none, none]), (4, 5, [some 20, some 26, some 27, none, none]), (9, 7, [none, some 21, some 22, none, some 23, some 24, some 25]), (12, 5, []), (12, 5, []), (12, 12, []), (12, 12, []), (12, 12, []), (12, 2, []), (12, 2, []), (2, 3, [some 29, some 30, none]), (13, 2048, []), (13, 2048, []), (5, 4, [some 12, some 6, some 28, none]), (1, 5, [some 12, some 6, some 28, none, none]), (6, 5, [some 12, some 6, some 34, none, some 35]), (12, 8, []), (12, 324, []), (3, 3, [some 6, some 37, none]), (12, 5, []), (12, 6, []), (8, 2, [some 40, none]), (12, 40, []), (8, 2, [some 42, none]), (12, 40, []), (8, 2, [some 44, none]), (12, 40, []), (8, 2, [some 46, none]), (12, 40, []), (8, 2, [some 48, none]), (12, 40, []), (8, 2, [some 50, none]), (12, 40, []), (8, 2, [some 52, none]), (12, 80, []), (8, 2, [some 54, none]), (12, 80, []), (8, 2, [some 56, none]), (12, 80, []), (8, 2, [some 58, none]), (12, 80, []), (0, 6, [some 6, none, some 60, some 63, some 64, none]), (16, 2, [some 61, some 62]), (7, 4, [none, none, none, none]), (7, 4, [none, none, none, none]), (12, 40, []), (12, 40, [])], _, _) Q
  refine EV.at ck92 (by decide) 300 [] ?_
  conv => whnf
  try dsimp only
  refine ⟨by unfold vp_in; decide, ?_⟩
  conv => whnf
  try dsimp only
  refine ⟨trivial, ?_⟩
  refine EV.at ck92 (by decide) 300 [] ?_
  conv => whnf
  try dsimp only
  first | refine ⟨fun h1 => absurd h1 (by decide), fun _ => ?_⟩ | refine ⟨fun _ => ?_, fun h1 => absurd (by decide) h1⟩ | refine ⟨fun h1 => absurd (by decide) h1, fun _ => ?_⟩ | refine ⟨fun _ => ?_, fun h1 => absurd h1 (by decide)⟩
  conv => whnf
  try dsimp only
  refine ⟨⟨by decide, by decide⟩, ?_⟩
  conv => whnf
  try dsimp only
  refine ⟨⟨by decide, by decide⟩, ?_⟩
  refine MT.by ck0 (by decide) rfl (Nat.le_of_ble_eq_true rfl) rfl 300 [] ?_
  conv => whnf
  try dsimp only
  refine ⟨Or.inl rfl, ?_⟩
  conv => whnf
  try dsimp only
  refine ⟨⟨by decide, by decide, by decide, by decide⟩, ?_⟩
  conv => whnf
  try dsimp only
  refine ⟨⟨by decide, by decide⟩, ?_⟩
  conv => whnf
  try dsimp only
  refine ⟨⟨by decide, by decide⟩, ?_⟩
  refine MT.by ck66 (by decide) rfl (Nat.le_of_ble_eq_true rfl) rfl 300 [] ?_
  conv => whnf
  try dsimp only
  refine ⟨trivial, ?_⟩
  show EV G 0 _ _ _ _ _ _ ([(20, n, []), (20, 6, []), (20, 6, []), (10, 16, [some 4, some 5, some 6, some 12, some 18, some 19, some 28, some 31, some 32, some 33, some 36, some 38, none, none, none, none]), (17, 6, [some 39, some 41, some 43, some 45, some 47, some 49]), (17, 4, [some 51, some 53, some 55, some 57]), (9, 7, [none, some 7, some 8, none, some 9, some 10, some 11]), (12, 5, []), (12, 5, []), (12, 12, []), (12, 12, []), (12, 12, []), (0, 6, [some 6, none, some 13, some 16, some 17, none]), (16, 2, [some 14, some 15]), (7, 4, [none, none, none, none]), (7, 4, [none, none, none, none]), (12, 40, []), (12, 40, []), (15, 3, [some 59, none, none]), (4, 5, [some 20, some 26, some 27, none, none]), (9, 7, [none, some 21, some 22, none, some 23, some 24, some 25]), (12, 5, []), (12, 5, []), (12, 12, []), (12, 12, []), (12, 12, []), (12, 2, []), (12, 2, []), (2, 3, [some 29, some 30, none]), (13, 2048, []), (13, 2048, []), (5, 4, [some 12, some 6, some 28, none]), (1, 5, [some 12, some 6, some 28, none, none]), (6, 5, [some 12, some 6, some 34, none, some 35]), (12, 8, []), (12, 324, []), (3, 3, [some 6, some 37, none]), (12, 5, []), (12, 6, []), (8, 2, [some 40, none]), (12, 40, []), (8, 2, [some 42, none]), (12, 40, []), (8, 2, [some 44, none]), (12, 40, []), (8, 2, [some 46, none]), (12, 40, []), (8, 2, [some 48, none]), (12, 40, []), (8, 2, [some 50, none]), (12, 40, []), (8, 2, [some 52, none]), (12, 80, []), (8, 2, [some 54, none]), (12, 80, []), (8, 2, [some 56, none]), (12, 80, []), (8, 2, [some 58, none]), (12, 80, []), (0, 6, [some 6, none, some 60, some 63, some 64, none]), (16, 2, [some 61, some 62]), (7, 4, [none, none, none, none]), (7, 4, [none, none, none, none]), (12, 40, []), (12, 40, []), (0, 6, [none, none, none, none, none, none]), (16, 2, [none, none]), (7, 4, [none, none, none, none])], _, _) _
  refine EV.at ck0 (by decide) 300 [] ?_
  conv => whnf
  try dsimp only
  refine ⟨by unfold vp_in; decide, ?_⟩
  conv => whnf
  try dsimp only
  refine ⟨⟨by decide, by decide⟩, ?_⟩
  conv => whnf
  try dsimp only
  refine ⟨⟨by decide, by decide⟩, ?_⟩
  refine MT.by ck66 (by decide) rfl (Nat.le_of_ble_eq_true rfl) rfl 300 [] ?_
  conv => whnf
  try dsimp only
  refine ⟨trivial, ?_⟩
  show EV G 0 _ _ _ _ _ _ ([(20, n, []), (20, 6, []), (20, 6, []), (10, 16, [some 4, some 5, some 6, some 12, some 18, some 19, some 28, some 31, some 32, some 33, some 36, some 38, none, none, none, none]), (17, 6, [some 39, some 41, some 43, some 45, some 47, some 49]), (17, 4, [some 51, some 53, some 55, some 57]), (9, 7, [none, some 7, some 8, none, some 9, some 10, some 11]), (12, 5, []), (12, 5, []), (12, 12, []), (12, 12, []), (12, 12, []), (0, 6, [some 6, none, some 13, some 16, some 17, none]), (16, 2, [some 14, some 15]), (7, 4, [none, none, none, none]), (7, 4, [none, none, none, none]), (12, 40, []), (12, 40, []), (15, 3, [some 59, none, none]), (4, 5, [some 20, some 26, some 27, none, none]), (9, 7, [none, some 21, some 22, none, some 23, some 24, some 25]), (12, 5, []), (12, 5, []), (12, 12, []), (12, 12, []), (12, 12, []), (12, 2, []), (12, 2, []), (2, 3, [some 29, some 30, none]), (13, 2048, []), (13, 2048, []), (5, 4, [some 12, some 6, some 28, none]), (1, 5, [some 12, some 6, some 28, none, none]), (6, 5, [some 12, some 6, some 34, none, some 35]), (12, 8, []), (12, 324, []), (3, 3, [some 6, some 37, none]), (12, 5, []), (12, 6, []), (8, 2, [some 40, none]), (12, 40, []), (8, 2, [some 42, none]), (12, 40, []), (8, 2, [some 44, none]), (12, 40, []), (8, 2, [some 46, none]), (12, 40, []), (8, 2, [some 48, none]), (12, 40, []), (8, 2, [some 50, none]), (12, 40, []), (8, 2, [some 52, none]), (12, 80, []), (8, 2, [some 54, none]), (12, 80, []), (8, 2, [some 56, none]), (12, 80, []), (8, 2, [some 58, none]), (12, 80, []), (0, 6, [some 6, none, some 60, some 63, some 64, none]), (16, 2, [some 61, some 62]), (7, 4, [none, none, none, none]), (7, 4, [none, none, none, none]), (12, 40, []), (12, 40, []), (0, 6, [none, none, none, none, none, none]), (16, 2, [some 67, none]), (7, 4, [none, none, none, none]), (7, 4, [none, none, none, none])], _, _) _
  refine EV.at ck0 (by decide) 300 [] ?_
  conv => whnf
  try dsimp only
  refine ⟨by unfold vp_in; decide, ?_⟩
  conv => whnf
  try dsimp only
  refine ⟨⟨by decide, by decide, by decide, by decide⟩, ?_⟩
  conv => whnf
  try dsimp only
  refine ⟨⟨by decide, by decide, by decide, by decide⟩, ?_⟩
  conv => whnf
  try dsimp only
  refine ⟨trivial, ?_⟩
  show EV G 92 _ _ _ _ _ _ ([(20, n, []), (20, 6, []), (20, 6, []), (10, 16, [some 4, some 5, some 6, some 12, some 18, some 19, some 28, some 31, some 32, some 33, some 36, some 38, none, none, none, none]), (17, 6, [some 39, some 41, some 43, some 45, some 47, some 49]), (17, 4, [some 51, some 53, some 55, some 57]), (9, 7, [none, some 7, some 8, none, some 9, some 10, some 11]), (12, 5, []), (12, 5, []), (12, 12, []), (12, 12, []), (12, 12, []), (0, 6, [some 6, none, some 13, some 16, some 17, none]), (16, 2, [some 14, some 15]), (7, 4, [none, none, none, none]), (7, 4, [none, none, none, none]), (12, 40, []), (12, 40, []), (15, 3, [some 59, none, none]), (4, 5, [some 20, some 26, some 27, none, none]), (9, 7, [none, some 21, some 22, none, some 23, some 24, some 25]), (12, 5, []), (12, 5, []), (12, 12, []), (12, 12, []), (12, 12, []), (12, 2, []), (12, 2, []), (2, 3, [some 29, some 30, none]), (13, 2048, []), (13, 2048, []), (5, 4, [some 12, some 6, some 28, none]), (1, 5, [some 12, some 6, some 28, none, none]), (6, 5, [some 12, some 6, some 34, none, some 35]), (12, 8, []), (12, 324, []), (3, 3, [some 6, some 37, none]), (12, 5, []), (12, 6, []), (8, 2, [some 40, none]), (12, 40, []), (8, 2, [some 42, none]), (12, 40, []), (8, 2, [some 44, none]), (12, 40, []), (8, 2, [some 46, none]), (12, 40, []), (8, 2, [some 48, none]), (12, 40, []), (8, 2, [some 50, none]), (12, 40, []), (8, 2, [some 52, none]), (12, 80, []), (8, 2, [some 54, none]), (12, 80, []), (8, 2, [some 56, none]), (12, 80, []), (8, 2, [some 58, none]), (12, 80, []), (0, 6, [some 6, none, some 60, some 63, some 64, none]), (16, 2, [some 61, some 62]), (7, 4, [none, none, none, none]), (7, 4, [none, none, none, none]), (12, 40, []), (12, 40, []), (0, 6, [some 6, none, some 66, some 69, some 70, none]), (16, 2, [some 67, some 68]), (7, 4, [none, none, none, none]), (7, 4, [none, none, none, none]), (12, 40, []), (12, 40, [])], _, _) Q
  refine EV.at ck92 (by decide) 300 [] ?_
  conv => whnf
  try dsimp only
  refine ⟨by unfold vp_in; decide, ?_⟩
  conv => whnf
  try dsimp only
  refine ⟨trivial, ?_⟩
  refine EV.at ck92 (by decide) 300 [] ?_
  conv => whnf
  try dsimp only
  first | refine ⟨fun h1 => absurd h1 (by decide), fun _ => ?_⟩ | refine ⟨fun _ => ?_, fun h1 => absurd (by decide) h1⟩ | refine ⟨fun h1 => absurd (by decide) h1, fun _ => ?_⟩ | refine ⟨fun _ => ?_, fun h1 => absurd h1 (by decide)⟩
  conv => whnf
  try dsimp only
  refine ⟨⟨by decide, by decide⟩, ?_⟩
  conv => whnf
  try dsimp only
  refine ⟨⟨by decide, by decide⟩, ?_⟩
  refine MT.by ck0 (by decide) rfl (Nat.le_of_ble_eq_true rfl) rfl 300 [] ?_
  conv => whnf
  try dsimp only
  refine ⟨Or.inl rfl, ?_⟩
  conv => whnf
  try dsimp only
  refine ⟨⟨by decide, by decide, by decide, by decide⟩, ?_⟩
  conv => whnf
  try dsimp only
  refine ⟨⟨by decide, by decide⟩, ?_⟩
  conv => whnf
  try dsimp only
  refine ⟨⟨by decide, by decide⟩, ?_⟩
  refine MT.by ck66 (by decide) rfl (Nat.le_of_ble_eq_true rfl) rfl 300 [] ?_
  conv => whnf
  try dsimp only
  refine ⟨trivial, ?_⟩
  show EV G 0 _ _ _ _ _ _ ([(20, n, []), (20, 6, []), (20, 6, []), (10, 16, [some 4, some 5, some 6, some 12, some 18, some 19, some 28, some 31, some 32, some 33, some 36, some 38, none, none, none, none]), (17, 6, [some 39, some 41, some 43, some 45, some 47, some 49]), (17, 4, [some 51, some 53, some 55, some 57]), (9, 7, [none, some 7, some 8, none, some 9, some 10, some 11]), (12, 5, []), (12, 5, []), (12, 12, []), (12, 12, []), (12, 12, []), (0, 6, [some 6, none, some 13, some 16, some 17, none]), (16, 2, [some 14, some 15]), (7, 4, [none, none, none, none]), (7, 4, [none, none, none, none]), (12, 40, []), (12, 40, []), (15, 3, [some 59, some 65, none]), (4, 5, [some 20, some 26, some 27, none, none]), (9, 7, [none, some 21, some 22, none, some 23, some 24, some 25]), (12, 5, []), (12, 5, []), (12, 12, []), (12, 12, []), (12, 12, []), (12, 2, []), (12, 2, []), (2, 3, [some 29, some 30, none]), (13, 2048, []), (13, 2048, []), (5, 4, [some 12, some 6, some 28, none]), (1, 5, [some 12, some 6, some 28, none, none]), (6, 5, [some 12, some 6, some 34, none, some 35]), (12, 8, []), (12, 324, []), (3, 3, [some 6, some 37, none]), (12, 5, []), (12, 6, []), (8, 2, [some 40, none]), (12, 40, []), (8, 2, [some 42, none]), (12, 40, []), (8, 2, [some 44, none]), (12, 40, []), (8, 2, [some 46, none]), (12, 40, []), (8, 2, [some 48, none]), (12, 40, []), (8, 2, [some 50, none]), (12, 40, []), (8, 2, [some 52, none]), (12, 80, []), (8, 2, [some 54, none]), (12, 80, []), (8, 2, [some 56, none]), (12, 80, []), (8, 2, [some 58, none]), (12, 80, []), (0, 6, [some 6, none, some 60, some 63, some 64, none]), (16, 2, [some 61, some 62]), (7, 4, [none, none, none, none]), (7, 4, [none, none, none, none]), (12, 40, []), (12, 40, []), (0, 6, [some 6, none, some 66, some 69, some 70, none]), (16, 2, [some 67, some 68]), (7, 4, [none, none, none, none]), (7, 4, [none, none, none, none]), (12, 40, []), (12, 40, []), (0, 6, [none, none, none, none, none, none]), (16, 2, [none, none]), (7, 4, [none, none, none, none])], _, _) _
  refine EV.at ck0 (by decide) 300 [] ?_
  conv => whnf
  try dsimp only
  refine ⟨by unfold vp_in; decide, ?_⟩
  conv => whnf
  try dsimp only
  refine ⟨⟨by decide, by decide⟩, ?_⟩
  conv => whnf
  try dsimp only
  refine ⟨⟨by decide, by decide⟩, ?_⟩
  refine MT.by ck66 (by decide) rfl (Nat.le_of_ble_eq_true rfl) rfl 300 [] ?_
  conv => whnf
  try dsimp only
  refine ⟨trivial, ?_⟩
  show EV G 0 _ _ _ _ _ _ ([(20, n, []), (20, 6, []), (20, 6, []), (10, 16, [some 4, some 5, some 6, some 12, some 18, some 19, some 28, some 31, some 32, some 33, some 36, some 38, none, none, none, none]), (17, 6, [some 39, some 41, some 43, some 45, some 47, some 49]), (17, 4, [some 51, some 53, some 55, some 57]), (9, 7, [none, some 7, some 8, none, some 9, some 10, some 11]), (12, 5, []), (12, 5, []), (12, 12, []), (12, 12, []), (12, 12, []), (0, 6, [some 6, none, some 13, some 16, some 17, none]), (16, 2, [some 14, some 15]), (7, 4, [none, none, none, none]), (7, 4, [none, none, none, none]), (12, 40, []), (12, 40, []), (15, 3, [some 59, some 65, none]), (4, 5, [some 20, some 26, some 27, none, none]), (9, 7, [none, some 21, some 22, none, some 23, some 24, some 25]), (12, 5, []), (12, 5, []), (12, 12, []), (12, 12, []), (12, 12, []), (12, 2, []), (12, 2, []), (2, 3, [some 29, some 30, none]), (13, 2048, []), (13, 2048, []), (5, 4, [some 12, some 6, some 28, none]), (1, 5, [some 12, some 6, some 28, none, none]), (6, 5, [some 12, some 6, some 34, none, some 35]), (12, 8, []), (12, 324, []), (3, 3, [some 6, some 37, none]), (12, 5, []), (12, 6, []), (8, 2, [some 40, none]), (12, 40, []), (8, 2, [some 42, none]), (12, 40, []), (8, 2, [some 44, none]), (12, 40, []), (8, 2, [some 46, none]), (12, 40, []), (8, 2, [some 48, none]), (12, 40, []), (8, 2, [some 50, none]), (12, 40, []), (8, 2, [some 52, none]), (12, 80, []), (8, 2, [some 54, none]), (12, 80, []), (8, 2, [some 56, none]), (12, 80, []), (8, 2, [some 58, none]), (12, 80, []), (0, 6, [some 6, none, some 60, some 63, some 64, none]), (16, 2, [some 61, some 62]), (7, 4, [none, none, none, none]), (7, 4, [none, none, none, none]), (12, 40, []), (12, 40, []), (0, 6, [some 6, none, some 66, some 69, some 70, none]), (16, 2, [some 67, some 68]), (7, 4, [none, none, none, none]), (7, 4, [none, none, none, none]), (12, 40, []), (12, 40, []), (0, 6, [none, none, none, none, none, none]), (16, 2, [some 73, none]), (7, 4, [none, none, none, none]), (7, 4, [none, none, none, none])], _, _) _
  refine EV.at ck0 (by decide) 300 [] ?_
  conv => whnf
  try dsimp only
  refine ⟨by unfold vp_in; decide, ?_⟩
  conv => whnf
  try dsimp only
  refine ⟨⟨by decide, by decide, by decide, by decide⟩, ?_⟩
  conv => whnf
  try dsimp only
  refine ⟨⟨by decide, by decide, by decide, by decide⟩, ?_⟩
  conv => whnf
  try dsimp only
  refine ⟨trivial, ?_⟩
  show EV G 92 _ _ _ _ _ _ ([(20, n, []), (20, 6, []), (20, 6, []), (10, 16, [some 4, some 5, some 6, some 12, some 18, some 19, some 28, some 31, some 32, some 33, some 36, some 38, none, none, none, none]), (17, 6, [some 39, some 41, some 43, some 45, some 47, some 49]), (17, 4, [some 51, some 53, some 55, some 57]), (9, 7, [none, some 7, some 8, none, some 9, some 10, some 11]), (12, 5, []), (12, 5, []), (12, 12, []), (12, 12, []), (12, 12, []), (0, 6, [some 6, none, some 13, some 16, some 17, none]), (16, 2, [some 14, some 15]), (7, 4, [none, none, none, none]), (7, 4, [none, none, none, none]), (12, 40, []), (12, 40, []), (15, 3, [some 59, some 65, none]), (4, 5, [some 20, some 26, some 27, none, none]), (9, 7, [none, some 21, some 22, none, some 23, some 24, some 25]), (12, 5, []), (12, 5, []), (12, 12, []), (12, 12, []), (12, 12, []), (12, 2, []), (12, 2, []), (2, 3, [some 29, some 30, none]), (13, 2048, []), (13, 2048, []), (5, 4, [some 12, some 6, some 28, none]), (1, 5, [some 12, some 6, some 28, none, none]), (6, 5, [some 12, some 6, some 34, none, some 35]), (12, 8, []), (12, 324, []), (3, 3, [some 6, some 37, none]), (12, 5, []), (12, 6, []), (8, 2, [some 40, none]), (12, 40, []), (8, 2, [some 42, none]), (12, 40, []), (8, 2, [some 44, none]), (12, 40, []), (8, 2, [some 46, none]), (12, 40, []), (8, 2, [some 48, none]), (12, 40, []), (8, 2, [some 50, none]), (12, 40, []), (8, 2, [some 52, none]), (12, 80, []), (8, 2, [some 54, none]), (12, 80, []), (8, 2, [some 56, none]), (12, 80, []), (8, 2, [some 58, none]), (12, 80, []), (0, 6, [some 6, none, some 60, some 63, some 64, none]), (16, 2, [some 61, some 62]), (7, 4, [none, none, none, none]), (7, 4, [none, none, none, none]), (12, 40, []), (12, 40, []), (0, 6, [some 6, none, some 66, some 69, some 70, none]), (16, 2, [some 67, some 68]), (7, 4, [none, none, none, none]), (7, 4, [none, none, none, none]), (12, 40, []), (12, 40, []), (0, 6, [some 6, none, some 72, some 75, some 76, none]), (16, 2, [some 73, some 74]), (7, 4, [none, none, none, none]), (7, 4, [none, none, none, none]), (12, 40, []), (12, 40, [])], _, _) Q
  refine EV.at ck92 (by decide) 300 [] ?_
  conv => whnf
  try dsimp only
  refine ⟨by unfold vp_in; decide, ?_⟩
  conv => whnf
  try dsimp only
  refine ⟨trivial, ?_⟩
  refine EV.at ck92 (by decide) 300 [] ?_
  conv => whnf
  try dsimp only
  first | refine ⟨fun h1 => absurd h1 (by decide), fun _ => ?_⟩ | refine ⟨fun _ => ?_, fun h1 => absurd (by decide) h1⟩ | refine ⟨fun h1 => absurd (by decide) h1, fun _ => ?_⟩ | refine ⟨fun _ => ?_, fun h1 => absurd h1 (by decide)⟩
  conv => whnf
  try dsimp only
  refine ⟨trivial, ?_⟩
  exact h _ _ ⟨rfl, rfl, rfl, rfl, rfl, rfl, rfl, rfl, rfl, rfl, rfl, rfl, rfl, rfl, rfl, rfl, rfl, rfl, rfl, rfl, rfl, rfl, rfl, rfl, rfl, rfl, rfl, rfl, rfl, rfl, rfl, rfl, rfl, rfl, rfl, trivial⟩
end
