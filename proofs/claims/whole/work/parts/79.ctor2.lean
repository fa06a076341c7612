/-! the reference made anew -/
section
variable {G : GG} {D n : Nat} {I : Nat → Nat → Int32} {J : Nat → Nat → Int64} {Q : Option Value → MH → Prop}
def NM (I I' : Nat → Nat → Int32) (J J' : Nat → Nat → Int64) : Prop := I' 0 = I 0 ∧ I' 1 = I 1 ∧ I' 2 = I 2 ∧ I' 3 = I 3 ∧ I' 6 = I 6 ∧ I' 12 = I 12 ∧ I' 14 = I 14 ∧ I' 15 = I 15 ∧ I' 38 = I 38 ∧ I' 39 = I 39 ∧ I' 41 = I 41 ∧ I' 43 = I 43 ∧ I' 45 = I 45 ∧ I' 47 = I 47 ∧ I' 49 = I 49 ∧ I' 51 = I 51 ∧ I' 53 = I 53 ∧ I' 55 = I 55 ∧ I' 57 = I 57 ∧ I' 59 = I 59 ∧ I' 65 = I 65 ∧ I' 71 = I 71 ∧ J' 3 = J 3 ∧ J' 28 = J 28 ∧ J' 29 = J 29 ∧ I' 77 2 = I 77 2 ∧ I' 77 3 = I 77 3 ∧ I' 77 6 = I 77 6 ∧ I' 77 10 = I 77 10 ∧ I' 77 12 = I 77 12 ∧ I' 78 = (fun _ => 0) ∧ I' 79 = (fun _ => 0) ∧ I' 85 = (fun _ => 0) ∧ I' 86 0 = -1 ∧ I' 86 1 = -1 ∧ I' 86 2 = -1 ∧ I' 86 3 = -1 ∧ I' 86 4 = -1 ∧ I' 86 5 = -1 ∧ I' 88 0 = -1 ∧ I' 88 1 = -1 ∧ I' 88 2 = -1 ∧ I' 88 3 = -1 ∧ J' 77 13 = J 77 13 ∧ J' 77 14 = 1
set_option maxRecDepth 100000 in
set_option maxHeartbeats 8000000 in
theorem n_model (h : ∀ I' J', NM I I' J J' → Q none (SH n, I', J')) : MT G (D + 2) 157 [.ref 77] ([(20, n, []), (20, 6, []), (20, 6, []), (10, 16, [some 4, some 5, some 6, some 12, some 18, some 19, some 28, some 31, some 32, some 33, some 36, some 38, none, none, none, none]), (17, 6, [some 39, some 41, some 43, some 45, some 47, some 49]), (17, 4, [some 51, some 53, some 55, some 57]), (9, 7, [none, some 7, some 8, none, some 9, some 10, some 11]), (12, 5, []), (12, 5, []), (12, 12, []), (12, 12, []), (12, 12, []), (0, 6, [some 6, none, some 13, some 16, some 17, none]), (16, 2, [some 14, some 15]), (7, 4, [none, none, none, none]), (7, 4, [none, none, none, none]), (12, 40, []), (12, 40, []), (15, 3, [some 59, some 65, some 71]), (4, 5, [some 20, some 26, some 27, none, none]), (9, 7, [none, some 21, some 22, none, some 23, some 24, some 25]), (12, 5, []), (12, 5, []), (12, 12, []), (12, 12, []), (12, 12, []), (12, 2, []), (12, 2, []), (2, 3, [some 29, some 30, none]), (13, 2048, []), (13, 2048, []), (5, 4, [some 12, some 6, some 28, none]), (1, 5, [some 12, some 6, some 28, none, none]), (6, 5, [some 12, some 6, some 34, none, some 35]), (12, 8, []), (12, 324, []), (3, 3, [some 6, some 37, none]), (12, 5, []), (12, 6, []), (8, 2, [some 40, none]), (12, 40, []), (8, 2, [some 42, none]), (12, 40, []), (8, 2, [some 44, none]), (12, 40, []), (8, 2, [some 46, none]), (12, 40, []), (8, 2, [some 48, none]), (12, 40, []), (8, 2, [some 50, none]), (12, 40, []), (8, 2, [some 52, none]), (12, 80, []), (8, 2, [some 54, none]), (12, 80, []), (8, 2, [some 56, none]), (12, 80, []), (8, 2, [some 58, none]), (12, 80, []), (0, 6, [some 6, none, some 60, some 63, some 64, none]), (16, 2, [some 61, some 62]), (7, 4, [none, none, none, none]), (7, 4, [none, none, none, none]), (12, 40, []), (12, 40, []), (0, 6, [some 6, none, some 66, some 69, some 70, none]), (16, 2, [some 67, some 68]), (7, 4, [none, none, none, none]), (7, 4, [none, none, none, none]), (12, 40, []), (12, 40, []), (0, 6, [some 6, none, some 72, some 75, some 76, none]), (16, 2, [some 73, some 74]), (7, 4, [none, none, none, none]), (7, 4, [none, none, none, none]), (12, 40, []), (12, 40, []), (11, 47, [none, none, none, none, none, none, none, none, none, none, none, none, none, none, none, none, none, none, none, none, none, none, none, none, none, none, none, none, none, none, none, none, none, none, none, none, none, none, none, none, none, none, none, none, none, none, none])], I, J) Q := by
  refine MT.by ck157 (by decide) rfl (Nat.le_of_ble_eq_true rfl) rfl 300 [31, 58, 79, 104, 126, 150, 173, 196, 220, 243, 259] ?_
  conv => whnf
  try dsimp only
  refine ⟨⟨by decide, by decide, by decide, by decide⟩, ?_⟩
  conv => whnf
  try dsimp only
  refine ⟨⟨by decide, by decide, by decide, by decide⟩, ?_⟩
  conv => whnf
  try dsimp only
  refine ⟨⟨by decide, by decide, by decide, by decide⟩, ?_⟩
  conv => whnf
  try dsimp only
  refine ⟨⟨by decide, by decide, by decide, by decide⟩, ?_⟩
  conv => whnf
  try dsimp only
  refine ⟨trivial, ?_⟩
  show EV G 157 _ _ _ _ _ _ ([(20, n, []), (20, 6, []), (20, 6, []), (10, 16, [some 4, some 5, some 6, some 12, some 18, some 19, some 28, some 31, some 32, some 33, some 36, some 38, none, none, none, none]), (17, 6, [some 39, some 41, some 43, some 45, some 47, some 49]), (17, 4, [some 51, some 53, some 55, some 57]), (9, 7, [none, some 7, some 8, none, some 9, some 10, some 11]), (12, 5, []), (12, 5, []), (12, 12, []), (12, 12, []), (12, 12, []), (0, 6, [some 6, none, some 13, some 16, some 17, none]), (16, 2, [some 14, some 15]), (7, 4, [none, none, none, none]), (7, 4, [none, none, none, none]), (12, 40, []), (12, 40, []), (15, 3, [some 59, some 65, some 71]), (4, 5, [some 20, some 26, some 27, none, none]), (9, 7, [none, some 21, some 22, none, some 23, some 24, some 25]), (12, 5, []), (12, 5, []), (12, 12, []), (12, 12, []), (12, 12, []), (12, 2, []), (12, 2, []), (2, 3, [some 29, some 30, none]), (13, 2048, []), (13, 2048, []), (5, 4, [some 12, some 6, some 28, none]), (1, 5, [some 12, some 6, some 28, none, none]), (6, 5, [some 12, some 6, some 34, none, some 35]), (12, 8, []), (12, 324, []), (3, 3, [some 6, some 37, none]), (12, 5, []), (12, 6, []), (8, 2, [some 40, none]), (12, 40, []), (8, 2, [some 42, none]), (12, 40, []), (8, 2, [some 44, none]), (12, 40, []), (8, 2, [some 46, none]), (12, 40, []), (8, 2, [some 48, none]), (12, 40, []), (8, 2, [some 50, none]), (12, 40, []), (8, 2, [some 52, none]), (12, 80, []), (8, 2, [some 54, none]), (12, 80, []), (8, 2, [some 56, none]), (12, 80, []), (8, 2, [some 58, none]), (12, 80, []), (0, 6, [some 6, none, some 60, some 63, some 64, none]), (16, 2, [some 61, some 62]), (7, 4, [none, none, none, none]), (7, 4, [none, none, none, none]), (12, 40, []), (12, 40, []), (0, 6, [some 6, none, some 66, some 69, some 70, none]), (16, 2, [some 67, some 68]), (7, 4, [none, none, none, none]), (7, 4, [none, none, none, none]), (12, 40, []), (12, 40, []), (0, 6, [some 6, none, some 72, some 75, some 76, none]), (16, 2, [some 73, some 74]), (7, 4, [none, none, none, none]), (7, 4, [none, none, none, none]), (12, 40, []), (12, 40, []), (11, 47, [some 78, some 79, none, none, some 80, none, none, none, none, none, none, none, none, none, none, none, none, none, none, none, none, none, none, none, none, none, none, none, none, none, none, none, none, none, none, none, none, none, none, none, none, none, none, none, none, none, none]), (12, 1156, []), (14, 3, []), (12, 5, []), (12, 5, [])], _, _) Q
  refine EV.at ck157 (by decide) 300 [31, 58, 79, 104, 126, 150, 173, 196, 220, 243, 259] ?_
  conv => whnf
  try dsimp only
  refine ⟨⟨by decide, by decide, by decide, by decide⟩, ?_⟩
  conv => whnf
  try dsimp only
  refine ⟨⟨by decide, by decide, by decide, by decide⟩, ?_⟩
  conv => whnf
  try dsimp only
  refine ⟨⟨by decide, by decide, by decide, by decide⟩, ?_⟩
  conv => whnf
  try dsimp only
  refine ⟨trivial, ?_⟩
  show EV G 157 _ _ _ _ _ _ ([(20, n, []), (20, 6, []), (20, 6, []), (10, 16, [some 4, some 5, some 6, some 12, some 18, some 19, some 28, some 31, some 32, some 33, some 36, some 38, none, none, none, none]), (17, 6, [some 39, some 41, some 43, some 45, some 47, some 49]), (17, 4, [some 51, some 53, some 55, some 57]), (9, 7, [none, some 7, some 8, none, some 9, some 10, some 11]), (12, 5, []), (12, 5, []), (12, 12, []), (12, 12, []), (12, 12, []), (0, 6, [some 6, none, some 13, some 16, some 17, none]), (16, 2, [some 14, some 15]), (7, 4, [none, none, none, none]), (7, 4, [none, none, none, none]), (12, 40, []), (12, 40, []), (15, 3, [some 59, some 65, some 71]), (4, 5, [some 20, some 26, some 27, none, none]), (9, 7, [none, some 21, some 22, none, some 23, some 24, some 25]), (12, 5, []), (12, 5, []), (12, 12, []), (12, 12, []), (12, 12, []), (12, 2, []), (12, 2, []), (2, 3, [some 29, some 30, none]), (13, 2048, []), (13, 2048, []), (5, 4, [some 12, some 6, some 28, none]), (1, 5, [some 12, some 6, some 28, none, none]), (6, 5, [some 12, some 6, some 34, none, some 35]), (12, 8, []), (12, 324, []), (3, 3, [some 6, some 37, none]), (12, 5, []), (12, 6, []), (8, 2, [some 40, none]), (12, 40, []), (8, 2, [some 42, none]), (12, 40, []), (8, 2, [some 44, none]), (12, 40, []), (8, 2, [some 46, none]), (12, 40, []), (8, 2, [some 48, none]), (12, 40, []), (8, 2, [some 50, none]), (12, 40, []), (8, 2, [some 52, none]), (12, 80, []), (8, 2, [some 54, none]), (12, 80, []), (8, 2, [some 56, none]), (12, 80, []), (8, 2, [some 58, none]), (12, 80, []), (0, 6, [some 6, none, some 60, some 63, some 64, none]), (16, 2, [some 61, some 62]), (7, 4, [none, none, none, none]), (7, 4, [none, none, none, none]), (12, 40, []), (12, 40, []), (0, 6, [some 6, none, some 66, some 69, some 70, none]), (16, 2, [some 67, some 68]), (7, 4, [none, none, none, none]), (7, 4, [none, none, none, none]), (12, 40, []), (12, 40, []), (0, 6, [some 6, none, some 72, some 75, some 76, none]), (16, 2, [some 73, some 74]), (7, 4, [none, none, none, none]), (7, 4, [none, none, none, none]), (12, 40, []), (12, 40, []), (11, 47, [some 78, some 79, none, none, some 80, some 81, none, some 82, some 83, some 84, none, none, none, none, none, none, none, none, none, none, none, none, none, none, none, none, none, none, none, none, none, none, none, none, none, none, none, none, none, none, none, none, none, none, none, none, none]), (12, 1156, []), (14, 3, []), (12, 5, []), (12, 5, []), (12, 12, []), (12, 12, []), (12, 12, [])], _, _) Q
  refine EV.at ck157 (by decide) 300 [31, 58, 79, 104, 126, 150, 173, 196, 220, 243, 259] ?_
  conv => whnf
  try dsimp only
  refine ⟨⟨by decide, by decide, by decide, by decide⟩, ?_⟩
  conv => whnf
  try dsimp only
  refine ⟨⟨by decide, by decide, by decide, by decide⟩, ?_⟩
  conv => whnf
  try dsimp only
  refine ⟨trivial, ?_⟩
  show EV G 157 _ _ _ _ _ _ ([(20, n, []), (20, 6, []), (20, 6, []), (10, 16, [some 4, some 5, some 6, some 12, some 18, some 19, some 28, some 31, some 32, some 33, some 36, some 38, none, none, none, none]), (17, 6, [some 39, some 41, some 43, some 45, some 47, some 49]), (17, 4, [some 51, some 53, some 55, some 57]), (9, 7, [none, some 7, some 8, none, some 9, some 10, some 11]), (12, 5, []), (12, 5, []), (12, 12, []), (12, 12, []), (12, 12, []), (0, 6, [some 6, none, some 13, some 16, some 17, none]), (16, 2, [some 14, some 15]), (7, 4, [none, none, none, none]), (7, 4, [none, none, none, none]), (12, 40, []), (12, 40, []), (15, 3, [some 59, some 65, some 71]), (4, 5, [some 20, some 26, some 27, none, none]), (9, 7, [none, some 21, some 22, none, some 23, some 24, some 25]), (12, 5, []), (12, 5, []), (12, 12, []), (12, 12, []), (12, 12, []), (12, 2, []), (12, 2, []), (2, 3, [some 29, some 30, none]), (13, 2048, []), (13, 2048, []), (5, 4, [some 12, some 6, some 28, none]), (1, 5, [some 12, some 6, some 28, none, none]), (6, 5, [some 12, some 6, some 34, none, some 35]), (12, 8, []), (12, 324, []), (3, 3, [some 6, some 37, none]), (12, 5, []), (12, 6, []), (8, 2, [some 40, none]), (12, 40, []), (8, 2, [some 42, none]), (12, 40, []), (8, 2, [some 44, none]), (12, 40, []), (8, 2, [some 46, none]), (12, 40, []), (8, 2, [some 48, none]), (12, 40, []), (8, 2, [some 50, none]), (12, 40, []), (8, 2, [some 52, none]), (12, 80, []), (8, 2, [some 54, none]), (12, 80, []), (8, 2, [some 56, none]), (12, 80, []), (8, 2, [some 58, none]), (12, 80, []), (0, 6, [some 6, none, some 60, some 63, some 64, none]), (16, 2, [some 61, some 62]), (7, 4, [none, none, none, none]), (7, 4, [none, none, none, none]), (12, 40, []), (12, 40, []), (0, 6, [some 6, none, some 66, some 69, some 70, none]), (16, 2, [some 67, some 68]), (7, 4, [none, none, none, none]), (7, 4, [none, none, none, none]), (12, 40, []), (12, 40, []), (0, 6, [some 6, none, some 72, some 75, some 76, none]), (16, 2, [some 73, some 74]), (7, 4, [none, none, none, none]), (7, 4, [none, none, none, none]), (12, 40, []), (12, 40, []), (11, 47, [some 78, some 79, none, none, some 80, some 81, none, some 82, some 83, some 84, none, some 85, none, none, none, some 86, none, none, none, none, none, none, none, none, none, none, none, none, none, none, none, none, none, none, none, none, none, none, none, none, none, none, none, none, none, none, none]), (12, 1156, []), (14, 3, []), (12, 5, []), (12, 5, []), (12, 12, []), (12, 12, []), (12, 12, []), (12, 6, []), (12, 6, [])], _, _) Q
  refine EV.at ck157 (by decide) 300 [31, 58, 79, 104, 126, 150, 173, 196, 220, 243, 259] ?_
  conv => whnf
  try dsimp only
  refine ⟨⟨by decide, by decide, by decide, by decide⟩, ?_⟩
  conv => whnf
  try dsimp only
  refine ⟨⟨by decide, by decide, by decide, by decide⟩, ?_⟩
  conv => whnf
  try dsimp only
  refine ⟨⟨by decide, by decide, by decide, by decide⟩, ?_⟩
  conv => whnf
  try dsimp only
  refine ⟨trivial, ?_⟩
  show EV G 157 _ _ _ _ _ _ ([(20, n, []), (20, 6, []), (20, 6, []), (10, 16, [some 4, some 5, some 6, some 12, some 18, some 19, some 28, some 31, some 32, some 33, some 36, some 38, none, none, none, none]), (17, 6, [some 39, some 41, some 43, some 45, some 47, some 49]), (17, 4, [some 51, some 53, some 55, some 57]), (9, 7, [none, some 7, some 8, none, some 9, some 10, some 11]), (12, 5, []), (12, 5, []), (12, 12, []), (12, 12, []), (12, 12, []), (0, 6, [some 6, none, some 13, some 16, some 17, none]), (16, 2, [some 14, some 15]), (7, 4, [none, none, none, none]), (7, 4, [none, none, none, none]), (12, 40, []), (12, 40, []), (15, 3, [some 59, some 65, some 71]), (4, 5, [some 20, some 26, some 27, none, none]), (9, 7, [none, some 21, some 22, none, some 23, some 24, some 25]), (12, 5, []), (12, 5, []), (12, 12, []), (12, 12, []), (12, 12, []), (12, 2, []), (12, 2, []), (2, 3, [some 29, some 30, none]), (13, 2048, []), (13, 2048, []), (5, 4, [some 12, some 6, some 28, none]), (1, 5, [some 12, some 6, some 28, none, none]), (6, 5, [some 12, some 6, some 34, none, some 35]), (12, 8, []), (12, 324, []), (3, 3, [some 6, some 37, none]), (12, 5, []), (12, 6, []), (8, 2, [some 40, none]), (12, 40, []), (8, 2, [some 42, none]), (12, 40, []), (8, 2, [some 44, none]), (12, 40, []), (8, 2, [some 46, none]), (12, 40, []), (8, 2, [some 48, none]), (12, 40, []), (8, 2, [some 50, none]), (12, 40, []), (8, 2, [some 52, none]), (12, 80, []), (8, 2, [some 54, none]), (12, 80, []), (8, 2, [some 56, none]), (12, 80, []), (8, 2, [some 58, none]), (12, 80, []), (0, 6, [some 6, none, some 60, some 63, some 64, none]), (16, 2, [some 61, some 62]), (7, 4, [none, none, none, none]), (7, 4, [none, none, none, none]), (12, 40, []), (12, 40, []), (0, 6, [some 6, none, some 66, some 69, some 70, none]), (16, 2, [some 67, some 68]), (7, 4, [none, none, none, none]), (7, 4, [none, none, none, none]), (12, 40, []), (12, 40, []), (0, 6, [some 6, none, some 72, some 75, some 76, none]), (16, 2, [some 73, some 74]), (7, 4, [none, none, none, none]), (7, 4, [none, none, none, none]), (12, 40, []), (12, 40, []), (11, 47, [some 78, some 79, none, none, some 80, some 81, none, some 82, some 83, some 84, none, some 85, none, none, none, some 86, some 87, some 88, some 89, none, none, none, none, none, none, none, none, none, none, none, none, none, none, none, none, none, none, none, none, none, none, none, none, none, none, none, none]), (12, 1156, []), (14, 3, []), (12, 5, []), (12, 5, []), (12, 12, []), (12, 12, []), (12, 12, []), (12, 6, []), (12, 6, []), (12, 240, []), (12, 4, []), (12, 320, [])], _, _) Q
  refine EV.at ck157 (by decide) 300 [31, 58, 79, 104, 126, 150, 173, 196, 220, 243, 259] ?_
  conv => whnf
  try dsimp only
  refine ⟨⟨by decide, by decide, by decide, by decide⟩, ?_⟩
  conv => whnf
  try dsimp only
  refine ⟨⟨by decide, by decide, by decide, by decide⟩, ?_⟩
  conv => whnf
  try dsimp only
  refine ⟨⟨by decide, by decide, by decide, by decide⟩, ?_⟩
  conv => whnf
  try dsimp only
  refine ⟨trivial, ?_⟩
  show EV G 157 _ _ _ _ _ _ ([(20, n, []), (20, 6, []), (20, 6, []), (10, 16, [some 4, some 5, some 6, some 12, some 18, some 19, some 28, some 31, some 32, some 33, some 36, some 38, none, none, none, none]), (17, 6, [some 39, some 41, some 43, some 45, some 47, some 49]), (17, 4, [some 51, some 53, some 55, some 57]), (9, 7, [none, some 7, some 8, none, some 9, some 10, some 11]), (12, 5, []), (12, 5, []), (12, 12, []), (12, 12, []), (12, 12, []), (0, 6, [some 6, none, some 13, some 16, some 17, none]), (16, 2, [some 14, some 15]), (7, 4, [none, none, none, none]), (7, 4, [none, none, none, none]), (12, 40, []), (12, 40, []), (15, 3, [some 59, some 65, some 71]), (4, 5, [some 20, some 26, some 27, none, none]), (9, 7, [none, some 21, some 22, none, some 23, some 24, some 25]), (12, 5, []), (12, 5, []), (12, 12, []), (12, 12, []), (12, 12, []), (12, 2, []), (12, 2, []), (2, 3, [some 29, some 30, none]), (13, 2048, []), (13, 2048, []), (5, 4, [some 12, some 6, some 28, none]), (1, 5, [some 12, some 6, some 28, none, none]), (6, 5, [some 12, some 6, some 34, none, some 35]), (12, 8, []), (12, 324, []), (3, 3, [some 6, some 37, none]), (12, 5, []), (12, 6, []), (8, 2, [some 40, none]), (12, 40, []), (8, 2, [some 42, none]), (12, 40, []), (8, 2, [some 44, none]), (12, 40, []), (8, 2, [some 46, none]), (12, 40, []), (8, 2, [some 48, none]), (12, 40, []), (8, 2, [some 50, none]), (12, 40, []), (8, 2, [some 52, none]), (12, 80, []), (8, 2, [some 54, none]), (12, 80, []), (8, 2, [some 56, none]), (12, 80, []), (8, 2, [some 58, none]), (12, 80, []), (0, 6, [some 6, none, some 60, some 63, some 64, none]), (16, 2, [some 61, some 62]), (7, 4, [none, none, none, none]), (7, 4, [none, none, none, none]), (12, 40, []), (12, 40, []), (0, 6, [some 6, none, some 66, some 69, some 70, none]), (16, 2, [some 67, some 68]), (7, 4, [none, none, none, none]), (7, 4, [none, none, none, none]), (12, 40, []), (12, 40, []), (0, 6, [some 6, none, some 72, some 75, some 76, none]), (16, 2, [some 73, some 74]), (7, 4, [none, none, none, none]), (7, 4, [none, none, none, none]), (12, 40, []), (12, 40, []), (11, 47, [some 78, some 79, none, none, some 80, some 81, none, some 82, some 83, some 84, none, some 85, none, none, none, some 86, some 87, some 88, some 89, some 90, none, none, none, some 91, some 92, none, none, none, none, none, none, none, none, none, none, none, none, none, none, none, none, none, none, none, none, none, none]), (12, 1156, []), (14, 3, []), (12, 5, []), (12, 5, []), (12, 12, []), (12, 12, []), (12, 12, []), (12, 6, []), (12, 6, []), (12, 240, []), (12, 4, []), (12, 320, []), (12, 40, []), (12, 5, []), (12, 5, [])], _, _) Q
  refine EV.at ck157 (by decide) 300 [31, 58, 79, 104, 126, 150, 173, 196, 220, 243, 259] ?_
  conv => whnf
  try dsimp only
  refine ⟨⟨by decide, by decide, by decide, by decide⟩, ?_⟩
  conv => whnf
  try dsimp only
  refine ⟨⟨by decide, by decide, by decide, by decide⟩, ?_⟩
  conv => whnf
  try dsimp only
  refine ⟨⟨by decide, by decide, by decide, by decide⟩, ?_⟩
  conv => whnf
  try dsimp only
  refine ⟨trivial, ?_⟩
  show EV G 157 _ _ _ _ _ _ ([(20, n, []), (20, 6, []), (20, 6, []), (10, 16, [some 4, some 5, some 6, some 12, some 18, some 19, some 28, some 31, some 32, some 33, some 36, some 38, none, none, none, none]), (17, 6, [some 39, some 41, some 43, some 45, some 47, some 49]), (17, 4, [some 51, some 53, some 55, some 57]), (9, 7, [none, some 7, some 8, none, some 9, some 10, some 11]), (12, 5, []), (12, 5, []), (12, 12, []), (12, 12, []), (12, 12, []), (0, 6, [some 6, none, some 13, some 16, some 17, none]), (16, 2, [some 14, some 15]), (7, 4, [none, none, none, none]), (7, 4, [none, none, none, none]), (12, 40, []), (12, 40, []), (15, 3, [some 59, some 65, some 71]), (4, 5, [some 20, some 26, some 27, none, none]), (9, 7, [none, some 21, some 22, none, some 23, some 24, some 25]), (12, 5, []), (12, 5, []), (12, 12, []), (12, 12, []), (12, 12, []), (12, 2, []), (12, 2, []), (2, 3, [some 29, some 30, none]), (13, 2048, []), (13, 2048, []), (5, 4, [some 12, some 6, some 28, none]), (1, 5, [some 12, some 6, some 28, none, none]), (6, 5, [some 12, some 6, some 34, none, some 35]), (12, 8, []), (12, 324, []), (3, 3, [some 6, some 37, none]), (12, 5, []), (12, 6, []), (8, 2, [some 40, none]), (12, 40, []), (8, 2, [some 42, none]), (12, 40, []), (8, 2, [some 44, none]), (12, 40, []), (8, 2, [some 46, none]), (12, 40, []), (8, 2, [some 48, none]), (12, 40, []), (8, 2, [some 50, none]), (12, 40, []), (8, 2, [some 52, none]), (12, 80, []), (8, 2, [some 54, none]), (12, 80, []), (8, 2, [some 56, none]), (12, 80, []), (8, 2, [some 58, none]), (12, 80, []), (0, 6, [some 6, none, some 60, some 63, some 64, none]), (16, 2, [some 61, some 62]), (7, 4, [none, none, none, none]), (7, 4, [none, none, none, none]), (12, 40, []), (12, 40, []), (0, 6, [some 6, none, some 66, some 69, some 70, none]), (16, 2, [some 67, some 68]), (7, 4, [none, none, none, none]), (7, 4, [none, none, none, none]), (12, 40, []), (12, 40, []), (0, 6, [some 6, none, some 72, some 75, some 76, none]), (16, 2, [some 73, some 74]), (7, 4, [none, none, none, none]), (7, 4, [none, none, none, none]), (12, 40, []), (12, 40, []), (11, 47, [some 78, some 79, none, none, some 80, some 81, none, some 82, some 83, some 84, none, some 85, none, none, none, some 86, some 87, some 88, some 89, some 90, none, none, none, some 91, some 92, some 93, some 94, some 95, none, none, none, none, none, none, none, none, none, none, none, none, none, none, none, none, none, none, none]), (12, 1156, []), (14, 3, []), (12, 5, []), (12, 5, []), (12, 12, []), (12, 12, []), (12, 12, []), (12, 6, []), (12, 6, []), (12, 240, []), (12, 4, []), (12, 320, []), (12, 40, []), (12, 5, []), (12, 5, []), (12, 12, []), (12, 12, []), (12, 12, [])], _, _) Q
  refine EV.at ck157 (by decide) 300 [31, 58, 79, 104, 126, 150, 173, 196, 220, 243, 259] ?_
  conv => whnf
  try dsimp only
  refine ⟨⟨by decide, by decide, by decide, by decide⟩, ?_⟩
  conv => whnf
  try dsimp only
  refine ⟨⟨by decide, by decide, by decide, by decide⟩, ?_⟩
  conv => whnf
  try dsimp only
  refine ⟨⟨by decide, by decide, by decide, by decide⟩, ?_⟩
  conv => whnf
  try dsimp only
  refine ⟨trivial, ?_⟩
  show EV G 157 _ _ _ _ _ _ ([(20, n, []), (20, 6, []), (20, 6, []), (10, 16, [some 4, some 5, some 6, some 12, some 18, some 19, some 28, some 31, some 32, some 33, some 36, some 38, none, none, none, none]), (17, 6, [some 39, some 41, some 43, some 45, some 47, some 49]), (17, 4, [some 51, some 53, some 55, some 57]), (9, 7, [none, some 7, some 8, none, some 9, some 10, some 11]), (12, 5, []), (12, 5, []), (12, 12, []), (12, 12, []), (12, 12, []), (0, 6, [some 6, none, some 13, some 16, some 17, none]), (16, 2, [some 14, some 15]), (7, 4, [none, none, none, none]), (7, 4, [none, none, none, none]), (12, 40, []), (12, 40, []), (15, 3, [some 59, some 65, some 71]), (4, 5, [some 20, some 26, some 27, none, none]), (9, 7, [none, some 21, some 22, none, some 23, some 24, some 25]), (12, 5, []), (12, 5, []), (12, 12, []), (12, 12, []), (12, 12, []), (12, 2, []), (12, 2, []), (2, 3, [some 29, some 30, none]), (13, 2048, []), (13, 2048, []), (5, 4, [some 12, some 6, some 28, none]), (1, 5, [some 12, some 6, some 28, none, none]), (6, 5, [some 12, some 6, some 34, none, some 35]), (12, 8, []), (12, 324, []), (3, 3, [some 6, some 37, none]), (12, 5, []), (12, 6, []), (8, 2, [some 40, none]), (12, 40, []), (8, 2, [some 42, none]), (12, 40, []), (8, 2, [some 44, none]), (12, 40, []), (8, 2, [some 46, none]), (12, 40, []), (8, 2, [some 48, none]), (12, 40, []), (8, 2, [some 50, none]), (12, 40, []), (8, 2, [some 52, none]), (12, 80, []), (8, 2, [some 54, none]), (12, 80, []), (8, 2, [some 56, none]), (12, 80, []), (8, 2, [some 58, none]), (12, 80, []), (0, 6, [some 6, none, some 60, some 63, some 64, none]), (16, 2, [some 61, some 62]), (7, 4, [none, none, none, none]), (7, 4, [none, none, none, none]), (12, 40, []), (12, 40, []), (0, 6, [some 6, none, some 66, some 69, some 70, none]), (16, 2, [some 67, some 68]), (7, 4, [none, none, none, none]), (7, 4, [none, none, none, none]), (12, 40, []), (12, 40, []), (0, 6, [some 6, none, some 72, some 75, some 76, none]), (16, 2, [some 73, some 74]), (7, 4, [none, none, none, none]), (7, 4, [none, none, none, none]), (12, 40, []), (12, 40, []), (11, 47, [some 78, some 79, none, none, some 80, some 81, none, some 82, some 83, some 84, none, some 85, none, none, none, some 86, some 87, some 88, some 89, some 90, none, none, none, some 91, some 92, some 93, some 94, some 95, some 96, none, none, some 97, some 98, none, none, none, none, none, none, none, none, none, none, none, none, none, none]), (12, 1156, []), (14, 3, []), (12, 5, []), (12, 5, []), (12, 12, []), (12, 12, []), (12, 12, []), (12, 6, []), (12, 6, []), (12, 240, []), (12, 4, []), (12, 320, []), (12, 40, []), (12, 5, []), (12, 5, []), (12, 12, []), (12, 12, []), (12, 12, []), (12, 4, []), (12, 78, []), (12, 13, [])], _, _) Q
  refine EV.at ck157 (by decide) 300 [31, 58, 79, 104, 126, 150, 173, 196, 220, 243, 259] ?_
  conv => whnf
  try dsimp only
  refine ⟨⟨by decide, by decide, by decide, by decide⟩, ?_⟩
  conv => whnf
  try dsimp only
  refine ⟨⟨by decide, by decide, by decide, by decide⟩, ?_⟩
  conv => whnf
  try dsimp only
  refine ⟨⟨by decide, by decide, by decide, by decide⟩, ?_⟩
  conv => whnf
  try dsimp only
  refine ⟨trivial, ?_⟩
  show EV G 157 _ _ _ _ _ _ ([(20, n, []), (20, 6, []), (20, 6, []), (10, 16, [some 4, some 5, some 6, some 12, some 18, some 19, some 28, some 31, some 32, some 33, some 36, some 38, none, none, none, none]), (17, 6, [some 39, some 41, some 43, some 45, some 47, some 49]), (17, 4, [some 51, some 53, some 55, some 57]), (9, 7, [none, some 7, some 8, none, some 9, some 10, some 11]), (12, 5, []), (12, 5, []), (12, 12, []), (12, 12, []), (12, 12, []), (0, 6, [some 6, none, some 13, some 16, some 17, none]), (16, 2, [some 14, some 15]), (7, 4, [none, none, none, none]), (7, 4, [none, none, none, none]), (12, 40, []), (12, 40, []), (15, 3, [some 59, some 65, some 71]), (4, 5, [some 20, some 26, some 27, none, none]), (9, 7, [none, some 21, some 22, none, some 23, some 24, some 25]), (12, 5, []), (12, 5, []), (12, 12, []), (12, 12, []), (12, 12, []), (12, 2, []), (12, 2, []), (2, 3, [some 29, some 30, none]), (13, 2048, []), (13, 2048, []), (5, 4, [some 12, some 6, some 28, none]), (1, 5, [some 12, some 6, some 28, none, none]), (6, 5, [some 12, some 6, some 34, none, some 35]), (12, 8, []), (12, 324, []), (3, 3, [some 6, some 37, none]), (12, 5, []), (12, 6, []), (8, 2, [some 40, none]), (12, 40, []), (8, 2, [some 42, none]), (12, 40, []), (8, 2, [some 44, none]), (12, 40, []), (8, 2, [some 46, none]), (12, 40, []), (8, 2, [some 48, none]), (12, 40, []), (8, 2, [some 50, none]), (12, 40, []), (8, 2, [some 52, none]), (12, 80, []), (8, 2, [some 54, none]), (12, 80, []), (8, 2, [some 56, none]), (12, 80, []), (8, 2, [some 58, none]), (12, 80, []), (0, 6, [some 6, none, some 60, some 63, some 64, none]), (16, 2, [some 61, some 62]), (7, 4, [none, none, none, none]), (7, 4, [none, none, none, none]), (12, 40, []), (12, 40, []), (0, 6, [some 6, none, some 66, some 69, some 70, none]), (16, 2, [some 67, some 68]), (7, 4, [none, none, none, none]), (7, 4, [none, none, none, none]), (12, 40, []), (12, 40, []), (0, 6, [some 6, none, some 72, some 75, some 76, none]), (16, 2, [some 73, some 74]), (7, 4, [none, none, none, none]), (7, 4, [none, none, none, none]), (12, 40, []), (12, 40, []), (11, 47, [some 78, some 79, none, none, some 80, some 81, none, some 82, some 83, some 84, none, some 85, none, none, none, some 86, some 87, some 88, some 89, some 90, none, none, none, some 91, some 92, some 93, some 94, some 95, some 96, none, none, some 97, some 98, some 99, none, some 100, some 101, none, none, none, none, none, none, none, none, none, none]), (12, 1156, []), (14, 3, []), (12, 5, []), (12, 5, []), (12, 12, []), (12, 12, []), (12, 12, []), (12, 6, []), (12, 6, []), (12, 240, []), (12, 4, []), (12, 320, []), (12, 40, []), (12, 5, []), (12, 5, []), (12, 12, []), (12, 12, []), (12, 12, []), (12, 4, []), (12, 78, []), (12, 13, []), (12, 2, []), (12, 13, []), (12, 13, [])], _, _) Q
  refine EV.at ck157 (by decide) 300 [31, 58, 79, 104, 126, 150, 173, 196, 220, 243, 259] ?_
  conv => whnf
  try dsimp only
  refine ⟨⟨by decide, by decide, by decide, by decide⟩, ?_⟩
  conv => whnf
  try dsimp only
  refine ⟨⟨by decide, by decide, by decide, by decide⟩, ?_⟩
  conv => whnf
  try dsimp only
  refine ⟨⟨by decide, by decide, by decide, by decide⟩, ?_⟩
  conv => whnf
  try dsimp only
  refine ⟨trivial, ?_⟩
  show EV G 157 _ _ _ _ _ _ ([(20, n, []), (20, 6, []), (20, 6, []), (10, 16, [some 4, some 5, some 6, some 12, some 18, some 19, some 28, some 31, some 32, some 33, some 36, some 38, none, none, none, none]), (17, 6, [some 39, some 41, some 43, some 45, some 47, some 49]), (17, 4, [some 51, some 53, some 55, some 57]), (9, 7, [none, some 7, some 8, none, some 9, some 10, some 11]), (12, 5, []), (12, 5, []), (12, 12, []), (12, 12, []), (12, 12, []), (0, 6, [some 6, none, some 13, some 16, some 17, none]), (16, 2, [some 14, some 15]), (7, 4, [none, none, none, none]), (7, 4, [none, none, none, none]), (12, 40, []), (12, 40, []), (15, 3, [some 59, some 65, some 71]), (4, 5, [some 20, some 26, some 27, none, none]), (9, 7, [none, some 21, some 22, none, some 23, some 24, some 25]), (12, 5, []), (12, 5, []), (12, 12, []), (12, 12, []), (12, 12, []), (12, 2, []), (12, 2, []), (2, 3, [some 29, some 30, none]), (13, 2048, []), (13, 2048, []), (5, 4, [some 12, some 6, some 28, none]), (1, 5, [some 12, some 6, some 28, none, none]), (6, 5, [some 12, some 6, some 34, none, some 35]), (12, 8, []), (12, 324, []), (3, 3, [some 6, some 37, none]), (12, 5, []), (12, 6, []), (8, 2, [some 40, none]), (12, 40, []), (8, 2, [some 42, none]), (12, 40, []), (8, 2, [some 44, none]), (12, 40, []), (8, 2, [some 46, none]), (12, 40, []), (8, 2, [some 48, none]), (12, 40, []), (8, 2, [some 50, none]), (12, 40, []), (8, 2, [some 52, none]), (12, 80, []), (8, 2, [some 54, none]), (12, 80, []), (8, 2, [some 56, none]), (12, 80, []), (8, 2, [some 58, none]), (12, 80, []), (0, 6, [some 6, none, some 60, some 63, some 64, none]), (16, 2, [some 61, some 62]), (7, 4, [none, none, none, none]), (7, 4, [none, none, none, none]), (12, 40, []), (12, 40, []), (0, 6, [some 6, none, some 66, some 69, some 70, none]), (16, 2, [some 67, some 68]), (7, 4, [none, none, none, none]), (7, 4, [none, none, none, none]), (12, 40, []), (12, 40, []), (0, 6, [some 6, none, some 72, some 75, some 76, none]), (16, 2, [some 73, some 74]), (7, 4, [none, none, none, none]), (7, 4, [none, none, none, none]), (12, 40, []), (12, 40, []), (11, 47, [some 78, some 79, none, none, some 80, some 81, none, some 82, some 83, some 84, none, some 85, none, none, none, some 86, some 87, some 88, some 89, some 90, none, none, none, some 91, some 92, some 93, some 94, some 95, some 96, none, none, some 97, some 98, some 99, none, some 100, some 101, some 102, some 103, none, some 104, none, none, none, none, none, none]), (12, 1156, []), (14, 3, []), (12, 5, []), (12, 5, []), (12, 12, []), (12, 12, []), (12, 12, []), (12, 6, []), (12, 6, []), (12, 240, []), (12, 4, []), (12, 320, []), (12, 40, []), (12, 5, []), (12, 5, []), (12, 12, []), (12, 12, []), (12, 12, []), (12, 4, []), (12, 78, []), (12, 13, []), (12, 2, []), (12, 13, []), (12, 13, []), (12, 13, []), (12, 13, []), (12, 8, [])], _, _) Q
  refine EV.at ck157 (by decide) 300 [31, 58, 79, 104, 126, 150, 173, 196, 220, 243, 259] ?_
  conv => whnf
  try dsimp only
  refine ⟨⟨by decide, by decide, by decide, by decide⟩, ?_⟩
  conv => whnf
  try dsimp only
  refine ⟨⟨by decide, by decide, by decide, by decide⟩, ?_⟩
  conv => whnf
  try dsimp only
  refine ⟨⟨by decide, by decide, by decide, by decide⟩, ?_⟩
  conv => whnf
  try dsimp only
  refine ⟨trivial, ?_⟩
  show EV G 157 _ _ _ _ _ _ ([(20, n, []), (20, 6, []), (20, 6, []), (10, 16, [some 4, some 5, some 6, some 12, some 18, some 19, some 28, some 31, some 32, some 33, some 36, some 38, none, none, none, none]), (17, 6, [some 39, some 41, some 43, some 45, some 47, some 49]), (17, 4, [some 51, some 53, some 55, some 57]), (9, 7, [none, some 7, some 8, none, some 9, some 10, some 11]), (12, 5, []), (12, 5, []), (12, 12, []), (12, 12, []), (12, 12, []), (0, 6, [some 6, none, some 13, some 16, some 17, none]), (16, 2, [some 14, some 15]), (7, 4, [none, none, none, none]), (7, 4, [none, none, none, none]), (12, 40, []), (12, 40, []), (15, 3, [some 59, some 65, some 71]), (4, 5, [some 20, some 26, some 27, none, none]), (9, 7, [none, some 21, some 22, none, some 23, some 24, some 25]), (12, 5, []), (12, 5, []), (12, 12, []), (12, 12, []), (12, 12, []), (12, 2, []), (12, 2, []), (2, 3, [some 29, some 30, none]), (13, 2048, []), (13, 2048, []), (5, 4, [some 12, some 6, some 28, none]), (1, 5, [some 12, some 6, some 28, none, none]), (6, 5, [some 12, some 6, some 34, none, some 35]), (12, 8, []), (12, 324, []), (3, 3, [some 6, some 37, none]), (12, 5, []), (12, 6, []), (8, 2, [some 40, none]), (12, 40, []), (8, 2, [some 42, none]), (12, 40, []), (8, 2, [some 44, none]), (12, 40, []), (8, 2, [some 46, none]), (12, 40, []), (8, 2, [some 48, none]), (12, 40, []), (8, 2, [some 50, none]), (12, 40, []), (8, 2, [some 52, none]), (12, 80, []), (8, 2, [some 54, none]), (12, 80, []), (8, 2, [some 56, none]), (12, 80, []), (8, 2, [some 58, none]), (12, 80, []), (0, 6, [some 6, none, some 60, some 63, some 64, none]), (16, 2, [some 61, some 62]), (7, 4, [none, none, none, none]), (7, 4, [none, none, none, none]), (12, 40, []), (12, 40, []), (0, 6, [some 6, none, some 66, some 69, some 70, none]), (16, 2, [some 67, some 68]), (7, 4, [none, none, none, none]), (7, 4, [none, none, none, none]), (12, 40, []), (12, 40, []), (0, 6, [some 6, none, some 72, some 75, some 76, none]), (16, 2, [some 73, some 74]), (7, 4, [none, none, none, none]), (7, 4, [none, none, none, none]), (12, 40, []), (12, 40, []), (11, 47, [some 78, some 79, none, none, some 80, some 81, none, some 82, some 83, some 84, none, some 85, none, none, none, some 86, some 87, some 88, some 89, some 90, none, none, none, some 91, some 92, some 93, some 94, some 95, some 96, none, none, some 97, some 98, some 99, none, some 100, some 101, some 102, some 103, none, some 104, some 105, some 106, some 107, none, none, none]), (12, 1156, []), (14, 3, []), (12, 5, []), (12, 5, []), (12, 12, []), (12, 12, []), (12, 12, []), (12, 6, []), (12, 6, []), (12, 240, []), (12, 4, []), (12, 320, []), (12, 40, []), (12, 5, []), (12, 5, []), (12, 12, []), (12, 12, []), (12, 12, []), (12, 4, []), (12, 78, []), (12, 13, []), (12, 2, []), (12, 13, []), (12, 13, []), (12, 13, []), (12, 13, []), (12, 8, []), (12, 2, []), (12, 8, []), (13, 13, [])], _, _) Q
  refine EV.at ck157 (by decide) 300 [31, 58, 79, 104, 126, 150, 173, 196, 220, 243, 259] ?_
  conv => whnf
  try dsimp only
  refine ⟨⟨by decide, by decide, by decide, by decide⟩, ?_⟩
  conv => whnf
  try dsimp only
  refine ⟨⟨by decide, by decide, by decide, by decide⟩, ?_⟩
  conv => whnf
  try dsimp only
  refine ⟨trivial, ?_⟩
  show EV G 157 _ _ _ _ _ _ ([(20, n, []), (20, 6, []), (20, 6, []), (10, 16, [some 4, some 5, some 6, some 12, some 18, some 19, some 28, some 31, some 32, some 33, some 36, some 38, none, none, none, none]), (17, 6, [some 39, some 41, some 43, some 45, some 47, some 49]), (17, 4, [some 51, some 53, some 55, some 57]), (9, 7, [none, some 7, some 8, none, some 9, some 10, some 11]), (12, 5, []), (12, 5, []), (12, 12, []), (12, 12, []), (12, 12, []), (0, 6, [some 6, none, some 13, some 16, some 17, none]), (16, 2, [some 14, some 15]), (7, 4, [none, none, none, none]), (7, 4, [none, none, none, none]), (12, 40, []), (12, 40, []), (15, 3, [some 59, some 65, some 71]), (4, 5, [some 20, some 26, some 27, none, none]), (9, 7, [none, some 21, some 22, none, some 23, some 24, some 25]), (12, 5, []), (12, 5, []), (12, 12, []), (12, 12, []), (12, 12, []), (12, 2, []), (12, 2, []), (2, 3, [some 29, some 30, none]), (13, 2048, []), (13, 2048, []), (5, 4, [some 12, some 6, some 28, none]), (1, 5, [some 12, some 6, some 28, none, none]), (6, 5, [some 12, some 6, some 34, none, some 35]), (12, 8, []), (12, 324, []), (3, 3, [some 6, some 37, none]), (12, 5, []), (12, 6, []), (8, 2, [some 40, none]), (12, 40, []), (8, 2, [some 42, none]), (12, 40, []), (8, 2, [some 44, none]), (12, 40, []), (8, 2, [some 46, none]), (12, 40, []), (8, 2, [some 48, none]), (12, 40, []), (8, 2, [some 50, none]), (12, 40, []), (8, 2, [some 52, none]), (12, 80, []), (8, 2, [some 54, none]), (12, 80, []), (8, 2, [some 56, none]), (12, 80, []), (8, 2, [some 58, none]), (12, 80, []), (0, 6, [some 6, none, some 60, some 63, some 64, none]), (16, 2, [some 61, some 62]), (7, 4, [none, none, none, none]), (7, 4, [none, none, none, none]), (12, 40, []), (12, 40, []), (0, 6, [some 6, none, some 66, some 69, some 70, none]), (16, 2, [some 67, some 68]), (7, 4, [none, none, none, none]), (7, 4, [none, none, none, none]), (12, 40, []), (12, 40, []), (0, 6, [some 6, none, some 72, some 75, some 76, none]), (16, 2, [some 73, some 74]), (7, 4, [none, none, none, none]), (7, 4, [none, none, none, none]), (12, 40, []), (12, 40, []), (11, 47, [some 78, some 79, none, none, some 80, some 81, none, some 82, some 83, some 84, none, some 85, none, none, none, some 86, some 87, some 88, some 89, some 90, none, none, none, some 91, some 92, some 93, some 94, some 95, some 96, none, none, some 97, some 98, some 99, none, some 100, some 101, some 102, some 103, none, some 104, some 105, some 106, some 107, some 108, some 109, none]), (12, 1156, []), (14, 3, []), (12, 5, []), (12, 5, []), (12, 12, []), (12, 12, []), (12, 12, []), (12, 6, []), (12, 6, []), (12, 240, []), (12, 4, []), (12, 320, []), (12, 40, []), (12, 5, []), (12, 5, []), (12, 12, []), (12, 12, []), (12, 12, []), (12, 4, []), (12, 78, []), (12, 13, []), (12, 2, []), (12, 13, []), (12, 13, []), (12, 13, []), (12, 13, []), (12, 8, []), (12, 2, []), (12, 8, []), (13, 13, []), (13, 13, []), (12, 13, [])], _, _) Q
  refine EV.at ck157 (by decide) 300 [31, 58, 79, 104, 126, 150, 173, 196, 220, 243, 259] ?_
  conv => whnf
  try dsimp only
  first | refine ⟨fun h1 => absurd h1 (by decide), fun _ => ?_⟩ | refine ⟨fun _ => ?_, fun h1 => absurd (by decide) h1⟩ | refine ⟨fun h1 => absurd (by decide) h1, fun _ => ?_⟩ | refine ⟨fun _ => ?_, fun h1 => absurd h1 (by decide)⟩
  conv => whnf
  try dsimp only
  refine ⟨by unfold vp_in; decide, ?_⟩
  conv => whnf
  try dsimp only
  refine ⟨trivial, ?_⟩
  refine EV.at ck157 (by decide) 300 [] ?_
  conv => whnf
  try dsimp only
  first | refine ⟨fun h1 => absurd h1 (by decide), fun _ => ?_⟩ | refine ⟨fun _ => ?_, fun h1 => absurd (by decide) h1⟩ | refine ⟨fun h1 => absurd (by decide) h1, fun _ => ?_⟩ | refine ⟨fun _ => ?_, fun h1 => absurd h1 (by decide)⟩
  conv => whnf
  try dsimp only
  refine ⟨by unfold vp_in; decide, ?_⟩
  conv => whnf
  try dsimp only
  refine ⟨trivial, ?_⟩
  refine EV.at ck157 (by decide) 300 [] ?_
  conv => whnf
  try dsimp only
  first | refine ⟨fun h1 => absurd h1 (by decide), fun _ => ?_⟩ | refine ⟨fun _ => ?_, fun h1 => absurd (by decide) h1⟩ | refine ⟨fun h1 => absurd (by decide) h1, fun _ => ?_⟩ | refine ⟨fun _ => ?_, fun h1 => absurd h1 (by decide)⟩
  conv => whnf
  try dsimp only
  refine ⟨by unfold vp_in; decide, ?_⟩
  conv => whnf
  try dsimp only
  refine ⟨trivial, ?_⟩
  refine EV.at ck157 (by decide) 300 [] ?_
  conv => whnf
  try dsimp only
  first | refine ⟨fun h1 => absurd h1 (by decide), fun _ => ?_⟩ | refine ⟨fun _ => ?_, fun h1 => absurd (by decide) h1⟩ | refine ⟨fun h1 => absurd (by decide) h1, fun _ => ?_⟩ | refine ⟨fun _ => ?_, fun h1 => absurd h1 (by decide)⟩
  conv => whnf
  try dsimp only
  refine ⟨by unfold vp_in; decide, ?_⟩
  conv => whnf
  try dsimp only
  refine ⟨trivial, ?_⟩
  refine EV.at ck157 (by decide) 300 [] ?_
  conv => whnf
  try dsimp only
  first | refine ⟨fun h1 => absurd h1 (by decide), fun _ => ?_⟩ | refine ⟨fun _ => ?_, fun h1 => absurd (by decide) h1⟩ | refine ⟨fun h1 => absurd (by decide) h1, fun _ => ?_⟩ | refine ⟨fun _ => ?_, fun h1 => absurd h1 (by decide)⟩
  conv => whnf
  try dsimp only
  refine ⟨by unfold vp_in; decide, ?_⟩
  conv => whnf
  try dsimp only
  refine ⟨trivial, ?_⟩
  refine EV.at ck157 (by decide) 300 [] ?_
  conv => whnf
  try dsimp only
  first | refine ⟨fun h1 => absurd h1 (by decide), fun _ => ?_⟩ | refine ⟨fun _ => ?_, fun h1 => absurd (by decide) h1⟩ | refine ⟨fun h1 => absurd (by decide) h1, fun _ => ?_⟩ | refine ⟨fun _ => ?_, fun h1 => absurd h1 (by decide)⟩
  conv => whnf
  try dsimp only
  refine ⟨by unfold vp_in; decide, ?_⟩
  conv => whnf
  try dsimp only
  refine ⟨trivial, ?_⟩
  refine EV.at ck157 (by decide) 300 [] ?_
  conv => whnf
  try dsimp only
  first | refine ⟨fun h1 => absurd h1 (by decide), fun _ => ?_⟩ | refine ⟨fun _ => ?_, fun h1 => absurd (by decide) h1⟩ | refine ⟨fun h1 => absurd (by decide) h1, fun _ => ?_⟩ | refine ⟨fun _ => ?_, fun h1 => absurd h1 (by decide)⟩
  conv => whnf
  try dsimp only
  first | refine ⟨fun h1 => absurd h1 (by decide), fun _ => ?_⟩ | refine ⟨fun _ => ?_, fun h1 => absurd (by decide) h1⟩ | refine ⟨fun h1 => absurd (by decide) h1, fun _ => ?_⟩ | refine ⟨fun _ => ?_, fun h1 => absurd h1 (by decide)⟩
  conv => whnf
  try dsimp only
  refine ⟨by unfold vp_in; decide, ?_⟩
  conv => whnf
  try dsimp only
  refine ⟨trivial, ?_⟩
  refine EV.at ck157 (by decide) 300 [] ?_
  conv => whnf
  try dsimp only
  first | refine ⟨fun h1 => absurd h1 (by decide), fun _ => ?_⟩ | refine ⟨fun _ => ?_, fun h1 => absurd (by decide) h1⟩ | refine ⟨fun h1 => absurd (by decide) h1, fun _ => ?_⟩ | refine ⟨fun _ => ?_, fun h1 => absurd h1 (by decide)⟩
  conv => whnf
  try dsimp only
  refine ⟨by unfold vp_in; decide, ?_⟩
  conv => whnf
  try dsimp only
  refine ⟨trivial, ?_⟩
  refine EV.at ck157 (by decide) 300 [] ?_
  conv => whnf
  try dsimp only
  first | refine ⟨fun h1 => absurd h1 (by decide), fun _ => ?_⟩ | refine ⟨fun _ => ?_, fun h1 => absurd (by decide) h1⟩ | refine ⟨fun h1 => absurd (by decide) h1, fun _ => ?_⟩ | refine ⟨fun _ => ?_, fun h1 => absurd h1 (by decide)⟩
  conv => whnf
  try dsimp only
  refine ⟨by unfold vp_in; decide, ?_⟩
  conv => whnf
  try dsimp only
  refine ⟨trivial, ?_⟩
  refine EV.at ck157 (by decide) 300 [] ?_
  conv => whnf
  try dsimp only
  first | refine ⟨fun h1 => absurd h1 (by decide), fun _ => ?_⟩ | refine ⟨fun _ => ?_, fun h1 => absurd (by decide) h1⟩ | refine ⟨fun h1 => absurd (by decide) h1, fun _ => ?_⟩ | refine ⟨fun _ => ?_, fun h1 => absurd h1 (by decide)⟩
  conv => whnf
  try dsimp only
  refine ⟨by unfold vp_in; decide, ?_⟩
  conv => whnf
  try dsimp only
  refine ⟨trivial, ?_⟩
  refine EV.at ck157 (by decide) 300 [] ?_
  conv => whnf
  try dsimp only
  first | refine ⟨fun h1 => absurd h1 (by decide), fun _ => ?_⟩ | refine ⟨fun _ => ?_, fun h1 => absurd (by decide) h1⟩ | refine ⟨fun h1 => absurd (by decide) h1, fun _ => ?_⟩ | refine ⟨fun _ => ?_, fun h1 => absurd h1 (by decide)⟩
  conv => whnf
  try dsimp only
  refine ⟨trivial, ?_⟩
  exact h _ _ ⟨rfl, rfl, rfl, rfl, rfl, rfl, rfl, rfl, rfl, rfl, rfl, rfl, rfl, rfl, rfl, rfl, rfl, rfl, rfl, rfl, rfl, rfl, rfl, rfl, rfl, rfl, rfl, rfl, rfl, rfl, rfl, rfl, rfl, rfl, rfl, rfl, rfl, rfl, rfl, rfl, rfl, rfl, rfl, rfl, rfl⟩
end
