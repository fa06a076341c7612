/-! both made anew; the law from its entry -/
def T0 : TN := (0, (fun _ => 0), (fun _ => 0), 0, (fun _ => 0), (fun _ => 0), (fun _ => 0))
def F00 : FG := ((fun _ => (0, 0, 0, 0)), 0, (fun _ => 0), (fun _ _ => (0, 0, 0, 0)))
def a0 : AB := (T0, false, F00, (fun _ => (false, F00)), (fun _ => 0), (fun _ _ => 0), (fun _ => 0), (fun _ _ => 0), 0, (fun _ => 0), 0, 0, 1)
theorem a0_ok : aOK a0 := by
  refine ⟨⟨⟨by decide, fun i hi => absurd hi (Nat.not_lt_zero i), by decide, fun k hk => absurd hk (Nat.not_lt_zero k)⟩, fun i hi => absurd hi (Nat.not_lt_zero i), fun i => by show 0 ≤ 4; omega⟩, fun h => Bool.noConfusion h, fun _ => ⟨rfl, rfl, rfl, rfl, rfl⟩, fun k _ h => Bool.noConfusion h, fun r _ => ?_, fun t _ => ?_⟩
  · show 0 ≤ 41; omega
  · show 0 ≤ 81; omega
theorem CA_0 {I I' : Nat → Nat → Int32} {J' : Nat → Nat → Int64} (hX : EX I) (h : NF I I' J') : CA a0 0 I' J' := by
  obtain ⟨x0, x1, x2, b0, b3, f1, f5, p0, p1, p2, p3, q0, q1, q2, q3, k0, k1, k2, r0, r1, r2, r3, r4, r5, t0, t1, t2, t3, n1, n2, n3, j1, j2, j3, j4, -⟩ := h
  refine ⟨⟨⟨b0, fun i hi => absurd hi (Nat.not_lt_zero i), b3, fun k hk => absurd hk (Nat.not_lt_zero k)⟩, fun q hq => by rw [x1, x2]; exact hX q hq⟩, ⟨f1, f5, ⟨p0, p1, p2, p3⟩, ⟨q0, q1, q2, q3⟩, fun i hi => absurd hi (Nat.not_lt_zero i)⟩, fun k hk => ⟨?_, fun h => Bool.noConfusion h⟩, fun r hr => ⟨?_, fun i hi => absurd hi (Nat.not_lt_zero _)⟩, fun r hr => ⟨?_, fun i hi => absurd hi (Nat.not_lt_zero _)⟩, ⟨n1, fun f _ => by rw [n2]; rfl⟩, n3, ⟨j1, j2⟩, ⟨j3, by decide, fun s _ => ⟨0, Nat.le_refl _, by rw [j4]; show jushrL 0 32 = lN 0; decide⟩⟩⟩
  · rcases (show k = 0 ∨ k = 1 ∨ k = 2 by omega) with rfl | rfl | rfl
    · exact k0
    · exact k1
    · exact k2
  · rcases (show r = 0 ∨ r = 1 ∨ r = 2 ∨ r = 3 ∨ r = 4 ∨ r = 5 by omega) with rfl | rfl | rfl | rfl | rfl | rfl
    · exact r0
    · exact r1
    · exact r2
    · exact r3
    · exact r4
    · exact r5
  · rcases (show r = 0 ∨ r = 1 ∨ r = 2 ∨ r = 3 by omega) with rfl | rfl | rfl | rfl
    · exact t0
    · exact t1
    · exact t2
    · exact t3
/-- the facts of the class's memory behind the reference's constructor -/
theorem NF_2 {I0 I I' : Nat → Nat → Int32} {J J' : Nat → Nat → Int64} (h : NF I0 I J) (g : NM I I' J J') : NF I0 I' J' := by
  obtain ⟨g0, g1, g2, g3, g6, g12, g14, g15, g38, g39, g41, g43, g45, g47, g49, g51, g53, g55, g57, g59, g65, g71, u3, u28, u29, -⟩ := g
  unfold NF
  rw [g0, g1, g2, g3, g6, g12, g14, g15, g38, g39, g41, g43, g45, g47, g49, g51, g53, g55, g57, g59, g65, g71, u3, u28, u29]
  exact h
theorem MA_0 {I I' : Nat → Nat → Int32} {J J' : Nat → Nat → Int64} (z : ∀ k, I 77 k = 0) (zj : ∀ k, J 77 k = 0) (g : NM I I' J J') : MA a0 I' J' := by
  obtain ⟨-, -, -, -, -, -, -, -, -, -, -, -, -, -, -, -, -, -, -, -, -, -, -, -, -, m2, m3, m6, m10, m12, m78, m79, m85, s0, s1, s2, s3, s4, s5, v0, v1, v2, v3, w1, w2⟩ := g
  rw [z] at m2 m3 m6 m10 m12
  rw [zj] at w1
  have pz : ∀ e, pl F00.1 e = 0 := fun e => by
    unfold pl
    repeat' split
    all_goals rfl
  refine ⟨⟨m3, fun i hi => absurd hi (Nat.not_lt_zero i), m6, fun k hk => absurd hk (Nat.not_lt_zero k)⟩, ⟨m2, fun e _ => by rw [m78]; show 0 = nI (pl F00.1 e); rw [pz]; rfl, by rw [m78]; rfl, by rw [m78]; rfl, by rw [m78]; rfl, fun i hi => absurd hi (Nat.not_lt_zero i)⟩, fun k _ => ⟨by rw [m79]; rfl, fun h => Bool.noConfusion h⟩, fun r hr => ⟨?_, fun i hi => absurd hi (Nat.not_lt_zero _)⟩, fun r hr => ⟨?_, fun i hi => absurd hi (Nat.not_lt_zero _)⟩, ⟨m10, fun f _ => by rw [m85]; rfl⟩, m12, ⟨w1, w2⟩⟩
  · rcases (show r = 0 ∨ r = 1 ∨ r = 2 ∨ r = 3 ∨ r = 4 ∨ r = 5 by omega) with rfl | rfl | rfl | rfl | rfl | rfl
    · exact s0
    · exact s1
    · exact s2
    · exact s3
    · exact s4
    · exact s5
  · rcases (show r = 0 ∨ r = 1 ∨ r = 2 ∨ r = 3 by omega) with rfl | rfl | rfl | rfl
    · exact v0
    · exact v1
    · exact v2
    · exact v3
theorem zI_s {I : Nat → Nat → Int32} {r k : Nat} : zrI I r r k = 0 := by simp [zrI]
theorem zL_s {J : Nat → Nat → Int64} {r k : Nat} : zrL J r r k = 0 := by simp [zrL]
theorem NF_z {I0 I : Nat → Nat → Int32} {J : Nat → Nat → Int64} (h : NF I0 I J) : NF I0 (zrI I 77) (zrL J 77) := h
section
variable {G : GG} {n : Nat} {Q : Option Value → MH → Prop} {I : Nat → Nat → Int32} {J : Nat → Nat → Int64}
set_option maxRecDepth 100000 in
theorem lw_all (hn : n ≤ 384) (hX : EX I) (hq : ∀ σ, Q (some (.int 1)) σ) : EV G 265 60 0 0 0 [.ref 0, dm, dm, dm] [] ([(20, n, []), (20, 6, []), (20, 6, [])], I, J) Q := by
  refine EV.atL ck265 300 [] ?_
  conv => whnf
  try dsimp only
  refine ⟨⟨by decide, by decide⟩, ?_⟩
  conv => whnf
  try dsimp only
  refine ⟨⟨by decide, by decide⟩, n_duel (D := 55) (fun I1 J1 h1 => ?_)⟩
  refine EV.atL ck265 300 [] ?_
  conv => whnf
  try dsimp only
  refine ⟨⟨by decide, by decide⟩, ?_⟩
  conv => whnf
  try dsimp only
  refine ⟨⟨by decide, by decide⟩, ?_⟩
  show MT G 60 157 [.ref 77] ([(20, n, []), (20, 6, []), (20, 6, []), (10, 16, [some 4, some 5, some 6, some 12, some 18, some 19, some 28, some 31, some 32, some 33, some 36, some 38, none, none, none, none]), (17, 6, [some 39, some 41, some 43, some 45, some 47, some 49]), (17, 4, [some 51, some 53, some 55, some 57]), (9, 7, [none, some 7, some 8, none, some 9, some 10, some 11]), (12, 5, []), (12, 5, []), (12, 12, []), (12, 12, []), (12, 12, []), (0, 6, [some 6, none, some 13, some 16, some 17, none]), (16, 2, [some 14, some 15]), (7, 4, [none, none, none, none]), (7, 4, [none, none, none, none]), (12, 40, []), (12, 40, []), (15, 3, [some 59, some 65, some 71]), (4, 5, [some 20, some 26, some 27, none, none]), (9, 7, [none, some 21, some 22, none, some 23, some 24, some 25]), (12, 5, []), (12, 5, []), (12, 12, []), (12, 12, []), (12, 12, []), (12, 2, []), (12, 2, []), (2, 3, [some 29, some 30, none]), (13, 2048, []), (13, 2048, []), (5, 4, [some 12, some 6, some 28, none]), (1, 5, [some 12, some 6, some 28, none, none]), (6, 5, [some 12, some 6, some 34, none, some 35]), (12, 8, []), (12, 324, []), (3, 3, [some 6, some 37, none]), (12, 5, []), (12, 6, []), (8, 2, [some 40, none]), (12, 40, []), (8, 2, [some 42, none]), (12, 40, []), (8, 2, [some 44, none]), (12, 40, []), (8, 2, [some 46, none]), (12, 40, []), (8, 2, [some 48, none]), (12, 40, []), (8, 2, [some 50, none]), (12, 40, []), (8, 2, [some 52, none]), (12, 80, []), (8, 2, [some 54, none]), (12, 80, []), (8, 2, [some 56, none]), (12, 80, []), (8, 2, [some 58, none]), (12, 80, []), (0, 6, [some 6, none, some 60, some 63, some 64, none]), (16, 2, [some 61, some 62]), (7, 4, [none, none, none, none]), (7, 4, [none, none, none, none]), (12, 40, []), (12, 40, []), (0, 6, [some 6, none, some 66, some 69, some 70, none]), (16, 2, [some 67, some 68]), (7, 4, [none, none, none, none]), (7, 4, [none, none, none, none]), (12, 40, []), (12, 40, []), (0, 6, [some 6, none, some 72, some 75, some 76, none]), (16, 2, [some 73, some 74]), (7, 4, [none, none, none, none]), (7, 4, [none, none, none, none]), (12, 40, []), (12, 40, []), (11, 47, [none, none, none, none, none, none, none, none, none, none, none, none, none, none, none, none, none, none, none, none, none, none, none, none, none, none, none, none, none, none, none, none, none, none, none, none, none, none, none, none, none, none, none, none, none, none, none])], zrI I1 77, zrL J1 77) _
  refine n_model (D := 58) (fun I2 J2 h2 => ?_)
  refine EV.atL ck265 300 [18] ?_
  conv => whnf
  try dsimp only
  have hF := NF_2 (NF_z h1) h2
  refine ⟨trivial, lw_loop (D := 0) hn (fun I' J' => hq _) 64 0 a0 0 I2 J2 (by omega) (Nat.zero_le _) a0_ok (CA_0 (I := zrI I 3) (fun q hq' => hX q hq') hF) (MA_0 (fun k => zI_s) (fun k => zL_s) h2) (by decide)⟩
end
