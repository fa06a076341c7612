/-! the class's calls: lots, tables, what is told -/
theorem ltc {x y : Int64} : lg_cmp x y < 0 ↔ x < y := by
  unfold lg_cmp
  by_cases h1 : x > y
  · rw [if_pos h1]
    exact ⟨fun h => absurd h (by decide), fun h => absurd (Int64.lt_trans h h1) Int64.lt_irrefl⟩
  · rw [if_neg h1]
    by_cases h2 : x = y
    · rw [if_pos h2]
      exact ⟨fun h => absurd h (by decide), fun h => absurd h (by rw [h2]; exact Int64.lt_irrefl)⟩
    · rw [if_neg h2]
      exact ⟨fun _ => Int64.lt_of_le_of_ne (Int64.not_lt.mp h1) h2, fun _ => by decide⟩
theorem FJ.chn {J J' : Nat → Nat → Int64} {u l : Int64} (h : FJ J J') : FJ J (upL (upL J' 3 14 u) 3 15 l) := fun r hr => by rw [upL_oth (by omega), upL_oth (by omega)]; exact h r hr
section
variable {G : GG} {d n : Nat} {I : Nat → Nat → Int32} {J : Nat → Nat → Int64} {Q : Option Value → MH → Prop}
theorem k_odds : CS G n 127 [] sp_odds := by
  intro D I J Q a e hO hC he h
  try dsimp only at h
  obtain ⟨hcT, hcF, hcK, hcR, hcX, hcN, hcA, hcU, hcM⟩ := id hC
  obtain ⟨oT, oF, oN, oK, oR, oX⟩ := id hO
  unfold sp_odds at h
  cases hh : aH a
  · rw [hh] at h
    refine MT.by ck127 (by decide) rfl (Nat.le_of_ble_eq_true rfl) rfl 300 [] ?_
    conv => whnf
    try dsimp only
    rw [hcF.1, hh]
    first | refine ⟨fun h1 => absurd h1 (by decide), fun _ => ?_⟩ | refine ⟨fun _ => ?_, fun h1 => absurd (by decide) h1⟩ | refine ⟨fun h1 => absurd (by decide) h1, fun _ => ?_⟩ | refine ⟨fun _ => ?_, fun h1 => absurd h1 (by decide)⟩
    conv => whnf
    try dsimp only
    exact ⟨trivial, fin rfl hC (by omega) (FC.rf I) (FJ.rf J) h⟩
  rw [hh, if_pos rfl] at h
  have hv := (oF hh).1
  have hz : az a ≤ 40 := (oF hh).2.1
  refine MT.by ck127 (by decide) rfl (Nat.le_of_ble_eq_true rfl) rfl 300 [] ?_
  conv => whnf
  try dsimp only
  rw [hcF.1, hh]
  first | refine ⟨fun h1 => absurd h1 (by decide), fun _ => ?_⟩ | refine ⟨fun _ => ?_, fun h1 => absurd (by decide) h1⟩ | refine ⟨fun h1 => absurd (by decide) h1, fun _ => ?_⟩ | refine ⟨fun _ => ?_, fun h1 => absurd h1 (by decide)⟩
  conv => whnf
  try dsimp only
  refine ⟨trivial, c_chanceByLots (d := D + 19) oT.1 hcT.1 hcT.2 (gf hcF.2) hv hz hcF.2.1 hcM (by omega) (fun J' g1 g2 => ?_)⟩
  refine EV.at ck127 (by decide) 300 [] ?_
  conv => whnf
  try dsimp only
  refine ⟨trivial, c_tellChance (chF_le (aT a) 2 10 _ _) ?_⟩
  refine EV.at ck127 (by decide) 300 [] ?_
  conv => whnf
  try dsimp only
  exact ⟨trivial, fin rfl (hC.scr (fun r hr => upI_oth (by omega)) g2.j3 g1).chn (by omega) (fun r hr => upI_oth (by omega)) g2.fj.chn h⟩
theorem k_hopes : CS G n 128 [] sp_hopes := by
  intro D I J Q a e hO hC he h
  try dsimp only at h
  obtain ⟨hcT, hcF, hcK, hcR, hcX, hcN, hcA, hcU, hcM⟩ := id hC
  obtain ⟨oT, oF, oN, oK, oR, oX⟩ := id hO
  unfold sp_hopes at h
  cases hh : aH a
  · rw [hh] at h
    refine MT.by ck128 (by decide) rfl (Nat.le_of_ble_eq_true rfl) rfl 300 [] ?_
    conv => whnf
    try dsimp only
    rw [hcF.1, hh]
    first | refine ⟨fun h1 => absurd h1 (by decide), fun _ => ?_⟩ | refine ⟨fun _ => ?_, fun h1 => absurd (by decide) h1⟩ | refine ⟨fun h1 => absurd (by decide) h1, fun _ => ?_⟩ | refine ⟨fun _ => ?_, fun h1 => absurd h1 (by decide)⟩
    conv => whnf
    try dsimp only
    exact ⟨trivial, fin rfl hC (by omega) (FC.rf I) (FJ.rf J) h⟩
  rw [hh, if_pos rfl] at h
  have hv := (oF hh).1
  have hz : az a ≤ 40 := (oF hh).2.1
  refine MT.by ck128 (by decide) rfl (Nat.le_of_ble_eq_true rfl) rfl 300 [] ?_
  conv => whnf
  try dsimp only
  rw [hcF.1, hh]
  first | refine ⟨fun h1 => absurd h1 (by decide), fun _ => ?_⟩ | refine ⟨fun _ => ?_, fun h1 => absurd (by decide) h1⟩ | refine ⟨fun h1 => absurd (by decide) h1, fun _ => ?_⟩ | refine ⟨fun _ => ?_, fun h1 => absurd h1 (by decide)⟩
  conv => whnf
  try dsimp only
  refine ⟨trivial, c_bestChance (d := D + 19) oT.1 hcT.1 hcT.2 (gf hcF.2) hv hz hcF.2.1 hcM (by omega) (fun J' g1 g2 => ?_)⟩
  have hp : (aBe a).1 ≤ WH := bcN_le (fun k => Nat.sub_le _ _) _
  have oo : ∀ x y r, r ≠ 32 → upI (upI I 32 3 x) 32 4 y r = I r := fun x y r hr => by rw [upI_oth hr, upI_oth hr]
  refine EV.at ck128 (by decide) 300 [] ?_
  conv => whnf
  try dsimp only
  refine ⟨trivial, c_tellChance hp ?_⟩
  refine EV.at ck128 (by decide) 300 [] ?_
  conv => whnf
  try dsimp only
  rw [up_same]
  exact ⟨trivial, fin rfl (hC.scr (fun r hr => oo _ _ r (by omega)) g2.j3 g1).chn.ask (by omega) (fun r hr => by rw [upI_oth (by omega), oo _ _ r (by omega)]) g2.fj.chn h⟩
theorem k_lots {x s : Int32} : CS G n 129 [.int x, .int s] (fun a => sp_lots a x s) := by
  intro D I J Q a e hO hC he h
  try dsimp only at h
  obtain ⟨hcT, hcF, hcK, hcR, hcX, hcN, hcA, hcU, hcM⟩ := id hC
  obtain ⟨oT, oF, oN, oK, oR, oX⟩ := id hO
  unfold sp_lots at h
  refine MT.by ck129 (by decide) rfl (Nat.le_of_ble_eq_true rfl) rfl 300 [] ?_
  conv => whnf
  try dsimp only
  rcases ix_cases (n := 21) (by decide) x with ⟨e2, e3⟩ | ⟨m, hm, rfl, e2, e3⟩
  · rw [e2] at h
    refine ⟨fun z1 => ?_, fun z1 => ?_⟩
    · conv => whnf
      try dsimp only
      exact ⟨trivial, fin rfl hC (by omega) (FC.rf I) (FJ.rf J) h⟩
    conv => whnf
    try dsimp only
    refine ⟨fun z2 => ?_, fun z2 => ?_⟩
    · conv => whnf
      try dsimp only
      exact ⟨trivial, fin rfl hC (by omega) (FC.rf I) (FJ.rf J) h⟩
    · exact absurd ⟨Int32.le_trans (by decide) (Int32.not_lt.mp z1), Int32.lt_of_le_of_lt (Int32.not_lt.mp z2) (by decide)⟩ (of_decide_eq_false e3)
  rw [e2] at h
  dsimp only at h
  by_cases m0 : m = 0
  · rw [if_pos (Or.inl m0)] at h
    subst m0
    first | refine ⟨fun h1 => absurd h1 (by decide), fun _ => ?_⟩ | refine ⟨fun _ => ?_, fun h1 => absurd (by decide) h1⟩ | refine ⟨fun h1 => absurd (by decide) h1, fun _ => ?_⟩ | refine ⟨fun _ => ?_, fun h1 => absurd h1 (by decide)⟩
    conv => whnf
    try dsimp only
    exact ⟨trivial, fin rfl hC (by omega) (FC.rf I) (FJ.rf J) h⟩
  refine ⟨fun z1 => absurd z1 (nI_nlt (b := 1) (by omega) (by omega)), fun z1 => ?_⟩
  conv => whnf
  try dsimp only
  refine ⟨fun z2 => absurd z2 (nI_nlt (a := 20) (by omega) (by decide)), fun z2 => ?_⟩
  conv => whnf
  try dsimp only
  refine ⟨fun z3 => ?_, fun z3 => ?_⟩
  · rw [if_pos (Or.inr (Or.inl z3))] at h
    conv => whnf
    try dsimp only
    exact ⟨trivial, fin rfl hC (by omega) (FC.rf I) (FJ.rf J) h⟩
  obtain ⟨k, hk, rfl⟩ := nI_of (x := s) (fun z => z3 (Int32.lt_trans z (by decide)))
  conv => whnf
  try dsimp only
  rw [nI_l hk]
  refine ⟨fun z4 => ?_, fun z4 => ?_⟩
  case refine_2 =>
    have hk2 : k = 2147483647 := by
      have h2 : ¬ k < 2147483647 := fun y => z4 (ltc.mpr ((pk_lLT (b := 2147483647) (by omega) (by decide)).mpr y))
      omega
    rw [if_pos (Or.inr (Or.inr (by rw [hk2]; rfl)))] at h
    conv => whnf
    try dsimp only
    exact ⟨trivial, fin rfl hC (by omega) (FC.rf I) (FJ.rf J) h⟩
  have hk2 : k < 2147483647 := (pk_lLT (b := 2147483647) (by omega) (by decide)).mp (ltc.mp z4)
  have hk3 : ¬ nI k = 2147483647 := fun y => by
    have := (nI_eq (b := 2147483647) (by omega) (by decide)).mp y
    omega
  rw [if_neg (fun y => y.elim m0 (fun y => y.elim z3 hk3))] at h
  conv => whnf
  try dsimp only
  rw [hcF.1]
  cases hh : aH a
  · rw [hh] at h
    first | refine ⟨fun h1 => absurd h1 (by decide), fun _ => ?_⟩ | refine ⟨fun _ => ?_, fun h1 => absurd (by decide) h1⟩ | refine ⟨fun h1 => absurd (by decide) h1, fun _ => ?_⟩ | refine ⟨fun _ => ?_, fun h1 => absurd h1 (by decide)⟩
    conv => whnf
    try dsimp only
    exact ⟨trivial, fin rfl hC (by omega) (FC.rf I) (FJ.rf J) h⟩
  rw [hh, if_pos rfl] at h
  have hv := (oF hh).1
  have hz : az a ≤ 40 := (oF hh).2.1
  first | refine ⟨fun h1 => absurd h1 (by decide), fun _ => ?_⟩ | refine ⟨fun _ => ?_, fun h1 => absurd (by decide) h1⟩ | refine ⟨fun h1 => absurd (by decide) h1, fun _ => ?_⟩ | refine ⟨fun _ => ?_, fun h1 => absurd h1 (by decide)⟩
  conv => whnf
  try dsimp only
  rw [hcF.2.1, nI_add]
  refine ⟨fun z5 => ?_, fun z5 => ?_⟩
  case refine_2 =>
    have y5 : 40 < az a + m := by
      have : ¬ (az a + m ≤ 40) := fun y => z5 (nI_le (b := 40) y (by decide))
      omega
    rw [if_pos y5] at h
    conv => whnf
    try dsimp only
    exact ⟨trivial, fin rfl hC (by omega) (FC.rf I) (FJ.rf J) h⟩
  have y5 : az a + m ≤ 40 := (nI_leI (b := 40) (show az a + m < 2 ^ 31 by omega) (by decide)).mp z5
  rw [if_neg (by omega)] at h
  have hD : aDr a m (nI k) = drawN (aT a) m 0 k (aF a) := by unfold aDr; rw [nI_clamp hk]
  rw [hD] at h
  conv => whnf
  try dsimp only
  refine ⟨trivial, c_draw oT.1 hcT.1 hcT.2 hcF.2 hv y5 hk2 (fun I' b1 b2 b3 => ?_)⟩
  refine EV.at ck129 (by decide) 300 [] ?_
  conv => whnf
  try dsimp only
  exact ⟨trivial, fin rfl (hC.fgt (b := true) b2 ⟨by rw [b3, hcF.1, hh], b1⟩) (by omega) (fun r hr => b2 r (by omega)) (FJ.rf J) h⟩
theorem k_rings : CS G n 130 [] sp_rings := by
  intro D I J Q a e hO hC he h
  try dsimp only at h
  obtain ⟨hcT, hcF, hcK, hcR, hcX, hcN, hcA, hcU, hcM⟩ := id hC
  obtain ⟨oT, oF, oN, oK, oR, oX⟩ := id hO
  unfold sp_rings at h
  refine MT.by ck130 (by decide) rfl (Nat.le_of_ble_eq_true rfl) rfl 300 [] ?_
  conv => whnf
  try dsimp only
  refine ⟨trivial, c_countRings oT.1 oT.2.1 hcT.1 ?_⟩
  refine EV.at ck130 (by decide) 300 [] ?_
  conv => whnf
  try dsimp only
  rw [up_same]
  exact ⟨trivial, fin rfl (hC.scr (fun r hr => upI_oth (by omega)) rfl hcM).ask (by omega) (fun r hr => by rw [upI_oth (by omega), upI_oth (by omega)]) (FJ.rf J) h⟩
theorem k_cover : CS G n 131 [] sp_cover := by
  intro D I J Q a e hO hC he h
  try dsimp only at h
  obtain ⟨hcT, hcF, hcK, hcR, hcX, hcN, hcA, hcU, hcM⟩ := id hC
  obtain ⟨oT, oF, oN, oK, oR, oX⟩ := id hO
  unfold sp_cover at h
  refine MT.by ck131 (by decide) rfl (Nat.le_of_ble_eq_true rfl) rfl 300 [] ?_
  conv => whnf
  try dsimp only
  refine ⟨trivial, c_smallestCover oT.1 hcT.1 ?_⟩
  refine EV.at ck131 (by decide) 300 [] ?_
  conv => whnf
  try dsimp only
  rw [up_same]
  exact ⟨trivial, fin rfl (hC.scr (fun r hr => upI_oth (by omega)) rfl hcM).ask (by omega) (fun r hr => by rw [upI_oth (by omega), upI_oth (by omega)]) (FJ.rf J) h⟩
theorem k_alike : CS G n 132 [] sp_alike := by
  intro D I J Q a e hO hC he h
  try dsimp only at h
  obtain ⟨hcT, hcF, hcK, hcR, hcX, hcN, hcA, hcU, hcM⟩ := id hC
  obtain ⟨oT, oF, oN, oK, oR, oX⟩ := id hO
  unfold sp_alike at h
  refine MT.by ck132 (by decide) rfl (Nat.le_of_ble_eq_true rfl) rfl 300 [] ?_
  conv => whnf
  try dsimp only
  refine ⟨trivial, c_countAlike (d := D + 47) oT.1 hcT.1 (fun I' b1 b2 => ?_)⟩
  refine EV.at ck132 (by decide) 300 [] ?_
  conv => whnf
  try dsimp only
  rw [b2]
  exact ⟨trivial, fin rfl (hC.scr (fun r hr => b1 r (by omega) (by omega)) rfl hcM).ask (by omega) (fun r hr => by rw [upI_oth (by omega), b1 r (by omega) (by omega)]) (FJ.rf J) h⟩
theorem k_best : CS G n 133 [] sp_best := by
  intro D I J Q a e hO hC he h
  try dsimp only at h
  obtain ⟨hcT, hcF, hcK, hcR, hcX, hcN, hcA, hcU, hcM⟩ := id hC
  obtain ⟨oT, oF, oN, oK, oR, oX⟩ := id hO
  have h5 : tS (aT a) ≤ 5 := oT.1.1
  unfold sp_best at h
  by_cases h0 : tS (aT a) = 0
  · rw [if_pos h0] at h
    refine MT.by ck133 (by decide) rfl (Nat.le_of_ble_eq_true rfl) rfl 300 [] ?_
    conv => whnf
    try dsimp only
    rw [hcT.1.1, h0]
    first | refine ⟨fun h1 => absurd h1 (by decide), fun _ => ?_⟩ | refine ⟨fun _ => ?_, fun h1 => absurd (by decide) h1⟩ | refine ⟨fun h1 => absurd (by decide) h1, fun _ => ?_⟩ | refine ⟨fun _ => ?_, fun h1 => absurd h1 (by decide)⟩
    conv => whnf
    try dsimp only
    exact ⟨trivial, fin rfl hC (by omega) (FC.rf I) (FJ.rf J) h⟩
  rw [if_neg h0] at h
  have hb := bsN_lt (T := aT a) (tS (aT a)) (by omega)
  refine MT.by ck133 (by decide) rfl (Nat.le_of_ble_eq_true rfl) rfl 300 [] ?_
  conv => whnf
  try dsimp only
  rw [hcT.1.1]
  refine ⟨fun _ => ?_, fun z => absurd z (nI_ne0 (by omega) (by omega))⟩
  conv => whnf
  try dsimp only
  refine ⟨trivial, c_firstBest oT.1 hcT.1 (by omega) ?_⟩
  refine EV.at ck133 (by decide) 300 [] ?_
  conv => whnf
  try dsimp only
  refine ⟨trivial, c_lead (show bsN (aT a) (tS (aT a)) < 5 by omega) h5 hcT.1.1 ?_⟩
  rw [lead_eq oT.1 hcT.1 hb]
  refine EV.at ck133 (by decide) 300 [] ?_
  conv => whnf
  try dsimp only
  exact ⟨trivial, fin rfl hC.ask (by omega) (fun r hr => upI_oth (by omega)) (FJ.rf J) h⟩
theorem k_asked : CS G n 134 [] (fun a => (aA a, a)) := by
  intro D I J Q a e hO hC he h
  try dsimp only at h
  obtain ⟨hcT, hcF, hcK, hcR, hcX, hcN, hcA, hcU, hcM⟩ := id hC
  obtain ⟨oT, oF, oN, oK, oR, oX⟩ := id hO
  refine MT.by ck134 (by decide) rfl (Nat.le_of_ble_eq_true rfl) rfl 300 [] ?_
  conv => whnf
  try dsimp only
  rw [hcA]
  exact ⟨trivial, fin rfl hC (by omega) (FC.rf I) (FJ.rf J) h⟩
theorem k_finding : CS G n 138 [] (fun a => (aL a, a)) := by
  intro D I J Q a e hO hC he h
  try dsimp only at h
  obtain ⟨hcT, hcF, hcK, hcR, hcX, hcN, hcA, hcU, hcM⟩ := id hC
  obtain ⟨oT, oF, oN, oK, oR, oX⟩ := id hO
  refine MT.by ck138 (by decide) rfl (Nat.le_of_ble_eq_true rfl) rfl 300 [] ?_
  conv => whnf
  try dsimp only
  rw [hcN.1]
  exact ⟨trivial, fin rfl hC (by omega) (FC.rf I) (FJ.rf J) h⟩
theorem k_upper : CSL G n 135 aU := by
  intro D I J Q a e hO hC he h
  try dsimp only at h
  obtain ⟨hcT, hcF, hcK, hcR, hcX, hcN, hcA, hcU, hcM⟩ := id hC
  obtain ⟨oT, oF, oN, oK, oR, oX⟩ := id hO
  refine MT.by ck135 (by decide) rfl (Nat.le_of_ble_eq_true rfl) rfl 300 [] ?_
  conv => whnf
  try dsimp only
  rw [hcU.1]
  exact ⟨trivial, h I J e (by omega) hC (FC.rf I) (FJ.rf J)⟩
theorem k_lower : CSL G n 136 aW := by
  intro D I J Q a e hO hC he h
  try dsimp only at h
  obtain ⟨hcT, hcF, hcK, hcR, hcX, hcN, hcA, hcU, hcM⟩ := id hC
  obtain ⟨oT, oF, oN, oK, oR, oX⟩ := id hO
  refine MT.by ck136 (by decide) rfl (Nat.le_of_ble_eq_true rfl) rfl 300 [] ?_
  conv => whnf
  try dsimp only
  rw [hcU.2]
  exact ⟨trivial, h I J e (by omega) hC (FC.rf I) (FJ.rf J)⟩
theorem k_findings {x : Int32} : CS G n 139 [.int x] (fun a => sp_findings a x) := by
  intro D I J Q a e hO hC he h
  try dsimp only at h
  obtain ⟨hcT, hcF, hcK, hcR, hcX, hcN, hcA, hcU, hcM⟩ := id hC
  obtain ⟨oT, oF, oN, oK, oR, oX⟩ := id hO
  unfold sp_findings at h
  refine MT.by ck139 (by decide) rfl (Nat.le_of_ble_eq_true rfl) rfl 300 [] ?_
  conv => whnf
  try dsimp only
  rcases ix_cases (n := 6) (by decide) x with ⟨e2, e3⟩ | ⟨m, hm, rfl, e2, e3⟩
  · rw [e2] at h
    refine ⟨fun z1 => ?_, fun z1 => ?_⟩
    · conv => whnf
      try dsimp only
      exact ⟨trivial, fin rfl hC (by omega) (FC.rf I) (FJ.rf J) h⟩
    conv => whnf
    try dsimp only
    refine ⟨fun z2 => ?_, fun z2 => ?_⟩
    · exact absurd ⟨Int32.le_trans (by decide) (Int32.not_lt.mp z1), Int32.lt_of_le_of_lt z2 (by decide)⟩ (of_decide_eq_false e3)
    · conv => whnf
      try dsimp only
      exact ⟨trivial, fin rfl hC (by omega) (FC.rf I) (FJ.rf J) h⟩
  rw [e2] at h
  dsimp only at h
  by_cases m0 : m = 0
  · rw [if_pos m0] at h
    subst m0
    first | refine ⟨fun h1 => absurd h1 (by decide), fun _ => ?_⟩ | refine ⟨fun _ => ?_, fun h1 => absurd (by decide) h1⟩ | refine ⟨fun h1 => absurd (by decide) h1, fun _ => ?_⟩ | refine ⟨fun _ => ?_, fun h1 => absurd h1 (by decide)⟩
    conv => whnf
    try dsimp only
    exact ⟨trivial, fin rfl hC (by omega) (FC.rf I) (FJ.rf J) h⟩
  rw [if_neg m0] at h
  have cm : (nI m).toNatClampNeg = m := nI_clamp (by omega)
  refine ⟨fun z1 => absurd z1 (nI_nlt (b := 1) (by omega) (by omega)), fun z1 => ?_⟩
  conv => whnf
  try dsimp only
  refine ⟨fun z2 => ?_, fun z2 => absurd (nI_le (b := 5) (by omega) (by decide)) z2⟩
  conv => whnf
  try dsimp only
  refine ⟨in_nI hm (by decide), ?_⟩
  conv => whnf
  try dsimp only
  rw [cm, hcN.2 m hm]
  exact ⟨trivial, fin rfl hC (by omega) (FC.rf I) (FJ.rf J) h⟩
theorem c_countThere {s K b N : Nat} {sz : Nat → Nat} (hs : strA n s K b N) (hK : K < 100) (hI : ∀ j, j < K → sz j ≤ 100 ∧ I (b + 2 * j) 1 = szI (sz j)) (h : Q (some (.int (nI (cntN (fun j => decide (sz j ≠ 0)) K)))) (SH n, I, J)) : MT G (d + 1) 155 [.ref s] (SH n, I, J) Q := by
  obtain ⟨refs, h1, h2⟩ := hs
  have loop : ∀ m j, j + m = K → EV G 155 d 0 0 4 [.ref s, .int (nI (cntN (fun j => decide (sz j ≠ 0)) j)), .int (nI j)] [] (SH n, I, J) Q := by
    intro m
    induction m with
    | zero =>
      intro j hj
      have hj : j = K := hj
      rw [← hj] at h
      refine EV.at ck155 (by decide) 300 [] ?_
      conv => whnf
      try dsimp only
      rw [h1]
      conv => whnf
      try dsimp only
      refine pk_le K j (fun _ => ?_) (fun z => absurd z (by omega))
      conv => whnf
      try dsimp only
      exact ⟨trivial, h⟩
    | succ m ih =>
      intro j hj
      have ihj := ih (j + 1) (by omega)
      have hjK : j < K := by omega
      have cj : (nI j).toNatClampNeg = j := nI_clamp (by omega)
      obtain ⟨g1, g2, g3⟩ := h2 j hjK
      obtain ⟨i1, i2⟩ := hI j hjK
      have e : cntN (fun j => decide (sz j ≠ 0)) (j + 1) = cntN (fun j => decide (sz j ≠ 0)) j + (if decide (sz j ≠ 0) then 1 else 0) := rfl
      rw [e, ← nI_add, nI_succ j] at ihj
      refine EV.at ck155 (by decide) 300 [] ?_
      conv => whnf
      try dsimp only
      rw [h1]
      conv => whnf
      try dsimp only
      refine pk_le K j (fun z => absurd z (by omega)) (fun _ => ?_)
      conv => whnf
      try dsimp only
      rw [h1]
      conv => whnf
      try dsimp only
      refine ⟨in_nI hjK (by omega), oS_at cj g1 ?_⟩
      conv => whnf
      try dsimp only
      rw [g2]
      conv => whnf
      try dsimp only
      rw [i2]
      refine ⟨fun z => ?_, fun z => ?_⟩
      · have y : sz j = 0 := (szI_neg i1).mp z
        rw [decide_eq_false (fun q => q y)] at ihj
        conv => whnf
        try dsimp only
        exact ⟨trivial, ihj⟩
      · have y : sz j ≠ 0 := fun q => z ((szI_neg i1).mpr q)
        rw [decide_eq_true y] at ihj
        conv => whnf
        try dsimp only
        exact ⟨trivial, ihj⟩
  refine MT.by ck155 (by decide) rfl (Nat.le_of_ble_eq_true rfl) rfl 300 [4] ?_
  conv => whnf
  try dsimp only
  exact ⟨trivial, loop K 0 (by omega)⟩
theorem c_countKept {K : Nat → Bool × FG} (hI : cK K I) (h : Q (some (.int (nI (cntN (fun j => (K j).1) 3)))) (SH n, I, J)) : MT G (d + 1) 156 [.ref 3] (SH n, I, J) Q := by
  have loop : ∀ m j, j + m = 3 → EV G 156 d 0 0 4 [.ref 3, .int (nI (cntN (fun j => (K j).1) j)), .int (nI j)] [] (SH n, I, J) Q := by
    intro m
    induction m with
    | zero =>
      intro j hj
      have hj : j = 3 := hj
      subst hj
      refine EV.at ck156 (by decide) 300 [] ?_
      conv => whnf
      try dsimp only
      first | refine ⟨fun h1 => absurd h1 (by decide), fun _ => ?_⟩ | refine ⟨fun _ => ?_, fun h1 => absurd (by decide) h1⟩ | refine ⟨fun h1 => absurd (by decide) h1, fun _ => ?_⟩ | refine ⟨fun _ => ?_, fun h1 => absurd h1 (by decide)⟩
      conv => whnf
      try dsimp only
      exact ⟨trivial, h⟩
    | succ m ih =>
      intro j hj
      have ihj := ih (j + 1) (by omega)
      have hjK : j < 3 := by omega
      have cj : (nI j).toNatClampNeg = j := nI_clamp (by omega)
      have e : cntN (fun j => (K j).1) (j + 1) = cntN (fun j => (K j).1) j + (if (K j).1 then 1 else 0) := rfl
      rw [e, ← nI_add, nI_succ j] at ihj
      refine EV.at ck156 (by decide) 300 [] ?_
      conv => whnf
      try dsimp only
      refine ⟨fun z => absurd z (nI_ge (b := 3) hjK (by decide)), fun _ => ?_⟩
      conv => whnf
      try dsimp only
      refine ⟨in_nI hjK (by decide), oS_at cj (kpt_g _ hjK) ?_⟩
      conv => whnf
      try dsimp only
      rw [(kpt_c n hjK).1]
      conv => whnf
      try dsimp only
      rw [(hI j hjK).1]
      cases hb : (K j).1
      · rw [hb] at ihj
        first | refine ⟨fun h1 => absurd h1 (by decide), fun _ => ?_⟩ | refine ⟨fun _ => ?_, fun h1 => absurd (by decide) h1⟩ | refine ⟨fun h1 => absurd (by decide) h1, fun _ => ?_⟩ | refine ⟨fun _ => ?_, fun h1 => absurd h1 (by decide)⟩
        conv => whnf
        try dsimp only
        exact ⟨trivial, ihj⟩
      · rw [hb] at ihj
        first | refine ⟨fun h1 => absurd h1 (by decide), fun _ => ?_⟩ | refine ⟨fun _ => ?_, fun h1 => absurd (by decide) h1⟩ | refine ⟨fun h1 => absurd (by decide) h1, fun _ => ?_⟩ | refine ⟨fun _ => ?_, fun h1 => absurd h1 (by decide)⟩
        conv => whnf
        try dsimp only
        exact ⟨trivial, ihj⟩
  refine MT.by ck156 (by decide) rfl (Nat.le_of_ble_eq_true rfl) rfl 300 [4] ?_
  conv => whnf
  try dsimp only
  exact ⟨trivial, loop 3 0 (by omega)⟩
theorem c_count {a : AB} {e w : Nat} (hO : aOK a) (hC : CA a e I J) (hw : w < 9) (h : Q (some (.int (ctI a w))) (SH n, I, J)) : MT G (d + 4) 137 [.ref 3, .int (nI w)] (SH n, I, J) Q := by
  obtain ⟨hcT, hcF, hcK, hcR, hcX, hcN, hcA, hcU, hcM⟩ := id hC
  obtain ⟨oT, oF, oN, oK, oR, oX⟩ := id hO
  have h5 : tS (aT a) ≤ 5 := oT.1.1
  have kk : ∀ k, k < 6 → 1 ≤ k → cntI (fun i => isK (tK (aT a) i) (nI k)) (tS (aT a)) = nI (cntN (fun i => isB (tK (aT a) i) k) (tS (aT a))) := fun k hk hk1 => cntI_N _ (fun i hi => isB_isK _ (oT.1.2.1 i hi).1 k hk hk1)
  rcases (show w = 0 ∨ w = 1 ∨ w = 2 ∨ w = 3 ∨ w = 4 ∨ w = 5 ∨ w = 6 ∨ w = 7 ∨ w = 8 by omega) with rfl | rfl | rfl | rfl | rfl | rfl | rfl | rfl | rfl
  · refine MT.by ck137 (by decide) rfl (Nat.le_of_ble_eq_true rfl) rfl 300 [] ?_
    conv => whnf
    try dsimp only
    first | refine ⟨fun h1 => absurd h1 (by decide), fun _ => ?_⟩ | refine ⟨fun _ => ?_, fun h1 => absurd (by decide) h1⟩ | refine ⟨fun h1 => absurd (by decide) h1, fun _ => ?_⟩ | refine ⟨fun _ => ?_, fun h1 => absurd h1 (by decide)⟩
    conv => whnf
    try dsimp only
    rw [hcT.1.1]
    exact ⟨trivial, h⟩
  · refine MT.by ck137 (by decide) rfl (Nat.le_of_ble_eq_true rfl) rfl 300 [] ?_
    conv => whnf
    try dsimp only
    first | refine ⟨fun h1 => absurd h1 (by decide), fun _ => ?_⟩ | refine ⟨fun _ => ?_, fun h1 => absurd (by decide) h1⟩ | refine ⟨fun h1 => absurd (by decide) h1, fun _ => ?_⟩ | refine ⟨fun _ => ?_, fun h1 => absurd h1 (by decide)⟩
    conv => whnf
    try dsimp only
    first | refine ⟨fun h1 => absurd h1 (by decide), fun _ => ?_⟩ | refine ⟨fun _ => ?_, fun h1 => absurd (by decide) h1⟩ | refine ⟨fun h1 => absurd (by decide) h1, fun _ => ?_⟩ | refine ⟨fun _ => ?_, fun h1 => absurd h1 (by decide)⟩
    conv => whnf
    try dsimp only
    rw [hcT.1.2.2.1]
    exact ⟨trivial, h⟩
  · refine MT.by ck137 (by decide) rfl (Nat.le_of_ble_eq_true rfl) rfl 300 [] ?_
    conv => whnf
    try dsimp only
    first | refine ⟨fun h1 => absurd h1 (by decide), fun _ => ?_⟩ | refine ⟨fun _ => ?_, fun h1 => absurd (by decide) h1⟩ | refine ⟨fun h1 => absurd (by decide) h1, fun _ => ?_⟩ | refine ⟨fun _ => ?_, fun h1 => absurd h1 (by decide)⟩
    conv => whnf
    try dsimp only
    first | refine ⟨fun h1 => absurd h1 (by decide), fun _ => ?_⟩ | refine ⟨fun _ => ?_, fun h1 => absurd (by decide) h1⟩ | refine ⟨fun h1 => absurd (by decide) h1, fun _ => ?_⟩ | refine ⟨fun _ => ?_, fun h1 => absurd h1 (by decide)⟩
    conv => whnf
    try dsimp only
    first | refine ⟨fun h1 => absurd h1 (by decide), fun _ => ?_⟩ | refine ⟨fun _ => ?_, fun h1 => absurd (by decide) h1⟩ | refine ⟨fun h1 => absurd (by decide) h1, fun _ => ?_⟩ | refine ⟨fun _ => ?_, fun h1 => absurd h1 (by decide)⟩
    conv => whnf
    try dsimp only
    rw [hcF.2.1]
    exact ⟨trivial, h⟩
  · refine MT.by ck137 (by decide) rfl (Nat.le_of_ble_eq_true rfl) rfl 300 [] ?_
    conv => whnf
    try dsimp only
    first | refine ⟨fun h1 => absurd h1 (by decide), fun _ => ?_⟩ | refine ⟨fun _ => ?_, fun h1 => absurd (by decide) h1⟩ | refine ⟨fun h1 => absurd (by decide) h1, fun _ => ?_⟩ | refine ⟨fun _ => ?_, fun h1 => absurd h1 (by decide)⟩
    conv => whnf
    try dsimp only
    first | refine ⟨fun h1 => absurd h1 (by decide), fun _ => ?_⟩ | refine ⟨fun _ => ?_, fun h1 => absurd (by decide) h1⟩ | refine ⟨fun h1 => absurd (by decide) h1, fun _ => ?_⟩ | refine ⟨fun _ => ?_, fun h1 => absurd h1 (by decide)⟩
    conv => whnf
    try dsimp only
    first | refine ⟨fun h1 => absurd h1 (by decide), fun _ => ?_⟩ | refine ⟨fun _ => ?_, fun h1 => absurd (by decide) h1⟩ | refine ⟨fun h1 => absurd (by decide) h1, fun _ => ?_⟩ | refine ⟨fun _ => ?_, fun h1 => absurd h1 (by decide)⟩
    conv => whnf
    try dsimp only
    first | refine ⟨fun h1 => absurd h1 (by decide), fun _ => ?_⟩ | refine ⟨fun _ => ?_, fun h1 => absurd (by decide) h1⟩ | refine ⟨fun h1 => absurd (by decide) h1, fun _ => ?_⟩ | refine ⟨fun _ => ?_, fun h1 => absurd h1 (by decide)⟩
    conv => whnf
    try dsimp only
    refine ⟨trivial, c_countOf (kn := tK (aT a)) h5 hcT.1.1 (fun i hi => ⟨(oT.1.2.1 i hi).1, (hcT.1.2.1 i hi).1⟩) hcT.2 ?_⟩
    have k1 := kk 1 (by decide) (by decide)
    have k1 : cntI (fun i => isK (tK (aT a) i) 1) (tS (aT a)) = _ := k1
    rw [k1]
    refine EV.at ck137 (by decide) 300 [] ?_
    conv => whnf
    try dsimp only
    exact ⟨trivial, h⟩
  · refine MT.by ck137 (by decide) rfl (Nat.le_of_ble_eq_true rfl) rfl 300 [] ?_
    conv => whnf
    try dsimp only
    first | refine ⟨fun h1 => absurd h1 (by decide), fun _ => ?_⟩ | refine ⟨fun _ => ?_, fun h1 => absurd (by decide) h1⟩ | refine ⟨fun h1 => absurd (by decide) h1, fun _ => ?_⟩ | refine ⟨fun _ => ?_, fun h1 => absurd h1 (by decide)⟩
    conv => whnf
    try dsimp only
    first | refine ⟨fun h1 => absurd h1 (by decide), fun _ => ?_⟩ | refine ⟨fun _ => ?_, fun h1 => absurd (by decide) h1⟩ | refine ⟨fun h1 => absurd (by decide) h1, fun _ => ?_⟩ | refine ⟨fun _ => ?_, fun h1 => absurd h1 (by decide)⟩
    conv => whnf
    try dsimp only
    first | refine ⟨fun h1 => absurd h1 (by decide), fun _ => ?_⟩ | refine ⟨fun _ => ?_, fun h1 => absurd (by decide) h1⟩ | refine ⟨fun h1 => absurd (by decide) h1, fun _ => ?_⟩ | refine ⟨fun _ => ?_, fun h1 => absurd h1 (by decide)⟩
    conv => whnf
    try dsimp only
    first | refine ⟨fun h1 => absurd h1 (by decide), fun _ => ?_⟩ | refine ⟨fun _ => ?_, fun h1 => absurd (by decide) h1⟩ | refine ⟨fun h1 => absurd (by decide) h1, fun _ => ?_⟩ | refine ⟨fun _ => ?_, fun h1 => absurd h1 (by decide)⟩
    conv => whnf
    try dsimp only
    first | refine ⟨fun h1 => absurd h1 (by decide), fun _ => ?_⟩ | refine ⟨fun _ => ?_, fun h1 => absurd (by decide) h1⟩ | refine ⟨fun h1 => absurd (by decide) h1, fun _ => ?_⟩ | refine ⟨fun _ => ?_, fun h1 => absurd h1 (by decide)⟩
    conv => whnf
    try dsimp only
    refine ⟨trivial, c_countOf (kn := tK (aT a)) h5 hcT.1.1 (fun i hi => ⟨(oT.1.2.1 i hi).1, (hcT.1.2.1 i hi).1⟩) hcT.2 ?_⟩
    have k1 := kk 2 (by decide) (by decide)
    have k1 : cntI (fun i => isK (tK (aT a) i) 2) (tS (aT a)) = _ := k1
    rw [k1]
    refine EV.at ck137 (by decide) 300 [] ?_
    conv => whnf
    try dsimp only
    exact ⟨trivial, h⟩
  · refine MT.by ck137 (by decide) rfl (Nat.le_of_ble_eq_true rfl) rfl 300 [] ?_
    conv => whnf
    try dsimp only
    first | refine ⟨fun h1 => absurd h1 (by decide), fun _ => ?_⟩ | refine ⟨fun _ => ?_, fun h1 => absurd (by decide) h1⟩ | refine ⟨fun h1 => absurd (by decide) h1, fun _ => ?_⟩ | refine ⟨fun _ => ?_, fun h1 => absurd h1 (by decide)⟩
    conv => whnf
    try dsimp only
    first | refine ⟨fun h1 => absurd h1 (by decide), fun _ => ?_⟩ | refine ⟨fun _ => ?_, fun h1 => absurd (by decide) h1⟩ | refine ⟨fun h1 => absurd (by decide) h1, fun _ => ?_⟩ | refine ⟨fun _ => ?_, fun h1 => absurd h1 (by decide)⟩
    conv => whnf
    try dsimp only
    first | refine ⟨fun h1 => absurd h1 (by decide), fun _ => ?_⟩ | refine ⟨fun _ => ?_, fun h1 => absurd (by decide) h1⟩ | refine ⟨fun h1 => absurd (by decide) h1, fun _ => ?_⟩ | refine ⟨fun _ => ?_, fun h1 => absurd h1 (by decide)⟩
    conv => whnf
    try dsimp only
    first | refine ⟨fun h1 => absurd h1 (by decide), fun _ => ?_⟩ | refine ⟨fun _ => ?_, fun h1 => absurd (by decide) h1⟩ | refine ⟨fun h1 => absurd (by decide) h1, fun _ => ?_⟩ | refine ⟨fun _ => ?_, fun h1 => absurd h1 (by decide)⟩
    conv => whnf
    try dsimp only
    first | refine ⟨fun h1 => absurd h1 (by decide), fun _ => ?_⟩ | refine ⟨fun _ => ?_, fun h1 => absurd (by decide) h1⟩ | refine ⟨fun h1 => absurd (by decide) h1, fun _ => ?_⟩ | refine ⟨fun _ => ?_, fun h1 => absurd h1 (by decide)⟩
    conv => whnf
    try dsimp only
    first | refine ⟨fun h1 => absurd h1 (by decide), fun _ => ?_⟩ | refine ⟨fun _ => ?_, fun h1 => absurd (by decide) h1⟩ | refine ⟨fun h1 => absurd (by decide) h1, fun _ => ?_⟩ | refine ⟨fun _ => ?_, fun h1 => absurd h1 (by decide)⟩
    conv => whnf
    try dsimp only
    refine ⟨by unfold vp_in; decide, ?_⟩
    conv => whnf
    try dsimp only
    refine ⟨by unfold vp_in; decide, ?_⟩
    conv => whnf
    try dsimp only
    rw [hcF.2.2.1.2.1, hcF.2.2.2.1.2.1, nI_add]
    exact ⟨trivial, h⟩
  · refine MT.by ck137 (by decide) rfl (Nat.le_of_ble_eq_true rfl) rfl 300 [] ?_
    conv => whnf
    try dsimp only
    first | refine ⟨fun h1 => absurd h1 (by decide), fun _ => ?_⟩ | refine ⟨fun _ => ?_, fun h1 => absurd (by decide) h1⟩ | refine ⟨fun h1 => absurd (by decide) h1, fun _ => ?_⟩ | refine ⟨fun _ => ?_, fun h1 => absurd h1 (by decide)⟩
    conv => whnf
    try dsimp only
    first | refine ⟨fun h1 => absurd h1 (by decide), fun _ => ?_⟩ | refine ⟨fun _ => ?_, fun h1 => absurd (by decide) h1⟩ | refine ⟨fun h1 => absurd (by decide) h1, fun _ => ?_⟩ | refine ⟨fun _ => ?_, fun h1 => absurd h1 (by decide)⟩
    conv => whnf
    try dsimp only
    first | refine ⟨fun h1 => absurd h1 (by decide), fun _ => ?_⟩ | refine ⟨fun _ => ?_, fun h1 => absurd (by decide) h1⟩ | refine ⟨fun h1 => absurd (by decide) h1, fun _ => ?_⟩ | refine ⟨fun _ => ?_, fun h1 => absurd h1 (by decide)⟩
    conv => whnf
    try dsimp only
    first | refine ⟨fun h1 => absurd h1 (by decide), fun _ => ?_⟩ | refine ⟨fun _ => ?_, fun h1 => absurd (by decide) h1⟩ | refine ⟨fun h1 => absurd (by decide) h1, fun _ => ?_⟩ | refine ⟨fun _ => ?_, fun h1 => absurd h1 (by decide)⟩
    conv => whnf
    try dsimp only
    first | refine ⟨fun h1 => absurd h1 (by decide), fun _ => ?_⟩ | refine ⟨fun _ => ?_, fun h1 => absurd (by decide) h1⟩ | refine ⟨fun h1 => absurd (by decide) h1, fun _ => ?_⟩ | refine ⟨fun _ => ?_, fun h1 => absurd h1 (by decide)⟩
    conv => whnf
    try dsimp only
    first | refine ⟨fun h1 => absurd h1 (by decide), fun _ => ?_⟩ | refine ⟨fun _ => ?_, fun h1 => absurd (by decide) h1⟩ | refine ⟨fun h1 => absurd (by decide) h1, fun _ => ?_⟩ | refine ⟨fun _ => ?_, fun h1 => absurd h1 (by decide)⟩
    conv => whnf
    try dsimp only
    first | refine ⟨fun h1 => absurd h1 (by decide), fun _ => ?_⟩ | refine ⟨fun _ => ?_, fun h1 => absurd (by decide) h1⟩ | refine ⟨fun h1 => absurd (by decide) h1, fun _ => ?_⟩ | refine ⟨fun _ => ?_, fun h1 => absurd h1 (by decide)⟩
    conv => whnf
    try dsimp only
    refine ⟨trivial, c_countThere (sz := aRs a) (str_r n) (by decide) (fun j hj => ⟨by have := oR j hj; omega, (hcR j hj).1⟩) ?_⟩
    refine EV.at ck137 (by decide) 300 [] ?_
    conv => whnf
    try dsimp only
    exact ⟨trivial, h⟩
  · refine MT.by ck137 (by decide) rfl (Nat.le_of_ble_eq_true rfl) rfl 300 [] ?_
    conv => whnf
    try dsimp only
    first | refine ⟨fun h1 => absurd h1 (by decide), fun _ => ?_⟩ | refine ⟨fun _ => ?_, fun h1 => absurd (by decide) h1⟩ | refine ⟨fun h1 => absurd (by decide) h1, fun _ => ?_⟩ | refine ⟨fun _ => ?_, fun h1 => absurd h1 (by decide)⟩
    conv => whnf
    try dsimp only
    first | refine ⟨fun h1 => absurd h1 (by decide), fun _ => ?_⟩ | refine ⟨fun _ => ?_, fun h1 => absurd (by decide) h1⟩ | refine ⟨fun h1 => absurd (by decide) h1, fun _ => ?_⟩ | refine ⟨fun _ => ?_, fun h1 => absurd h1 (by decide)⟩
    conv => whnf
    try dsimp only
    first | refine ⟨fun h1 => absurd h1 (by decide), fun _ => ?_⟩ | refine ⟨fun _ => ?_, fun h1 => absurd (by decide) h1⟩ | refine ⟨fun h1 => absurd (by decide) h1, fun _ => ?_⟩ | refine ⟨fun _ => ?_, fun h1 => absurd h1 (by decide)⟩
    conv => whnf
    try dsimp only
    first | refine ⟨fun h1 => absurd h1 (by decide), fun _ => ?_⟩ | refine ⟨fun _ => ?_, fun h1 => absurd (by decide) h1⟩ | refine ⟨fun h1 => absurd (by decide) h1, fun _ => ?_⟩ | refine ⟨fun _ => ?_, fun h1 => absurd h1 (by decide)⟩
    conv => whnf
    try dsimp only
    first | refine ⟨fun h1 => absurd h1 (by decide), fun _ => ?_⟩ | refine ⟨fun _ => ?_, fun h1 => absurd (by decide) h1⟩ | refine ⟨fun h1 => absurd (by decide) h1, fun _ => ?_⟩ | refine ⟨fun _ => ?_, fun h1 => absurd h1 (by decide)⟩
    conv => whnf
    try dsimp only
    first | refine ⟨fun h1 => absurd h1 (by decide), fun _ => ?_⟩ | refine ⟨fun _ => ?_, fun h1 => absurd (by decide) h1⟩ | refine ⟨fun h1 => absurd (by decide) h1, fun _ => ?_⟩ | refine ⟨fun _ => ?_, fun h1 => absurd h1 (by decide)⟩
    conv => whnf
    try dsimp only
    first | refine ⟨fun h1 => absurd h1 (by decide), fun _ => ?_⟩ | refine ⟨fun _ => ?_, fun h1 => absurd (by decide) h1⟩ | refine ⟨fun h1 => absurd (by decide) h1, fun _ => ?_⟩ | refine ⟨fun _ => ?_, fun h1 => absurd h1 (by decide)⟩
    conv => whnf
    try dsimp only
    first | refine ⟨fun h1 => absurd h1 (by decide), fun _ => ?_⟩ | refine ⟨fun _ => ?_, fun h1 => absurd (by decide) h1⟩ | refine ⟨fun h1 => absurd (by decide) h1, fun _ => ?_⟩ | refine ⟨fun _ => ?_, fun h1 => absurd h1 (by decide)⟩
    conv => whnf
    try dsimp only
    refine ⟨trivial, c_countThere (sz := aTs a) (str_t n) (by decide) (fun j hj => ⟨by have := oX j hj; omega, (hcX j hj).1⟩) ?_⟩
    refine EV.at ck137 (by decide) 300 [] ?_
    conv => whnf
    try dsimp only
    exact ⟨trivial, h⟩
  · refine MT.by ck137 (by decide) rfl (Nat.le_of_ble_eq_true rfl) rfl 300 [] ?_
    conv => whnf
    try dsimp only
    first | refine ⟨fun h1 => absurd h1 (by decide), fun _ => ?_⟩ | refine ⟨fun _ => ?_, fun h1 => absurd (by decide) h1⟩ | refine ⟨fun h1 => absurd (by decide) h1, fun _ => ?_⟩ | refine ⟨fun _ => ?_, fun h1 => absurd h1 (by decide)⟩
    conv => whnf
    try dsimp only
    first | refine ⟨fun h1 => absurd h1 (by decide), fun _ => ?_⟩ | refine ⟨fun _ => ?_, fun h1 => absurd (by decide) h1⟩ | refine ⟨fun h1 => absurd (by decide) h1, fun _ => ?_⟩ | refine ⟨fun _ => ?_, fun h1 => absurd h1 (by decide)⟩
    conv => whnf
    try dsimp only
    first | refine ⟨fun h1 => absurd h1 (by decide), fun _ => ?_⟩ | refine ⟨fun _ => ?_, fun h1 => absurd (by decide) h1⟩ | refine ⟨fun h1 => absurd (by decide) h1, fun _ => ?_⟩ | refine ⟨fun _ => ?_, fun h1 => absurd h1 (by decide)⟩
    conv => whnf
    try dsimp only
    first | refine ⟨fun h1 => absurd h1 (by decide), fun _ => ?_⟩ | refine ⟨fun _ => ?_, fun h1 => absurd (by decide) h1⟩ | refine ⟨fun h1 => absurd (by decide) h1, fun _ => ?_⟩ | refine ⟨fun _ => ?_, fun h1 => absurd h1 (by decide)⟩
    conv => whnf
    try dsimp only
    first | refine ⟨fun h1 => absurd h1 (by decide), fun _ => ?_⟩ | refine ⟨fun _ => ?_, fun h1 => absurd (by decide) h1⟩ | refine ⟨fun h1 => absurd (by decide) h1, fun _ => ?_⟩ | refine ⟨fun _ => ?_, fun h1 => absurd h1 (by decide)⟩
    conv => whnf
    try dsimp only
    first | refine ⟨fun h1 => absurd h1 (by decide), fun _ => ?_⟩ | refine ⟨fun _ => ?_, fun h1 => absurd (by decide) h1⟩ | refine ⟨fun h1 => absurd (by decide) h1, fun _ => ?_⟩ | refine ⟨fun _ => ?_, fun h1 => absurd h1 (by decide)⟩
    conv => whnf
    try dsimp only
    first | refine ⟨fun h1 => absurd h1 (by decide), fun _ => ?_⟩ | refine ⟨fun _ => ?_, fun h1 => absurd (by decide) h1⟩ | refine ⟨fun h1 => absurd (by decide) h1, fun _ => ?_⟩ | refine ⟨fun _ => ?_, fun h1 => absurd h1 (by decide)⟩
    conv => whnf
    try dsimp only
    first | refine ⟨fun h1 => absurd h1 (by decide), fun _ => ?_⟩ | refine ⟨fun _ => ?_, fun h1 => absurd (by decide) h1⟩ | refine ⟨fun h1 => absurd (by decide) h1, fun _ => ?_⟩ | refine ⟨fun _ => ?_, fun h1 => absurd h1 (by decide)⟩
    conv => whnf
    try dsimp only
    first | refine ⟨fun h1 => absurd h1 (by decide), fun _ => ?_⟩ | refine ⟨fun _ => ?_, fun h1 => absurd (by decide) h1⟩ | refine ⟨fun h1 => absurd (by decide) h1, fun _ => ?_⟩ | refine ⟨fun _ => ?_, fun h1 => absurd h1 (by decide)⟩
    conv => whnf
    try dsimp only
    refine ⟨trivial, c_countKept hcK ?_⟩
    refine EV.at ck137 (by decide) 300 [] ?_
    conv => whnf
    try dsimp only
    exact ⟨trivial, h⟩
theorem k_count {x : Int32} : CS G n 137 [.int x] (fun a => sp_count a x) := by
  intro D I J Q a e hO hC he h
  try dsimp only at h
  obtain ⟨hcT, hcF, hcK, hcR, hcX, hcN, hcA, hcU, hcM⟩ := id hC
  obtain ⟨oT, oF, oN, oK, oR, oX⟩ := id hO
  unfold sp_count at h
  rcases ix_cases (n := 9) (by decide) x with ⟨e2, e3⟩ | ⟨m, hm, rfl, e2, e3⟩
  · rw [e2] at h
    have e4 := of_decide_eq_false e3
    have ne : ∀ k, k < 9 → ¬ x = nI k := fun k hk z => e4 ⟨by rw [z]; exact nI_pos' (by omega), by rw [z]; exact nI_lt hk (by decide)⟩
    refine MT.by ck137 (by decide) rfl (Nat.le_of_ble_eq_true rfl) rfl 300 [] ?_
    conv => whnf
    try dsimp only
    refine ⟨fun z => absurd z (ne 0 (by decide)), fun _ => ⟨fun z => absurd z (ne 1 (by decide)), fun _ => ⟨fun z => absurd z (ne 2 (by decide)), fun _ => ⟨fun z => absurd z (ne 3 (by decide)), fun _ => ⟨fun z => absurd z (ne 4 (by decide)), fun _ => ⟨fun z => absurd z (ne 5 (by decide)), fun _ => ⟨fun z => absurd z (ne 6 (by decide)), fun _ => ⟨fun z => absurd z (ne 7 (by decide)), fun _ => ⟨fun z => absurd z (ne 8 (by decide)), fun _ => ?_⟩⟩⟩⟩⟩⟩⟩⟩⟩
    conv => whnf
    try dsimp only
    exact ⟨trivial, fin rfl hC (by omega) (FC.rf I) (FJ.rf J) h⟩
  · rw [e2] at h
    exact c_count (d := D + 56) hO hC hm (fin rfl hC (by omega) (FC.rf I) (FJ.rf J) h)
end
