/-! the reference's calls: rows barred, judged -/
theorem ix_nd {m : Nat} {x : Int32} (h : ix m x = none) : decide (0 ≤ x ∧ x < nI m) = false := by
  unfold ix at h
  split at h
  · cases h
  · rename_i hn
    exact decide_eq_false hn
theorem ix_sd {m j : Nat} {x : Int32} (h : ix m x = some j) : decide (0 ≤ x ∧ x < nI m) = true := by
  unfold ix at h
  split at h
  · rename_i hn
    exact decide_eq_true hn
  · cases h
theorem tld_lt {a : AB} {j most e : Nat} : tld a j most e < 6 := by
  unfold tld
  split
  · omega
  · split
    · omega
    · split <;> omega
section
variable {G : GG} {D n : Nat} {I : Nat → Nat → Int32} {J : Nat → Nat → Int64} {Q : Option Value → MH → Prop} {T : TN} {q : Nat → SD}
theorem r_bars {a : AB} {j most e : Nat} (hO : aOK a) (hC : MA a I J) (hj : j < 6) (hm : most ≤ 40) (he : e < 100) (h : Q (some (.int (nI (tld a j most e)))) (SH n, I, J)) : MT G (D + 2) 228 [.ref 77, .int (nI j), .int (nI most), .int (nI e)] (SH n, I, J) Q := by
  obtain ⟨hcT, hcF, hcK, hcR, hcX, hcN, hcA, hcU⟩ := id hC
  have o41 := hO.2.2.2.2.1 j hj
  have cj : (nI j).toNatClampNeg = j := nI_clamp (by omega)
  obtain ⟨r1, r2⟩ := hcR j hj
  unfold tld at h
  refine MT.by ck228 (by decide) rfl (Nat.le_of_ble_eq_true rfl) rfl 300 [17] ?_
  conv => whnf
  try dsimp only
  refine ⟨in_nI hj (by decide), ?_⟩
  conv => whnf
  try dsimp only
  rw [cj, r1]
  by_cases hz : aRs a j = 0
  · rw [if_pos hz] at h
    rw [hz]
    first | refine ⟨fun h1 => absurd h1 (by decide), fun _ => ?_⟩ | refine ⟨fun _ => ?_, fun h1 => absurd (by decide) h1⟩ | refine ⟨fun h1 => absurd (by decide) h1, fun _ => ?_⟩ | refine ⟨fun _ => ?_, fun h1 => absurd h1 (by decide)⟩
    conv => whnf
    try dsimp only
    exact ⟨trivial, h⟩
  rw [if_neg hz] at h
  have r1' : I 86 j = nI (aRs a j - 1) := by rw [r1]; exact sz_nI hz
  have loop : ∀ m k, k + m = aRs a j - 1 → EV G 228 (D + 1) 0 0 17 [.ref 77, .int (nI j), .int (nI most), .int (nI e), .int (b2i (allW (aRc a j) (nI e) k)), .int (nI k)] [] (SH n, I, J) Q := by
    intro m
    induction m with
    | zero =>
      intro k hk
      have hk : k = aRs a j - 1 := hk
      rw [← hk] at h
      refine EV.at ck228 (by decide) 300 [] ?_
      conv => whnf
      try dsimp only
      refine ⟨in_nI hj (by decide), ?_⟩
      conv => whnf
      try dsimp only
      rw [cj, r1']
      refine pk_le (aRs a j - 1) k (fun _ => ?_) (fun z => absurd z (by omega))
      conv => whnf
      try dsimp only
      refine ⟨in_nI hj (by decide), ?_⟩
      conv => whnf
      try dsimp only
      rw [cj, r1']
      refine pk_le (aRs a j - 1) most (fun z => ?_) (fun z => ?_)
      · rw [if_neg (by omega)] at h
        conv => whnf
        try dsimp only
        cases hb : allW (aRc a j) (nI e) k
        · rw [hb] at h
          first | refine ⟨fun h1 => absurd h1 (by decide), fun _ => ?_⟩ | refine ⟨fun _ => ?_, fun h1 => absurd (by decide) h1⟩ | refine ⟨fun h1 => absurd (by decide) h1, fun _ => ?_⟩ | refine ⟨fun _ => ?_, fun h1 => absurd h1 (by decide)⟩
          conv => whnf
          try dsimp only
          exact ⟨trivial, h⟩
        · rw [hb] at h
          first | refine ⟨fun h1 => absurd h1 (by decide), fun _ => ?_⟩ | refine ⟨fun _ => ?_, fun h1 => absurd (by decide) h1⟩ | refine ⟨fun h1 => absurd (by decide) h1, fun _ => ?_⟩ | refine ⟨fun _ => ?_, fun h1 => absurd h1 (by decide)⟩
          conv => whnf
          try dsimp only
          exact ⟨trivial, h⟩
      · rw [if_pos (by omega)] at h
        conv => whnf
        try dsimp only
        exact ⟨trivial, h⟩
    | succ m ih =>
      intro k hk
      have ihj := ih (k + 1) (by omega)
      have un : allW (aRc a j) (nI e) (k + 1) = (allW (aRc a j) (nI e) k && decide (0 ≤ aRc a j k ∧ aRc a j k < nI e)) := rfl
      rw [un, nI_succ k] at ihj
      have ck : (nI (40 * j + k)).toNatClampNeg = 40 * j + k := nI_clamp (by omega)
      refine EV.at ck228 (by decide) 300 [] ?_
      conv => whnf
      try dsimp only
      refine ⟨in_nI hj (by decide), ?_⟩
      conv => whnf
      try dsimp only
      rw [cj, r1']
      refine pk_le (aRs a j - 1) k (fun z => absurd z (by omega)) (fun _ => ?_)
      conv => whnf
      try dsimp only
      cases hb : allW (aRc a j) (nI e) k
      · rw [hb] at ihj
        first | refine ⟨fun h1 => absurd h1 (by decide), fun _ => ?_⟩ | refine ⟨fun _ => ?_, fun h1 => absurd (by decide) h1⟩ | refine ⟨fun h1 => absurd (by decide) h1, fun _ => ?_⟩ | refine ⟨fun _ => ?_, fun h1 => absurd h1 (by decide)⟩
        conv => whnf
        try dsimp only
        exact ⟨trivial, ihj⟩
      rw [hb, Bool.true_and] at ihj
      first | refine ⟨fun h1 => absurd h1 (by decide), fun _ => ?_⟩ | refine ⟨fun _ => ?_, fun h1 => absurd (by decide) h1⟩ | refine ⟨fun h1 => absurd (by decide) h1, fun _ => ?_⟩ | refine ⟨fun _ => ?_, fun h1 => absurd h1 (by decide)⟩
      conv => whnf
      try dsimp only
      rw [i40]
      refine ⟨in_nI (show 40 * j + k < 240 by omega) (by decide), ?_⟩
      conv => whnf
      try dsimp only
      rw [ck, r2 k (by omega)]
      refine ⟨trivial, r_ix (K := e) (sub1 (by omega)) (by omega) (fun e1 => ?_) (fun i hi hr e1 => ?_)⟩
      · rw [ix_nd e1] at ihj
        refine EV.at ck228 (by decide) 300 [] ?_
        conv => whnf
        try dsimp only
        first | refine ⟨fun h1 => absurd h1 (by decide), fun _ => ?_⟩ | refine ⟨fun _ => ?_, fun h1 => absurd (by decide) h1⟩ | refine ⟨fun h1 => absurd (by decide) h1, fun _ => ?_⟩ | refine ⟨fun _ => ?_, fun h1 => absurd h1 (by decide)⟩
        conv => whnf
        try dsimp only
        exact ⟨trivial, ihj⟩
      · rw [ix_sd e1] at ihj
        refine EV.at ck228 (by decide) 300 [] ?_
        conv => whnf
        try dsimp only
        first | refine ⟨fun h1 => absurd h1 (by decide), fun _ => ?_⟩ | refine ⟨fun _ => ?_, fun h1 => absurd (by decide) h1⟩ | refine ⟨fun h1 => absurd (by decide) h1, fun _ => ?_⟩ | refine ⟨fun _ => ?_, fun h1 => absurd h1 (by decide)⟩
        conv => whnf
        try dsimp only
        exact ⟨trivial, ihj⟩
  refine ⟨fun _ => ?_, fun z => absurd ((szI_neg (by omega)).mp (Int32.not_le.mp z)) hz⟩
  conv => whnf
  try dsimp only
  exact ⟨trivial, loop (aRs a j - 1) 0 (by omega)⟩
theorem m_judge {r : Int32} : RS G n 229 [.int r] (fun a => sp_judge a r) := by
  intro D I J Q a hO hC h
  try dsimp only at h
  obtain ⟨hcT, hcF, hcK, hcR, hcX, hcN, hcA, hcU⟩ := id hC
  obtain ⟨oT, oF, oN, oK, oR, oX⟩ := id hO
  have h12 : tC (aT a) ≤ 12 := oT.1.2.2.1
  unfold sp_judge at h
  refine MT.by ck229 (by decide) rfl (Nat.le_of_ble_eq_true rfl) rfl 300 [] ?_
  conv => whnf
  try dsimp only
  refine ⟨trivial, r_isRow (fun e1 => ?_) (fun j hj hr e1 => ?_)⟩
  · rw [e1] at h
    refine EV.at ck229 (by decide) 300 [] ?_
    conv => whnf
    try dsimp only
    first | refine ⟨fun h1 => absurd h1 (by decide), fun _ => ?_⟩ | refine ⟨fun _ => ?_, fun h1 => absurd (by decide) h1⟩ | refine ⟨fun h1 => absurd (by decide) h1, fun _ => ?_⟩ | refine ⟨fun _ => ?_, fun h1 => absurd h1 (by decide)⟩
    conv => whnf
    try dsimp only
    exact ⟨trivial, rfin rfl hC (FM.rf I) (FMJ.rf J) h⟩
  rw [e1] at h
  dsimp only at h
  subst hr
  have cj : (nI j).toNatClampNeg = j := nI_clamp (by omega)
  refine EV.at ck229 (by decide) 300 [] ?_
  conv => whnf
  try dsimp only
  first | refine ⟨fun h1 => absurd h1 (by decide), fun _ => ?_⟩ | refine ⟨fun _ => ?_, fun h1 => absurd (by decide) h1⟩ | refine ⟨fun h1 => absurd (by decide) h1, fun _ => ?_⟩ | refine ⟨fun _ => ?_, fun h1 => absurd h1 (by decide)⟩
  conv => whnf
  try dsimp only
  rw [hcF.1]
  cases hh : aH a
  · rw [hh] at h
    first | refine ⟨fun h1 => absurd h1 (by decide), fun _ => ?_⟩ | refine ⟨fun _ => ?_, fun h1 => absurd (by decide) h1⟩ | refine ⟨fun h1 => absurd (by decide) h1, fun _ => ?_⟩ | refine ⟨fun _ => ?_, fun h1 => absurd h1 (by decide)⟩
    conv => whnf
    try dsimp only
    exact ⟨trivial, rfin rfl hC (FM.rf I) (FMJ.rf J) h⟩
  rw [hh, if_pos rfl] at h
  have hv : vQ (aT a) (aq a) := (oF hh).1
  have hw : aw a < 2 := Nat.mod_lt _ (by decide)
  first | refine ⟨fun h1 => absurd h1 (by decide), fun _ => ?_⟩ | refine ⟨fun _ => ?_, fun h1 => absurd (by decide) h1⟩ | refine ⟨fun h1 => absurd (by decide) h1, fun _ => ?_⟩ | refine ⟨fun _ => ?_, fun h1 => absurd h1 (by decide)⟩
  conv => whnf
  try dsimp only
  rw [hcT.2.2.1]
  refine ⟨trivial, r_bars (most := 12) hO hC hj (by decide) (by omega) ?_⟩
  by_cases ht : tld a j 12 (tC (aT a)) = 0
  case neg =>
    rw [if_neg ht] at h
    have hl := tld_lt (a := a) (j := j) (most := 12) (e := tC (aT a))
    refine EV.at ck229 (by decide) 300 [] ?_
    conv => whnf
    try dsimp only
    refine ⟨fun z => absurd z (nI_nle (by omega) (by omega)), fun _ => ?_⟩
    conv => whnf
    try dsimp only
    refine ⟨trivial, r_found hl ?_⟩
    refine EV.at ck229 (by decide) 300 [] ?_
    conv => whnf
    try dsimp only
    exact ⟨trivial, rfin rfl (hC.fnd hl) FM.fnd (FMJ.rf J) h⟩
  rw [if_pos ht] at h
  obtain ⟨t1, t2, t3⟩ := tld_ok (by omega) ht
  have o41 := oR j hj
  rw [ht]
  refine EV.at ck229 (by decide) 300 [] ?_
  conv => whnf
  try dsimp only
  first | refine ⟨fun h1 => absurd h1 (by decide), fun _ => ?_⟩ | refine ⟨fun _ => ?_, fun h1 => absurd (by decide) h1⟩ | refine ⟨fun h1 => absurd (by decide) h1, fun _ => ?_⟩ | refine ⟨fun _ => ?_, fun h1 => absurd h1 (by decide)⟩
  conv => whnf
  try dsimp only
  refine ⟨trivial, r_layRoot hcF.2 (oF hh).2.1 (fun I1 b1 b2 b3 b4 b5 b6 => ?_)⟩
  obtain ⟨hC1, hfm⟩ := hC.wm b5 b6
  have r86 : I1 86 j = nI (aRs a j - 1) := by rw [(hC1.2.2.2.1 j hj).1]; exact sz_nI t1
  have r87 : ∀ i, i < aRs a j - 1 → I1 87 (40 * j + i) = nI (rwN a j i) := fun i hi => by rw [(hC1.2.2.2.1 j hj).2 i (by omega)]; exact (t3 i hi).2
  have fin : ∀ (i : Nat) (q1 : Nat → SD) (I2 : Nat → Nat → Int32), i ≤ 12 → vQ (aT a) q1 → pM i q1 I2 → BM (aT a) (aw a) q1 I2 → (∀ r, r ≠ 97 → r ≠ 98 → I2 r = I1 r) → aFo a j = (i, q1) → EV G 229 (D + 59) 0 0 103 [.ref 77, .int (nI j), .int 0, .int (nI i)] [] (SH n, I2, J) Q := by
    intro i q1 I2 hi hv1 hp1 hB1 hfr he
    rw [he] at h
    dsimp only at h
    have hw1 : (aw a + i) % 2 < 2 := Nat.mod_lt _ (by decide)
    have e7 := hfr 77 (by decide) (by decide)
    have hC2 := hC1.scr (I' := I2) ⟨fun r h1 h2 => hfr r (by omega) (by omega), by rw [e7], by rw [e7], by rw [e7], by rw [e7], by rw [e7]⟩ rfl rfl
    have hfm2 : FM I I2 := hfm.tr (fun r hr => hfr r (by omega) (by omega))
    have hp2 : 2 ^ tC (aT a) ≤ 2 ^ 12 := Nat.pow_le_pow_right (by decide) h12
    have ol := optN_lt (T := aT a) (q := q1 ((aw a + i) % 2)) (o := (q1 (1 - (aw a + i) % 2)).1) (tC (aT a))
    refine EV.at ck229 (by decide) 300 [] ?_
    conv => whnf
    try dsimp only
    refine ⟨trivial, r_moverAt hw (by omega) hB1.2.1 ?_⟩
    refine EV.at ck229 (by decide) 300 [] ?_
    conv => whnf
    try dsimp only
    refine ⟨trivial, r_canOf hi hw1 oT.1 hB1.1 hp1 hB1.2.2 hv1 ?_⟩
    generalize optN (aT a) (q1 ((aw a + i) % 2)) (q1 (1 - (aw a + i) % 2)).1 (tC (aT a)) = o at h ol ⊢
    by_cases h0 : o = 0
    · subst h0
      refine EV.at ck229 (by decide) 300 [] ?_
      conv => whnf
      try dsimp only
      first | refine ⟨fun h1 => absurd h1 (by decide), fun _ => ?_⟩ | refine ⟨fun _ => ?_, fun h1 => absurd (by decide) h1⟩ | refine ⟨fun h1 => absurd (by decide) h1, fun _ => ?_⟩ | refine ⟨fun _ => ?_, fun h1 => absurd h1 (by decide)⟩
      conv => whnf
      try dsimp only
      refine ⟨trivial, r_moverAt hw (by omega) hB1.2.1 ?_⟩
      refine EV.at ck229 (by decide) 300 [] ?_
      conv => whnf
      try dsimp only
      refine ⟨trivial, r_says ?_⟩
      refine EV.at ck229 (by decide) 300 [] ?_
      conv => whnf
      try dsimp only
      exact ⟨trivial, rfin rfl hC2.ask (hfm2.up (by decide)) (FMJ.rf J) h⟩
    · rw [if_neg h0] at h
      refine EV.at ck229 (by decide) 300 [] ?_
      conv => whnf
      try dsimp only
      refine ⟨fun _ => ?_, fun z => absurd z (nI_ne0 (by omega) (by omega))⟩
      conv => whnf
      try dsimp only
      refine ⟨trivial, r_says ?_⟩
      refine EV.at ck229 (by decide) 300 [] ?_
      conv => whnf
      try dsimp only
      exact ⟨trivial, rfin rfl hC2.ask (hfm2.up (by decide)) (FMJ.rf J) h⟩
  have loop : ∀ k i (q1 : Nat → SD) (I2 : Nat → Nat → Int32), i + k = aRs a j - 1 → vQ (aT a) q1 → pM i q1 I2 → BM (aT a) (aw a) q1 I2 → (∀ r, r ≠ 97 → r ≠ 98 → I2 r = I1 r) → aFo a j = fol (aT a) (rwN a j) k i q1 ((aw a + i) % 2) → EV G 229 (D + 59) 0 0 47 [.ref 77, .int (nI j), .int 0, .int (nI i)] [] (SH n, I2, J) Q := by
    intro k
    induction k with
    | zero =>
      intro i q1 I2 hi hv1 hp1 hB1 hfr he
      have hi : i = aRs a j - 1 := hi
      refine EV.at ck229 (by decide) 300 [103] ?_
      conv => whnf
      try dsimp only
      refine ⟨in_nI hj (by decide), ?_⟩
      conv => whnf
      try dsimp only
      rw [cj, hfr 86 (by decide) (by decide), r86]
      refine pk_le (aRs a j - 1) i (fun _ => ?_) (fun z => absurd z (by omega))
      conv => whnf
      try dsimp only
      exact ⟨trivial, fin i q1 I2 (by omega) hv1 hp1 hB1 hfr he⟩
    | succ k ih =>
      intro i q1 I2 hi hv1 hp1 hB1 hfr he
      have hw1 : (aw a + i) % 2 < 2 := Nat.mod_lt _ (by decide)
      have un : fol (aT a) (rwN a j) (k + 1) i q1 ((aw a + i) % 2) = if canN (aT a) (q1 ((aw a + i) % 2)) (q1 (1 - (aw a + i) % 2)).1 (rwN a j i) then fol (aT a) (rwN a j) k (i + 1) (stepQ (aT a) q1 ((aw a + i) % 2) (rwN a j i)) (1 - (aw a + i) % 2) else (i, q1) := rfl
      have ca : (nI (40 * j + i)).toNatClampNeg = 40 * j + i := nI_clamp (by omega)
      have hri := (t3 i (by omega)).1
      have r8 : I2 87 (40 * j + i) = nI (rwN a j i) := by rw [hfr 87 (by decide) (by decide)]; exact r87 i (by omega)
      refine EV.at ck229 (by decide) 300 [103] ?_
      conv => whnf
      try dsimp only
      refine ⟨in_nI hj (by decide), ?_⟩
      conv => whnf
      try dsimp only
      rw [cj, hfr 86 (by decide) (by decide), r86]
      refine pk_le (aRs a j - 1) i (fun z => absurd z (by omega)) (fun _ => ?_)
      conv => whnf
      try dsimp only
      refine ⟨trivial, r_moverAt hw (by omega) hB1.2.1 ?_⟩
      refine EV.at ck229 (by decide) 300 [103] ?_
      conv => whnf
      try dsimp only
      rw [i40]
      refine ⟨in_nI (show 40 * j + i < 240 by omega) (by decide), ?_⟩
      conv => whnf
      try dsimp only
      rw [ca, r8]
      refine ⟨trivial, r_canBe (by omega) hw1 oT.1 hB1.1 hp1 hB1.2.2 hv1 hri ?_⟩
      cases hb : canN (aT a) (q1 ((aw a + i) % 2)) (q1 (1 - (aw a + i) % 2)).1 (rwN a j i)
      · rw [hb] at un
        refine EV.at ck229 (by decide) 300 [103] ?_
        conv => whnf
        try dsimp only
        first | refine ⟨fun h1 => absurd h1 (by decide), fun _ => ?_⟩ | refine ⟨fun _ => ?_, fun h1 => absurd (by decide) h1⟩ | refine ⟨fun h1 => absurd (by decide) h1, fun _ => ?_⟩ | refine ⟨fun _ => ?_, fun h1 => absurd h1 (by decide)⟩
        conv => whnf
        try dsimp only
        exact ⟨trivial, fin i q1 I2 (by omega) hv1 hp1 hB1 hfr (he.trans un)⟩
      rw [hb, if_pos rfl] at un
      refine EV.at ck229 (by decide) 300 [103] ?_
      conv => whnf
      try dsimp only
      first | refine ⟨fun h1 => absurd h1 (by decide), fun _ => ?_⟩ | refine ⟨fun _ => ?_, fun h1 => absurd (by decide) h1⟩ | refine ⟨fun h1 => absurd (by decide) h1, fun _ => ?_⟩ | refine ⟨fun _ => ?_, fun h1 => absurd h1 (by decide)⟩
      conv => whnf
      try dsimp only
      rw [i40]
      refine ⟨in_nI (show 40 * j + i < 240 by omega) (by decide), ?_⟩
      conv => whnf
      try dsimp only
      rw [ca, r8]
      refine ⟨trivial, r_dives hw (by omega) hB1.2.1 oT.1 hB1.1 hp1 hv1 hri hb (fun I3 c1 c2 c3 c4 c5 => ?_)⟩
      have hB3 : BM (aT a) (aw a) q1 I3 := ⟨hB1.1.of (fun r h1 h2 => c3 r (by omega) (by omega)) (by rw [c3 77 (by decide) (by decide)]) (by rw [c3 77 (by decide) (by decide)]), by rw [c3 77 (by decide) (by decide)]; exact hB1.2.1, by unfold kM; rw [c3 99 (by decide) (by decide)]; exact hB1.2.2⟩
      have ihj := ih (i + 1) (stepQ (aT a) q1 ((aw a + i) % 2) (rwN a j i)) I3 (by omega) (vQ_step oT.1 hw1 hri hv1) c1 hB3.st (fun r h1 h2 => (c3 r h1 h2).trans (hfr r h1 h2)) (by rw [he, un, show 1 - (aw a + i) % 2 = (aw a + (i + 1)) % 2 by omega])
      rw [nI_succ i] at ihj
      refine EV.at ck229 (by decide) 300 [] ?_
      conv => whnf
      try dsimp only
      exact ⟨trivial, ihj⟩
  have l0 := loop (aRs a j - 1) 0 (aq a) I1 (by omega) hv b1 ⟨hC1.1, b3, b2⟩ (fun _ _ _ => rfl) (by rw [show (aw a + 0) % 2 = aw a by omega]; rfl)
  refine EV.at ck229 (by decide) 300 [47] ?_
  conv => whnf
  try dsimp only
  exact ⟨trivial, l0⟩
end
