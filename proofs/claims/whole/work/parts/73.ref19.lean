/-! the reference's digest -/
theorem ul_ul {J : Nat → Nat → Int64} {r k : Nat} {x y : Int64} : upL (upL J r k x) r k y = upL J r k y := by
  funext r' k'
  unfold upL
  split <;> rfl
theorem mixR_0 (s : Nat → Nat) (c : Nat → Nat → Int32) (h : Int64) : mixR s c h 0 = h := rfl
theorem nd_ge : ∀ r, r < 2 → ∀ c, c < 4 → (2 : Int32) * nI c + nI r = nI (2 * c + r) := by decide
section
variable {G : GG} {D n : Nat} {I : Nat → Nat → Int32} {J : Nat → Nat → Int64} {Q : Option Value → MH → Prop}
theorem r_mix {x h : Int64} (hq : Q none (SH n, I, upL J 77 46 (31 * h + x))) : MT G (D + 1) 258 [.ref 77, .long x] (SH n, I, upL J 77 46 h) Q := by
  refine MT.by ck258 (by decide) rfl (Nat.le_of_ble_eq_true rfl) rfl 300 [] ?_
  conv => whnf
  try dsimp only
  rw [show upL J 77 46 h 77 46 = h from ul_same, ul_ul]
  exact ⟨trivial, hq⟩
set_option maxRecDepth 20000 in
theorem m_digest : RSL G n 259 dgt := by
  intro D I J Q a hO hC h
  obtain ⟨hcT, hcF, hcK, hcR, hcX, hcN, hcA, hcU⟩ := id hC
  obtain ⟨oT, oF, oN, oK, oR, oX⟩ := id hO
  have h5 : tS (aT a) ≤ 5 := oT.1.1
  have h12 : tC (aT a) ≤ 12 := oT.1.2.2.1
  obtain ⟨g1, g2, g3, g4, g5⟩ := id hcF.2
  have c8 : Int32.toNatClampNeg 8 = 8 := by decide
  have r8 : I 78 8 = nI (az a) := g4
  have hz : az a ≤ 40 := by
    cases hh : aH a with
    | true => exact (oF hh).2.1
    | false => have h0 : az a = 0 := (oN hh).2.2.1; omega
  have hCd : ∀ x, MA a I (upL J 77 46 x) := fun x => hC.scr (SR.rf I) (ul_ne (by decide)) (ul_ne (by decide))
  have hq := h I (upL J 77 46 (dgt a)) (hCd _) (FM.rf I) ((FMJ.rf J).up (by decide))
  unfold dgt at hq
  -- texts
  have lT : ∀ m j (z2 : Value), j + m = 4 → EV G 259 (D + 59) 0 0 279 [.ref 77, .int (nI j), z2] [] (SH n, I, upL J 77 46 (mixR (aTs a) (aTc a) (mixR (aRs a) (aRc a) (dg6 a) 6) j)) Q := by
    intro m
    induction m with
    | zero =>
      intro j z2 hj
      have hj : j = 4 := hj
      subst hj
      refine EV.at ck259 (by decide) 300 [] ?_
      conv => whnf
      try dsimp only
      first | refine ⟨fun h1 => absurd h1 (by decide), fun _ => ?_⟩ | refine ⟨fun _ => ?_, fun h1 => absurd (by decide) h1⟩ | refine ⟨fun h1 => absurd (by decide) h1, fun _ => ?_⟩ | refine ⟨fun _ => ?_, fun h1 => absurd h1 (by decide)⟩
      conv => whnf
      try dsimp only
      rw [ul_same]
      exact ⟨trivial, hq⟩
    | succ m ih =>
      intro j z2 hj
      have ihj := ih (j + 1)
      have hj4 : j < 4 := by omega
      have o81 := oX j hj4
      have cj : (nI j).toNatClampNeg = j := nI_clamp (by omega)
      generalize mixR (aRs a) (aRc a) (dg6 a) 6 = b at *
      have e : mixR (aTs a) (aTc a) b (j + 1) = mixL (aTc a j) (31 * mixR (aTs a) (aTc a) b j + (szI (aTs a j)).toInt64) (aTs a j - 1) := rfl
      rw [e, nI_succ j] at ihj
      obtain ⟨x1, x2⟩ := hcX j hj4
      have inner : ∀ l i, i + l = aTs a j - 1 → EV G 259 (D + 59) 0 0 297 [.ref 77, .int (nI j), .int (nI i)] [] (SH n, I, upL J 77 46 (mixL (aTc a j) (31 * mixR (aTs a) (aTc a) b j + (szI (aTs a j)).toInt64) i)) Q := by
        intro l
        induction l with
        | zero =>
          intro i hi
          have hi : i = aTs a j - 1 := hi
          have ihk := ihj (.int (nI i)) (by omega)
          rw [← hi] at ihk
          refine EV.at ck259 (by decide) 300 [] ?_
          conv => whnf
          try dsimp only
          refine ⟨in_nI (show j < 4 by omega) (by decide), ?_⟩
          conv => whnf
          try dsimp only
          rw [cj, x1]
          have hle : szI (aTs a j) ≤ nI i := by
            by_cases h0 : aTs a j = 0
            · rw [h0]
              exact Int32.le_trans (show (-1 : Int32) ≤ 0 by decide) (nI_pos' (by omega))
            · rw [sz_nI h0, hi]
              exact Int32.le_refl _
          refine ⟨fun _ => ?_, fun z => absurd hle z⟩
          conv => whnf
          try dsimp only
          exact ⟨trivial, ihk⟩
        | succ l ihl =>
          intro i hi
          have ihk := ihl (i + 1) (by omega)
          have e2 : mixL (aTc a j) (31 * mixR (aTs a) (aTc a) b j + (szI (aTs a j)).toInt64) (i + 1) = 31 * mixL (aTc a j) (31 * mixR (aTs a) (aTc a) b j + (szI (aTs a j)).toInt64) i + (aTc a j i).toInt64 := rfl
          rw [e2, nI_succ i] at ihk
          have ci : (nI (80 * j + i)).toNatClampNeg = 80 * j + i := nI_clamp (by omega)
          have hs : szI (aTs a j) = nI (aTs a j - 1) := sz_nI (by omega)
          refine EV.at ck259 (by decide) 300 [] ?_
          conv => whnf
          try dsimp only
          refine ⟨in_nI (show j < 4 by omega) (by decide), ?_⟩
          conv => whnf
          try dsimp only
          rw [cj, x1, hs]
          refine pk_le (aTs a j - 1) i (fun z => absurd z (by omega)) (fun _ => ?_)
          conv => whnf
          try dsimp only
          rw [i80]
          refine ⟨in_nI (show 80 * j + i < 320 by omega) (by decide), ?_⟩
          conv => whnf
          try dsimp only
          rw [ci, x2 i (by omega)]
          refine ⟨trivial, r_mix ?_⟩
          rw [← hs]
          refine EV.at ck259 (by decide) 300 [] ?_
          conv => whnf
          try dsimp only
          exact ⟨trivial, ihk⟩
      refine EV.at ck259 (by decide) 300 [297] ?_
      conv => whnf
      try dsimp only
      refine ⟨fun z => absurd z (nI_ge (b := 4) hj4 (by decide)), fun _ => ?_⟩
      conv => whnf
      try dsimp only
      refine ⟨in_nI (show j < 4 by omega) (by decide), ?_⟩
      conv => whnf
      try dsimp only
      rw [cj, x1]
      refine ⟨trivial, r_mix ?_⟩
      refine EV.at ck259 (by decide) 300 [297] ?_
      conv => whnf
      try dsimp only
      exact ⟨trivial, inner (aTs a j - 1) 0 (by omega)⟩
  -- rows
  have lR : ∀ m j (z2 : Value), j + m = 6 → EV G 259 (D + 59) 0 0 220 [.ref 77, .int (nI j), z2] [] (SH n, I, upL J 77 46 (mixR (aRs a) (aRc a) (dg6 a) j)) Q := by
    intro m
    induction m with
    | zero =>
      intro j z2 hj
      have hj : j = 6 := hj
      subst hj
      have l0 := lT 4 0 z2 (by omega)
      rw [mixR_0] at l0
      refine EV.at ck259 (by decide) 300 [279] ?_
      conv => whnf
      try dsimp only
      first | refine ⟨fun h1 => absurd h1 (by decide), fun _ => ?_⟩ | refine ⟨fun _ => ?_, fun h1 => absurd (by decide) h1⟩ | refine ⟨fun h1 => absurd (by decide) h1, fun _ => ?_⟩ | refine ⟨fun _ => ?_, fun h1 => absurd h1 (by decide)⟩
      conv => whnf
      try dsimp only
      exact ⟨trivial, l0⟩
    | succ m ih =>
      intro j z2 hj
      have ihj := ih (j + 1)
      have hj4 : j < 6 := by omega
      have o41 := oR j hj4
      have cj : (nI j).toNatClampNeg = j := nI_clamp (by omega)
      generalize dg6 a = b at *
      have e : mixR (aRs a) (aRc a) b (j + 1) = mixL (aRc a j) (31 * mixR (aRs a) (aRc a) b j + (szI (aRs a j)).toInt64) (aRs a j - 1) := rfl
      rw [e, nI_succ j] at ihj
      obtain ⟨x1, x2⟩ := hcR j hj4
      have inner : ∀ l i, i + l = aRs a j - 1 → EV G 259 (D + 59) 0 0 239 [.ref 77, .int (nI j), .int (nI i)] [] (SH n, I, upL J 77 46 (mixL (aRc a j) (31 * mixR (aRs a) (aRc a) b j + (szI (aRs a j)).toInt64) i)) Q := by
        intro l
        induction l with
        | zero =>
          intro i hi
          have hi : i = aRs a j - 1 := hi
          have ihk := ihj (.int (nI i)) (by omega)
          rw [← hi] at ihk
          refine EV.at ck259 (by decide) 300 [] ?_
          conv => whnf
          try dsimp only
          refine ⟨in_nI (show j < 6 by omega) (by decide), ?_⟩
          conv => whnf
          try dsimp only
          rw [cj, x1]
          have hle : szI (aRs a j) ≤ nI i := by
            by_cases h0 : aRs a j = 0
            · rw [h0]
              exact Int32.le_trans (show (-1 : Int32) ≤ 0 by decide) (nI_pos' (by omega))
            · rw [sz_nI h0, hi]
              exact Int32.le_refl _
          refine ⟨fun _ => ?_, fun z => absurd hle z⟩
          conv => whnf
          try dsimp only
          exact ⟨trivial, ihk⟩
        | succ l ihl =>
          intro i hi
          have ihk := ihl (i + 1) (by omega)
          have e2 : mixL (aRc a j) (31 * mixR (aRs a) (aRc a) b j + (szI (aRs a j)).toInt64) (i + 1) = 31 * mixL (aRc a j) (31 * mixR (aRs a) (aRc a) b j + (szI (aRs a j)).toInt64) i + (aRc a j i).toInt64 := rfl
          rw [e2, nI_succ i] at ihk
          have ci : (nI (40 * j + i)).toNatClampNeg = 40 * j + i := nI_clamp (by omega)
          have hs : szI (aRs a j) = nI (aRs a j - 1) := sz_nI (by omega)
          refine EV.at ck259 (by decide) 300 [] ?_
          conv => whnf
          try dsimp only
          refine ⟨in_nI (show j < 6 by omega) (by decide), ?_⟩
          conv => whnf
          try dsimp only
          rw [cj, x1, hs]
          refine pk_le (aRs a j - 1) i (fun z => absurd z (by omega)) (fun _ => ?_)
          conv => whnf
          try dsimp only
          rw [i40]
          refine ⟨in_nI (show 40 * j + i < 240 by omega) (by decide), ?_⟩
          conv => whnf
          try dsimp only
          rw [ci, x2 i (by omega)]
          refine ⟨trivial, r_mix ?_⟩
          rw [← hs]
          refine EV.at ck259 (by decide) 300 [] ?_
          conv => whnf
          try dsimp only
          exact ⟨trivial, ihk⟩
      refine EV.at ck259 (by decide) 300 [239] ?_
      conv => whnf
      try dsimp only
      refine ⟨fun z => absurd z (nI_ge (b := 6) hj4 (by decide)), fun _ => ?_⟩
      conv => whnf
      try dsimp only
      refine ⟨in_nI (show j < 6 by omega) (by decide), ?_⟩
      conv => whnf
      try dsimp only
      rw [cj, x1]
      refine ⟨trivial, r_mix ?_⟩
      refine EV.at ck259 (by decide) 300 [239] ?_
      conv => whnf
      try dsimp only
      exact ⟨trivial, inner (aRs a j - 1) 0 (by omega)⟩
  -- kept
  have lK : ∀ m j (z2 : Value), j + m = 3 → EV G 259 (D + 59) 0 0 172 [.ref 77, .int (nI j), z2] [] (SH n, I, upL J 77 46 (mixL (fun k => if (aK a k).1 then nI (aK a k).2.2.1 else -1) (dg5 a) j)) Q := by
    intro m
    induction m with
    | zero =>
      intro j z2 hj
      have hj : j = 3 := hj
      subst hj
      have l0 := lR 6 0 z2 (by omega)
      refine EV.at ck259 (by decide) 300 [220] ?_
      conv => whnf
      try dsimp only
      first | refine ⟨fun h1 => absurd h1 (by decide), fun _ => ?_⟩ | refine ⟨fun _ => ?_, fun h1 => absurd (by decide) h1⟩ | refine ⟨fun h1 => absurd (by decide) h1, fun _ => ?_⟩ | refine ⟨fun _ => ?_, fun h1 => absurd h1 (by decide)⟩
      conv => whnf
      try dsimp only
      exact ⟨trivial, l0⟩
    | succ m ih =>
      intro j z2 hj
      have ihj := ih (j + 1) z2 (by omega)
      have cj : (nI j).toNatClampNeg = j := nI_clamp (by omega)
      have e : mixL (fun k => if (aK a k).1 then nI (aK a k).2.2.1 else -1) (dg5 a) (j + 1) = 31 * mixL (fun k => if (aK a k).1 then nI (aK a k).2.2.1 else -1) (dg5 a) j + (if (aK a j).1 then nI (aK a j).2.2.1 else -1 : Int32).toInt64 := rfl
      rw [e, nI_succ j] at ihj
      obtain ⟨x1, x2⟩ := hcK j (by omega)
      refine EV.at ck259 (by decide) 300 [220] ?_
      conv => whnf
      try dsimp only
      refine ⟨fun z => absurd z (nI_ge (b := 3) (show j < 3 by omega) (by decide)), fun _ => ?_⟩
      conv => whnf
      try dsimp only
      refine ⟨in_nI (show j < 3 by omega) (by decide), ?_⟩
      conv => whnf
      try dsimp only
      rw [cj, x1]
      cases hb : (aK a j).1
      · rw [hb] at ihj
        first | refine ⟨fun h1 => absurd h1 (by decide), fun _ => ?_⟩ | refine ⟨fun _ => ?_, fun h1 => absurd (by decide) h1⟩ | refine ⟨fun h1 => absurd (by decide) h1, fun _ => ?_⟩ | refine ⟨fun _ => ?_, fun h1 => absurd h1 (by decide)⟩
        conv => whnf
        try dsimp only
        refine ⟨trivial, r_mix ?_⟩
        refine EV.at ck259 (by decide) 300 [220] ?_
        conv => whnf
        try dsimp only
        exact ⟨trivial, ihj⟩
      · rw [hb, if_pos rfl] at ihj
        have y8 : I 78 (289 * (j + 1) + 8) = nI (aK a j).2.2.1 := (x2 hb).2.2.2.1
        have ci : (nI (289 * (j + 1) + 8)).toNatClampNeg = 289 * (j + 1) + 8 := nI_clamp (by omega)
        first | refine ⟨fun h1 => absurd h1 (by decide), fun _ => ?_⟩ | refine ⟨fun _ => ?_, fun h1 => absurd (by decide) h1⟩ | refine ⟨fun h1 => absurd (by decide) h1, fun _ => ?_⟩ | refine ⟨fun _ => ?_, fun h1 => absurd h1 (by decide)⟩
        conv => whnf
        try dsimp only
        rw [nI_1, show (289 : Int32) * nI (j + 1) = nI (289 * (j + 1)) from pk_mul 289 (j + 1), show nI (289 * (j + 1)) + 8 = nI (289 * (j + 1) + 8) from nI_add _ 8]
        refine ⟨in_nI (show 289 * (j + 1) + 8 < 1156 by omega) (by decide), ?_⟩
        conv => whnf
        try dsimp only
        rw [ci, y8]
        refine ⟨trivial, r_mix ?_⟩
        refine EV.at ck259 (by decide) 300 [220] ?_
        conv => whnf
        try dsimp only
        exact ⟨trivial, ihj⟩
  -- moves
  have lM : ∀ m j (z2 : Value), j + m = az a → EV G 259 (D + 59) 0 0 139 [.ref 77, .int (nI j), z2] [] (SH n, I, upL J 77 46 (mixL (fun i => nI ((aF a).2.2.1 i)) (dg4 a) j)) Q := by
    intro m
    induction m with
    | zero =>
      intro j z2 hj
      have hj : j = az a := hj
      have l0 := lK 3 0 z2 (by omega)
      rw [hj]
      refine EV.at ck259 (by decide) 300 [172] ?_
      conv => whnf
      try dsimp only
      refine ⟨by unfold vp_in; decide, ?_⟩
      conv => whnf
      try dsimp only
      rw [c8, r8]
      refine pk_le (az a) (az a) (fun _ => ?_) (fun z => absurd z (by omega))
      conv => whnf
      try dsimp only
      exact ⟨trivial, l0⟩
    | succ m ih =>
      intro j z2 hj
      have ihj := ih (j + 1) z2 (by omega)
      have e : mixL (fun i => nI ((aF a).2.2.1 i)) (dg4 a) (j + 1) = 31 * mixL (fun i => nI ((aF a).2.2.1 i)) (dg4 a) j + (nI ((aF a).2.2.1 j)).toInt64 := rfl
      rw [e, nI_succ j] at ihj
      have ci : (nI (9 + j)).toNatClampNeg = 9 + j := nI_clamp (by omega)
      have y9 : I 78 (9 + j) = nI ((aF a).2.2.1 j) := by
        have := (g5 j (show j < az a by omega)).1
        rw [Nat.zero_add] at this
        exact this
      refine EV.at ck259 (by decide) 300 [172] ?_
      conv => whnf
      try dsimp only
      refine ⟨by unfold vp_in; decide, ?_⟩
      conv => whnf
      try dsimp only
      rw [c8, r8]
      refine pk_le (az a) j (fun z => absurd z (by omega)) (fun _ => ?_)
      conv => whnf
      try dsimp only
      rw [show (9 : Int32) + nI j = nI (9 + j) from nI_add 9 j]
      refine ⟨in_nI (show 9 + j < 1156 by omega) (by decide), ?_⟩
      conv => whnf
      try dsimp only
      rw [ci, y9]
      refine ⟨trivial, r_mix ?_⟩
      refine EV.at ck259 (by decide) 300 [172] ?_
      conv => whnf
      try dsimp only
      exact ⟨trivial, ihj⟩
  -- fighters
  have k137 : ∀ (z1 z2 : Value), EV G 259 (D + 59) 0 0 137 [.ref 77, z1, z2] [] (SH n, I, upL J 77 46 (dg4 a)) Q := by
    intro z1 z2
    refine EV.at ck259 (by decide) 300 [139] ?_
    conv => whnf
    try dsimp only
    exact ⟨trivial, lM (az a) 0 z2 (by omega)⟩
  have lF : aH a = true → ∀ m j (z2 : Value), j + m = 8 → EV G 259 (D + 59) 0 0 99 [.ref 77, .int (nI j), z2] [] (SH n, I, upL J 77 46 (mixL (fun i => sdV (aq a (i / 4)) (i % 4)) (dg3 a) j)) Q := by
    intro hh m
    induction m with
    | zero =>
      intro j z2 hj
      have hj : j = 8 := hj
      subst hj
      have k0 := k137 (.int (nI 8)) z2
      unfold dg4 at k0
      rw [if_pos hh] at k0
      refine EV.at ck259 (by decide) 300 [137] ?_
      conv => whnf
      try dsimp only
      first | refine ⟨fun h1 => absurd h1 (by decide), fun _ => ?_⟩ | refine ⟨fun _ => ?_, fun h1 => absurd (by decide) h1⟩ | refine ⟨fun h1 => absurd (by decide) h1, fun _ => ?_⟩ | refine ⟨fun _ => ?_, fun h1 => absurd h1 (by decide)⟩
      conv => whnf
      try dsimp only
      exact ⟨trivial, k0⟩
    | succ m ih =>
      intro j z2 hj
      have ihj := ih (j + 1) z2 (by omega)
      have e : mixL (fun i => sdV (aq a (i / 4)) (i % 4)) (dg3 a) (j + 1) = 31 * mixL (fun i => sdV (aq a (i / 4)) (i % 4)) (dg3 a) j + (sdV (aq a (j / 4)) (j % 4)).toInt64 := rfl
      rw [e, nI_succ j] at ihj
      have ci : (nI (2 * (j % 4) + j / 4)).toNatClampNeg = 2 * (j % 4) + j / 4 := nI_clamp (by omega)
      have y : I 78 (2 * (j % 4) + j / 4) = sdV (aq a (j / 4)) (j % 4) := by
        have gg : ∀ e, e < 6 → I 78 e = nI (pl (aq a) e) := fun e he => by
          have := g1 e he
          rw [Nat.zero_add] at this
          exact this
        rcases (show j = 0 ∨ j = 1 ∨ j = 2 ∨ j = 3 ∨ j = 4 ∨ j = 5 ∨ j = 6 ∨ j = 7 by omega) with rfl | rfl | rfl | rfl | rfl | rfl | rfl | rfl
        · exact gg 0 (by decide)
        · exact gg 2 (by decide)
        · exact gg 4 (by decide)
        · exact g2
        · exact gg 1 (by decide)
        · exact gg 3 (by decide)
        · exact gg 5 (by decide)
        · exact g3
      refine EV.at ck259 (by decide) 300 [137] ?_
      conv => whnf
      try dsimp only
      refine ⟨fun z => absurd z (nI_ge (b := 8) (show j < 8 by omega) (by decide)), fun _ => ?_⟩
      conv => whnf
      try dsimp only
      rw [hcF.1, hh]
      first | refine ⟨fun h1 => absurd h1 (by decide), fun _ => ?_⟩ | refine ⟨fun _ => ?_, fun h1 => absurd (by decide) h1⟩ | refine ⟨fun h1 => absurd (by decide) h1, fun _ => ?_⟩ | refine ⟨fun _ => ?_, fun h1 => absurd h1 (by decide)⟩
      conv => whnf
      try dsimp only
      refine ⟨by decide, ?_⟩
      conv => whnf
      try dsimp only
      refine ⟨by decide, ?_⟩
      conv => whnf
      try dsimp only
      rw [rem4 (by omega), div4 (by omega), nd_ge _ (show j / 4 < 2 by omega) _ (show j % 4 < 4 by omega)]
      refine ⟨in_nI (show 2 * (j % 4) + j / 4 < 1156 by omega) (by decide), ?_⟩
      conv => whnf
      try dsimp only
      rw [ci, y]
      refine ⟨trivial, r_mix ?_⟩
      refine EV.at ck259 (by decide) 300 [137] ?_
      conv => whnf
      try dsimp only
      exact ⟨trivial, ihj⟩
  have k99 : ∀ (z2 : Value), EV G 259 (D + 59) 0 0 99 [.ref 77, .int (nI 0), z2] [] (SH n, I, upL J 77 46 (dg3 a)) Q := by
    intro z2
    cases hh : aH a
    · have k0 := k137 (.int (nI 0)) z2
      unfold dg4 at k0
      rw [hh] at k0
      refine EV.at ck259 (by decide) 300 [137] ?_
      conv => whnf
      try dsimp only
      first | refine ⟨fun h1 => absurd h1 (by decide), fun _ => ?_⟩ | refine ⟨fun _ => ?_, fun h1 => absurd (by decide) h1⟩ | refine ⟨fun h1 => absurd (by decide) h1, fun _ => ?_⟩ | refine ⟨fun _ => ?_, fun h1 => absurd h1 (by decide)⟩
      conv => whnf
      try dsimp only
      rw [hcF.1, hh]
      first | refine ⟨fun h1 => absurd h1 (by decide), fun _ => ?_⟩ | refine ⟨fun _ => ?_, fun h1 => absurd (by decide) h1⟩ | refine ⟨fun h1 => absurd (by decide) h1, fun _ => ?_⟩ | refine ⟨fun _ => ?_, fun h1 => absurd h1 (by decide)⟩
      conv => whnf
      try dsimp only
      exact ⟨trivial, k0⟩
    · exact lF hh 8 0 z2 (by omega)
  -- changes
  have lC : ∀ m j (z2 : Value), j + m = tC (aT a) * 4 → EV G 259 (D + 59) 0 0 66 [.ref 77, .int (nI j), z2] [] (SH n, I, upL J 77 46 (mixL (fun i => cgI (aT a) (aq a) (i / 4) (i % 4)) (dg2 a) j)) Q := by
    intro m
    induction m with
    | zero =>
      intro j z2 hj
      have hj : j = tC (aT a) * 4 := hj
      have k0 := k99 z2
      have e : dg3 a = mixL (fun i => cgI (aT a) (aq a) (i / 4) (i % 4)) (dg2 a) j := by rw [hj]; rfl
      rw [e] at k0
      refine EV.at ck259 (by decide) 300 [99] ?_
      conv => whnf
      try dsimp only
      rw [hcT.2.2.1, show (4 : Int32) * nI (tC (aT a)) = nI (4 * tC (aT a)) from pk_mul 4 _]
      refine pk_le (4 * tC (aT a)) j (fun _ => ?_) (fun z => absurd z (by omega))
      conv => whnf
      try dsimp only
      exact ⟨trivial, k0⟩
    | succ m ih =>
      intro j z2 hj
      have ihj := ih (j + 1) z2 (by omega)
      have e : mixL (fun i => cgI (aT a) (aq a) (i / 4) (i % 4)) (dg2 a) (j + 1) = 31 * mixL (fun i => cgI (aT a) (aq a) (i / 4) (i % 4)) (dg2 a) j + (cgI (aT a) (aq a) (j / 4) (j % 4)).toInt64 := rfl
      rw [e, nI_succ j] at ihj
      have hv := (oF (aH_of hO (Or.inr (by omega)))).1
      refine EV.at ck259 (by decide) 300 [99] ?_
      conv => whnf
      try dsimp only
      rw [hcT.2.2.1, show (4 : Int32) * nI (tC (aT a)) = nI (4 * tC (aT a)) from pk_mul 4 _]
      refine pk_le (4 * tC (aT a)) j (fun z => absurd z (by omega)) (fun _ => ?_)
      conv => whnf
      try dsimp only
      refine ⟨by decide, ?_⟩
      conv => whnf
      try dsimp only
      refine ⟨by decide, ?_⟩
      conv => whnf
      try dsimp only
      rw [div4 (by omega), rem4 (by omega)]
      refine ⟨trivial, r_changeOf oT.1 hcT hcF.2 hv (show j / 4 < tC (aT a) by omega) (show j % 4 < 4 by omega) ?_⟩
      refine EV.at ck259 (by decide) 300 [99] ?_
      conv => whnf
      try dsimp only
      refine ⟨trivial, r_mix ?_⟩
      refine EV.at ck259 (by decide) 300 [99] ?_
      conv => whnf
      try dsimp only
      exact ⟨trivial, ihj⟩
  -- shapes
  have lS : ∀ m j (z2 : Value), j + m = tS (aT a) * 4 → EV G 259 (D + 59) 0 0 33 [.ref 77, .int (nI j), z2] [] (SH n, I, upL J 77 46 (mixL (fun i => shI (aT a) (i / 4) (i % 4)) (dg1 a) j)) Q := by
    intro m
    induction m with
    | zero =>
      intro j z2 hj
      have hj : j = tS (aT a) * 4 := hj
      have k0 := lC (tC (aT a) * 4) 0 z2 (by omega)
      have e : dg2 a = mixL (fun i => shI (aT a) (i / 4) (i % 4)) (dg1 a) j := by rw [hj]; rfl
      rw [e] at k0
      refine EV.at ck259 (by decide) 300 [66] ?_
      conv => whnf
      try dsimp only
      rw [hcT.1, show (4 : Int32) * nI (tS (aT a)) = nI (4 * tS (aT a)) from pk_mul 4 _]
      refine pk_le (4 * tS (aT a)) j (fun _ => ?_) (fun z => absurd z (by omega))
      conv => whnf
      try dsimp only
      exact ⟨trivial, k0⟩
    | succ m ih =>
      intro j z2 hj
      have ihj := ih (j + 1) z2 (by omega)
      have e : mixL (fun i => shI (aT a) (i / 4) (i % 4)) (dg1 a) (j + 1) = 31 * mixL (fun i => shI (aT a) (i / 4) (i % 4)) (dg1 a) j + (shI (aT a) (j / 4) (j % 4)).toInt64 := rfl
      rw [e, nI_succ j] at ihj
      refine EV.at ck259 (by decide) 300 [66] ?_
      conv => whnf
      try dsimp only
      rw [hcT.1, show (4 : Int32) * nI (tS (aT a)) = nI (4 * tS (aT a)) from pk_mul 4 _]
      refine pk_le (4 * tS (aT a)) j (fun z => absurd z (by omega)) (fun _ => ?_)
      conv => whnf
      try dsimp only
      refine ⟨by decide, ?_⟩
      conv => whnf
      try dsimp only
      refine ⟨by decide, ?_⟩
      conv => whnf
      try dsimp only
      rw [div4 (by omega), rem4 (by omega)]
      refine ⟨trivial, r_shapeOf oT.1 hcT (show j / 4 < tS (aT a) by omega) (show j % 4 < 4 by omega) ?_⟩
      refine EV.at ck259 (by decide) 300 [66] ?_
      conv => whnf
      try dsimp only
      refine ⟨trivial, r_mix ?_⟩
      refine EV.at ck259 (by decide) 300 [66] ?_
      conv => whnf
      try dsimp only
      exact ⟨trivial, ihj⟩
  -- counts
  have lN9 : ∀ m j (z2 : Value), j + m = 9 → EV G 259 (D + 59) 0 0 9 [.ref 77, .int (nI j), z2] [] (SH n, I, upL J 77 46 (mixL (ctI a) 17 j)) Q := by
    intro m
    induction m with
    | zero =>
      intro j z2 hj
      have hj : j = 9 := hj
      subst hj
      have k0 := lS (tS (aT a) * 4) 0 z2 (by omega)
      refine EV.at ck259 (by decide) 300 [33] ?_
      conv => whnf
      try dsimp only
      first | refine ⟨fun h1 => absurd h1 (by decide), fun _ => ?_⟩ | refine ⟨fun _ => ?_, fun h1 => absurd (by decide) h1⟩ | refine ⟨fun h1 => absurd (by decide) h1, fun _ => ?_⟩ | refine ⟨fun _ => ?_, fun h1 => absurd h1 (by decide)⟩
      conv => whnf
      try dsimp only
      exact ⟨trivial, k0⟩
    | succ m ih =>
      intro j z2 hj
      have ihj := ih (j + 1) z2 (by omega)
      have e : mixL (ctI a) 17 (j + 1) = 31 * mixL (ctI a) 17 j + (ctI a j).toInt64 := rfl
      rw [e, nI_succ j] at ihj
      refine EV.at ck259 (by decide) 300 [33] ?_
      conv => whnf
      try dsimp only
      refine ⟨fun z => absurd z (nI_ge (b := 9) (show j < 9 by omega) (by decide)), fun _ => ?_⟩
      conv => whnf
      try dsimp only
      refine ⟨trivial, r_countOf (show j < 9 by omega) hO (hCd _) ?_⟩
      refine EV.at ck259 (by decide) 300 [33] ?_
      conv => whnf
      try dsimp only
      refine ⟨trivial, r_mix ?_⟩
      refine EV.at ck259 (by decide) 300 [33] ?_
      conv => whnf
      try dsimp only
      exact ⟨trivial, ihj⟩
  refine MT.by ck259 (by decide) rfl (Nat.le_of_ble_eq_true rfl) rfl 300 [9] ?_
  conv => whnf
  try dsimp only
  exact ⟨trivial, lN9 9 0 dm (by omega)⟩
end
