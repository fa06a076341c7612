/-! the class's digest -/
theorem div4 {i : Nat} (hi : i < 65536) : nI i / 4 = nI (i / 4) := pk_div (d := 4) (by omega) (by decide) (by decide)
theorem rem4 {i : Nat} (hi : i < 65536) : jrem (nI i) 4 = nI (i % 4) := pk_rem (d := 4) (by omega) (by decide) (by decide)
theorem mixL_congr {f g : Nat → Int32} {h : Int64} : ∀ m, (∀ i, i < m → f i = g i) → mixL f h m = mixL g h m
  | 0, _ => rfl
  | m + 1, hh => by rw [mixL, mixL, mixL_congr m (fun i hi => hh i (by omega)), hh m (by omega)]
section
variable {G : GG} {d n : Nat} {I : Nat → Nat → Int32} {J : Nat → Nat → Int64} {Q : Option Value → MH → Prop}
theorem c_digestNight {a : AB} {e : Nat} (hO : aOK a) (hC : CA a e I J) (h : Q (some (.long (dg5 a))) (SH n, I, J)) : MT G (d + 5) 141 [.ref 3, .long (dg1 a)] (SH n, I, J) Q := by
  obtain ⟨hcT, hcF, hcK, hcR, hcX, hcN, hcA, hcU, hcM⟩ := id hC
  obtain ⟨oT, oF, oN, oK, oR, oX⟩ := id hO
  have h5 : tS (aT a) ≤ 5 := oT.1.1
  have h12 : tC (aT a) ≤ 12 := oT.1.2.2.1
  have hz : az a ≤ 40 := by
    cases hh : aH a with
    | true => exact (oF hh).2.1
    | false => have h0 : az a = 0 := (oN hh).2.2.1; omega
  have l4 : ∀ m j, j + m = az a → EV G 141 (d + 4) 0 0 147 [.ref 3, .long (dg1 a), dm, .long (mixL (fun i => nI ((aF a).2.2.1 i)) (dg4 a) j), dm, .int (nI j)] [] (SH n, I, J) Q := by
    intro m
    induction m with
    | zero =>
      intro j hj
      have hj : j = az a := hj
      have hq : Q (some (.long (mixL (fun i => nI ((aF a).2.2.1 i)) (dg4 a) j))) (SH n, I, J) := by rw [hj]; exact h
      refine EV.at ck141 (by decide) 300 [] ?_
      conv => whnf
      try dsimp only
      rw [hcF.2.1]
      refine pk_le (az a) j (fun _ => ?_) (fun z => absurd z (by omega))
      conv => whnf
      try dsimp only
      exact ⟨trivial, hq⟩
    | succ m ih =>
      intro j hj
      have ihj := ih (j + 1) (by omega)
      have cj : (nI j).toNatClampNeg = j := nI_clamp (by omega)
      have e : mixL (fun i => nI ((aF a).2.2.1 i)) (dg4 a) (j + 1) = 31 * mixL (fun i => nI ((aF a).2.2.1 i)) (dg4 a) j + (nI ((aF a).2.2.1 j)).toInt64 := rfl
      rw [e, nI_succ j] at ihj
      refine EV.at ck141 (by decide) 300 [] ?_
      conv => whnf
      try dsimp only
      rw [hcF.2.1]
      refine pk_le (az a) j (fun z => absurd z (by omega)) (fun _ => ?_)
      conv => whnf
      try dsimp only
      refine ⟨in_nI (show j < 40 by omega) (by decide), ?_⟩
      conv => whnf
      try dsimp only
      rw [cj, (hcF.2.2.2.2 j (show j < az a by omega)).1]
      exact ⟨trivial, ihj⟩
  have k144 : ∀ v5, EV G 141 (d + 4) 0 0 144 [.ref 3, .long (dg1 a), dm, .long (dg4 a), dm, v5] [] (SH n, I, J) Q := by
    intro v5
    have l0 := l4 (az a) 0 (by omega)
    refine EV.at ck141 (by decide) 300 [147] ?_
    conv => whnf
    try dsimp only
    exact ⟨trivial, l0⟩
  have l3 : aH a = true → ∀ m j, j + m = 8 → EV G 141 (d + 4) 0 0 104 [.ref 3, .long (dg1 a), dm, .long (mixL (fun i => sdV (aq a (i / 4)) (i % 4)) (dg3 a) j), dm, .int (nI j)] [] (SH n, I, J) Q := by
    intro hh m
    induction m with
    | zero =>
      intro j hj
      have hj : j = 8 := hj
      subst hj
      have k0 := k144 (.int (nI 8))
      unfold dg4 at k0
      rw [if_pos hh] at k0
      refine EV.at ck141 (by decide) 300 [144] ?_
      conv => whnf
      try dsimp only
      first | refine ⟨fun h1 => absurd h1 (by decide), fun _ => ?_⟩ | refine ⟨fun _ => ?_, fun h1 => absurd (by decide) h1⟩ | refine ⟨fun h1 => absurd (by decide) h1, fun _ => ?_⟩ | refine ⟨fun _ => ?_, fun h1 => absurd h1 (by decide)⟩
      conv => whnf
      try dsimp only
      exact ⟨trivial, k0⟩
    | succ m ih =>
      intro j hj
      have ihj := ih (j + 1) (by omega)
      have e : mixL (fun i => sdV (aq a (i / 4)) (i % 4)) (dg3 a) (j + 1) = 31 * mixL (fun i => sdV (aq a (i / 4)) (i % 4)) (dg3 a) j + (sdV (aq a (j / 4)) (j % 4)).toInt64 := rfl
      rw [e, nI_succ j] at ihj
      have hj4 : j / 4 < 2 := by omega
      have cj : (nI (j / 4)).toNatClampNeg = j / 4 := nI_clamp (by omega)
      refine EV.at ck141 (by decide) 300 [144] ?_
      conv => whnf
      try dsimp only
      refine ⟨fun z => absurd z (nI_ge (b := 8) (show j < 8 by omega) (by decide)), fun _ => ?_⟩
      conv => whnf
      try dsimp only
      refine ⟨by decide, ?_⟩
      conv => whnf
      try dsimp only
      rw [div4 (by omega)]
      refine ⟨in_nI hj4 (by decide), oS_at cj (sid_g _ hj4) ?_⟩
      conv => whnf
      try dsimp only
      refine ⟨by decide, ?_⟩
      conv => whnf
      try dsimp only
      rw [rem4 (by omega)]
      rw [(sid_c n hj4)]
      conv => whnf
      try dsimp only
      refine ⟨trivial, c_aboutS (sid_c n hj4) ?_⟩
      rw [sdV_eq (sid_m (gf hcF.2) hj4) (show j % 4 < 4 by omega)]
      refine EV.at ck141 (by decide) 300 [144] ?_
      conv => whnf
      try dsimp only
      exact ⟨trivial, ihj⟩
  have k91 : ∀ v5, EV G 141 (d + 4) 0 0 91 [.ref 3, .long (dg1 a), dm, .long (dg3 a), dm, v5] [] (SH n, I, J) Q := by
    intro v5
    cases hh : aH a
    · have k0 := k144 v5
      unfold dg4 at k0
      rw [hh] at k0
      refine EV.at ck141 (by decide) 300 [104, 144] ?_
      conv => whnf
      try dsimp only
      rw [hcF.1, hh]
      first | refine ⟨fun h1 => absurd h1 (by decide), fun _ => ?_⟩ | refine ⟨fun _ => ?_, fun h1 => absurd (by decide) h1⟩ | refine ⟨fun h1 => absurd (by decide) h1, fun _ => ?_⟩ | refine ⟨fun _ => ?_, fun h1 => absurd h1 (by decide)⟩
      conv => whnf
      try dsimp only
      exact ⟨trivial, k0⟩
    · have l0 := l3 hh 8 0 (by omega)
      refine EV.at ck141 (by decide) 300 [104, 144] ?_
      conv => whnf
      try dsimp only
      rw [hcF.1, hh]
      first | refine ⟨fun h1 => absurd h1 (by decide), fun _ => ?_⟩ | refine ⟨fun _ => ?_, fun h1 => absurd (by decide) h1⟩ | refine ⟨fun h1 => absurd (by decide) h1, fun _ => ?_⟩ | refine ⟨fun _ => ?_, fun h1 => absurd h1 (by decide)⟩
      conv => whnf
      try dsimp only
      exact ⟨trivial, l0⟩
  have l2 : ∀ m j, j + m = tC (aT a) * 4 → EV G 141 (d + 4) 0 0 51 [.ref 3, .long (dg1 a), dm, .long (mixL (fun i => cgI (aT a) (aq a) (i / 4) (i % 4)) (dg2 a) j), dm, .int (nI j)] [] (SH n, I, J) Q := by
    intro m
    induction m with
    | zero =>
      intro j hj
      have hj : j = tC (aT a) * 4 := hj
      have k0 := k91 (.int (nI j))
      have e : dg3 a = mixL (fun i => cgI (aT a) (aq a) (i / 4) (i % 4)) (dg2 a) j := by rw [hj]; rfl
      rw [e] at k0
      refine EV.at ck141 (by decide) 300 [91] ?_
      conv => whnf
      try dsimp only
      rw [hcT.1.2.2.1, show nI (tC (aT a)) * 4 = nI (tC (aT a) * 4) from pk_mul _ 4]
      refine pk_le (tC (aT a) * 4) j (fun _ => ?_) (fun z => absurd z (by omega))
      conv => whnf
      try dsimp only
      exact ⟨trivial, k0⟩
    | succ m ih =>
      intro j hj
      have ihj := ih (j + 1) (by omega)
      have e : mixL (fun i => cgI (aT a) (aq a) (i / 4) (i % 4)) (dg2 a) (j + 1) = 31 * mixL (fun i => cgI (aT a) (aq a) (i / 4) (i % 4)) (dg2 a) j + (cgI (aT a) (aq a) (j / 4) (j % 4)).toInt64 := rfl
      rw [e, nI_succ j] at ihj
      have hv := (oF (aH_of hO (Or.inr (by omega)))).1
      refine EV.at ck141 (by decide) 300 [91] ?_
      conv => whnf
      try dsimp only
      rw [hcT.1.2.2.1, show nI (tC (aT a)) * 4 = nI (tC (aT a) * 4) from pk_mul _ 4]
      refine pk_le (tC (aT a) * 4) j (fun z => absurd z (by omega)) (fun _ => ?_)
      conv => whnf
      try dsimp only
      refine ⟨by decide, ?_⟩
      conv => whnf
      try dsimp only
      refine ⟨by decide, ?_⟩
      conv => whnf
      try dsimp only
      rw [div4 (by omega), rem4 (by omega)]
      refine ⟨trivial, c_aboutChange oT.1 hcT.1 (gf hcF.2) hv (show j / 4 < tC (aT a) by omega) (show j % 4 < 4 by omega) ?_⟩
      refine EV.at ck141 (by decide) 300 [91] ?_
      conv => whnf
      try dsimp only
      exact ⟨trivial, ihj⟩
  have k48 : ∀ v5, EV G 141 (d + 4) 0 0 48 [.ref 3, .long (dg1 a), dm, .long (dg2 a), dm, v5] [] (SH n, I, J) Q := by
    intro v5
    have l0 := l2 (tC (aT a) * 4) 0 (by omega)
    refine EV.at ck141 (by decide) 300 [51] ?_
    conv => whnf
    try dsimp only
    exact ⟨trivial, l0⟩
  have l1 : ∀ m j, j + m = tS (aT a) * 4 → EV G 141 (d + 4) 0 0 5 [.ref 3, .long (dg1 a), dm, .long (mixL (fun i => shI (aT a) (i / 4) (i % 4)) (dg1 a) j), dm, .int (nI j)] [] (SH n, I, J) Q := by
    intro m
    induction m with
    | zero =>
      intro j hj
      have hj : j = tS (aT a) * 4 := hj
      have k0 := k48 (.int (nI j))
      have e : dg2 a = mixL (fun i => shI (aT a) (i / 4) (i % 4)) (dg1 a) j := by rw [hj]; rfl
      rw [e] at k0
      refine EV.at ck141 (by decide) 300 [48] ?_
      conv => whnf
      try dsimp only
      rw [hcT.1.1, show nI (tS (aT a)) * 4 = nI (tS (aT a) * 4) from pk_mul _ 4]
      refine pk_le (tS (aT a) * 4) j (fun _ => ?_) (fun z => absurd z (by omega))
      conv => whnf
      try dsimp only
      exact ⟨trivial, k0⟩
    | succ m ih =>
      intro j hj
      have ihj := ih (j + 1) (by omega)
      have e : mixL (fun i => shI (aT a) (i / 4) (i % 4)) (dg1 a) (j + 1) = 31 * mixL (fun i => shI (aT a) (i / 4) (i % 4)) (dg1 a) j + (shI (aT a) (j / 4) (j % 4)).toInt64 := rfl
      rw [e, nI_succ j] at ihj
      refine EV.at ck141 (by decide) 300 [48] ?_
      conv => whnf
      try dsimp only
      rw [hcT.1.1, show nI (tS (aT a)) * 4 = nI (tS (aT a) * 4) from pk_mul _ 4]
      refine pk_le (tS (aT a) * 4) j (fun z => absurd z (by omega)) (fun _ => ?_)
      conv => whnf
      try dsimp only
      refine ⟨by decide, ?_⟩
      conv => whnf
      try dsimp only
      refine ⟨by decide, ?_⟩
      conv => whnf
      try dsimp only
      rw [div4 (by omega), rem4 (by omega)]
      refine ⟨trivial, c_aboutShape oT.1 hcT.1 (show j / 4 < tS (aT a) by omega) ?_⟩
      rw [about_eq oT.1 hcT.1 (show j / 4 < tS (aT a) by omega) (show j % 4 < 4 by omega)]
      refine EV.at ck141 (by decide) 300 [48] ?_
      conv => whnf
      try dsimp only
      exact ⟨trivial, ihj⟩
  refine MT.by ck141 (by decide) rfl (Nat.le_of_ble_eq_true rfl) rfl 300 [5] ?_
  conv => whnf
  try dsimp only
  exact ⟨trivial, l1 (tS (aT a) * 4) 0 (by omega)⟩
theorem k_digest : CSL G n 140 dgt := by
  intro D I J Q a e hO hC he h
  try dsimp only at h
  obtain ⟨hcT, hcF, hcK, hcR, hcX, hcN, hcA, hcU, hcM⟩ := id hC
  obtain ⟨oT, oF, oN, oK, oR, oX⟩ := id hO
  have hq := h I J e (by omega) hC (FC.rf I) (FJ.rf J)
  have lD : ∀ m j, j + m = 4 → EV G 140 (D + 59) 0 0 110 [.ref 3, .long (mixR (aTs a) (aTc a) (mixR (aRs a) (aRc a) (dg6 a) 6) j), dm, .int (nI j)] [] (SH n, I, J) Q := by
    intro m
    induction m with
    | zero =>
      intro j hj
      have hj : j = 4 := hj
      subst hj
      refine EV.at ck140 (by decide) 300 [] ?_
      conv => whnf
      try dsimp only
      first | refine ⟨fun h1 => absurd h1 (by decide), fun _ => ?_⟩ | refine ⟨fun _ => ?_, fun h1 => absurd (by decide) h1⟩ | refine ⟨fun h1 => absurd (by decide) h1, fun _ => ?_⟩ | refine ⟨fun _ => ?_, fun h1 => absurd h1 (by decide)⟩
      conv => whnf
      try dsimp only
      exact ⟨trivial, hq⟩
    | succ m ih =>
      intro j hj
      have ihj := ih (j + 1) (by omega)
      have hj4 : j < 4 := by omega
      have o81 := oX j hj4
      have cj : (nI j).toNatClampNeg = j := nI_clamp (by omega)
      generalize mixR (aRs a) (aRc a) (dg6 a) 6 = b at *
      have e : mixR (aTs a) (aTc a) b (j + 1) = mixL (aTc a j) (31 * mixR (aTs a) (aTc a) b j + (szI (aTs a j)).toInt64) (aTs a j - 1) := rfl
      rw [e, nI_succ j] at ihj
      refine EV.at ck140 (by decide) 300 [] ?_
      conv => whnf
      try dsimp only
      refine ⟨fun z => absurd z (nI_ge (b := 4) hj4 (by decide)), fun _ => ?_⟩
      conv => whnf
      try dsimp only
      refine ⟨in_nI hj4 (by decide), oS_at cj (txt_g _ hj4) ?_⟩
      conv => whnf
      try dsimp only
      rw [(txt_c n hj4).1]
      conv => whnf
      try dsimp only
      by_cases hz : aTs a j = 0
      · rw [hz] at ihj
        refine ⟨trivial, c_mixInto0 (txt_c n hj4).1 (by rw [(hcX j hj4).1, hz]; rfl) ?_⟩
        refine EV.at ck140 (by decide) 300 [] ?_
        conv => whnf
        try dsimp only
        exact ⟨trivial, ihj⟩
      · have sj : I (51 + 2 * j) 1 = nI (aTs a j - 1) := by rw [(hcX j hj4).1]; exact sz_nI hz
        rw [sz_nI hz] at ihj
        refine ⟨trivial, c_mixInto (txt_c n hj4).1 (txt_c n hj4).2 (show aTs a j - 1 ≤ 80 by omega) (by decide) sj ?_⟩
        rw [mixL_congr (g := aTc a j) _ (fun i hi => (hcX j hj4).2 i (by omega))]
        refine EV.at ck140 (by decide) 300 [] ?_
        conv => whnf
        try dsimp only
        exact ⟨trivial, ihj⟩
  have lC : ∀ m j, j + m = 6 → EV G 140 (D + 59) 0 0 85 [.ref 3, .long (mixR (aRs a) (aRc a) (dg6 a) j), dm, .int (nI j)] [] (SH n, I, J) Q := by
    intro m
    induction m with
    | zero =>
      intro j hj
      have hj : j = 6 := hj
      subst hj
      have l0 := lD 4 0 (by omega)
      refine EV.at ck140 (by decide) 300 [110] ?_
      conv => whnf
      try dsimp only
      first | refine ⟨fun h1 => absurd h1 (by decide), fun _ => ?_⟩ | refine ⟨fun _ => ?_, fun h1 => absurd (by decide) h1⟩ | refine ⟨fun h1 => absurd (by decide) h1, fun _ => ?_⟩ | refine ⟨fun _ => ?_, fun h1 => absurd h1 (by decide)⟩
      conv => whnf
      try dsimp only
      exact ⟨trivial, l0⟩
    | succ m ih =>
      intro j hj
      have ihj := ih (j + 1) (by omega)
      have hj4 : j < 6 := by omega
      have o41 := oR j hj4
      have cj : (nI j).toNatClampNeg = j := nI_clamp (by omega)
      have e : mixR (aRs a) (aRc a) (dg6 a) (j + 1) = mixL (aRc a j) (31 * mixR (aRs a) (aRc a) (dg6 a) j + (szI (aRs a j)).toInt64) (aRs a j - 1) := rfl
      rw [e, nI_succ j] at ihj
      refine EV.at ck140 (by decide) 300 [] ?_
      conv => whnf
      try dsimp only
      refine ⟨fun z => absurd z (nI_ge (b := 6) hj4 (by decide)), fun _ => ?_⟩
      conv => whnf
      try dsimp only
      refine ⟨in_nI hj4 (by decide), oS_at cj (row_g _ hj4) ?_⟩
      conv => whnf
      try dsimp only
      rw [(row_c n hj4).1]
      conv => whnf
      try dsimp only
      by_cases hz : aRs a j = 0
      · rw [hz] at ihj
        refine ⟨trivial, c_mixInto0 (row_c n hj4).1 (by rw [(hcR j hj4).1, hz]; rfl) ?_⟩
        refine EV.at ck140 (by decide) 300 [] ?_
        conv => whnf
        try dsimp only
        exact ⟨trivial, ihj⟩
      · have sj : I (39 + 2 * j) 1 = nI (aRs a j - 1) := by rw [(hcR j hj4).1]; exact sz_nI hz
        rw [sz_nI hz] at ihj
        refine ⟨trivial, c_mixInto (row_c n hj4).1 (row_c n hj4).2 (show aRs a j - 1 ≤ 40 by omega) (by decide) sj ?_⟩
        rw [mixL_congr (g := aRc a j) _ (fun i hi => (hcR j hj4).2 i (by omega))]
        refine EV.at ck140 (by decide) 300 [] ?_
        conv => whnf
        try dsimp only
        exact ⟨trivial, ihj⟩
  have lB : ∀ m j, j + m = 3 → EV G 140 (D + 59) 0 0 39 [.ref 3, .long (mixL (fun k => if (aK a k).1 then nI (aK a k).2.2.1 else -1) (dg5 a) j), dm, .int (nI j)] [] (SH n, I, J) Q := by
    intro m
    induction m with
    | zero =>
      intro j hj
      have hj : j = 3 := hj
      subst hj
      have l0 := lC 6 0 (by omega)
      refine EV.at ck140 (by decide) 300 [85] ?_
      conv => whnf
      try dsimp only
      first | refine ⟨fun h1 => absurd h1 (by decide), fun _ => ?_⟩ | refine ⟨fun _ => ?_, fun h1 => absurd (by decide) h1⟩ | refine ⟨fun h1 => absurd (by decide) h1, fun _ => ?_⟩ | refine ⟨fun _ => ?_, fun h1 => absurd h1 (by decide)⟩
      conv => whnf
      try dsimp only
      exact ⟨trivial, l0⟩
    | succ m ih =>
      intro j hj
      have ihj := ih (j + 1) (by omega)
      have hj4 : j < 3 := by omega
      have cj : (nI j).toNatClampNeg = j := nI_clamp (by omega)
      have e : mixL (fun k => if (aK a k).1 then nI (aK a k).2.2.1 else -1) (dg5 a) (j + 1) = 31 * mixL (fun k => if (aK a k).1 then nI (aK a k).2.2.1 else -1) (dg5 a) j + (if (aK a j).1 then nI (aK a j).2.2.1 else -1 : Int32).toInt64 := rfl
      rw [e, nI_succ j] at ihj
      refine EV.at ck140 (by decide) 300 [] ?_
      conv => whnf
      try dsimp only
      refine ⟨fun z => absurd z (nI_ge (b := 3) hj4 (by decide)), fun _ => ?_⟩
      conv => whnf
      try dsimp only
      refine ⟨in_nI hj4 (by decide), oS_at cj (kpt_g _ hj4) ?_⟩
      conv => whnf
      try dsimp only
      rw [(kpt_c n hj4).1]
      conv => whnf
      try dsimp only
      rw [(hcK j hj4).1]
      cases hb : (aK a j).1
      · rw [hb] at ihj
        first | refine ⟨fun h1 => absurd h1 (by decide), fun _ => ?_⟩ | refine ⟨fun _ => ?_, fun h1 => absurd (by decide) h1⟩ | refine ⟨fun h1 => absurd (by decide) h1, fun _ => ?_⟩ | refine ⟨fun _ => ?_, fun h1 => absurd h1 (by decide)⟩
        conv => whnf
        try dsimp only
        exact ⟨trivial, ihj⟩
      · rw [hb, if_pos rfl] at ihj
        first | refine ⟨fun h1 => absurd h1 (by decide), fun _ => ?_⟩ | refine ⟨fun _ => ?_, fun h1 => absurd (by decide) h1⟩ | refine ⟨fun h1 => absurd (by decide) h1, fun _ => ?_⟩ | refine ⟨fun _ => ?_, fun h1 => absurd h1 (by decide)⟩
        conv => whnf
        try dsimp only
        refine ⟨in_nI hj4 (by decide), oS_at cj (kpt_g _ hj4) ?_⟩
        conv => whnf
        try dsimp only
        rw [(kpt_c n hj4).1]
        conv => whnf
        try dsimp only
        rw [((hcK j hj4).2 hb).1]
        exact ⟨trivial, ihj⟩
  have lA : ∀ m j, j + m = 9 → EV G 140 (D + 59) 0 0 6 [.ref 3, .long (mixL (ctI a) 17 j), dm, .int (nI j)] [] (SH n, I, J) Q := by
    intro m
    induction m with
    | zero =>
      intro j hj
      have hj : j = 9 := hj
      subst hj
      have l0 := lB 3 0 (by omega)
      refine EV.at ck140 (by decide) 300 [39] ?_
      conv => whnf
      try dsimp only
      first | refine ⟨fun h1 => absurd h1 (by decide), fun _ => ?_⟩ | refine ⟨fun _ => ?_, fun h1 => absurd (by decide) h1⟩ | refine ⟨fun h1 => absurd (by decide) h1, fun _ => ?_⟩ | refine ⟨fun _ => ?_, fun h1 => absurd h1 (by decide)⟩
      conv => whnf
      try dsimp only
      refine ⟨trivial, c_digestNight (d := D + 54) hO hC ?_⟩
      refine EV.at ck140 (by decide) 300 [39] ?_
      conv => whnf
      try dsimp only
      exact ⟨trivial, l0⟩
    | succ m ih =>
      intro j hj
      have ihj := ih (j + 1) (by omega)
      have e : mixL (ctI a) 17 (j + 1) = 31 * mixL (ctI a) 17 j + (ctI a j).toInt64 := rfl
      rw [e, nI_succ j] at ihj
      refine EV.at ck140 (by decide) 300 [] ?_
      conv => whnf
      try dsimp only
      refine ⟨fun z => absurd z (nI_nlt (a := 8) (b := j) (by omega) (by decide)), fun _ => ?_⟩
      conv => whnf
      try dsimp only
      refine ⟨trivial, c_count hO hC (show j < 9 by omega) ?_⟩
      refine EV.at ck140 (by decide) 300 [] ?_
      conv => whnf
      try dsimp only
      exact ⟨trivial, ihj⟩
  refine MT.by ck140 (by decide) rfl (Nat.le_of_ble_eq_true rfl) rfl 300 [6] ?_
  conv => whnf
  try dsimp only
  exact ⟨trivial, lA 9 0 (by omega)⟩
end
