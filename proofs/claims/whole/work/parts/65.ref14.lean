/-! the reference's calls: shown, must -/
section
variable {G : GG} {D n : Nat} {I : Nat → Nat → Int32} {J : Nat → Nat → Int64} {Q : Option Value → MH → Prop} {T : TN} {q : Nat → SD}
theorem m_shown {r t : Int32} : RS G n 232 [.int r, .int t] (fun a => sp_shown a r t) := by
  intro D I J Q a hO hC h
  try dsimp only at h
  obtain ⟨hcT, hcF, hcK, hcR, hcX, hcN, hcA, hcU⟩ := id hC
  obtain ⟨oT, oF, oN, oK, oR, oX⟩ := id hO
  have h5 : tS (aT a) ≤ 5 := oT.1.1
  have h12 : tC (aT a) ≤ 12 := oT.1.2.2.1
  unfold sp_shown at h
  refine MT.by ck232 (by decide) rfl (Nat.le_of_ble_eq_true rfl) rfl 300 [] ?_
  conv => whnf
  try dsimp only
  refine ⟨trivial, r_isRow (fun e1 => ?_) (fun j hj hr e1 => ?_)⟩
  · rw [e1] at h
    refine EV.at ck232 (by decide) 300 [] ?_
    conv => whnf
    try dsimp only
    first | refine ⟨fun h1 => absurd h1 (by decide), fun _ => ?_⟩ | refine ⟨fun _ => ?_, fun h1 => absurd (by decide) h1⟩ | refine ⟨fun h1 => absurd (by decide) h1, fun _ => ?_⟩ | refine ⟨fun _ => ?_, fun h1 => absurd h1 (by decide)⟩
    conv => whnf
    try dsimp only
    exact ⟨trivial, rfin rfl hC (FM.rf I) (FMJ.rf J) h⟩
  rw [e1] at h
  dsimp only at h
  subst hr
  have cj : (nI j).toNatClampNeg = j := nI_clamp (by omega)
  refine EV.at ck232 (by decide) 300 [] ?_
  conv => whnf
  try dsimp only
  first | refine ⟨fun h1 => absurd h1 (by decide), fun _ => ?_⟩ | refine ⟨fun _ => ?_, fun h1 => absurd (by decide) h1⟩ | refine ⟨fun h1 => absurd (by decide) h1, fun _ => ?_⟩ | refine ⟨fun _ => ?_, fun h1 => absurd h1 (by decide)⟩
  conv => whnf
  try dsimp only
  refine ⟨trivial, r_isRow (fun e2 => ?_) (fun k hk hr e2 => ?_)⟩
  · rw [e2] at h
    refine EV.at ck232 (by decide) 300 [] ?_
    conv => whnf
    try dsimp only
    first | refine ⟨fun h1 => absurd h1 (by decide), fun _ => ?_⟩ | refine ⟨fun _ => ?_, fun h1 => absurd (by decide) h1⟩ | refine ⟨fun h1 => absurd (by decide) h1, fun _ => ?_⟩ | refine ⟨fun _ => ?_, fun h1 => absurd h1 (by decide)⟩
    conv => whnf
    try dsimp only
    exact ⟨trivial, rfin rfl hC (FM.rf I) (FMJ.rf J) h⟩
  rw [e2] at h
  dsimp only at h
  subst hr
  refine EV.at ck232 (by decide) 300 [] ?_
  conv => whnf
  try dsimp only
  first | refine ⟨fun h1 => absurd h1 (by decide), fun _ => ?_⟩ | refine ⟨fun _ => ?_, fun h1 => absurd (by decide) h1⟩ | refine ⟨fun h1 => absurd (by decide) h1, fun _ => ?_⟩ | refine ⟨fun _ => ?_, fun h1 => absurd h1 (by decide)⟩
  conv => whnf
  try dsimp only
  rw [hcF.1]
  cases hh : aH a
  · rw [hh] at h
    first | refine ⟨fun h1 => absurd h1 (by decide), fun _ => ?_⟩ | refine ⟨fun _ => ?_, fun h1 => absurd (by decide) h1⟩ | refine ⟨fun h1 => absurd (by decide) h1, fun _ => ?_⟩ | refine ⟨fun _ => ?_, fun h1 => absurd h1 (by decide)⟩
    conv => whnf
    try dsimp only
    exact ⟨trivial, rfin rfl hC (FM.rf I) (FMJ.rf J) h⟩
  rw [hh, if_pos rfl] at h
  have hv : vQ (aT a) (aq a) := (oF hh).1
  first | refine ⟨fun h1 => absurd h1 (by decide), fun _ => ?_⟩ | refine ⟨fun _ => ?_, fun h1 => absurd (by decide) h1⟩ | refine ⟨fun h1 => absurd (by decide) h1, fun _ => ?_⟩ | refine ⟨fun _ => ?_, fun h1 => absurd h1 (by decide)⟩
  conv => whnf
  try dsimp only
  rw [hcT.1]
  refine ⟨trivial, r_bars (most := 8) hO hC hj (by decide) (by omega) ?_⟩
  by_cases ht : tld a j 8 (tS (aT a)) = 0
  case neg =>
    rw [if_neg ht] at h
    have hl := tld_lt (a := a) (j := j) (most := 8) (e := tS (aT a))
    refine EV.at ck232 (by decide) 300 [] ?_
    conv => whnf
    try dsimp only
    refine ⟨fun z => absurd z (nI_nle (by omega) (by omega)), fun _ => ?_⟩
    conv => whnf
    try dsimp only
    refine ⟨trivial, r_found hl ?_⟩
    refine EV.at ck232 (by decide) 300 [] ?_
    conv => whnf
    try dsimp only
    exact ⟨trivial, rfin rfl (hC.fnd hl) FM.fnd (FMJ.rf J) h⟩
  rw [if_pos ht] at h
  obtain ⟨t1, t2, t3⟩ := tld_ok (by omega) ht
  have o41 := oR j hj
  have r86 : I 86 j = nI (aRs a j - 1) := by rw [(hcR j hj).1]; exact sz_nI t1
  rw [ht]
  refine EV.at ck232 (by decide) 300 [] ?_
  conv => whnf
  try dsimp only
  first | refine ⟨fun h1 => absurd h1 (by decide), fun _ => ?_⟩ | refine ⟨fun _ => ?_, fun h1 => absurd (by decide) h1⟩ | refine ⟨fun h1 => absurd (by decide) h1, fun _ => ?_⟩ | refine ⟨fun _ => ?_, fun h1 => absurd h1 (by decide)⟩
  conv => whnf
  try dsimp only
  refine ⟨in_nI hj (by decide), ?_⟩
  conv => whnf
  try dsimp only
  rw [cj, r86]
  refine ⟨trivial, r_findShown (rw' := rwN a j) t2 hj oT.1 hcT hcF.2 (oF hh).2.1 hv r86 (fun i hi => ⟨by have := (t3 i hi).1; omega, by rw [(hcR j hj).2 i (by omega)]; exact (t3 i hi).2⟩) (fun I1 s1 y1 y2 => ?_)⟩
  have y1 : I1 77 39 = nI (aSh a j) := y1
  have hC1 := hC.scr s1 rfl rfl
  have hlt : aSh a j < 2 ^ 31 := shC_lt h12 t2
  by_cases h0 : 0 < aSh a j
  · rw [if_pos h0] at h
    obtain ⟨-, -, y3⟩ := y2 h0
    refine EV.at ck232 (by decide) 300 [78] ?_
    conv => whnf
    try dsimp only
    rw [y1]
    refine ⟨fun z => absurd z (nI_nle h0 hlt), fun _ => ?_⟩
    conv => whnf
    try dsimp only
    refine ⟨trivial, r_anew hk ?_⟩
    generalize hI2 : flI (upI I1 86 k (nI (aRs a j - 1))) 87 (40 * k) (40 * k + 40) 0 = I2
    have o1 : ∀ r, r ≠ 86 → r ≠ 87 → I2 r = I1 r := fun r h1 h2 => by
      rw [← hI2]
      unfold flI
      funext x
      rw [if_neg (fun z => h2 z.1), upI_oth h1]
    have o86 : ∀ x, x ≠ k → I2 86 x = I1 86 x := fun x hx => by
      rw [← hI2]
      unfold flI
      rw [if_neg (by omega), up_ne hx]
    have s86 : I2 86 k = nI (aRs a j - 1) := by
      rw [← hI2]
      unfold flI
      rw [if_neg (by omega), up_same]
    have o87 : ∀ x, x < 40 * k ∨ 40 * k + 40 ≤ x → I2 87 x = I1 87 x := fun x hx => by
      rw [← hI2]
      unfold flI
      rw [if_neg (by omega), upI_oth (by decide)]
    have loop : ∀ m e, e + m = aRs a j - 1 → EV G 232 (D + 59) 0 0 78 [.ref 77, .int (nI j), .int (nI k), .int 0, .int (nI (aRs a j - 1)), .int (nI e)] [] (SH n, cpI I2 104 87 0 (40 * k) e, J) Q := by
      intro m
      induction m with
      | zero =>
        intro e he
        have he : e = aRs a j - 1 := he
        refine EV.at ck232 (by decide) 300 [] ?_
        conv => whnf
        try dsimp only
        refine pk_le (aRs a j - 1) e (fun _ => ?_) (fun z => absurd z (by omega))
        conv => whnf
        try dsimp only
        rw [cp_oth (r := 77) (by decide), o1 77 (by decide) (by decide), y1]
        refine ⟨trivial, rfin rfl (hC1.row (m := aRs a j) hk (fun r _ h1 h2 => by rw [cp_oth h2]; exact o1 r h1 h2) (fun r hr => by rw [cp_oth (by decide)]; exact o86 r hr) (by rw [cp_oth (by decide), s86, sz_nI t1]) (fun x hx => ?_) (fun i hi => ?_) oR) (s1.fm.tr (fun r hr => by rw [cp_oth (by omega)]; exact o1 r (by omega) (by omega))) (FMJ.rf J) h⟩
        · unfold cpI
          rw [if_neg (by omega)]
          exact o87 x hx
        · unfold cpI
          rw [if_pos ⟨rfl, by omega, by omega⟩, o1 104 (by decide) (by decide), Nat.zero_add, Nat.add_sub_cancel_left]
          exact y3 i (by omega)
      | succ m ih =>
        intro e he
        have ihj := ih (e + 1) (by omega)
        have ce : (nI e).toNatClampNeg = e := nI_clamp (by omega)
        have ca : (nI (40 * k + e)).toNatClampNeg = 40 * k + e := nI_clamp (by omega)
        rw [← cp_s, nI_succ e, Nat.zero_add] at ihj
        refine EV.at ck232 (by decide) 300 [] ?_
        conv => whnf
        try dsimp only
        refine pk_le (aRs a j - 1) e (fun z => absurd z (by omega)) (fun _ => ?_)
        conv => whnf
        try dsimp only
        rw [cp_oth (r := 77) (by decide), o1 77 (by decide) (by decide), y1]
        refine ⟨fun z => absurd z (nI_nle h0 hlt), fun _ => ?_⟩
        conv => whnf
        try dsimp only
        refine ⟨in_nI (show e < 8 by omega) (by decide), ?_⟩
        conv => whnf
        try dsimp only
        rw [i40]
        refine ⟨in_nI (show 40 * k + e < 240 by omega) (by decide), ?_⟩
        conv => whnf
        try dsimp only
        rw [ce, ca, cp_oth (r := 104) (by decide)]
        exact ⟨trivial, ihj⟩
    have l0 := loop (aRs a j - 1) 0 (by omega)
    rw [cp_0] at l0
    refine EV.at ck232 (by decide) 300 [78] ?_
    conv => whnf
    try dsimp only
    exact ⟨trivial, l0⟩
  · rw [if_neg h0] at h
    have h00 : aSh a j = 0 := by omega
    rw [h00] at h y1
    have fin : ∀ v5, EV G 232 (D + 59) 0 0 117 [.ref 77, .int (nI j), .int (nI k), .int 0, .int (nI (aRs a j - 1)), v5] [] (SH n, I1, J) Q := by
      intro v5
      refine EV.at ck232 (by decide) 300 [] ?_
      conv => whnf
      try dsimp only
      rw [y1]
      exact ⟨trivial, rfin rfl hC1 s1.fm (FMJ.rf J) h⟩
    refine EV.at ck232 (by decide) 300 [117] ?_
    conv => whnf
    try dsimp only
    rw [y1]
    first | refine ⟨fun h1 => absurd h1 (by decide), fun _ => ?_⟩ | refine ⟨fun _ => ?_, fun h1 => absurd (by decide) h1⟩ | refine ⟨fun h1 => absurd (by decide) h1, fun _ => ?_⟩ | refine ⟨fun _ => ?_, fun h1 => absurd h1 (by decide)⟩
    conv => whnf
    try dsimp only
    refine pk_le (aRs a j - 1) 0 (fun z => ?_) (fun z => ?_)
    · conv => whnf
      try dsimp only
      exact ⟨trivial, fin _⟩
    · conv => whnf
      try dsimp only
      rw [y1]
      first | refine ⟨fun h1 => absurd h1 (by decide), fun _ => ?_⟩ | refine ⟨fun _ => ?_, fun h1 => absurd (by decide) h1⟩ | refine ⟨fun h1 => absurd (by decide) h1, fun _ => ?_⟩ | refine ⟨fun _ => ?_, fun h1 => absurd h1 (by decide)⟩
      conv => whnf
      try dsimp only
      exact ⟨trivial, fin _⟩
theorem m_must {w r : Int32} : RS G n 233 [.int w, .int r] (fun a => sp_must a w r) := by
  intro D I J Q a hO hC h
  try dsimp only at h
  obtain ⟨hcT, hcF, hcK, hcR, hcX, hcN, hcA, hcU⟩ := id hC
  obtain ⟨oT, oF, oN, oK, oR, oX⟩ := id hO
  have h5 : tS (aT a) ≤ 5 := oT.1.1
  have h12 : tC (aT a) ≤ 12 := oT.1.2.2.1
  unfold sp_must at h
  refine MT.by ck233 (by decide) rfl (Nat.le_of_ble_eq_true rfl) rfl 300 [] ?_
  conv => whnf
  try dsimp only
  refine ⟨trivial, r_isRow (fun e1 => ?_) (fun j hj hr e1 => ?_)⟩
  · refine EV.at ck233 (by decide) 300 [] ?_
    conv => whnf
    try dsimp only
    first | refine ⟨fun h1 => absurd h1 (by decide), fun _ => ?_⟩ | refine ⟨fun _ => ?_, fun h1 => absurd (by decide) h1⟩ | refine ⟨fun h1 => absurd (by decide) h1, fun _ => ?_⟩ | refine ⟨fun _ => ?_, fun h1 => absurd h1 (by decide)⟩
    conv => whnf
    try dsimp only
    refine ⟨trivial, rfin ?_ hC (FM.rf I) (FMJ.rf J) h⟩
    cases ix 2 w with
    | none => rfl
    | some w' => rw [e1]
  subst hr
  have cj : (nI j).toNatClampNeg = j := nI_clamp (by omega)
  refine EV.at ck233 (by decide) 300 [] ?_
  conv => whnf
  try dsimp only
  first | refine ⟨fun h1 => absurd h1 (by decide), fun _ => ?_⟩ | refine ⟨fun _ => ?_, fun h1 => absurd (by decide) h1⟩ | refine ⟨fun h1 => absurd (by decide) h1, fun _ => ?_⟩ | refine ⟨fun _ => ?_, fun h1 => absurd h1 (by decide)⟩
  conv => whnf
  try dsimp only
  refine ⟨trivial, r_ix (K := 2) (by decide) (by decide) (fun e2 => ?_) (fun v hv0 hr e2 => ?_)⟩
  · rw [e2] at h
    refine EV.at ck233 (by decide) 300 [] ?_
    conv => whnf
    try dsimp only
    first | refine ⟨fun h1 => absurd h1 (by decide), fun _ => ?_⟩ | refine ⟨fun _ => ?_, fun h1 => absurd (by decide) h1⟩ | refine ⟨fun h1 => absurd (by decide) h1, fun _ => ?_⟩ | refine ⟨fun _ => ?_, fun h1 => absurd h1 (by decide)⟩
    conv => whnf
    try dsimp only
    exact ⟨trivial, rfin rfl hC (FM.rf I) (FMJ.rf J) h⟩
  rw [e2, e1] at h
  dsimp only at h
  subst hr
  have cv : (nI v).toNatClampNeg = v := nI_clamp (by omega)
  refine EV.at ck233 (by decide) 300 [] ?_
  conv => whnf
  try dsimp only
  first | refine ⟨fun h1 => absurd h1 (by decide), fun _ => ?_⟩ | refine ⟨fun _ => ?_, fun h1 => absurd (by decide) h1⟩ | refine ⟨fun h1 => absurd (by decide) h1, fun _ => ?_⟩ | refine ⟨fun _ => ?_, fun h1 => absurd h1 (by decide)⟩
  conv => whnf
  try dsimp only
  rw [hcF.1]
  cases hh : aH a
  · rw [hh] at h
    first | refine ⟨fun h1 => absurd h1 (by decide), fun _ => ?_⟩ | refine ⟨fun _ => ?_, fun h1 => absurd (by decide) h1⟩ | refine ⟨fun h1 => absurd (by decide) h1, fun _ => ?_⟩ | refine ⟨fun _ => ?_, fun h1 => absurd h1 (by decide)⟩
    conv => whnf
    try dsimp only
    exact ⟨trivial, rfin rfl hC (FM.rf I) (FMJ.rf J) h⟩
  rw [hh, if_pos rfl] at h
  have hv : vQ (aT a) (aq a) := (oF hh).1
  first | refine ⟨fun h1 => absurd h1 (by decide), fun _ => ?_⟩ | refine ⟨fun _ => ?_, fun h1 => absurd (by decide) h1⟩ | refine ⟨fun h1 => absurd (by decide) h1, fun _ => ?_⟩ | refine ⟨fun _ => ?_, fun h1 => absurd h1 (by decide)⟩
  conv => whnf
  try dsimp only
  rw [hcT.1]
  refine ⟨trivial, r_bars (most := 8) hO hC hj (by decide) (by omega) ?_⟩
  by_cases ht : tld a j 8 (tS (aT a)) = 0
  case neg =>
    rw [if_neg ht] at h
    have hl := tld_lt (a := a) (j := j) (most := 8) (e := tS (aT a))
    refine EV.at ck233 (by decide) 300 [] ?_
    conv => whnf
    try dsimp only
    refine ⟨fun z => absurd z (nI_nle (by omega) (by omega)), fun _ => ?_⟩
    conv => whnf
    try dsimp only
    refine ⟨trivial, r_found hl ?_⟩
    refine EV.at ck233 (by decide) 300 [] ?_
    conv => whnf
    try dsimp only
    exact ⟨trivial, rfin rfl (hC.fnd hl) FM.fnd (FMJ.rf J) h⟩
  rw [if_pos ht] at h
  obtain ⟨t1, t2, t3⟩ := tld_ok (by omega) ht
  have o41 := oR j hj
  have r86 : I 86 j = nI (aRs a j - 1) := by rw [(hcR j hj).1]; exact sz_nI t1
  rw [ht]
  refine EV.at ck233 (by decide) 300 [] ?_
  conv => whnf
  try dsimp only
  first | refine ⟨fun h1 => absurd h1 (by decide), fun _ => ?_⟩ | refine ⟨fun _ => ?_, fun h1 => absurd (by decide) h1⟩ | refine ⟨fun h1 => absurd (by decide) h1, fun _ => ?_⟩ | refine ⟨fun _ => ?_, fun h1 => absurd h1 (by decide)⟩
  conv => whnf
  try dsimp only
  refine ⟨trivial, r_findShown (rw' := rwN a j) t2 hj oT.1 hcT hcF.2 (oF hh).2.1 hv r86 (fun i hi => ⟨by have := (t3 i hi).1; omega, by rw [(hcR j hj).2 i (by omega)]; exact (t3 i hi).2⟩) (fun I1 s1 y1 y2 => ?_)⟩
  have y1 : I1 77 39 = nI (aSh a j) := y1
  have hC1 := hC.scr s1 rfl rfl
  have hlt : aSh a j < 2 ^ 31 := shC_lt h12 t2
  by_cases h0 : 0 < aSh a j
  · obtain ⟨y3, y4, -⟩ := y2 h0
    have y5 : I1 105 v = nI (mustN (aT a) (rwN a j) (aRs a j - 1) (az a) (aq a) v) := by
      rcases (show v = 0 ∨ v = 1 by omega) with rfl | rfl
      · exact y3
      · exact y4
    refine EV.at ck233 (by decide) 300 [] ?_
    conv => whnf
    try dsimp only
    rw [y1]
    refine ⟨fun _ => ?_, fun z => absurd z (nI_ne0 h0 hlt)⟩
    conv => whnf
    try dsimp only
    refine ⟨in_nI hv0 (by decide), ?_⟩
    conv => whnf
    try dsimp only
    rw [cv, y5]
    exact ⟨trivial, rfin rfl hC1 s1.fm (FMJ.rf J) h⟩
  · have h00 : aSh a j = 0 := by omega
    rw [h00] at y1
    have em : mustN (aT a) (rwN a j) (aRs a j - 1) (az a) (aq a) v = 0 := by unfold mustN; exact if_pos h00
    rw [em] at h
    refine EV.at ck233 (by decide) 300 [] ?_
    conv => whnf
    try dsimp only
    rw [y1]
    first | refine ⟨fun h1 => absurd h1 (by decide), fun _ => ?_⟩ | refine ⟨fun _ => ?_, fun h1 => absurd (by decide) h1⟩ | refine ⟨fun h1 => absurd (by decide) h1, fun _ => ?_⟩ | refine ⟨fun _ => ?_, fun h1 => absurd h1 (by decide)⟩
    conv => whnf
    try dsimp only
    exact ⟨trivial, rfin rfl hC1 s1.fm (FMJ.rf J) h⟩
end
