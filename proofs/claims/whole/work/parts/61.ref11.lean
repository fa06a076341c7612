/-! the reference's calls: line, rows counted, judged -/
theorem rF_skip {g : Nat → Nat × Nat} {can : Nat → Bool} {j : Nat} : ∀ m, (∀ x, j ≤ x → x < j + m → can x = false) → rFold g can (j + m) = rFold g can j
  | 0, _ => rfl
  | m + 1, h => by
    rw [← Nat.add_assoc, rFold, h (j + m) (by omega) (by omega)]
    exact rF_skip m (fun x a b => h x a (by omega))
theorem rF_le {g : Nat → Nat × Nat} {can : Nat → Bool} {b : Nat} (h : ∀ k, (g k).1 ≤ b ∧ (g k).2 ≤ b) : ∀ c, (rFold g can c).1 ≤ c * b ∧ (rFold g can c).2 ≤ c * b
  | 0 => ⟨Nat.zero_le _, Nat.zero_le _⟩
  | c + 1 => by
    obtain ⟨h1, h2⟩ := rF_le (can := can) h c
    obtain ⟨h3, h4⟩ := h c
    rw [rFold, Nat.succ_mul]
    split
    · exact ⟨by show _ + _ ≤ _; omega, by show _ + _ ≤ _; omega⟩
    · exact ⟨by omega, by omega⟩
theorem rowN_le {T : TN} (h12 : tC T ≤ 12) : ∀ f q w, (rowN T f q w).1 ≤ 12 ^ f ∧ (rowN T f q w).2 ≤ 12 ^ f
  | 0, q, w => ⟨Nat.le_refl _, by show (if _ then 1 else 0) ≤ 1; split <;> omega⟩
  | f + 1, q, w => by
    have h := rF_le (g := fun k => rowN T f (stepQ T q w k) (1 - w)) (can := fun k => canN T (q w) (q (1 - w)).1 k) (b := 12 ^ f) (fun k => rowN_le h12 f _ _) (tC T)
    have h2 : tC T * 12 ^ f ≤ 12 * 12 ^ f := Nat.mul_le_mul_right _ h12
    have h3 : 12 ^ (f + 1) = 12 ^ f * 12 := Nat.pow_succ ..
    exact ⟨by show (rFold _ _ _).1 ≤ _; omega, by show (rFold _ _ _).2 ≤ _; omega⟩
/-- rows of one memory, the rest of another -/
def mxR (I I' : Nat → Nat → Int32) : Nat → Nat → Int32 := fun r => if r = 86 ∨ r = 87 then I r else I' r
theorem mxR_i {I I' : Nat → Nat → Int32} {r : Nat} (h : r = 86 ∨ r = 87) : mxR I I' r = I r := if_pos h
theorem mxR_o {I I' : Nat → Nat → Int32} {r : Nat} (h : ¬ (r = 86 ∨ r = 87)) : mxR I I' r = I' r := if_neg h
theorem MA.mix {a : AB} {I I' : Nat → Nat → Int32} {J : Nat → Nat → Int64} (h : MA a I J) (p0 : ∀ r, r < 90 → r ≠ 77 → r ≠ 86 → r ≠ 87 → I' r = I r) (p1 : ∀ k, k = 2 ∨ k = 3 ∨ k = 6 ∨ k = 10 ∨ k = 12 → I' 77 k = I 77 k) : MA a (mxR I I') J := by
  refine h.scr ⟨fun r h1 h2 => ?_, ?_, ?_, ?_, ?_, ?_⟩ rfl rfl
  · by_cases hr : r = 86 ∨ r = 87
    · exact mxR_i hr
    · rw [mxR_o hr]; exact p0 r h1 h2 (by omega) (by omega)
  · rw [mxR_o (by omega)]; exact p1 2 (by omega)
  · rw [mxR_o (by omega)]; exact p1 3 (by omega)
  · rw [mxR_o (by omega)]; exact p1 6 (by omega)
  · rw [mxR_o (by omega)]; exact p1 10 (by omega)
  · rw [mxR_o (by omega)]; exact p1 12 (by omega)
section
variable {G : GG} {D n : Nat} {I : Nat → Nat → Int32} {J : Nat → Nat → Int64} {Q : Option Value → MH → Prop} {T : TN} {q : Nat → SD}
theorem m_line {r : Int32} : RS G n 222 [.int r] (fun a => sp_line a r) := by
  intro D I J Q a hO hC h
  try dsimp only at h
  obtain ⟨hcT, hcF, hcK, hcR, hcX, hcN, hcA, hcU⟩ := id hC
  obtain ⟨oT, oF, oN, oK, oR, oX⟩ := id hO
  unfold sp_line at h
  refine MT.by ck222 (by decide) rfl (Nat.le_of_ble_eq_true rfl) rfl 300 [] ?_
  conv => whnf
  try dsimp only
  refine ⟨trivial, r_isRow (fun e1 => ?_) (fun j hj hr e1 => ?_)⟩
  · rw [e1] at h
    refine EV.at ck222 (by decide) 300 [] ?_
    conv => whnf
    try dsimp only
    first | refine ⟨fun h1 => absurd h1 (by decide), fun _ => ?_⟩ | refine ⟨fun _ => ?_, fun h1 => absurd (by decide) h1⟩ | refine ⟨fun h1 => absurd (by decide) h1, fun _ => ?_⟩ | refine ⟨fun _ => ?_, fun h1 => absurd h1 (by decide)⟩
    conv => whnf
    try dsimp only
    exact ⟨trivial, rfin rfl hC (FM.rf I) (FMJ.rf J) h⟩
  rw [e1] at h
  dsimp only at h
  subst hr
  refine EV.at ck222 (by decide) 300 [] ?_
  conv => whnf
  try dsimp only
  first | refine ⟨fun h1 => absurd h1 (by decide), fun _ => ?_⟩ | refine ⟨fun _ => ?_, fun h1 => absurd (by decide) h1⟩ | refine ⟨fun h1 => absurd (by decide) h1, fun _ => ?_⟩ | refine ⟨fun _ => ?_, fun h1 => absurd h1 (by decide)⟩
  conv => whnf
  try dsimp only
  rw [hcF.1]
  cases hh : aH a
  · rw [hh] at h
    first | refine ⟨fun h1 => absurd h1 (by decide), fun _ => ?_⟩ | refine ⟨fun _ => ?_, fun h1 => absurd (by decide) h1⟩ | refine ⟨fun h1 => absurd (by decide) h1, fun _ => ?_⟩ | refine ⟨fun _ => ?_, fun h1 => absurd h1 (by decide)⟩
    conv => whnf
    try dsimp only
    exact ⟨trivial, rfin rfl hC (FM.rf I) (FMJ.rf J) h⟩
  rw [hh, if_pos rfl] at h
  have hv : vQ (aT a) (aq a) := (oF hh).1
  have hw : aw a < 2 := Nat.mod_lt _ (by decide)
  have hL : aEn a ≤ 10 := endsF_le (aT a) 10 _ _
  have c0 : Int32.toNatClampNeg 0 = 0 := by decide
  have lq := lineQ_ok oT.1 hw hv
  have eL : ends (aT a) (aq a) (aw a) = aEn a := rfl
  rw [eL] at lq
  first | refine ⟨fun h1 => absurd h1 (by decide), fun _ => ?_⟩ | refine ⟨fun _ => ?_, fun h1 => absurd (by decide) h1⟩ | refine ⟨fun h1 => absurd (by decide) h1, fun _ => ?_⟩ | refine ⟨fun _ => ?_, fun h1 => absurd h1 (by decide)⟩
  conv => whnf
  try dsimp only
  refine ⟨trivial, r_layRoot hcF.2 (oF hh).2.1 (fun I1 b1 b2 b3 b4 b5 b6 => ?_)⟩
  obtain ⟨hC1, hfm⟩ := hC.wm b5 b6
  refine EV.at ck222 (by decide) 300 [] ?_
  conv => whnf
  try dsimp only
  refine ⟨trivial, r_score hw oT.1 hv ⟨hC1.1, b3, b2⟩ b1 b4 (fun I2 f2 _ _ => ?_)⟩
  have hC2 := hC1.scr f2.sr rfl rfl
  have hfm2 := hfm.tr f2.sr.fm
  show EV G 222 _ 0 0 _ _ ((some (Value.int (scI (aEn a)))).toList ++ _) _ _
  refine EV.at ck222 (by decide) 300 [] ?_
  conv => whnf
  try dsimp only
  refine ⟨trivial, r_lengthOf (by omega) ?_⟩
  refine EV.at ck222 (by decide) 300 [] ?_
  conv => whnf
  try dsimp only
  refine ⟨trivial, r_anew hj ?_⟩
  have loop : ∀ m i (I3 : Nat → Nat → Int32) (v4 v5 v6 : Value), i + m = aEn a → (∀ r, r < 90 → r ≠ 77 → r ≠ 86 → r ≠ 87 → I3 r = I2 r) → (∀ k, k ≠ 34 → I3 77 k = I2 77 k) → I3 77 34 = nI ((aw a + i) % 2) → (∀ x, x ≠ j → I3 86 x = I2 86 x) → I3 86 j = nI (aEn a) → (∀ x, x < 40 * j ∨ 40 * j + 40 ≤ x → I3 87 x = I2 87 x) → (∀ x, x < i → I3 87 (40 * j + x) = nI (lineK (aT a) (lineQ (aT a) (aq a) (aw a) x) ((aw a + x) % 2))) → pM 0 (lineQ (aT a) (aq a) (aw a) i) I3 → kM (aq a) I3 → EV G 222 (D + 59) 0 0 39 [.ref 77, .int (nI j), .int (nI (aEn a)), .int (nI i), v4, v5, v6] [] (SH n, I3, J) Q := by
    intro m
    induction m with
    | zero =>
      intro i I3 v4 v5 v6 hi p0 p1 p2 p3 p4 p5 p6 p7 p8
      have hi : i = aEn a := hi
      have hC3 := hC2.mix p0 (fun k hk => p1 k (by omega))
      refine EV.at ck222 (by decide) 300 [] ?_
      conv => whnf
      try dsimp only
      refine pk_le (aEn a) i (fun _ => ?_) (fun z => absurd z (by omega))
      conv => whnf
      try dsimp only
      refine ⟨trivial, rfin rfl (hC3.row (m := aEn a + 1) hj (fun r h1 h2 h3 => (mxR_o (by omega)).symm) (fun r hr => by rw [mxR_i (by omega)]; exact p3 r hr) p4 (fun x hx => by rw [mxR_i (by omega)]; exact p5 x hx) (fun x hx => p6 x (by omega)) oR) (hfm2.tr (fun r hr => p0 r (by omega) (by omega) (by omega) (by omega))) (FMJ.rf J) h⟩
    | succ m ih =>
      intro i I3 v4 v5 v6 hi p0 p1 p2 p3 p4 p5 p6 p7 p8
      obtain ⟨g1, g2, g3, g4, g5⟩ := lq i (by omega)
      have hw2 : (aw a + i) % 2 < 2 := Nat.mod_lt _ (by decide)
      obtain ⟨g6, g7⟩ := lineK_ok hw2 g1 (by omega)
      have g8 := g6
      unfold restP at g8
      rw [Bool.and_eq_true] at g8
      have hLi : ends (aT a) (lineQ (aT a) (aq a) (aw a) i) ((aw a + i) % 2) < 11 := by omega
      have ci : (nI (40 * j + i)).toNatClampNeg = 40 * j + i := nI_clamp (by omega)
      have hM3 : mT (aT a) I3 := hC2.1.of (fun r h1 h2 => p0 r (by omega) (by omega) (by omega) (by omega)) (p1 3 (by decide)) (p1 6 (by decide))
      have o3 : ∀ r, r ≠ 98 → upI I3 98 0 0 r = I3 r := fun r hr => upI_oth hr
      have hk8 : kM (lineQ (aT a) (aq a) (aw a) i) I3 := ⟨by rw [p8.1, g3], by rw [p8.2, g4]⟩
      refine EV.at ck222 (by decide) 300 [] ?_
      conv => whnf
      try dsimp only
      refine pk_le (aEn a) i (fun z => absurd z (by omega)) (fun _ => ?_)
      conv => whnf
      try dsimp only
      refine ⟨by unfold vp_in; decide, ?_⟩
      conv => whnf
      try dsimp only
      rw [c0]
      refine ⟨trivial, r_score (q := lineQ (aT a) (aq a) (aw a) i) hw2 oT.1 g1 ⟨hM3.of (fun r h1 h2 => o3 r (by omega)) (by rw [o3 77 (by decide)]) (by rw [o3 77 (by decide)]), by rw [o3 77 (by decide)]; exact p2, by unfold kM; rw [o3 99 (by decide)]; exact hk8⟩ (fun e he => by rw [o3 97 (by decide)]; exact p7 e he) up_same (fun I4 f4 _ l4 => ?_)⟩
      have l4 := l4 (by omega)
      have q0 : ∀ r, r < 97 ∨ r = 99 ∨ 103 < r → I4 r = I3 r := fun r hr => by rw [f4.1 r hr, o3 r (by omega)]
      have q7 : ∀ e, e < 6 → I4 97 (6 * 0 + e) = I3 97 (6 * 0 + e) := fun e he => by rw [f4.2.1 _ (by omega), o3 97 (by decide)]
      refine EV.at ck222 (by decide) 300 [] ?_
      conv => whnf
      try dsimp only
      refine ⟨fun _ => ?_, fun z => absurd z (sc_nz _ hLi)⟩
      conv => whnf
      try dsimp only
      refine ⟨by unfold vp_in; decide, ?_⟩
      conv => whnf
      try dsimp only
      rw [c0, l4]
      rw [i40]
      refine ⟨in_nI (show 40 * j + i < 240 by omega) (by decide), ?_⟩
      conv => whnf
      try dsimp only
      refine ⟨by unfold vp_in; decide, ?_⟩
      conv => whnf
      try dsimp only
      rw [c0, ci]
      generalize hkk : lineK (aT a) (lineQ (aT a) (aq a) (aw a) i) ((aw a + i) % 2) = kk at g6 g7 g8 l4
      have o5 : ∀ r, r ≠ 98 → r ≠ 87 → upI (upI I4 87 (40 * j + i) (nI kk)) 98 0 0 r = I4 r := fun r h1 h2 => by rw [upI_oth h1, upI_oth h2]
      have e77 : upI (upI I4 87 (40 * j + i) (nI kk)) 98 0 0 77 = I3 77 := by rw [o5 77 (by decide) (by decide), q0 77 (by decide)]
      have ew : ((aw a + i) % 2 + 0) % 2 = (aw a + i) % 2 := by omega
      refine ⟨trivial, r_dives (d := 0) (q := lineQ (aT a) (aq a) (aw a) i) hw2 (by decide) (by rw [e77]; exact p2) oT.1 (hM3.of (fun r h1 h2 => by rw [o5 r (by omega) (by omega), q0 r (by omega)]) (by rw [e77]) (by rw [e77])) (fun e he => by rw [o5 97 (by decide) (by decide), q7 e he]; exact p7 e he) g1 g7 (by rw [ew]; exact g8.1) (fun I5 c1 c2 c3 c4 c5 => ?_)⟩
      rw [ew] at c1
      have s0 : ∀ r, r < 97 ∨ r = 99 ∨ 103 < r → r ≠ 87 → I5 r = I3 r := fun r hr h2 => by rw [c3 r (by omega) (by omega), o5 r (by omega) h2, q0 r hr]
      have s87 : ∀ x, x ≠ 40 * j + i → I5 87 x = I3 87 x := fun x hx => by rw [c3 87 (by decide) (by decide), upI_oth (by decide), up_ne hx, q0 87 (by decide)]
      have s87k : I5 87 (40 * j + i) = nI kk := by rw [c3 87 (by decide) (by decide), upI_oth (by decide), up_same]
      have l2 : ∀ m e, e + m = 6 → EV G 222 (D + 59) 0 0 105 [.ref 77, .int (nI j), .int (nI (aEn a)), .int (nI i), .int (scI (ends (aT a) (lineQ (aT a) (aq a) (aw a) i) ((aw a + i) % 2))), .int (nI kk), .int (nI e)] [] (SH n, cpI I5 97 97 6 0 e, J) Q := by
        intro m2
        induction m2 with
        | zero =>
          intro e he
          have he : e = 6 := he
          subst he
          have t0 : ∀ r, r ≠ 97 → cpI I5 97 97 6 0 6 r = I5 r := fun r hr => cp_oth hr
          have r34 : cpI I5 97 97 6 0 6 77 34 = nI ((aw a + i) % 2) := by rw [t0 77 (by decide), s0 77 (by decide) (by decide)]; exact p2
          have ee : 1 - (aw a + i) % 2 = (aw a + (i + 1)) % 2 := by omega
          generalize hI6 : upI (upI (cpI I5 97 97 6 0 6) 77 34 (nI ((aw a + (i + 1)) % 2))) 98 0 0 = I6
          have u0 : ∀ r, r ≠ 77 → r ≠ 97 → r ≠ 98 → I6 r = I5 r := fun r h1 h2 h3 => by rw [← hI6, upI_oth h3, upI_oth h1, t0 r h2]
          have ihj := ih (i + 1) I6 (.int (scI (ends (aT a) (lineQ (aT a) (aq a) (aw a) i) ((aw a + i) % 2)))) (.int (nI kk)) (.int (nI 6)) (by omega) (fun r h1 h2 h3 h4 => by rw [u0 r h2 (by omega) (by omega), s0 r (by omega) h4]; exact p0 r h1 h2 h3 h4) (fun k hk => by rw [← hI6, upI_oth (by decide), up_ne hk, t0 77 (by decide), s0 77 (by decide) (by decide)]; exact p1 k hk) (by rw [← hI6, upI_oth (by decide), up_same]) (fun x hx => by rw [u0 86 (by decide) (by decide) (by decide), s0 86 (by decide) (by decide)]; exact p3 x hx) (by rw [u0 86 (by decide) (by decide) (by decide), s0 86 (by decide) (by decide)]; exact p4) (fun x hx => by rw [u0 87 (by decide) (by decide) (by decide), s87 x (by omega)]; exact p5 x hx) (fun x hx => ?_) (fun e he => ?_) ⟨by rw [u0 99 (by decide) (by decide) (by decide), s0 99 (by decide) (by decide)]; exact p8.1, by rw [u0 99 (by decide) (by decide) (by decide), s0 99 (by decide) (by decide)]; exact p8.2⟩
          · rw [nI_succ i] at ihj
            refine EV.at ck222 (by decide) 300 [] ?_
            conv => whnf
            try dsimp only
            first | refine ⟨fun h1 => absurd h1 (by decide), fun _ => ?_⟩ | refine ⟨fun _ => ?_, fun h1 => absurd (by decide) h1⟩ | refine ⟨fun h1 => absurd (by decide) h1, fun _ => ?_⟩ | refine ⟨fun _ => ?_, fun h1 => absurd h1 (by decide)⟩
            conv => whnf
            try dsimp only
            rw [r34, one_sub hw2, ee]
            refine ⟨by unfold vp_in; decide, ?_⟩
            conv => whnf
            try dsimp only
            rw [c0, hI6]
            exact ⟨trivial, ihj⟩
          · rw [u0 87 (by decide) (by decide) (by decide)]
            by_cases hx2 : x = i
            · subst hx2
              rw [s87k, hkk]
            · rw [s87 _ (by omega)]
              exact p6 x (by omega)
          · show I6 97 (6 * 0 + e) = nI (pl (stepQ (aT a) (lineQ (aT a) (aq a) (aw a) i) ((aw a + i) % 2) (lineK (aT a) (lineQ (aT a) (aq a) (aw a) i) ((aw a + i) % 2))) e)
            rw [hkk, ← hI6, upI_oth (by decide), upI_oth (by decide), ← c1 e he]
            unfold cpI
            rw [if_pos ⟨rfl, by omega, by omega⟩]
            congr 1
            omega
        | succ m2 ih2 =>
          intro e he
          have ihj := ih2 (e + 1) (by omega)
          have ce : (nI e).toNatClampNeg = e := nI_clamp (by omega)
          have c6 : (nI (6 + e)).toNatClampNeg = 6 + e := nI_clamp (by omega)
          have a6 : (6 : Int32) + nI e = nI (6 + e) := nI_add 6 e
          have rd : cpI I5 97 97 6 0 e 97 (6 + e) = I5 97 (6 + e) := by
            unfold cpI
            rw [if_neg (by omega)]
          rw [← cp_s, nI_succ e, Nat.zero_add] at ihj
          refine EV.at ck222 (by decide) 300 [] ?_
          conv => whnf
          try dsimp only
          refine ⟨fun z => absurd z (nI_ge (b := 6) (show e < 6 by omega) (by decide)), fun _ => ?_⟩
          conv => whnf
          try dsimp only
          rw [a6]
          refine ⟨in_nI (show 6 + e < 78 by omega) (by decide), ?_⟩
          conv => whnf
          try dsimp only
          refine ⟨in_nI (show e < 78 by omega) (by decide), ?_⟩
          conv => whnf
          try dsimp only
          rw [ce, c6, rd]
          exact ⟨trivial, ihj⟩
      have l0 := l2 6 0 (by omega)
      rw [cp_0] at l0
      refine EV.at ck222 (by decide) 300 [105] ?_
      conv => whnf
      try dsimp only
      exact ⟨trivial, l0⟩
  have o : ∀ r, r ≠ 86 → r ≠ 87 → flI (upI I2 86 j (nI (aEn a))) 87 (40 * j) (40 * j + 40) 0 r = I2 r := fun r h1 h2 => by
    unfold flI
    funext k
    rw [if_neg (fun z => h2 z.1), upI_oth h1]
  have l0 := loop (aEn a) 0 (flI (upI I2 86 j (nI (aEn a))) 87 (40 * j) (40 * j + 40) 0) dm dm dm (by omega) (fun r h1 h2 h3 h4 => o r h3 h4) (fun k _ => by rw [o 77 (by decide) (by decide)]) (by rw [o 77 (by decide) (by decide), f2.1 77 (by decide), b3]; congr 1; show aw a = (aw a + 0) % 2; omega) (fun x hx => ?_) ?_ (fun x hx => ?_) (fun x hx => absurd hx (Nat.not_lt_zero x)) (fun e he => by rw [o 97 (by decide) (by decide), f2.2.1 _ (by omega)]; exact b1 e he) ⟨by rw [o 99 (by decide) (by decide), f2.1 99 (by decide)]; exact b2.1, by rw [o 99 (by decide) (by decide), f2.1 99 (by decide)]; exact b2.2⟩
  · refine EV.at ck222 (by decide) 300 [39] ?_
    conv => whnf
    try dsimp only
    exact ⟨trivial, l0⟩
  · unfold flI
    rw [if_neg (by omega), up_ne hx]
  · unfold flI
    rw [if_neg (by omega), up_same]
  · unfold flI
    rw [if_neg (by omega), upI_oth (by decide)]
/-- rows counted below a depth -/
def LnD (G : GG) (n D : Nat) (J : Nat → Nat → Int64) (Q : Option Value → MH → Prop) (T : TN) (f0 N r : Nat) : Prop := ∀ (d : Nat) (q : Nat → SD) (I : Nat → Nat → Int32) (A B : Nat) (v5 : Value), d + r = N → vQ T q → BM T f0 q I → pM d q I → I 98 d = 0 →
  (∀ I', FD d I I' → EV G 227 (D + 6) 0 0 109 [.ref 77, .int (nI N), .int (nI (A + (rowN T r q ((f0 + d) % 2)).1)), .int (nI (B + (rowN T r q ((f0 + d) % 2)).2)), .int (nI d), .int (-1)] [] (SH n, I', J) Q) → EV G 227 (D + 6) 0 0 35 [.ref 77, .int (nI N), .int (nI A), .int (nI B), .int (nI d), v5] [] (SH n, I, J) Q
theorem LnD_all {f0 N : Nat} (hf0 : f0 < 2) (hN : N ≤ 6) (hT : tOK T) : ∀ r, LnD G n D J Q T f0 N r := by
  intro r
  have h12 : tC T ≤ 12 := hT.2.2.1
  induction r with
  | zero =>
    intro d q I A B v5 hd hv hB hp h98 K
    have hd : d = N := hd
    subst hd
    have hf2 : (f0 + d) % 2 < 2 := Nat.mod_lt _ (by decide)
    have K := K I (FD.rf d I)
    have hp2 : 2 ^ tC T ≤ 2 ^ 12 := Nat.pow_le_pow_right (by decide) h12
    have ol := optN_lt (T := T) (q := q ((f0 + d) % 2)) (o := (q (1 - (f0 + d) % 2)).1) (tC T)
    have e : rowN T 0 q ((f0 + d) % 2) = (1, if optN T (q ((f0 + d) % 2)) (q (1 - (f0 + d) % 2)).1 (tC T) = 0 then 1 else 0) := rfl
    rw [e] at K
    dsimp only at K
    rw [← nI_add A, ← nI_add B] at K
    refine EV.at ck227 (by decide) 300 [109] ?_
    conv => whnf
    try dsimp only
    refine ⟨fun z => absurd z (nI_pos (by omega)), fun _ => ?_⟩
    conv => whnf
    try dsimp only
    refine ⟨fun z => absurd rfl z, fun _ => ?_⟩
    conv => whnf
    try dsimp only
    refine ⟨fun z => absurd rfl z, fun _ => ?_⟩
    conv => whnf
    try dsimp only
    refine ⟨trivial, r_moverAt hf0 (by omega) hB.2.1 ?_⟩
    refine EV.at ck227 (by decide) 300 [109] ?_
    conv => whnf
    try dsimp only
    refine ⟨trivial, r_canOf (by omega) hf2 hT hB.1 hp hB.2.2 hv ?_⟩
    generalize optN T (q ((f0 + d) % 2)) (q (1 - (f0 + d) % 2)).1 (tC T) = o at K ol ⊢
    by_cases h0 : o = 0
    · subst h0
      refine EV.at ck227 (by decide) 300 [109] ?_
      conv => whnf
      try dsimp only
      first | refine ⟨fun h1 => absurd h1 (by decide), fun _ => ?_⟩ | refine ⟨fun _ => ?_, fun h1 => absurd (by decide) h1⟩ | refine ⟨fun h1 => absurd (by decide) h1, fun _ => ?_⟩ | refine ⟨fun _ => ?_, fun h1 => absurd h1 (by decide)⟩
      conv => whnf
      try dsimp only
      first | refine ⟨fun h1 => absurd h1 (by decide), fun _ => ?_⟩ | refine ⟨fun _ => ?_, fun h1 => absurd (by decide) h1⟩ | refine ⟨fun h1 => absurd (by decide) h1, fun _ => ?_⟩ | refine ⟨fun _ => ?_, fun h1 => absurd h1 (by decide)⟩
      conv => whnf
      try dsimp only
      exact ⟨trivial, K⟩
    · rw [if_neg h0] at K
      refine EV.at ck227 (by decide) 300 [109] ?_
      conv => whnf
      try dsimp only
      refine ⟨fun _ => ?_, fun z => absurd z (nI_ne0 (by omega) (by omega))⟩
      conv => whnf
      try dsimp only
      first | refine ⟨fun h1 => absurd h1 (by decide), fun _ => ?_⟩ | refine ⟨fun _ => ?_, fun h1 => absurd (by decide) h1⟩ | refine ⟨fun h1 => absurd (by decide) h1, fun _ => ?_⟩ | refine ⟨fun _ => ?_, fun h1 => absurd h1 (by decide)⟩
      conv => whnf
      try dsimp only
      exact ⟨trivial, K⟩
  | succ r ihr =>
    intro d q I A B v5 hd hv hB hp h98 K
    generalize hf : (f0 + d) % 2 = f at K
    have hf2 : f < 2 := by rw [← hf]; exact Nat.mod_lt _ (by decide)
    have es : rowN T (r + 1) q f = rFold (fun k => rowN T r (stepQ T q f k) (1 - f)) (fun k => canN T (q f) (q (1 - f)).1 k) (tC T) := rfl
    rw [es] at K
    generalize hg : (fun k => rowN T r (stepQ T q f k) (1 - f)) = g at K
    generalize hcn : (fun k => canN T (q f) (q (1 - f)).1 k) = can at K
    have hcan : ∀ k, can k = canN T (q f) (q (1 - f)).1 k := fun k => by rw [← hcn]
    have hdN : ¬ nI d = nI N := fun z => by have := (nu_eq (by omega) (by omega)).mp z; omega
    have loop : ∀ m j (I1 : Nat → Nat → Int32) (v5 : Value), j + m = tC T → FD d I I1 → I1 98 d = nI j → EV G 227 (D + 6) 0 0 35 [.ref 77, .int (nI N), .int (nI (A + (rFold g can j).1)), .int (nI (B + (rFold g can j).2)), .int (nI d), v5] [] (SH n, I1, J) Q := by
      intro m
      induction m using Nat.strongRecOn with
      | _ m ih =>
        intro j I1 v5 hj w0 w1
        have hB1 := hB.of w0.1
        have hp1 : pM d q I1 := fun e he => by rw [w0.2.1 _ (by omega)]; exact hp e he
        refine EV.at ck227 (by decide) 300 [109] ?_
        conv => whnf
        try dsimp only
        refine ⟨fun z => absurd z (nI_pos (by omega)), fun _ => ?_⟩
        conv => whnf
        try dsimp only
        refine ⟨fun _ => ?_, fun z => absurd z hdN⟩
        conv => whnf
        try dsimp only
        refine ⟨trivial, r_nextChange (j := j) hf0 (by omega) hB1.2.1 hT hB1.1 hp1 hB1.2.2 hv (by omega) w1 (fun hno => ?_) (fun k k1 k2 k3 k4 => ?_)⟩
        · rw [hf] at hno
          have s1 := rF_skip (g := g) (can := can) (j := j) m (fun x a b => by rw [hcan]; exact hno x a (by omega))
          rw [hj] at s1
          have K := K _ (w0.up (r := 98) (k := d) (x := nI (tC T)) (Or.inl rfl) (Nat.le_refl _))
          rw [s1] at K
          refine EV.at ck227 (by decide) 300 [109] ?_
          conv => whnf
          try dsimp only
          refine ⟨fun _ => ?_, fun z => absurd z hdN⟩
          conv => whnf
          try dsimp only
          first | refine ⟨fun h1 => absurd h1 (by decide), fun _ => ?_⟩ | refine ⟨fun _ => ?_, fun h1 => absurd (by decide) h1⟩ | refine ⟨fun h1 => absurd (by decide) h1, fun _ => ?_⟩ | refine ⟨fun _ => ?_, fun h1 => absurd h1 (by decide)⟩
          conv => whnf
          try dsimp only
          exact ⟨trivial, K⟩
        · rw [hf] at k3 k4
          have hcd : canN T (q ((f0 + d) % 2)) (q (1 - (f0 + d) % 2)).1 k = true := by rw [hf]; exact k3
          have w0b : FD d I (upI I1 98 d (nI (k + 1))) := w0.up (Or.inl rfl) (Nat.le_refl _)
          have hB2 := hB.of w0b.1
          refine EV.at ck227 (by decide) 300 [109] ?_
          conv => whnf
          try dsimp only
          refine ⟨fun _ => ?_, fun z => absurd z hdN⟩
          conv => whnf
          try dsimp only
          refine ⟨fun z => absurd z (nI_pos (by omega)), fun _ => ?_⟩
          conv => whnf
          try dsimp only
          refine ⟨trivial, r_dives (q := q) hf0 (by omega) hB2.2.1 hT hB2.1 (fun e he => by rw [w0b.2.1 _ (by omega)]; exact hp e he) hv k2 hcd (fun I3 c1 c2 c3 c4 c5 => ?_)⟩
          rw [hf] at c1
          have f3 : FD d I I3 := w0b.tr (FD.dv c3 c4 c5)
          have x4 : I3 98 d = nI (k + 1) := by rw [c5 d (by omega), up_same]
          refine EV.at ck227 (by decide) 300 [109] ?_
          conv => whnf
          try dsimp only
          rw [nI_1]
          refine ⟨trivial, ihr (d + 1) (stepQ T q f k) I3 _ _ _ (by omega) (vQ_step hT hf2 k2 hv) ((hB.of f3.1).st) c1 c2 (fun I5 y0 => ?_)⟩
          have ef : (f0 + (d + 1)) % 2 = 1 - f := by omega
          rw [ef]
          obtain ⟨z1, -⟩ := y0.2.2 d (by omega)
          have s1 := rF_skip (g := g) (can := can) (j := j) (k - j) (fun x a b => by rw [hcan]; exact k4 x a (by omega))
          rw [show j + (k - j) = k by omega] at s1
          have ck' : can k = true := by rw [hcan]; exact k3
          have eF : rFold g can (k + 1) = ((rFold g can k).1 + (g k).1, (rFold g can k).2 + (g k).2) := by rw [rFold, ck']; rfl
          have gk : rowN T r (stepQ T q f k) (1 - f) = g k := by rw [← hg]
          have ihj := ih (m - (k + 1 - j)) (by omega) (k + 1) I5 (.int (-1)) (by omega) (f3.tr y0.lo) (by rw [z1, x4])
          rw [eF, s1] at ihj
          dsimp only at ihj
          rw [← Nat.add_assoc, ← Nat.add_assoc] at ihj
          rw [gk]
          refine EV.at ck227 (by decide) 300 [] ?_
          conv => whnf
          try dsimp only
          rw [show nI (d + 1) + (-1) = nI d from pk_m1 d]
          exact ⟨trivial, ihj⟩
    exact loop (tC T) 0 I v5 (by omega) (FD.rf d I) h98
theorem m_lines {r : Int32} : RS G n 227 [.int r] (fun a => sp_lines a r) := by
  intro D I J Q a hO hC h
  try dsimp only at h
  obtain ⟨hcT, hcF, hcK, hcR, hcX, hcN, hcA, hcU⟩ := id hC
  obtain ⟨oT, oF, oN, oK, oR, oX⟩ := id hO
  unfold sp_lines at h
  refine MT.by ck227 (by decide) rfl (Nat.le_of_ble_eq_true rfl) rfl 300 [35] ?_
  conv => whnf
  try dsimp only
  refine ⟨trivial, r_ix (K := 7) (by decide) (by decide) (fun e1 => ?_) (fun m hm hr e1 => ?_)⟩
  · rw [e1] at h
    refine EV.at ck227 (by decide) 300 [] ?_
    conv => whnf
    try dsimp only
    first | refine ⟨fun h1 => absurd h1 (by decide), fun _ => ?_⟩ | refine ⟨fun _ => ?_, fun h1 => absurd (by decide) h1⟩ | refine ⟨fun h1 => absurd (by decide) h1, fun _ => ?_⟩ | refine ⟨fun _ => ?_, fun h1 => absurd h1 (by decide)⟩
    conv => whnf
    try dsimp only
    exact ⟨trivial, rfin rfl hC (FM.rf I) (FMJ.rf J) h⟩
  rw [e1] at h
  dsimp only at h
  subst hr
  refine EV.at ck227 (by decide) 300 [35] ?_
  conv => whnf
  try dsimp only
  first | refine ⟨fun h1 => absurd h1 (by decide), fun _ => ?_⟩ | refine ⟨fun _ => ?_, fun h1 => absurd (by decide) h1⟩ | refine ⟨fun h1 => absurd (by decide) h1, fun _ => ?_⟩ | refine ⟨fun _ => ?_, fun h1 => absurd h1 (by decide)⟩
  conv => whnf
  try dsimp only
  rw [hcF.1]
  cases hh : aH a
  · rw [hh] at h
    first | refine ⟨fun h1 => absurd h1 (by decide), fun _ => ?_⟩ | refine ⟨fun _ => ?_, fun h1 => absurd (by decide) h1⟩ | refine ⟨fun h1 => absurd (by decide) h1, fun _ => ?_⟩ | refine ⟨fun _ => ?_, fun h1 => absurd h1 (by decide)⟩
    conv => whnf
    try dsimp only
    exact ⟨trivial, rfin rfl hC (FM.rf I) (FMJ.rf J) h⟩
  rw [hh, if_pos rfl] at h
  have hv : vQ (aT a) (aq a) := (oF hh).1
  have hw : aw a < 2 := Nat.mod_lt _ (by decide)
  have ef : (aw a + 0) % 2 = aw a := by omega
  first | refine ⟨fun h1 => absurd h1 (by decide), fun _ => ?_⟩ | refine ⟨fun _ => ?_, fun h1 => absurd (by decide) h1⟩ | refine ⟨fun h1 => absurd (by decide) h1, fun _ => ?_⟩ | refine ⟨fun _ => ?_, fun h1 => absurd h1 (by decide)⟩
  conv => whnf
  try dsimp only
  refine ⟨trivial, r_layRoot hcF.2 (oF hh).2.1 (fun I1 b1 b2 b3 b4 b5 b6 => ?_)⟩
  obtain ⟨hC1, hfm⟩ := hC.wm b5 b6
  have l0 := LnD_all (G := G) (n := n) (D := D + 53) (J := J) (Q := Q) (N := m) hw (by omega) oT.1 m 0 (aq a) I1 0 0 dm (by omega) hv ⟨hC1.1, b3, b2⟩ b1 b4 (fun I2 f2 => ?_)
  · refine EV.at ck227 (by decide) 300 [35] ?_
    conv => whnf
    try dsimp only
    exact ⟨trivial, l0⟩
  · rw [ef, Nat.zero_add, Nat.zero_add]
    have hC2 := hC1.scr f2.sr rfl rfl
    refine EV.at ck227 (by decide) 300 [35] ?_
    conv => whnf
    try dsimp only
    refine ⟨trivial, ?_⟩
    refine EV.at ck227 (by decide) 300 [] ?_
    conv => whnf
    try dsimp only
    first | refine ⟨fun h1 => absurd h1 (by decide), fun _ => ?_⟩ | refine ⟨fun _ => ?_, fun h1 => absurd (by decide) h1⟩ | refine ⟨fun h1 => absurd (by decide) h1, fun _ => ?_⟩ | refine ⟨fun _ => ?_, fun h1 => absurd h1 (by decide)⟩
    conv => whnf
    try dsimp only
    refine ⟨trivial, r_says ?_⟩
    refine EV.at ck227 (by decide) 300 [] ?_
    conv => whnf
    try dsimp only
    exact ⟨trivial, rfin rfl hC2.ask ((hfm.tr f2.sr.fm).up (by decide)) (FMJ.rf J) h⟩
end
