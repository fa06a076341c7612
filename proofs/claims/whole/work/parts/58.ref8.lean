/-! the reference's calls: marks, changes done, kept nights -/
theorem MA.wm {a : AB} {I I' : Nat → Nat → Int32} {J : Nat → Nat → Int64} (h : MA a I J) (hf : ∀ r, r ≠ 77 → r ≠ 97 → r ≠ 98 → r ≠ 99 → I' r = I r) (h7 : ∀ k, k ≠ 34 → I' 77 k = I 77 k) : MA a I' J ∧ FM I I' :=
  ⟨h.scr ⟨fun r h1 h2 => hf r h2 (by omega) (by omega) (by omega), h7 2 (by decide), h7 3 (by decide), h7 6 (by decide), h7 10 (by decide), h7 12 (by decide)⟩ rfl rfl, fun r hr => hf r (by omega) (by omega) (by omega) (by omega)⟩
section
variable {G : GG} {D n : Nat} {I : Nat → Nat → Int32} {J : Nat → Nat → Int64} {Q : Option Value → MH → Prop} {T : TN} {q : Nat → SD}
theorem r_markOf {F : FG} {i w : Nat} (hT : tOK T) (hM : mT T I) (hF : wM 0 F I) (hv : vQ T F.1) (hi : i < tS T) (hw : w < 6) (hw1 : 1 ≤ w) (h : Q (some (.int (mkI T F.1 i w))) (SH n, I, J)) : MT G (D + 4) 197 [.ref 77, .int (nI i), .int (nI w)] (SH n, I, J) Q := by
  have h5 : tS T ≤ 5 := hT.1
  have h12 : tC T ≤ 12 := hT.2.2.1
  have u0 := hv.1.2.2.1
  have u1 := hv.2.2.2.1
  have e4 : I 78 4 = nI (F.1 0).2.2.1 := hF.1 4 (by decide)
  have e5 : I 78 5 = nI (F.1 1).2.2.1 := hF.1 5 (by decide)
  have l2 : ∀ m j v7, j + m = tS T → EV G 197 (D + 3) 0 0 103 [.ref 77, .int (nI i), .int (nI w), .int (chpI T i (tC T)), .int (nI (cntN (fun j => tF T j == i) (tC T))), .int (nI (cntN (fun j => tK T j == 3 && (tT T j).testBit i) j)), .int (nI j), v7] [] (SH n, I, J) Q := by
    intro m
    induction m with
    | zero =>
      intro j v7 hj
      have hj : j = tS T := hj
      have c4 : Int32.toNatClampNeg 4 = 4 := by decide
      have c5 : Int32.toNatClampNeg 5 = 5 := by decide
      have ew : jshr (nI (F.1 0).2.2.1) (nI i) &&& 1 = b2i ((F.1 0).2.2.1.testBit i) := nu_bit (by omega) (by omega)
      have ew1 : jshr (nI (F.1 1).2.2.1) (nI i) &&& 1 = b2i ((F.1 1).2.2.1.testBit i) := nu_bit (by omega) (by omega)
      rcases (show w = 1 ∨ w = 2 ∨ w = 3 ∨ w = 4 ∨ w = 5 by omega) with rfl | rfl | rfl | rfl | rfl
      · refine EV.at ck197 (by decide) 300 [] ?_
        conv => whnf
        try dsimp only
        rw [hM.1]
        refine pk_le (tS T) j (fun _ => ?_) (fun z => absurd z (by omega))
        conv => whnf
        try dsimp only
        refine ⟨by unfold vp_in; decide, ?_⟩
        conv => whnf
        try dsimp only
        refine ⟨by unfold vp_in; decide, ?_⟩
        conv => whnf
        try dsimp only
        first | refine ⟨fun h1 => absurd h1 (by decide), fun _ => ?_⟩ | refine ⟨fun _ => ?_, fun h1 => absurd (by decide) h1⟩ | refine ⟨fun h1 => absurd (by decide) h1, fun _ => ?_⟩ | refine ⟨fun _ => ?_, fun h1 => absurd h1 (by decide)⟩
        conv => whnf
        try dsimp only
        exact ⟨trivial, h⟩
      · refine EV.at ck197 (by decide) 300 [] ?_
        conv => whnf
        try dsimp only
        rw [hM.1]
        refine pk_le (tS T) j (fun _ => ?_) (fun z => absurd z (by omega))
        conv => whnf
        try dsimp only
        refine ⟨by unfold vp_in; decide, ?_⟩
        conv => whnf
        try dsimp only
        refine ⟨by unfold vp_in; decide, ?_⟩
        conv => whnf
        try dsimp only
        first | refine ⟨fun h1 => absurd h1 (by decide), fun _ => ?_⟩ | refine ⟨fun _ => ?_, fun h1 => absurd (by decide) h1⟩ | refine ⟨fun h1 => absurd (by decide) h1, fun _ => ?_⟩ | refine ⟨fun _ => ?_, fun h1 => absurd h1 (by decide)⟩
        conv => whnf
        try dsimp only
        first | refine ⟨fun h1 => absurd h1 (by decide), fun _ => ?_⟩ | refine ⟨fun _ => ?_, fun h1 => absurd (by decide) h1⟩ | refine ⟨fun h1 => absurd (by decide) h1, fun _ => ?_⟩ | refine ⟨fun _ => ?_, fun h1 => absurd h1 (by decide)⟩
        conv => whnf
        try dsimp only
        rw [c4, c5, e4, e5, ew, ew1]
        exact ⟨trivial, h⟩
      · refine EV.at ck197 (by decide) 300 [] ?_
        conv => whnf
        try dsimp only
        rw [hM.1]
        refine pk_le (tS T) j (fun _ => ?_) (fun z => absurd z (by omega))
        conv => whnf
        try dsimp only
        refine ⟨by unfold vp_in; decide, ?_⟩
        conv => whnf
        try dsimp only
        refine ⟨by unfold vp_in; decide, ?_⟩
        conv => whnf
        try dsimp only
        first | refine ⟨fun h1 => absurd h1 (by decide), fun _ => ?_⟩ | refine ⟨fun _ => ?_, fun h1 => absurd (by decide) h1⟩ | refine ⟨fun h1 => absurd (by decide) h1, fun _ => ?_⟩ | refine ⟨fun _ => ?_, fun h1 => absurd h1 (by decide)⟩
        conv => whnf
        try dsimp only
        first | refine ⟨fun h1 => absurd h1 (by decide), fun _ => ?_⟩ | refine ⟨fun _ => ?_, fun h1 => absurd (by decide) h1⟩ | refine ⟨fun h1 => absurd (by decide) h1, fun _ => ?_⟩ | refine ⟨fun _ => ?_, fun h1 => absurd h1 (by decide)⟩
        conv => whnf
        try dsimp only
        first | refine ⟨fun h1 => absurd h1 (by decide), fun _ => ?_⟩ | refine ⟨fun _ => ?_, fun h1 => absurd (by decide) h1⟩ | refine ⟨fun h1 => absurd (by decide) h1, fun _ => ?_⟩ | refine ⟨fun _ => ?_, fun h1 => absurd h1 (by decide)⟩
        conv => whnf
        try dsimp only
        exact ⟨trivial, h⟩
      · have hp : 2 ^ tS T ≤ 2 ^ 5 := Nat.pow_le_pow_right (by decide) h5
        have l2 : orN (fun x => btT T x i) (tS T) < 2 ^ tS T := orN_lt _
        refine EV.at ck197 (by decide) 300 [] ?_
        conv => whnf
        try dsimp only
        rw [hM.1]
        refine pk_le (tS T) j (fun _ => ?_) (fun z => absurd z (by omega))
        conv => whnf
        try dsimp only
        refine ⟨by unfold vp_in; decide, ?_⟩
        conv => whnf
        try dsimp only
        refine ⟨by unfold vp_in; decide, ?_⟩
        conv => whnf
        try dsimp only
        first | refine ⟨fun h1 => absurd h1 (by decide), fun _ => ?_⟩ | refine ⟨fun _ => ?_, fun h1 => absurd (by decide) h1⟩ | refine ⟨fun h1 => absurd (by decide) h1, fun _ => ?_⟩ | refine ⟨fun _ => ?_, fun h1 => absurd h1 (by decide)⟩
        conv => whnf
        try dsimp only
        first | refine ⟨fun h1 => absurd h1 (by decide), fun _ => ?_⟩ | refine ⟨fun _ => ?_, fun h1 => absurd (by decide) h1⟩ | refine ⟨fun h1 => absurd (by decide) h1, fun _ => ?_⟩ | refine ⟨fun _ => ?_, fun h1 => absurd h1 (by decide)⟩
        conv => whnf
        try dsimp only
        first | refine ⟨fun h1 => absurd h1 (by decide), fun _ => ?_⟩ | refine ⟨fun _ => ?_, fun h1 => absurd (by decide) h1⟩ | refine ⟨fun h1 => absurd (by decide) h1, fun _ => ?_⟩ | refine ⟨fun _ => ?_, fun h1 => absurd h1 (by decide)⟩
        conv => whnf
        try dsimp only
        first | refine ⟨fun h1 => absurd h1 (by decide), fun _ => ?_⟩ | refine ⟨fun _ => ?_, fun h1 => absurd (by decide) h1⟩ | refine ⟨fun h1 => absurd (by decide) h1, fun _ => ?_⟩ | refine ⟨fun _ => ?_, fun h1 => absurd h1 (by decide)⟩
        conv => whnf
        try dsimp only
        refine ⟨trivial, r_beatenBy hT hM hi ?_⟩
        refine EV.at ck197 (by decide) 300 [] ?_
        conv => whnf
        try dsimp only
        refine ⟨trivial, r_ones (by omega) ?_⟩
        refine EV.at ck197 (by decide) 300 [] ?_
        conv => whnf
        try dsimp only
        exact ⟨trivial, h⟩
      · refine EV.at ck197 (by decide) 300 [] ?_
        conv => whnf
        try dsimp only
        rw [hM.1]
        refine pk_le (tS T) j (fun _ => ?_) (fun z => absurd z (by omega))
        conv => whnf
        try dsimp only
        refine ⟨by unfold vp_in; decide, ?_⟩
        conv => whnf
        try dsimp only
        refine ⟨by unfold vp_in; decide, ?_⟩
        conv => whnf
        try dsimp only
        first | refine ⟨fun h1 => absurd h1 (by decide), fun _ => ?_⟩ | refine ⟨fun _ => ?_, fun h1 => absurd (by decide) h1⟩ | refine ⟨fun h1 => absurd (by decide) h1, fun _ => ?_⟩ | refine ⟨fun _ => ?_, fun h1 => absurd h1 (by decide)⟩
        conv => whnf
        try dsimp only
        first | refine ⟨fun h1 => absurd h1 (by decide), fun _ => ?_⟩ | refine ⟨fun _ => ?_, fun h1 => absurd (by decide) h1⟩ | refine ⟨fun h1 => absurd (by decide) h1, fun _ => ?_⟩ | refine ⟨fun _ => ?_, fun h1 => absurd h1 (by decide)⟩
        conv => whnf
        try dsimp only
        first | refine ⟨fun h1 => absurd h1 (by decide), fun _ => ?_⟩ | refine ⟨fun _ => ?_, fun h1 => absurd (by decide) h1⟩ | refine ⟨fun h1 => absurd (by decide) h1, fun _ => ?_⟩ | refine ⟨fun _ => ?_, fun h1 => absurd h1 (by decide)⟩
        conv => whnf
        try dsimp only
        first | refine ⟨fun h1 => absurd h1 (by decide), fun _ => ?_⟩ | refine ⟨fun _ => ?_, fun h1 => absurd (by decide) h1⟩ | refine ⟨fun h1 => absurd (by decide) h1, fun _ => ?_⟩ | refine ⟨fun _ => ?_, fun h1 => absurd h1 (by decide)⟩
        conv => whnf
        try dsimp only
        rw [hj]
        exact ⟨trivial, h⟩
    | succ m ih =>
      intro j v7 hj
      have ihj := ih (j + 1) v7 (by omega)
      have cj : (nI j).toNatClampNeg = j := nI_clamp (by omega)
      obtain ⟨m1, m2⟩ := hM.2.1 j (by omega)
      obtain ⟨k1, k2⟩ := hT.2.1 j (by omega)
      have e : cntN (fun j => tK T j == 3 && (tT T j).testBit i) (j + 1) = cntN (fun j => tK T j == 3 && (tT T j).testBit i) j + (if tK T j == 3 && (tT T j).testBit i then 1 else 0) := rfl
      rw [e, nI_succ j, ← nI_add] at ihj
      refine EV.at ck197 (by decide) 300 [] ?_
      conv => whnf
      try dsimp only
      rw [hM.1]
      refine pk_le (tS T) j (fun z => absurd z (by omega)) (fun _ => ?_)
      conv => whnf
      try dsimp only
      refine ⟨in_nI (show j < 5 by omega) (by decide), ?_⟩
      conv => whnf
      try dsimp only
      rw [cj, m1]
      refine ⟨fun z => ?_, fun z => ?_⟩
      · rw [beq_false_of_ne (fun y => z (by rw [y]; rfl))] at ihj
        conv => whnf
        try dsimp only
        exact ⟨trivial, ihj⟩
      rw [(nu_eq (b := 3) (by omega) (by decide)).mp z, beq_self_eq_true, Bool.true_and] at ihj
      conv => whnf
      try dsimp only
      refine ⟨in_nI (show j < 5 by omega) (by decide), ?_⟩
      conv => whnf
      try dsimp only
      rw [cj, m2]
      refine ⟨trivial, r_has (by omega) (by omega) ?_⟩
      cases hb : (tT T j).testBit i
      · rw [hb] at ihj
        refine EV.at ck197 (by decide) 300 [] ?_
        conv => whnf
        try dsimp only
        first | refine ⟨fun h1 => absurd h1 (by decide), fun _ => ?_⟩ | refine ⟨fun _ => ?_, fun h1 => absurd (by decide) h1⟩ | refine ⟨fun h1 => absurd (by decide) h1, fun _ => ?_⟩ | refine ⟨fun _ => ?_, fun h1 => absurd h1 (by decide)⟩
        conv => whnf
        try dsimp only
        exact ⟨trivial, ihj⟩
      · rw [hb] at ihj
        refine EV.at ck197 (by decide) 300 [] ?_
        conv => whnf
        try dsimp only
        first | refine ⟨fun h1 => absurd h1 (by decide), fun _ => ?_⟩ | refine ⟨fun _ => ?_, fun h1 => absurd (by decide) h1⟩ | refine ⟨fun h1 => absurd (by decide) h1, fun _ => ?_⟩ | refine ⟨fun _ => ?_, fun h1 => absurd h1 (by decide)⟩
        conv => whnf
        try dsimp only
        exact ⟨trivial, ihj⟩
  have l1 : ∀ m j v7, j + m = tC T → EV G 197 (D + 3) 0 0 12 [.ref 77, .int (nI i), .int (nI w), .int (chpI T i j), .int (nI (cntN (fun j => tF T j == i) j)), .int 0, .int (nI j), v7] [] (SH n, I, J) Q := by
    intro m
    induction m with
    | zero =>
      intro j v7 hj
      have hj : j = tC T := hj
      have l0 := l2 (tS T) 0 v7 (by omega)
      refine EV.at ck197 (by decide) 300 [103] ?_
      conv => whnf
      try dsimp only
      rw [hM.2.2.1]
      refine pk_le (tC T) j (fun _ => ?_) (fun z => absurd z (by omega))
      conv => whnf
      try dsimp only
      rw [hj]
      exact ⟨trivial, l0⟩
    | succ m ih =>
      intro j v7 hj
      have cj : (nI j).toNatClampNeg = j := nI_clamp (by omega)
      obtain ⟨m1, m2, m3⟩ := hM.2.2.2 j (by omega)
      obtain ⟨b1, b2, b3, b4⟩ := hT.2.2.2 j (by omega)
      have e : cntN (fun j => tF T j == i) (j + 1) = cntN (fun j => tF T j == i) j + (if tF T j == i then 1 else 0) := rfl
      have ec : chpI T i (j + 1) = if tI T j = i ∧ (chpI T i j = -9 ∨ nI (tW T j) < chpI T i j) then nI (tW T j) else chpI T i j := rfl
      have k73 : ∀ (x : Int32) v7, x = chpI T i (j + 1) → EV G 197 (D + 3) 0 0 73 [.ref 77, .int (nI i), .int (nI w), .int x, .int (nI (cntN (fun j => tF T j == i) j)), .int 0, .int (nI j), v7] [] (SH n, I, J) Q := by
        intro x v7 hx
        have ihj := ih (j + 1) v7 (by omega)
        rw [← hx, e, nI_succ j, ← nI_add] at ihj
        refine EV.at ck197 (by decide) 300 [] ?_
        conv => whnf
        try dsimp only
        refine ⟨in_nI (show j < 12 by omega) (by decide), ?_⟩
        conv => whnf
        try dsimp only
        rw [cj, m1]
        refine ⟨fun z => ?_, fun z => ?_⟩
        · rw [beq_false_of_ne (fun y => z (by rw [y]))] at ihj
          conv => whnf
          try dsimp only
          exact ⟨trivial, ihj⟩
        · rw [(nu_eq (by omega) (by omega)).mp z, beq_self_eq_true] at ihj
          conv => whnf
          try dsimp only
          exact ⟨trivial, ihj⟩
      have yes : tI T j = i ∧ (chpI T i j = -9 ∨ nI (tW T j) < chpI T i j) → ∀ v7, EV G 197 (D + 3) 0 0 49 [.ref 77, .int (nI i), .int (nI w), .int (chpI T i j), .int (nI (cntN (fun j => tF T j == i) j)), .int 0, .int (nI j), v7] [] (SH n, I, J) Q := by
        intro hy v7
        rw [if_pos hy] at ec
        refine EV.at ck197 (by decide) 300 [73] ?_
        conv => whnf
        try dsimp only
        first | refine ⟨fun h1 => absurd h1 (by decide), fun _ => ?_⟩ | refine ⟨fun _ => ?_, fun h1 => absurd (by decide) h1⟩ | refine ⟨fun h1 => absurd (by decide) h1, fun _ => ?_⟩ | refine ⟨fun _ => ?_, fun h1 => absurd h1 (by decide)⟩
        conv => whnf
        try dsimp only
        refine ⟨in_nI (show j < 12 by omega) (by decide), ?_⟩
        conv => whnf
        try dsimp only
        rw [cj, m3]
        exact ⟨trivial, k73 _ _ ec.symm⟩
      have nop : ¬ (tI T j = i ∧ (chpI T i j = -9 ∨ nI (tW T j) < chpI T i j)) → ∀ v7, EV G 197 (D + 3) 0 0 53 [.ref 77, .int (nI i), .int (nI w), .int (chpI T i j), .int (nI (cntN (fun j => tF T j == i) j)), .int 0, .int (nI j), v7] [] (SH n, I, J) Q := by
        intro hy v7
        rw [if_neg hy] at ec
        refine EV.at ck197 (by decide) 300 [73] ?_
        conv => whnf
        try dsimp only
        first | refine ⟨fun h1 => absurd h1 (by decide), fun _ => ?_⟩ | refine ⟨fun _ => ?_, fun h1 => absurd (by decide) h1⟩ | refine ⟨fun h1 => absurd (by decide) h1, fun _ => ?_⟩ | refine ⟨fun _ => ?_, fun h1 => absurd h1 (by decide)⟩
        conv => whnf
        try dsimp only
        exact ⟨trivial, k73 _ _ ec.symm⟩
      refine EV.at ck197 (by decide) 300 [49, 53] ?_
      conv => whnf
      try dsimp only
      rw [hM.2.2.1]
      refine pk_le (tC T) j (fun z => absurd z (by omega)) (fun _ => ?_)
      conv => whnf
      try dsimp only
      refine ⟨in_nI (show j < 12 by omega) (by decide), ?_⟩
      conv => whnf
      try dsimp only
      rw [cj, m2]
      refine ⟨fun z => ?_, fun z => ?_⟩
      · conv => whnf
        try dsimp only
        exact ⟨trivial, nop (fun y => z (by rw [y.1])) _⟩
      have z' : tI T j = i := (nu_eq (by omega) (by omega)).mp z
      conv => whnf
      try dsimp only
      refine ⟨fun y => ?_, fun y => ?_⟩
      · conv => whnf
        try dsimp only
        exact ⟨trivial, yes ⟨z', Or.inl y⟩ _⟩
      conv => whnf
      try dsimp only
      refine ⟨in_nI (show j < 12 by omega) (by decide), ?_⟩
      conv => whnf
      try dsimp only
      rw [cj, m3]
      refine ⟨fun x => ?_, fun x => ?_⟩
      · conv => whnf
        try dsimp only
        exact ⟨trivial, nop (fun t => t.2.elim y (fun u => absurd u (Int32.not_lt.mpr x))) _⟩
      · conv => whnf
        try dsimp only
        exact ⟨trivial, yes ⟨z', Or.inr (Int32.not_le.mp x)⟩ _⟩
  refine MT.by ck197 (by decide) rfl (Nat.le_of_ble_eq_true rfl) rfl 300 [12] ?_
  conv => whnf
  try dsimp only
  exact ⟨trivial, l1 (tC T) 0 dm (by omega)⟩
theorem isB_any : ∀ q, q < 6 → ∀ k, k < 6 → 1 ≤ k → isB q k = decide (nI q = nI k ∨ (nI k = 1 ∧ nI q = 5) ∨ (nI k = 2 ∧ nI q = 4)) := by decide +kernel
theorem m_mark {i w : Int32} : RS G n 198 [.int i, .int w] (fun a => sp_mark a i w) := by
  intro D I J Q a hO hC h
  try dsimp only at h
  obtain ⟨hcT, hcF, hcK, hcR, hcX, hcN, hcA, hcU⟩ := id hC
  obtain ⟨oT, oF, oN, oK, oR, oX⟩ := id hO
  have h5 : tS (aT a) ≤ 5 := oT.1.1
  unfold sp_mark at h
  refine MT.by ck198 (by decide) rfl (Nat.le_of_ble_eq_true rfl) rfl 300 [] ?_
  conv => whnf
  try dsimp only
  refine ⟨trivial, r_isShape oT.1 hcT (fun e1 => ?_) (fun j hj hr e1 => ?_)⟩
  · rw [e1] at h
    refine EV.at ck198 (by decide) 300 [] ?_
    conv => whnf
    try dsimp only
    first | refine ⟨fun h1 => absurd h1 (by decide), fun _ => ?_⟩ | refine ⟨fun _ => ?_, fun h1 => absurd (by decide) h1⟩ | refine ⟨fun h1 => absurd (by decide) h1, fun _ => ?_⟩ | refine ⟨fun _ => ?_, fun h1 => absurd h1 (by decide)⟩
    conv => whnf
    try dsimp only
    exact ⟨trivial, rfin rfl hC (FM.rf I) (FMJ.rf J) h⟩
  rw [e1] at h
  dsimp only at h
  subst hr
  have cj : (nI j).toNatClampNeg = j := nI_clamp (by omega)
  have hv := (oF (aH_of hO (Or.inl (by omega)))).1
  have kq := (oT.1.2.1 j hj).1
  have mk := (hcT.2.1 j hj).1
  refine EV.at ck198 (by decide) 300 [] ?_
  conv => whnf
  try dsimp only
  first | refine ⟨fun h1 => absurd h1 (by decide), fun _ => ?_⟩ | refine ⟨fun _ => ?_, fun h1 => absurd (by decide) h1⟩ | refine ⟨fun h1 => absurd (by decide) h1, fun _ => ?_⟩ | refine ⟨fun _ => ?_, fun h1 => absurd h1 (by decide)⟩
  conv => whnf
  try dsimp only
  refine ⟨trivial, r_in1 (H := 5) (by decide) (by decide) (fun e2 => ?_) (fun k hk1 hk hr e2 => ?_)⟩
  · refine EV.at ck198 (by decide) 300 [] ?_
    conv => whnf
    try dsimp only
    first | refine ⟨fun h1 => absurd h1 (by decide), fun _ => ?_⟩ | refine ⟨fun _ => ?_, fun h1 => absurd (by decide) h1⟩ | refine ⟨fun h1 => absurd (by decide) h1, fun _ => ?_⟩ | refine ⟨fun _ => ?_, fun h1 => absurd h1 (by decide)⟩
    conv => whnf
    try dsimp only
    refine ⟨trivial, rfin ?_ hC (FM.rf I) (FMJ.rf J) h⟩
    rcases e2 with e2 | e2
    · rw [show ix 6 w = none from e2]
    · rw [show ix 6 w = some 0 from e2]
      rfl
  rw [show ix 6 w = some k from e2] at h
  dsimp only at h
  rw [if_neg (by omega)] at h
  subst hr
  have eB := isB_any _ kq k (by omega) hk1
  have yes : isB (tK (aT a) j) k = true → EV G 198 (D + 59) 0 0 62 [.ref 77, .int (nI j), .int (nI k), dm] [] (SH n, I, J) Q := by
    intro hb
    rw [hb, if_pos rfl] at h
    refine EV.at ck198 (by decide) 300 [] ?_
    conv => whnf
    try dsimp only
    first | refine ⟨fun h1 => absurd h1 (by decide), fun _ => ?_⟩ | refine ⟨fun _ => ?_, fun h1 => absurd (by decide) h1⟩ | refine ⟨fun h1 => absurd (by decide) h1, fun _ => ?_⟩ | refine ⟨fun _ => ?_, fun h1 => absurd h1 (by decide)⟩
    conv => whnf
    try dsimp only
    refine ⟨trivial, r_markOf oT.1 hcT hcF.2 hv hj (by omega) hk1 ?_⟩
    refine EV.at ck198 (by decide) 300 [] ?_
    conv => whnf
    try dsimp only
    exact ⟨trivial, rfin rfl hC (FM.rf I) (FMJ.rf J) h⟩
  have nop : isB (tK (aT a) j) k = false → EV G 198 (D + 59) 0 0 66 [.ref 77, .int (nI j), .int (nI k), dm] [] (SH n, I, J) Q := by
    intro hb
    rw [hb] at h
    refine EV.at ck198 (by decide) 300 [] ?_
    conv => whnf
    try dsimp only
    first | refine ⟨fun h1 => absurd h1 (by decide), fun _ => ?_⟩ | refine ⟨fun _ => ?_, fun h1 => absurd (by decide) h1⟩ | refine ⟨fun h1 => absurd (by decide) h1, fun _ => ?_⟩ | refine ⟨fun _ => ?_, fun h1 => absurd h1 (by decide)⟩
    conv => whnf
    try dsimp only
    refine ⟨trivial, r_found (f := 3) (by decide) ?_⟩
    refine EV.at ck198 (by decide) 300 [] ?_
    conv => whnf
    try dsimp only
    exact ⟨trivial, rfin rfl (hC.fnd (by decide)) FM.fnd (FMJ.rf J) h⟩
  have k47 : ¬ nI (tK (aT a) j) = nI k → ¬ (nI k = 1 ∧ nI (tK (aT a) j) = 5) → EV G 198 (D + 59) 0 0 47 [.ref 77, .int (nI j), .int (nI k), dm] [] (SH n, I, J) Q := by
    intro n1 n2
    refine EV.at ck198 (by decide) 300 [62, 66] ?_
    conv => whnf
    try dsimp only
    refine ⟨fun z => ?_, fun z => ?_⟩
    · conv => whnf
      try dsimp only
      exact ⟨trivial, nop (by rw [eB, decide_eq_false (fun y => y.elim n1 (fun y => y.elim n2 (fun y => z y.1)))])⟩
    conv => whnf
    try dsimp only
    refine ⟨in_nI (show j < 5 by omega) (by decide), ?_⟩
    conv => whnf
    try dsimp only
    rw [cj, mk]
    refine ⟨fun z2 => ?_, fun z2 => ?_⟩
    · conv => whnf
      try dsimp only
      exact ⟨trivial, nop (by rw [eB, decide_eq_false (fun y => y.elim n1 (fun y => y.elim n2 (fun y => z2 y.2)))])⟩
    · conv => whnf
      try dsimp only
      exact ⟨trivial, yes (by rw [eB, decide_eq_true (Or.inr (Or.inr ⟨z, z2⟩))])⟩
  refine EV.at ck198 (by decide) 300 [47, 62, 66] ?_
  conv => whnf
  try dsimp only
  first | refine ⟨fun h1 => absurd h1 (by decide), fun _ => ?_⟩ | refine ⟨fun _ => ?_, fun h1 => absurd (by decide) h1⟩ | refine ⟨fun h1 => absurd (by decide) h1, fun _ => ?_⟩ | refine ⟨fun _ => ?_, fun h1 => absurd h1 (by decide)⟩
  conv => whnf
  try dsimp only
  refine ⟨in_nI (show j < 5 by omega) (by decide), ?_⟩
  conv => whnf
  try dsimp only
  rw [cj, mk]
  refine ⟨fun z => ?_, fun z => ?_⟩
  · conv => whnf
    try dsimp only
    exact ⟨trivial, yes (by rw [eB, decide_eq_true (Or.inl z)])⟩
  conv => whnf
  try dsimp only
  refine ⟨fun z2 => ?_, fun z2 => ?_⟩
  · conv => whnf
    try dsimp only
    exact ⟨trivial, k47 z (fun y => z2 y.1)⟩
  conv => whnf
  try dsimp only
  refine ⟨in_nI (show j < 5 by omega) (by decide), ?_⟩
  conv => whnf
  try dsimp only
  rw [cj, mk]
  refine ⟨fun z3 => ?_, fun z3 => ?_⟩
  · conv => whnf
    try dsimp only
    exact ⟨trivial, yes (by rw [eB, decide_eq_true (Or.inr (Or.inl ⟨z2, z3⟩))])⟩
  · conv => whnf
    try dsimp only
    exact ⟨trivial, k47 z (fun y => z3 y.2)⟩
theorem m_can {r : Int32} : RS G n 211 [.int r] (fun a => sp_can a r) := by
  intro D I J Q a hO hC h
  try dsimp only at h
  obtain ⟨hcT, hcF, hcK, hcR, hcX, hcN, hcA, hcU⟩ := id hC
  obtain ⟨oT, oF, oN, oK, oR, oX⟩ := id hO
  unfold sp_can at h
  refine MT.by ck211 (by decide) rfl (Nat.le_of_ble_eq_true rfl) rfl 300 [] ?_
  conv => whnf
  try dsimp only
  refine ⟨trivial, r_fi hcF.1 (fun e1 => ?_) (fun j hj hr hh e1 => ?_)⟩
  · rw [e1] at h
    refine EV.at ck211 (by decide) 300 [] ?_
    conv => whnf
    try dsimp only
    first | refine ⟨fun h1 => absurd h1 (by decide), fun _ => ?_⟩ | refine ⟨fun _ => ?_, fun h1 => absurd (by decide) h1⟩ | refine ⟨fun h1 => absurd (by decide) h1, fun _ => ?_⟩ | refine ⟨fun _ => ?_, fun h1 => absurd h1 (by decide)⟩
    conv => whnf
    try dsimp only
    exact ⟨trivial, rfin rfl hC (FM.rf I) (FMJ.rf J) h⟩
  rw [e1] at h
  subst hr
  have hv := (oF hh).1
  refine EV.at ck211 (by decide) 300 [] ?_
  conv => whnf
  try dsimp only
  first | refine ⟨fun h1 => absurd h1 (by decide), fun _ => ?_⟩ | refine ⟨fun _ => ?_, fun h1 => absurd (by decide) h1⟩ | refine ⟨fun h1 => absurd (by decide) h1, fun _ => ?_⟩ | refine ⟨fun _ => ?_, fun h1 => absurd h1 (by decide)⟩
  conv => whnf
  try dsimp only
  refine ⟨trivial, r_layRoot hcF.2 (oF hh).2.1 (fun I1 b1 b2 b3 b4 b5 b6 => ?_)⟩
  obtain ⟨hC1, hfm⟩ := hC.wm b5 b6
  refine EV.at ck211 (by decide) 300 [] ?_
  conv => whnf
  try dsimp only
  refine ⟨trivial, r_canOf (d := 0) (by decide) hj oT.1 hC1.1 b1 b2 hv ?_⟩
  refine EV.at ck211 (by decide) 300 [] ?_
  conv => whnf
  try dsimp only
  exact ⟨trivial, rfin rfl hC1 hfm (FMJ.rf J) h⟩
theorem m_turn : RS G n 212 [] sp_turn := by
  intro D I J Q a hO hC h
  try dsimp only at h
  obtain ⟨hcT, hcF, hcK, hcR, hcX, hcN, hcA, hcU⟩ := id hC
  obtain ⟨oT, oF, oN, oK, oR, oX⟩ := id hO
  unfold sp_turn at h
  cases hh : aH a
  · rw [hh] at h
    refine MT.by ck212 (by decide) rfl (Nat.le_of_ble_eq_true rfl) rfl 300 [] ?_
    conv => whnf
    try dsimp only
    rw [hcF.1, hh]
    first | refine ⟨fun h1 => absurd h1 (by decide), fun _ => ?_⟩ | refine ⟨fun _ => ?_, fun h1 => absurd (by decide) h1⟩ | refine ⟨fun h1 => absurd (by decide) h1, fun _ => ?_⟩ | refine ⟨fun _ => ?_, fun h1 => absurd h1 (by decide)⟩
    conv => whnf
    try dsimp only
    exact ⟨trivial, rfin rfl hC (FM.rf I) (FMJ.rf J) h⟩
  rw [hh, if_pos rfl] at h
  have hv := (oF hh).1
  have hw : aw a < 2 := Nat.mod_lt _ (by decide)
  refine MT.by ck212 (by decide) rfl (Nat.le_of_ble_eq_true rfl) rfl 300 [] ?_
  conv => whnf
  try dsimp only
  rw [hcF.1, hh]
  first | refine ⟨fun h1 => absurd h1 (by decide), fun _ => ?_⟩ | refine ⟨fun _ => ?_, fun h1 => absurd (by decide) h1⟩ | refine ⟨fun h1 => absurd (by decide) h1, fun _ => ?_⟩ | refine ⟨fun _ => ?_, fun h1 => absurd h1 (by decide)⟩
  conv => whnf
  try dsimp only
  refine ⟨trivial, r_layRoot hcF.2 (oF hh).2.1 (fun I1 b1 b2 b3 b4 b5 b6 => ?_)⟩
  obtain ⟨hC1, hfm⟩ := hC.wm b5 b6
  refine EV.at ck212 (by decide) 300 [] ?_
  conv => whnf
  try dsimp only
  rw [b3]
  refine ⟨trivial, r_canOf (d := 0) (by decide) hw oT.1 hC1.1 b1 b2 hv ?_⟩
  have hp : 2 ^ tC (aT a) ≤ 2 ^ 12 := Nat.pow_le_pow_right (by decide) oT.1.2.2.1
  have ol : opt a (aw a) < 2 ^ tC (aT a) := optN_lt _
  show EV G 212 _ 0 0 _ _ ((some (Value.int (nI (opt a (aw a))))).toList ++ _) _ _
  by_cases h0 : opt a (aw a) = 0
  · rw [if_pos h0] at h
    rw [h0]
    refine EV.at ck212 (by decide) 300 [] ?_
    conv => whnf
    try dsimp only
    first | refine ⟨fun h1 => absurd h1 (by decide), fun _ => ?_⟩ | refine ⟨fun _ => ?_, fun h1 => absurd (by decide) h1⟩ | refine ⟨fun h1 => absurd (by decide) h1, fun _ => ?_⟩ | refine ⟨fun _ => ?_, fun h1 => absurd h1 (by decide)⟩
    conv => whnf
    try dsimp only
    refine ⟨trivial, r_says ?_⟩
    refine EV.at ck212 (by decide) 300 [] ?_
    conv => whnf
    try dsimp only
    exact ⟨trivial, rfin rfl hC1.ask (hfm.up (by decide)) (FMJ.rf J) h⟩
  · rw [if_neg h0] at h
    refine EV.at ck212 (by decide) 300 [] ?_
    conv => whnf
    try dsimp only
    refine ⟨fun _ => ?_, fun z => absurd z (nI_ne0 (by omega) (by omega))⟩
    conv => whnf
    try dsimp only
    refine ⟨trivial, r_says ?_⟩
    refine EV.at ck212 (by decide) 300 [] ?_
    conv => whnf
    try dsimp only
    exact ⟨trivial, rfin rfl hC1.ask (hfm.up (by decide)) (FMJ.rf J) h⟩
theorem r_does {F : FG} {k : Nat} (hT : tOK T) (hM : mT T I) (hF : wM 0 F I) (hv : vQ T F.1) (hz : F.2.1 < 40) (hk : k < tC T) (hc : canN T (F.1 (F.2.1 % 2)) (F.1 (1 - F.2.1 % 2)).1 k = true) (h : ∀ I', wM 0 (doF T F k) I' → (∀ r, r < 90 → r ≠ 77 → r ≠ 78 → I' r = I r) → (∀ x, x ≠ 34 → I' 77 x = I 77 x) → (∀ x, 289 ≤ x → I' 78 x = I 78 x) → Q none (SH n, I', J)) : MT G (D + 3) 213 [.ref 77, .int (nI k)] (SH n, I, J) Q := by
  have hw : F.2.1 % 2 < 2 := Nat.mod_lt _ (by decide)
  have ew : (F.2.1 % 2 + 0) % 2 = F.2.1 % 2 := by omega
  obtain ⟨g1, g2, g3, g4, g5⟩ := id hF
  refine MT.by ck213 (by decide) rfl (Nat.le_of_ble_eq_true rfl) rfl 300 [] ?_
  conv => whnf
  try dsimp only
  refine ⟨trivial, r_layRoot hF (by omega) (fun I1 b1 b2 b3 b4 b5 b6 => ?_)⟩
  have hM1 : mT T I1 := hM.of (fun r h1 h2 => b5 r (by omega) (by omega) (by omega) (by omega)) (b6 3 (by decide)) (b6 6 (by decide))
  refine EV.at ck213 (by decide) 300 [12] ?_
  conv => whnf
  try dsimp only
  refine ⟨trivial, r_dives (d := 0) hw (by decide) b3 hT hM1 b1 hv hk (by rw [ew]; exact hc) (fun I2 c1 c2 c3 c4 c5 => ?_)⟩
  rw [ew] at c1
  have e78 : I2 78 = I 78 := by rw [c3 78 (by decide) (by decide), b5 78 (by decide) (by decide) (by decide) (by decide)]
  have e8 : ∀ x, I2 78 x = I 78 x := fun x => by rw [e78]
  have c8 : Int32.toNatClampNeg 8 = 8 := by decide
  have loop : ∀ m e (I3 : Nat → Nat → Int32), e + m = 6 → (∀ r, r ≠ 78 → I3 r = I2 r) → (∀ x, x < e → I3 78 x = I2 97 (6 + x) ∧ I3 78 (49 + 6 * F.2.1 + x) = I 78 x) → (∀ x, e ≤ x → (x < 49 + 6 * F.2.1 ∨ 49 + 6 * F.2.1 + 6 ≤ x) → I3 78 x = I 78 x) → EV G 213 (D + 2) 0 0 12 [.ref 77, .int (nI k), .int (nI e)] [] (SH n, I3, J) Q := by
    intro m
    induction m with
    | zero =>
      intro e I3 he v0 v1 v2
      have he : e = 6 := he
      subst he
      have r8 : I3 78 8 = nI F.2.1 := by rw [v2 8 (by omega) (by omega)]; exact g4
      have a9 : (9 : Int32) + nI F.2.1 = nI (9 + F.2.1) := nI_add 9 _
      have c9 : (nI (9 + F.2.1)).toNatClampNeg = 9 + F.2.1 := nI_clamp (by omega)
      have r8' : ∀ x, upI I3 78 (9 + F.2.1) x 78 8 = nI F.2.1 := fun x => by rw [up_ne (by omega)]; exact r8
      refine EV.at ck213 (by decide) 300 [] ?_
      conv => whnf
      try dsimp only
      first | refine ⟨fun h1 => absurd h1 (by decide), fun _ => ?_⟩ | refine ⟨fun _ => ?_, fun h1 => absurd (by decide) h1⟩ | refine ⟨fun h1 => absurd (by decide) h1, fun _ => ?_⟩ | refine ⟨fun _ => ?_, fun h1 => absurd h1 (by decide)⟩
      conv => whnf
      try dsimp only
      refine ⟨by unfold vp_in; decide, ?_⟩
      conv => whnf
      try dsimp only
      rw [c8, r8, a9]
      refine ⟨in_nI (show 9 + F.2.1 < 1156 by omega) (by decide), ?_⟩
      conv => whnf
      try dsimp only
      refine ⟨by unfold vp_in; decide, ?_⟩
      conv => whnf
      try dsimp only
      refine ⟨by unfold vp_in; decide, ?_⟩
      conv => whnf
      try dsimp only
      rw [c8, c9, r8', nI_1]
      have o8 : ∀ x, x ≠ 8 → x ≠ 9 + F.2.1 → upI (upI I3 78 (9 + F.2.1) (nI k)) 78 8 (nI (F.2.1 + 1)) 78 x = I3 78 x := fun x h1 h2 => by rw [up_ne h1, up_ne h2]
      refine ⟨trivial, h _ ⟨fun e he => ?_, ?_, ?_, ?_, fun i hi => ?_⟩ (fun r h1 h2 h3 => ?_) (fun x hx => ?_) (fun x hx => ?_)⟩
      · rw [Nat.zero_add, o8 e (by omega) (by omega), (v1 e he).1]
        exact c1 e he
      · show _ = nI (stepQ T F.1 _ _ 0).2.2.2
        rw [Nat.zero_add, o8 6 (by omega) (by omega), v2 6 (by omega) (by omega), knows_step]
        exact g2
      · show _ = nI (stepQ T F.1 _ _ 1).2.2.2
        rw [Nat.zero_add, o8 7 (by omega) (by omega), v2 7 (by omega) (by omega), knows_step]
        exact g3
      · exact up_same
      · have hi : i < F.2.1 + 1 := hi
        show _ = nI (if i = F.2.1 then k else F.2.2.1 i) ∧ ∀ e, e < 6 → _ = nI (pl (if i = F.2.1 then F.1 else F.2.2.2 i) e)
        by_cases hiz : i = F.2.1
        · subst hiz
          rw [if_pos rfl, if_pos rfl]
          refine ⟨by rw [up_ne (by omega), show 0 + 9 + F.2.1 = 9 + F.2.1 by omega, up_same], fun e he => ?_⟩
          rw [o8 _ (by omega) (by omega), show 0 + 49 + 6 * F.2.1 + e = 49 + 6 * F.2.1 + e by omega, (v1 e he).2]
          have := g1 e he
          rw [Nat.zero_add] at this
          exact this
        · rw [if_neg hiz, if_neg hiz]
          obtain ⟨y1, y2⟩ := g5 i (by omega)
          refine ⟨by rw [o8 _ (by omega) (by omega), v2 _ (by omega) (by omega)]; exact y1, fun e he => ?_⟩
          rw [o8 _ (by omega) (by omega), v2 _ (by omega) (by omega)]
          exact y2 e he
      · rw [upI_oth h3, upI_oth h3, v0 r h3, c3 r (by omega) (by omega)]
        exact b5 r h2 (by omega) (by omega) (by omega)
      · rw [upI_oth (by decide), upI_oth (by decide), v0 77 (by decide), c3 77 (by decide) (by decide)]
        exact b6 x hx
      · rw [o8 _ (by omega) (by omega), v2 _ (by omega) (by omega)]
    | succ m ih =>
      intro e I3 he v0 v1 v2
      have r8 : I3 78 8 = nI F.2.1 := by rw [v2 8 (by omega) (by omega)]; exact g4
      have ea : (49 : Int32) + 6 * nI F.2.1 + nI e = nI (49 + 6 * F.2.1 + e) := by rw [i6, show (49 : Int32) + nI (6 * F.2.1) = nI (49 + 6 * F.2.1) from nI_add 49 _, nI_add]
      have a6 : (6 : Int32) + nI e = nI (6 + e) := nI_add 6 e
      have ce : (nI e).toNatClampNeg = e := nI_clamp (by omega)
      have c6 : (nI (6 + e)).toNatClampNeg = 6 + e := nI_clamp (by omega)
      have ca : (nI (49 + 6 * F.2.1 + e)).toNatClampNeg = 49 + 6 * F.2.1 + e := nI_clamp (by omega)
      have ihj := ih (e + 1) (upI (upI I3 78 (49 + 6 * F.2.1 + e) (I3 78 e)) 78 e (I2 97 (6 + e))) (by omega) (fun r hr => by rw [upI_oth hr, upI_oth hr]; exact v0 r hr) (fun x hx => ?_) (fun x hx hx2 => ?_)
      · rw [nI_succ e] at ihj
        refine EV.at ck213 (by decide) 300 [] ?_
        conv => whnf
        try dsimp only
        refine ⟨fun z => absurd z (nI_ge (b := 6) (show e < 6 by omega) (by decide)), fun _ => ?_⟩
        conv => whnf
        try dsimp only
        refine ⟨by unfold vp_in; decide, ?_⟩
        conv => whnf
        try dsimp only
        refine ⟨in_nI (show e < 1156 by omega) (by decide), ?_⟩
        conv => whnf
        try dsimp only
        rw [c8, r8, ea, ce]
        refine ⟨in_nI (show 49 + 6 * F.2.1 + e < 1156 by omega) (by decide), ?_⟩
        conv => whnf
        try dsimp only
        rw [a6]
        refine ⟨in_nI (show 6 + e < 78 by omega) (by decide), ?_⟩
        conv => whnf
        try dsimp only
        refine ⟨in_nI (show e < 1156 by omega) (by decide), ?_⟩
        conv => whnf
        try dsimp only
        rw [ce, ca, c6, upI_oth (r' := 97) (by decide), v0 97 (by decide)]
        exact ⟨trivial, ihj⟩
      · by_cases hxe : x = e
        · subst hxe
          rw [up_same, up_ne (by omega), up_same, v2 x (by omega) (by omega)]
          exact ⟨rfl, rfl⟩
        · obtain ⟨y1, y2⟩ := v1 x (by omega)
          rw [up_ne hxe, up_ne (by omega), up_ne (by omega), up_ne (by omega)]
          exact ⟨y1, y2⟩
      · rw [up_ne (by omega), up_ne (by omega)]
        exact v2 x (by omega) hx2
  have l0 := loop 6 0 I2 (by omega) (fun _ _ => rfl) (fun x hx => absurd hx (Nat.not_lt_zero x)) (fun x _ _ => e8 x)
  refine EV.at ck213 (by decide) 300 [12] ?_
  conv => whnf
  try dsimp only
  exact ⟨trivial, l0⟩
theorem m_go {r : Int32} : RS G n 214 [.int r] (fun a => sp_go a r) := by
  intro D I J Q a hO hC h
  try dsimp only at h
  obtain ⟨hcT, hcF, hcK, hcR, hcX, hcN, hcA, hcU⟩ := id hC
  obtain ⟨oT, oF, oN, oK, oR, oX⟩ := id hO
  unfold sp_go at h
  refine MT.by ck214 (by decide) rfl (Nat.le_of_ble_eq_true rfl) rfl 300 [] ?_
  conv => whnf
  try dsimp only
  refine ⟨trivial, r_isChange oT.1 hcT (fun e1 => ?_) (fun k hk hr e1 => ?_)⟩
  · rw [e1] at h
    refine EV.at ck214 (by decide) 300 [] ?_
    conv => whnf
    try dsimp only
    first | refine ⟨fun h1 => absurd h1 (by decide), fun _ => ?_⟩ | refine ⟨fun _ => ?_, fun h1 => absurd (by decide) h1⟩ | refine ⟨fun h1 => absurd (by decide) h1, fun _ => ?_⟩ | refine ⟨fun _ => ?_, fun h1 => absurd h1 (by decide)⟩
    conv => whnf
    try dsimp only
    exact ⟨trivial, rfin rfl hC (FM.rf I) (FMJ.rf J) h⟩
  rw [e1] at h
  dsimp only at h
  subst hr
  have hh := aH_of hO (Or.inr (by omega))
  have hv := (oF hh).1
  have hz : az a ≤ 40 := (oF hh).2.1
  have hw : aw a < 2 := Nat.mod_lt _ (by decide)
  refine EV.at ck214 (by decide) 300 [] ?_
  conv => whnf
  try dsimp only
  first | refine ⟨fun h1 => absurd h1 (by decide), fun _ => ?_⟩ | refine ⟨fun _ => ?_, fun h1 => absurd (by decide) h1⟩ | refine ⟨fun h1 => absurd (by decide) h1, fun _ => ?_⟩ | refine ⟨fun _ => ?_, fun h1 => absurd h1 (by decide)⟩
  conv => whnf
  try dsimp only
  refine ⟨trivial, r_layRoot hcF.2 (oF hh).2.1 (fun I1 b1 b2 b3 b4 b5 b6 => ?_)⟩
  obtain ⟨hC1, hfm⟩ := hC.wm b5 b6
  refine EV.at ck214 (by decide) 300 [] ?_
  conv => whnf
  try dsimp only
  rw [b3]
  refine ⟨trivial, r_canBe (d := 0) (by decide) hw oT.1 hC1.1 b1 b2 hv hk ?_⟩
  have c8 : Int32.toNatClampNeg 8 = 8 := by decide
  have r8 : I1 78 8 = nI (az a) := hC1.2.1.2.2.2.2.1
  cases hb : canN (aT a) (aq a (aw a)) (aq a (1 - aw a)).1 k
  · rw [hb] at h
    refine EV.at ck214 (by decide) 300 [] ?_
    conv => whnf
    try dsimp only
    first | refine ⟨fun h1 => absurd h1 (by decide), fun _ => ?_⟩ | refine ⟨fun _ => ?_, fun h1 => absurd (by decide) h1⟩ | refine ⟨fun h1 => absurd (by decide) h1, fun _ => ?_⟩ | refine ⟨fun _ => ?_, fun h1 => absurd h1 (by decide)⟩
    conv => whnf
    try dsimp only
    exact ⟨trivial, rfin rfl hC1 hfm (FMJ.rf J) h⟩
  rw [hb, if_pos rfl] at h
  refine EV.at ck214 (by decide) 300 [] ?_
  conv => whnf
  try dsimp only
  first | refine ⟨fun h1 => absurd h1 (by decide), fun _ => ?_⟩ | refine ⟨fun _ => ?_, fun h1 => absurd (by decide) h1⟩ | refine ⟨fun h1 => absurd (by decide) h1, fun _ => ?_⟩ | refine ⟨fun _ => ?_, fun h1 => absurd h1 (by decide)⟩
  conv => whnf
  try dsimp only
  refine ⟨by unfold vp_in; decide, ?_⟩
  conv => whnf
  try dsimp only
  rw [c8, r8]
  by_cases h40 : az a = 40
  · rw [if_pos h40] at h
    rw [h40]
    first | refine ⟨fun h1 => absurd h1 (by decide), fun _ => ?_⟩ | refine ⟨fun _ => ?_, fun h1 => absurd (by decide) h1⟩ | refine ⟨fun h1 => absurd (by decide) h1, fun _ => ?_⟩ | refine ⟨fun _ => ?_, fun h1 => absurd h1 (by decide)⟩
    conv => whnf
    try dsimp only
    exact ⟨trivial, rfin rfl hC1 hfm (FMJ.rf J) h⟩
  rw [if_neg h40] at h
  have ht : takesN (aT a) (aq a (aw a)) (aq a (1 - aw a)).1 k = priceN (aT a) k (aq a (1 - aw a)).1 := by unfold takesN; rw [if_pos hb]
  rw [ht] at h
  refine ⟨fun _ => ?_, fun z => absurd ((nu_eq (b := 40) (show az a < 65536 by omega) (by decide)).mp z) h40⟩
  conv => whnf
  try dsimp only
  rw [b3]
  refine ⟨trivial, r_takes (d := 0) (by decide) hw oT.1 hC1.1 b1 hv hk ?_⟩
  refine EV.at ck214 (by decide) 300 [] ?_
  conv => whnf
  try dsimp only
  refine ⟨trivial, r_does oT.1 hC1.1 hC1.2.1.2 hv (show az a < 40 by omega) hk hb (fun I2 d1 d2 d3 d4 => ?_)⟩
  refine EV.at ck214 (by decide) 300 [] ?_
  conv => whnf
  try dsimp only
  exact ⟨trivial, rfin rfl (hC1.fgt (b := true) d2 (fun k hk => d3 k (by omega)) d4 ⟨by rw [d3 2 (by decide), hC1.2.1.1, hh], d1⟩) (hfm.tr (fun r hr => d2 r (by omega) (by omega) (by omega))) (FMJ.rf J) h⟩
theorem m_undo {r : Int32} : RS G n 215 [.int r] (fun a => sp_undo a r) := by
  intro D I J Q a hO hC h
  try dsimp only at h
  obtain ⟨hcT, hcF, hcK, hcR, hcX, hcN, hcA, hcU⟩ := id hC
  obtain ⟨oT, oF, oN, oK, oR, oX⟩ := id hO
  have hz : az a ≤ 40 := by
    cases hh : aH a with
    | true => exact (oF hh).2.1
    | false => have h0 : az a = 0 := (oN hh).2.2.1; omega
  unfold sp_undo at h
  have c8 : Int32.toNatClampNeg 8 = 8 := by decide
  obtain ⟨g1, g2, g3, g4, g5⟩ := id hcF.2
  have r8 : I 78 8 = nI (az a) := g4
  refine MT.by ck215 (by decide) rfl (Nat.le_of_ble_eq_true rfl) rfl 300 [] ?_
  conv => whnf
  try dsimp only
  refine ⟨by unfold vp_in; decide, ?_⟩
  conv => whnf
  try dsimp only
  rw [c8, r8]
  refine ⟨trivial, r_ix (K := az a + 1) (by rw [nI_l (by omega), pk_lT (by omega)]; omega) (by omega) (fun e1 => ?_) (fun m hm hr e1 => ?_)⟩
  · rw [e1] at h
    refine EV.at ck215 (by decide) 300 [] ?_
    conv => whnf
    try dsimp only
    first | refine ⟨fun h1 => absurd h1 (by decide), fun _ => ?_⟩ | refine ⟨fun _ => ?_, fun h1 => absurd (by decide) h1⟩ | refine ⟨fun h1 => absurd (by decide) h1, fun _ => ?_⟩ | refine ⟨fun _ => ?_, fun h1 => absurd h1 (by decide)⟩
    conv => whnf
    try dsimp only
    exact ⟨trivial, rfin rfl hC (FM.rf I) (FMJ.rf J) h⟩
  rw [e1] at h
  dsimp only at h
  subst hr
  by_cases hmz : m < az a
  · rw [if_pos hmz] at h
    have hh : aH a = true := by
      cases hh : aH a with
      | true => rfl
      | false => have h0 : az a = 0 := (oN hh).2.2.1; omega
    obtain ⟨y1, y2⟩ := g5 m hmz
    have loop : ∀ q e, e + q = 6 → EV G 215 (D + 59) 0 0 31 [.ref 77, .int (nI m), .int (nI (az a - m)), .int (nI e)] [] (SH n, cpI I 78 78 (49 + 6 * m) 0 e, J) Q := by
      intro q
      induction q with
      | zero =>
        intro e he
        have he : e = 6 := he
        subst he
        have o : ∀ x, 6 ≤ x → cpI I 78 78 (49 + 6 * m) 0 6 78 x = I 78 x := fun x hx => by
          unfold cpI
          rw [if_neg (by omega)]
        refine EV.at ck215 (by decide) 300 [] ?_
        conv => whnf
        try dsimp only
        first | refine ⟨fun h1 => absurd h1 (by decide), fun _ => ?_⟩ | refine ⟨fun _ => ?_, fun h1 => absurd (by decide) h1⟩ | refine ⟨fun h1 => absurd (by decide) h1, fun _ => ?_⟩ | refine ⟨fun _ => ?_, fun h1 => absurd h1 (by decide)⟩
        conv => whnf
        try dsimp only
        refine ⟨by unfold vp_in; decide, ?_⟩
        conv => whnf
        try dsimp only
        rw [c8]
        refine ⟨trivial, rfin rfl (hC.fgt (b := true) (fun r _ _ h2 => by rw [upI_oth h2, cp_oth h2]) (fun k _ => by rw [upI_oth (by decide), cp_oth (by decide)]) (fun x hx => by rw [up_ne (by omega)]; exact o x (by omega)) ⟨by rw [upI_oth (by decide), cp_oth (by decide), hcF.1, hh], fun e he => ?_, ?_, ?_, up_same, fun i hi => ?_⟩) (fun r hr => by rw [upI_oth (by omega), cp_oth (by omega)]) (FMJ.rf J) h⟩
        · rw [Nat.zero_add, up_ne (by omega)]
          unfold cpI
          rw [if_pos ⟨rfl, by omega, by omega⟩]
          have := y2 e he
          rw [show 0 + 49 + 6 * m + e = 49 + 6 * m + (e - 0) by omega] at this
          rw [this]
          rcases (show e = 0 ∨ e = 1 ∨ e = 2 ∨ e = 3 ∨ e = 4 ∨ e = 5 by omega) with rfl | rfl | rfl | rfl | rfl | rfl <;> rfl
        · rw [up_ne (by decide), o 6 (by decide)]; exact g2
        · rw [up_ne (by decide), o 7 (by decide)]; exact g3
        · have hi : i < m := hi
          obtain ⟨z1, z2⟩ := g5 i (show i < az a by omega)
          refine ⟨by rw [up_ne (by omega), o _ (by omega)]; exact z1, fun e he => by rw [up_ne (by omega), o _ (by omega)]; exact z2 e he⟩
      | succ q ih =>
        intro e he
        have ihj := ih (e + 1) (by omega)
        have ea : (49 : Int32) + 6 * nI m + nI e = nI (49 + 6 * m + e) := by rw [i6, show (49 : Int32) + nI (6 * m) = nI (49 + 6 * m) from nI_add 49 _, nI_add]
        have ce : (nI e).toNatClampNeg = e := nI_clamp (by omega)
        have ca : (nI (49 + 6 * m + e)).toNatClampNeg = 49 + 6 * m + e := nI_clamp (by omega)
        have rd : cpI I 78 78 (49 + 6 * m) 0 e 78 (49 + 6 * m + e) = I 78 (49 + 6 * m + e) := by
          unfold cpI
          rw [if_neg (by omega)]
        rw [← cp_s, nI_succ e, Nat.zero_add] at ihj
        refine EV.at ck215 (by decide) 300 [] ?_
        conv => whnf
        try dsimp only
        refine ⟨fun z => absurd z (nI_ge (b := 6) (show e < 6 by omega) (by decide)), fun _ => ?_⟩
        conv => whnf
        try dsimp only
        refine ⟨fun z => absurd z (nI_nle (by omega) (by omega)), fun _ => ?_⟩
        conv => whnf
        try dsimp only
        rw [ea]
        refine ⟨in_nI (show 49 + 6 * m + e < 1156 by omega) (by decide), ?_⟩
        conv => whnf
        try dsimp only
        refine ⟨in_nI (show e < 1156 by omega) (by decide), ?_⟩
        conv => whnf
        try dsimp only
        rw [ce, ca, rd]
        exact ⟨trivial, ihj⟩
    have l0 := loop 6 0 (by omega)
    rw [cp_0] at l0
    refine EV.at ck215 (by decide) 300 [31] ?_
    conv => whnf
    try dsimp only
    first | refine ⟨fun h1 => absurd h1 (by decide), fun _ => ?_⟩ | refine ⟨fun _ => ?_, fun h1 => absurd (by decide) h1⟩ | refine ⟨fun h1 => absurd (by decide) h1, fun _ => ?_⟩ | refine ⟨fun _ => ?_, fun h1 => absurd h1 (by decide)⟩
    conv => whnf
    try dsimp only
    refine ⟨by unfold vp_in; decide, ?_⟩
    conv => whnf
    try dsimp only
    rw [c8, r8, pk_sub (show m ≤ az a by omega)]
    exact ⟨trivial, l0⟩
  · rw [if_neg hmz] at h
    have hm2 : m = az a := by omega
    have w8 : upI I 78 8 (nI (az a)) = I := by rw [← r8]; exact up_self
    refine EV.at ck215 (by decide) 300 [] ?_
    conv => whnf
    try dsimp only
    first | refine ⟨fun h1 => absurd h1 (by decide), fun _ => ?_⟩ | refine ⟨fun _ => ?_, fun h1 => absurd (by decide) h1⟩ | refine ⟨fun h1 => absurd (by decide) h1, fun _ => ?_⟩ | refine ⟨fun _ => ?_, fun h1 => absurd h1 (by decide)⟩
    conv => whnf
    try dsimp only
    refine ⟨by unfold vp_in; decide, ?_⟩
    conv => whnf
    try dsimp only
    rw [c8, r8, pk_sub (show m ≤ az a by omega), hm2, Nat.sub_self]
    first | refine ⟨fun h1 => absurd h1 (by decide), fun _ => ?_⟩ | refine ⟨fun _ => ?_, fun h1 => absurd (by decide) h1⟩ | refine ⟨fun h1 => absurd (by decide) h1, fun _ => ?_⟩ | refine ⟨fun _ => ?_, fun h1 => absurd h1 (by decide)⟩
    conv => whnf
    try dsimp only
    first | refine ⟨fun h1 => absurd h1 (by decide), fun _ => ?_⟩ | refine ⟨fun _ => ?_, fun h1 => absurd (by decide) h1⟩ | refine ⟨fun h1 => absurd (by decide) h1, fun _ => ?_⟩ | refine ⟨fun _ => ?_, fun h1 => absurd h1 (by decide)⟩
    conv => whnf
    try dsimp only
    refine ⟨by unfold vp_in; decide, ?_⟩
    conv => whnf
    try dsimp only
    rw [c8, w8]
    exact ⟨trivial, rfin rfl hC (FM.rf I) (FMJ.rf J) h⟩
theorem m_told {r : Int32} : RS G n 216 [.int r] (fun a => sp_told a r) := by
  intro D I J Q a hO hC h
  try dsimp only at h
  obtain ⟨hcT, hcF, hcK, hcR, hcX, hcN, hcA, hcU⟩ := id hC
  obtain ⟨oT, oF, oN, oK, oR, oX⟩ := id hO
  have hz : az a ≤ 40 := by
    cases hh : aH a with
    | true => exact (oF hh).2.1
    | false => have h0 : az a = 0 := (oN hh).2.2.1; omega
  unfold sp_told at h
  have c8 : Int32.toNatClampNeg 8 = 8 := by decide
  obtain ⟨g1, g2, g3, g4, g5⟩ := id hcF.2
  have r8 : I 78 8 = nI (az a) := g4
  refine MT.by ck216 (by decide) rfl (Nat.le_of_ble_eq_true rfl) rfl 300 [] ?_
  conv => whnf
  try dsimp only
  refine ⟨trivial, r_isRow (fun e1 => ?_) (fun j hj hr e1 => ?_)⟩
  · rw [e1] at h
    refine EV.at ck216 (by decide) 300 [] ?_
    conv => whnf
    try dsimp only
    first | refine ⟨fun h1 => absurd h1 (by decide), fun _ => ?_⟩ | refine ⟨fun _ => ?_, fun h1 => absurd (by decide) h1⟩ | refine ⟨fun h1 => absurd (by decide) h1, fun _ => ?_⟩ | refine ⟨fun _ => ?_, fun h1 => absurd h1 (by decide)⟩
    conv => whnf
    try dsimp only
    exact ⟨trivial, rfin rfl hC (FM.rf I) (FMJ.rf J) h⟩
  rw [e1] at h
  subst hr
  refine EV.at ck216 (by decide) 300 [] ?_
  conv => whnf
  try dsimp only
  first | refine ⟨fun h1 => absurd h1 (by decide), fun _ => ?_⟩ | refine ⟨fun _ => ?_, fun h1 => absurd (by decide) h1⟩ | refine ⟨fun h1 => absurd (by decide) h1, fun _ => ?_⟩ | refine ⟨fun _ => ?_, fun h1 => absurd h1 (by decide)⟩
  conv => whnf
  try dsimp only
  refine ⟨by unfold vp_in; decide, ?_⟩
  conv => whnf
  try dsimp only
  rw [c8, r8]
  refine ⟨trivial, r_anew hj ?_⟩
  generalize hI1 : flI (upI I 86 j (nI (az a))) 87 (40 * j) (40 * j + 40) 0 = I1
  have o1 : ∀ r, r ≠ 86 → r ≠ 87 → I1 r = I r := fun r h1 h2 => by
    rw [← hI1]
    unfold flI
    funext k
    rw [if_neg (fun z => h2 z.1), upI_oth h1]
  have o86 : ∀ x, x ≠ j → I1 86 x = I 86 x := fun x hx => by
    rw [← hI1]
    unfold flI
    rw [if_neg (by omega), up_ne hx]
  have s86 : I1 86 j = nI (az a) := by
    rw [← hI1]
    unfold flI
    rw [if_neg (by omega), up_same]
  have o87 : ∀ x, x < 40 * j ∨ 40 * j + 40 ≤ x → I1 87 x = I 87 x := fun x hx => by
    rw [← hI1]
    unfold flI
    rw [if_neg (by omega), upI_oth (by decide)]
  have loop : ∀ m k, k + m = az a → EV G 216 (D + 59) 0 0 23 [.ref 77, .int (nI j), .int (nI k)] [] (SH n, cpI I1 78 87 9 (40 * j) k, J) Q := by
    intro m
    induction m with
    | zero =>
      intro k hk
      have hk : k = az a := hk
      have r8' : cpI I1 78 87 9 (40 * j) k 78 8 = nI (az a) := by rw [cp_oth (by decide), o1 78 (by decide) (by decide)]; exact r8
      refine EV.at ck216 (by decide) 300 [] ?_
      conv => whnf
      try dsimp only
      refine ⟨by unfold vp_in; decide, ?_⟩
      conv => whnf
      try dsimp only
      rw [c8, r8']
      refine pk_le (az a) k (fun _ => ?_) (fun z => absurd z (by omega))
      conv => whnf
      try dsimp only
      refine ⟨by unfold vp_in; decide, ?_⟩
      conv => whnf
      try dsimp only
      rw [c8, r8']
      refine ⟨trivial, rfin rfl (hC.row hj (fun r _ h1 h2 => by rw [cp_oth h2]; exact o1 r h1 h2) (fun r hr => by rw [cp_oth (by decide)]; exact o86 r hr) (by rw [cp_oth (by decide)]; exact s86) (fun x hx => ?_) (fun i hi => ?_) oR) (fun r hr => by rw [cp_oth (by omega)]; exact o1 r (by omega) (by omega)) (FMJ.rf J) h⟩
      · unfold cpI
        rw [if_neg (by omega)]
        exact o87 x hx
      · unfold cpI
        rw [if_pos ⟨rfl, by omega, by omega⟩, o1 78 (by decide) (by decide)]
        have := (g5 i (show i < az a by omega)).1
        rw [← this]
        congr 1
        omega
    | succ m ih =>
      intro k hk
      have ihj := ih (k + 1) (by omega)
      have r8' : cpI I1 78 87 9 (40 * j) k 78 8 = nI (az a) := by rw [cp_oth (by decide), o1 78 (by decide) (by decide)]; exact r8
      have a9 : (9 : Int32) + nI k = nI (9 + k) := nI_add 9 k
      have c9 : (nI (9 + k)).toNatClampNeg = 9 + k := nI_clamp (by omega)
      have ca : (nI (40 * j + k)).toNatClampNeg = 40 * j + k := nI_clamp (by omega)
      rw [← cp_s, nI_succ k] at ihj
      refine EV.at ck216 (by decide) 300 [] ?_
      conv => whnf
      try dsimp only
      refine ⟨by unfold vp_in; decide, ?_⟩
      conv => whnf
      try dsimp only
      rw [c8, r8']
      refine pk_le (az a) k (fun z => absurd z (by omega)) (fun _ => ?_)
      conv => whnf
      try dsimp only
      rw [a9]
      refine ⟨in_nI (show 9 + k < 1156 by omega) (by decide), ?_⟩
      conv => whnf
      try dsimp only
      rw [i40]
      refine ⟨in_nI (show 40 * j + k < 240 by omega) (by decide), ?_⟩
      conv => whnf
      try dsimp only
      rw [c9, ca, cp_oth (r := 78) (by decide)]
      exact ⟨trivial, ihj⟩
  have l0 := loop (az a) 0 (by omega)
  rw [cp_0] at l0
  refine EV.at ck216 (by decide) 300 [23] ?_
  conv => whnf
  try dsimp only
  exact ⟨trivial, l0⟩
theorem wM_cp {F : FG} {b : Nat} {I' : Nat → Nat → Int32} {b' : Nat} (h : wM b F I) (hz : F.2.1 ≤ 40) (hc : ∀ x, x < 289 → I' 78 (b' + x) = I 78 (b + x)) : wM b' F I' := by
  obtain ⟨g1, g2, g3, g4, g5⟩ := h
  refine ⟨fun e he => by rw [hc e (by omega)]; exact g1 e he, by rw [hc 6 (by omega)]; exact g2, by rw [hc 7 (by omega)]; exact g3, by rw [hc 8 (by omega)]; exact g4, fun i hi => ⟨?_, fun e he => ?_⟩⟩
  · rw [Nat.add_assoc, hc (9 + i) (by omega), ← Nat.add_assoc]
    exact (g5 i hi).1
  · rw [show b' + 49 + 6 * i + e = b' + (49 + 6 * i + e) by omega, hc (49 + 6 * i + e) (by omega), show b + (49 + 6 * i + e) = b + 49 + 6 * i + e by omega]
    exact (g5 i hi).2 e he
theorem m_keep {r : Int32} : RS G n 217 [.int r] (fun a => sp_keep a r) := by
  intro D I J Q a hO hC h
  try dsimp only at h
  obtain ⟨hcT, hcF, hcK, hcR, hcX, hcN, hcA, hcU⟩ := id hC
  obtain ⟨oT, oF, oN, oK, oR, oX⟩ := id hO
  unfold sp_keep at h
  have c8 : Int32.toNatClampNeg 8 = 8 := by decide
  refine MT.by ck217 (by decide) rfl (Nat.le_of_ble_eq_true rfl) rfl 300 [] ?_
  conv => whnf
  try dsimp only
  refine ⟨trivial, r_ix (K := 3) (by decide) (by decide) (fun e1 => ?_) (fun j hj hr e1 => ?_)⟩
  · rw [e1] at h
    refine EV.at ck217 (by decide) 300 [] ?_
    conv => whnf
    try dsimp only
    first | refine ⟨fun h1 => absurd h1 (by decide), fun _ => ?_⟩ | refine ⟨fun _ => ?_, fun h1 => absurd (by decide) h1⟩ | refine ⟨fun h1 => absurd (by decide) h1, fun _ => ?_⟩ | refine ⟨fun _ => ?_, fun h1 => absurd h1 (by decide)⟩
    conv => whnf
    try dsimp only
    exact ⟨trivial, rfin rfl hC (FM.rf I) (FMJ.rf J) h⟩
  rw [e1] at h
  dsimp only at h
  subst hr
  have cj : (nI j).toNatClampNeg = j := nI_clamp (by omega)
  refine EV.at ck217 (by decide) 300 [26] ?_
  conv => whnf
  try dsimp only
  first | refine ⟨fun h1 => absurd h1 (by decide), fun _ => ?_⟩ | refine ⟨fun _ => ?_, fun h1 => absurd (by decide) h1⟩ | refine ⟨fun h1 => absurd (by decide) h1, fun _ => ?_⟩ | refine ⟨fun _ => ?_, fun h1 => absurd h1 (by decide)⟩
  conv => whnf
  try dsimp only
  rw [hcF.1]
  cases hh : aH a
  · rw [hh] at h
    first | refine ⟨fun h1 => absurd h1 (by decide), fun _ => ?_⟩ | refine ⟨fun _ => ?_, fun h1 => absurd (by decide) h1⟩ | refine ⟨fun h1 => absurd (by decide) h1, fun _ => ?_⟩ | refine ⟨fun _ => ?_, fun h1 => absurd h1 (by decide)⟩
    conv => whnf
    try dsimp only
    exact ⟨trivial, rfin rfl hC (FM.rf I) (FMJ.rf J) h⟩
  rw [hh, if_pos rfl] at h
  have hz : az a ≤ 40 := (oF hh).2.1
  have loop : ∀ m e, e + m = 289 → EV G 217 (D + 59) 0 0 26 [.ref 77, .int (nI j), .int (nI e)] [] (SH n, cpI I 78 78 0 (289 * (j + 1)) e, J) Q := by
    intro m
    induction m with
    | zero =>
      intro e he
      have he : e = 289 := he
      subst he
      have o : ∀ x, (x < 289 * (j + 1) ∨ 289 * (j + 1) + 289 ≤ x) → cpI I 78 78 0 (289 * (j + 1)) 289 78 x = I 78 x := fun x hx => by
        unfold cpI
        rw [if_neg (by omega)]
      have w : ∀ x, x < 289 → cpI I 78 78 0 (289 * (j + 1)) 289 78 (289 * (j + 1) + x) = I 78 (0 + x) := fun x hx => by
        unfold cpI
        rw [if_pos ⟨rfl, by omega, by omega⟩, Nat.add_sub_cancel_left]
      refine EV.at ck217 (by decide) 300 [] ?_
      conv => whnf
      try dsimp only
      first | refine ⟨fun h1 => absurd h1 (by decide), fun _ => ?_⟩ | refine ⟨fun _ => ?_, fun h1 => absurd (by decide) h1⟩ | refine ⟨fun h1 => absurd (by decide) h1, fun _ => ?_⟩ | refine ⟨fun _ => ?_, fun h1 => absurd h1 (by decide)⟩
      conv => whnf
      try dsimp only
      refine ⟨⟨in_nI hj (by decide), Or.inr rfl⟩, ?_⟩
      conv => whnf
      try dsimp only
      refine ⟨by unfold vp_in; decide, ?_⟩
      conv => whnf
      try dsimp only
      rw [c8, cj, upI_oth (r' := 78) (by decide), o 8 (by omega), show I 78 8 = nI (az a) from hcF.2.2.2.2.1]
      have oo : ∀ r, r ≠ 78 → r ≠ 79 → upI (cpI I 78 78 0 (289 * (j + 1)) 289) 79 j 1 r = I r := fun r h1 h2 => by rw [upI_oth h2, cp_oth h1]
      have o8 : upI (cpI I 78 78 0 (289 * (j + 1)) 289) 79 j 1 78 = cpI I 78 78 0 (289 * (j + 1)) 289 78 := upI_oth (by decide)
      have e7 := oo 77 (by decide) (by decide)
      refine ⟨trivial, rfin (a' := uK a (fun x => if x = j then (true, aF a) else aK a x)) rfl ⟨hcT.of (fun r _ _ => oo r (by omega) (by omega)) (by rw [e7]) (by rw [e7]), ⟨by rw [e7]; exact hcF.1, wM_cp hcF.2 hz (fun x hx => by rw [o8]; exact o _ (by omega))⟩, fun k hk => ?_, hcR.of (oo 86 (by decide) (by decide)) (oo 87 (by decide) (by decide)), hcX.of (oo 88 (by decide) (by decide)) (oo 89 (by decide) (by decide)), hcN.of (by rw [e7]) (oo 85 (by decide) (by decide)), by rw [e7]; exact hcA, hcU⟩ (fun r hr => oo r (by omega) (by omega)) (FMJ.rf J) h⟩
      show _ = b2i (if k = j then (true, aF a) else aK a k).1 ∧ ((if k = j then (true, aF a) else aK a k).1 = true → wM _ (if k = j then (true, aF a) else aK a k).2 _)
      by_cases hkj : k = j
      · subst hkj
        rw [if_pos rfl]
        exact ⟨up_same, fun _ => wM_cp hcF.2 hz (fun x hx => by rw [o8]; exact w x hx)⟩
      · rw [if_neg hkj, up_ne hkj, cp_oth (by decide)]
        obtain ⟨k1, k2⟩ := hcK k hk
        refine ⟨k1, fun hb => wM_cp (k2 hb) (oK k hk hb).2.2.1 (fun x hx => by rw [o8]; exact o _ (by omega))⟩
    | succ m ih =>
      intro e he
      have ihj := ih (e + 1) (by omega)
      have ea : (289 : Int32) * (nI j + 1) + nI e = nI (289 * (j + 1) + e) := by rw [nI_1, show (289 : Int32) * nI (j + 1) = nI (289 * (j + 1)) from pk_mul 289 _, nI_add]
      have ce : (nI e).toNatClampNeg = e := nI_clamp (by omega)
      have ca : (nI (289 * (j + 1) + e)).toNatClampNeg = 289 * (j + 1) + e := nI_clamp (by omega)
      have rd : cpI I 78 78 0 (289 * (j + 1)) e 78 e = I 78 e := by
        unfold cpI
        rw [if_neg (by omega)]
      rw [← cp_s, nI_succ e, Nat.zero_add] at ihj
      refine EV.at ck217 (by decide) 300 [] ?_
      conv => whnf
      try dsimp only
      refine ⟨fun z => absurd z (nI_ge (b := 289) (show e < 289 by omega) (by decide)), fun _ => ?_⟩
      conv => whnf
      try dsimp only
      refine ⟨in_nI (show e < 1156 by omega) (by decide), ?_⟩
      conv => whnf
      try dsimp only
      rw [ce, rd, ea]
      refine ⟨in_nI (show 289 * (j + 1) + e < 1156 by omega) (by decide), ?_⟩
      conv => whnf
      try dsimp only
      rw [ca]
      exact ⟨trivial, ihj⟩
  have l0 := loop 289 0 (by omega)
  rw [cp_0] at l0
  first | refine ⟨fun h1 => absurd h1 (by decide), fun _ => ?_⟩ | refine ⟨fun _ => ?_, fun h1 => absurd (by decide) h1⟩ | refine ⟨fun h1 => absurd (by decide) h1, fun _ => ?_⟩ | refine ⟨fun _ => ?_, fun h1 => absurd h1 (by decide)⟩
  conv => whnf
  try dsimp only
  exact ⟨trivial, l0⟩
theorem m_on {r : Int32} : RS G n 218 [.int r] (fun a => sp_on a r) := by
  intro D I J Q a hO hC h
  try dsimp only at h
  obtain ⟨hcT, hcF, hcK, hcR, hcX, hcN, hcA, hcU⟩ := id hC
  obtain ⟨oT, oF, oN, oK, oR, oX⟩ := id hO
  unfold sp_on at h
  have c8 : Int32.toNatClampNeg 8 = 8 := by decide
  refine MT.by ck218 (by decide) rfl (Nat.le_of_ble_eq_true rfl) rfl 300 [] ?_
  conv => whnf
  try dsimp only
  refine ⟨trivial, r_ix (K := 3) (by decide) (by decide) (fun e1 => ?_) (fun j hj hr e1 => ?_)⟩
  · rw [e1] at h
    refine EV.at ck218 (by decide) 300 [] ?_
    conv => whnf
    try dsimp only
    first | refine ⟨fun h1 => absurd h1 (by decide), fun _ => ?_⟩ | refine ⟨fun _ => ?_, fun h1 => absurd (by decide) h1⟩ | refine ⟨fun h1 => absurd (by decide) h1, fun _ => ?_⟩ | refine ⟨fun _ => ?_, fun h1 => absurd h1 (by decide)⟩
    conv => whnf
    try dsimp only
    exact ⟨trivial, rfin rfl hC (FM.rf I) (FMJ.rf J) h⟩
  rw [e1] at h
  dsimp only at h
  subst hr
  have cj : (nI j).toNatClampNeg = j := nI_clamp (by omega)
  obtain ⟨k1, k2⟩ := hcK j hj
  refine EV.at ck218 (by decide) 300 [31] ?_
  conv => whnf
  try dsimp only
  first | refine ⟨fun h1 => absurd h1 (by decide), fun _ => ?_⟩ | refine ⟨fun _ => ?_, fun h1 => absurd (by decide) h1⟩ | refine ⟨fun h1 => absurd (by decide) h1, fun _ => ?_⟩ | refine ⟨fun _ => ?_, fun h1 => absurd h1 (by decide)⟩
  conv => whnf
  try dsimp only
  refine ⟨in_nI hj (by decide), ?_⟩
  conv => whnf
  try dsimp only
  rw [cj, k1]
  cases hh : (aK a j).1
  · rw [hh] at h
    first | refine ⟨fun h1 => absurd h1 (by decide), fun _ => ?_⟩ | refine ⟨fun _ => ?_, fun h1 => absurd (by decide) h1⟩ | refine ⟨fun h1 => absurd (by decide) h1, fun _ => ?_⟩ | refine ⟨fun _ => ?_, fun h1 => absurd h1 (by decide)⟩
    conv => whnf
    try dsimp only
    refine ⟨trivial, r_found (f := 1) (by decide) ?_⟩
    refine EV.at ck218 (by decide) 300 [] ?_
    conv => whnf
    try dsimp only
    exact ⟨trivial, rfin rfl (hC.fnd (by decide)) FM.fnd (FMJ.rf J) h⟩
  rw [hh, if_pos rfl] at h
  obtain ⟨hH, hfo⟩ := oK j hj hh
  have hz := hfo.2.1
  have loop : ∀ m e, e + m = 289 → EV G 218 (D + 59) 0 0 31 [.ref 77, .int (nI j), .int (nI e)] [] (SH n, cpI I 78 78 (289 * (j + 1)) 0 e, J) Q := by
    intro m
    induction m with
    | zero =>
      intro e he
      have he : e = 289 := he
      subst he
      have o : ∀ x, 289 ≤ x → cpI I 78 78 (289 * (j + 1)) 0 289 78 x = I 78 x := fun x hx => by
        unfold cpI
        rw [if_neg (by omega)]
      have w : ∀ x, x < 289 → cpI I 78 78 (289 * (j + 1)) 0 289 78 (0 + x) = I 78 (289 * (j + 1) + x) := fun x hx => by
        unfold cpI
        rw [if_pos ⟨rfl, by omega, by omega⟩]
        congr 1
        omega
      have hw0 : wM 0 (aK a j).2 (cpI I 78 78 (289 * (j + 1)) 0 289) := wM_cp (k2 hh) hz w
      refine EV.at ck218 (by decide) 300 [] ?_
      conv => whnf
      try dsimp only
      first | refine ⟨fun h1 => absurd h1 (by decide), fun _ => ?_⟩ | refine ⟨fun _ => ?_, fun h1 => absurd (by decide) h1⟩ | refine ⟨fun h1 => absurd (by decide) h1, fun _ => ?_⟩ | refine ⟨fun _ => ?_, fun h1 => absurd h1 (by decide)⟩
      conv => whnf
      try dsimp only
      refine ⟨by unfold vp_in; decide, ?_⟩
      conv => whnf
      try dsimp only
      rw [c8, show cpI I 78 78 (289 * (j + 1)) 0 289 78 8 = nI (aK a j).2.2.1 from hw0.2.2.2.1]
      exact ⟨trivial, rfin rfl (hC.fgt (b := true) (fun r _ _ h2 => cp_oth h2) (fun k _ => by rw [cp_oth (by decide)]) o ⟨by rw [cp_oth (by decide), hcF.1, hH], hw0⟩) (fun r hr => cp_oth (by omega)) (FMJ.rf J) h⟩
    | succ m ih =>
      intro e he
      have ihj := ih (e + 1) (by omega)
      have ea : (289 : Int32) * (nI j + 1) + nI e = nI (289 * (j + 1) + e) := by rw [nI_1, show (289 : Int32) * nI (j + 1) = nI (289 * (j + 1)) from pk_mul 289 _, nI_add]
      have ce : (nI e).toNatClampNeg = e := nI_clamp (by omega)
      have ca : (nI (289 * (j + 1) + e)).toNatClampNeg = 289 * (j + 1) + e := nI_clamp (by omega)
      have rd : cpI I 78 78 (289 * (j + 1)) 0 e 78 (289 * (j + 1) + e) = I 78 (289 * (j + 1) + e) := by
        unfold cpI
        rw [if_neg (by omega)]
      rw [← cp_s, nI_succ e, Nat.zero_add] at ihj
      refine EV.at ck218 (by decide) 300 [] ?_
      conv => whnf
      try dsimp only
      refine ⟨fun z => absurd z (nI_ge (b := 289) (show e < 289 by omega) (by decide)), fun _ => ?_⟩
      conv => whnf
      try dsimp only
      rw [ea]
      refine ⟨in_nI (show 289 * (j + 1) + e < 1156 by omega) (by decide), ?_⟩
      conv => whnf
      try dsimp only
      refine ⟨in_nI (show e < 1156 by omega) (by decide), ?_⟩
      conv => whnf
      try dsimp only
      rw [ce, ca, rd]
      exact ⟨trivial, ihj⟩
  have l0 := loop 289 0 (by omega)
  rw [cp_0] at l0
  first | refine ⟨fun h1 => absurd h1 (by decide), fun _ => ?_⟩ | refine ⟨fun _ => ?_, fun h1 => absurd (by decide) h1⟩ | refine ⟨fun h1 => absurd (by decide) h1, fun _ => ?_⟩ | refine ⟨fun _ => ?_, fun h1 => absurd h1 (by decide)⟩
  conv => whnf
  try dsimp only
  exact ⟨trivial, l0⟩
end
