/-! the reference's calls: cover, counts -/
theorem kd_1 : ∀ q, q < 6 → isB q 1 = (decide (q = 1) || decide (q = 5)) := by decide
theorem kd_2 : ∀ q, q < 6 → isB q 2 = (decide (q = 2) || decide (q = 4)) := by decide
theorem szI_ge {m : Nat} (hm : m ≤ 100) : 0 ≤ szI m ↔ m ≠ 0 := by
  rw [← Int32.not_lt, szI_neg hm]
section
variable {G : GG} {D n : Nat} {I : Nat → Nat → Int32} {J : Nat → Nat → Int64} {Q : Option Value → MH → Prop}
theorem m_cover : RS G n 246 [] sp_cover := by
  intro D I J Q a hO hC h
  try dsimp only at h
  obtain ⟨hcT, hcF, hcK, hcR, hcX, hcN, hcA, hcU⟩ := id hC
  obtain ⟨oT, oF, oN, oK, oR, oX⟩ := id hO
  unfold sp_cover aCv at h
  have hT := oT.1
  have h5 : tS (aT a) ≤ 5 := hT.1
  have hS : I 77 3 = nI (tS (aT a)) := hcT.1
  generalize hTT : aT a = T at *
  have hp : 2 ^ tS T ≤ 2 ^ 5 := Nat.pow_le_pow_right (by decide) h5
  have hp1 : 0 < 2 ^ tS T := Nat.two_pow_pos _
  obtain ⟨v1, v2⟩ := ev_eq (tS T) (by omega)
  have hcl : ∀ m b, m ≤ 32 → b < 32 → cvN T m b < 32 := by
    intro m
    induction m with
    | zero => exact fun b _ hb => hb
    | succ m ih =>
      intro b hm hb
      unfold cvN
      refine ih _ (by omega) ?_
      split
      · omega
      · exact hb
  generalize hA : bbN T (2 ^ tS T - 1) (tS T) = A
  have hA32 : A < 32 := by rw [← hA]; exact bbN_lt h5 (tS T)
  have loop : ∀ m b (z4 z5 : Value), m ≤ 32 → b < 32 → cvN T m b = cvN T (2 ^ tS T) (2 ^ tS T - 1) → EV G 246 (D + 59) 0 0 37 [.ref 77, .int (nI A), .int (nI b), .int (nI m - 1), z4, z5] [] (SH n, I, J) Q := by
    intro m
    induction m with
    | zero =>
      intro b z4 z5 hm hb he
      have he : b = cvN T (2 ^ tS T) (2 ^ tS T - 1) := he
      rw [← he] at h
      refine EV.at ck246 (by decide) 300 [] ?_
      conv => whnf
      try dsimp only
      first | refine ⟨fun h1 => absurd h1 (by decide), fun _ => ?_⟩ | refine ⟨fun _ => ?_, fun h1 => absurd (by decide) h1⟩ | refine ⟨fun h1 => absurd (by decide) h1, fun _ => ?_⟩ | refine ⟨fun _ => ?_, fun h1 => absurd h1 (by decide)⟩
      conv => whnf
      try dsimp only
      refine ⟨trivial, r_ones (by omega) ?_⟩
      refine EV.at ck246 (by decide) 300 [] ?_
      conv => whnf
      try dsimp only
      refine ⟨trivial, r_says ?_⟩
      refine EV.at ck246 (by decide) 300 [] ?_
      conv => whnf
      try dsimp only
      exact ⟨trivial, rfin rfl hC.ask ((FM.rf I).up (by decide)) (FMJ.rf J) h⟩
    | succ m ih =>
      intro b z4 z5 hm hb he
      have he : cvN T m (if bbN T m (tS T) = bbN T (2 ^ tS T - 1) (tS T) ∧ pcN 12 m ≤ pcN 12 b then m else b) = _ := he
      rw [hA] at he
      have c1 := (pc_le m (by omega)).1
      have c2 := (pc_le b (by omega)).1
      have e108 : ∀ b' (z4 z5 : Value), b' < 32 → cvN T m b' = cvN T (2 ^ tS T) (2 ^ tS T - 1) → EV G 246 (D + 59) 0 0 109 [.ref 77, .int (nI A), .int (nI b'), .int (nI m), z4, z5] [] (SH n, I, J) Q := by
        intro b' z4 z5 hb' he'
        have ihj := ih b' z4 z5 (by omega) hb' he'
        rw [← m1_eq] at ihj
        refine EV.at ck246 (by decide) 300 [] ?_
        conv => whnf
        try dsimp only
        exact ⟨trivial, ihj⟩
      have inner : ∀ l i, i + l = tS T → EV G 246 (D + 59) 0 0 47 [.ref 77, .int (nI A), .int (nI b), .int (nI m), .int (nI (bbN T m i)), .int (nI i)] [] (SH n, I, J) Q := by
        intro l
        induction l with
        | zero =>
          intro i hi
          have hi : i = tS T := hi
          have l1 := bbN_lt (T := T) (b := m) h5 (tS T)
          rw [hi]
          refine EV.at ck246 (by decide) 300 [109] ?_
          conv => whnf
          try dsimp only
          rw [hS]
          refine pk_le (tS T) (tS T) (fun _ => ?_) (fun z => absurd z (by omega))
          conv => whnf
          try dsimp only
          refine ⟨fun z => ?_, fun z => ?_⟩
          · rw [if_neg (fun q => z (by rw [q.1]))] at he
            conv => whnf
            try dsimp only
            exact ⟨trivial, e108 b _ _ hb he⟩
          · have z' := (nu_eq (by omega) (by omega)).mp z
            conv => whnf
            try dsimp only
            refine ⟨trivial, r_ones (by omega) ?_⟩
            refine EV.at ck246 (by decide) 300 [109] ?_
            conv => whnf
            try dsimp only
            refine ⟨trivial, r_ones (by omega) ?_⟩
            refine EV.at ck246 (by decide) 300 [109] ?_
            conv => whnf
            try dsimp only
            refine pk_lt (pcN 12 b) (pcN 12 m) (fun h2 => ?_) (fun h2 => ?_)
            · rw [if_neg (fun q => by omega)] at he
              conv => whnf
              try dsimp only
              exact ⟨trivial, e108 b _ _ hb he⟩
            · rw [if_pos ⟨z', h2⟩] at he
              conv => whnf
              try dsimp only
              exact ⟨trivial, e108 m _ _ (by omega) he⟩
        | succ l ihl =>
          intro i hi
          have ihj := ihl (i + 1) (by omega)
          have e : bbN T m (i + 1) = bbN T m i ||| (if m.testBit i then orN (btT T i) (tS T) else 0) := rfl
          rw [e, nI_succ i, ← fa_or] at ihj
          refine EV.at ck246 (by decide) 300 [109] ?_
          conv => whnf
          try dsimp only
          rw [hS]
          refine pk_le (tS T) i (fun z => absurd z (by omega)) (fun _ => ?_)
          conv => whnf
          try dsimp only
          refine ⟨trivial, r_has (by omega) (by omega) ?_⟩
          cases hb1 : m.testBit i
          · rw [hb1] at ihj
            refine EV.at ck246 (by decide) 300 [109] ?_
            conv => whnf
            try dsimp only
            first | refine ⟨fun h1 => absurd h1 (by decide), fun _ => ?_⟩ | refine ⟨fun _ => ?_, fun h1 => absurd (by decide) h1⟩ | refine ⟨fun h1 => absurd (by decide) h1, fun _ => ?_⟩ | refine ⟨fun _ => ?_, fun h1 => absurd h1 (by decide)⟩
            conv => whnf
            try dsimp only
            exact ⟨trivial, ihj⟩
          · rw [hb1, if_pos rfl] at ihj
            refine EV.at ck246 (by decide) 300 [109] ?_
            conv => whnf
            try dsimp only
            first | refine ⟨fun h1 => absurd h1 (by decide), fun _ => ?_⟩ | refine ⟨fun _ => ?_, fun h1 => absurd (by decide) h1⟩ | refine ⟨fun h1 => absurd (by decide) h1, fun _ => ?_⟩ | refine ⟨fun _ => ?_, fun h1 => absurd h1 (by decide)⟩
            conv => whnf
            try dsimp only
            refine ⟨trivial, r_beatsOf hT hcT (by omega) ?_⟩
            refine EV.at ck246 (by decide) 300 [109] ?_
            conv => whnf
            try dsimp only
            exact ⟨trivial, ihj⟩
      have l0 := inner (tS T) 0 (by omega)
      rw [nI_pred]
      refine EV.at ck246 (by decide) 300 [47] ?_
      conv => whnf
      try dsimp only
      refine ⟨fun h1 => absurd h1 (nI_pos (by omega)), fun _ => ?_⟩
      conv => whnf
      try dsimp only
      exact ⟨trivial, l0⟩
  have all : ∀ l i, i + l = tS T → EV G 246 (D + 59) 0 0 4 [.ref 77, .int (nI (bbN T (2 ^ tS T - 1) i)), .int (nI i), dm, dm, dm] [] (SH n, I, J) Q := by
    intro l
    induction l with
    | zero =>
      intro i hi
      have hi : i = tS T := hi
      have l0 := loop (2 ^ tS T) (2 ^ tS T - 1) dm dm (by omega) (by omega) rfl
      rw [hi, hA]
      refine EV.at ck246 (by decide) 300 [37] ?_
      conv => whnf
      try dsimp only
      rw [hS]
      refine pk_le (tS T) (tS T) (fun _ => ?_) (fun z => absurd z (by omega))
      conv => whnf
      try dsimp only
      rw [hS, v1]
      rw [show nI (2 ^ tS T) - 1 = nI (2 ^ tS T - 1) from pk_sub (b := 1) (by omega)] at l0
      exact ⟨trivial, l0⟩
    | succ l ih =>
      intro i hi
      have ihj := ih (i + 1) (by omega)
      have e : bbN T (2 ^ tS T - 1) (i + 1) = bbN T (2 ^ tS T - 1) i ||| (if (2 ^ tS T - 1).testBit i then orN (btT T i) (tS T) else 0) := rfl
      rw [e, nI_succ i, ← fa_or, Nat.testBit_two_pow_sub_one, decide_eq_true (show i < tS T by omega), if_pos rfl] at ihj
      refine EV.at ck246 (by decide) 300 [37] ?_
      conv => whnf
      try dsimp only
      rw [hS]
      refine pk_le (tS T) i (fun z => absurd z (by omega)) (fun _ => ?_)
      conv => whnf
      try dsimp only
      refine ⟨trivial, r_beatsOf hT hcT (by omega) ?_⟩
      refine EV.at ck246 (by decide) 300 [37] ?_
      conv => whnf
      try dsimp only
      exact ⟨trivial, ihj⟩
  refine MT.by ck246 (by decide) rfl (Nat.le_of_ble_eq_true rfl) rfl 300 [4] ?_
  conv => whnf
  try dsimp only
  exact ⟨trivial, all (tS T) 0 (by omega)⟩
theorem r_kindsMany {T : TN} {x y k : Nat} (hx : x < 6) (hy : y < 6) (hT : tOK T) (hM : mT T I) (hk : ∀ q, q < 6 → isB q k = (decide (q = x) || decide (q = y))) (h : Q (some (.int (nI (cntN (fun i => isB (tK T i) k) (tS T))))) (SH n, I, J)) : MT G (D + 1) 252 [.ref 77, .int (nI x), .int (nI y)] (SH n, I, J) Q := by
  have h5 : tS T ≤ 5 := hT.1
  have loop : ∀ m j, j + m = tS T → EV G 252 D 0 0 5 [.ref 77, .int (nI x), .int (nI y), .int (nI (cntN (fun i => isB (tK T i) k) j)), .int (nI j)] [] (SH n, I, J) Q := by
    intro m
    induction m with
    | zero =>
      intro j hj
      have hj : j = tS T := hj
      rw [hj]
      refine EV.at ck252 (by decide) 300 [] ?_
      conv => whnf
      try dsimp only
      rw [hM.1]
      refine pk_le (tS T) (tS T) (fun _ => ?_) (fun z => absurd z (by omega))
      conv => whnf
      try dsimp only
      exact ⟨trivial, h⟩
    | succ m ih =>
      intro j hj
      have ihj := ih (j + 1) (by omega)
      have cj : (nI j).toNatClampNeg = j := nI_clamp (by omega)
      have hk6 : tK T j < 6 := hT.2.1 j (by omega) |>.1
      have r80 : I 80 j = nI (tK T j) := (hM.2.1 j (by omega)).1
      have e : cntN (fun i => isB (tK T i) k) (j + 1) = cntN (fun i => isB (tK T i) k) j + (if isB (tK T j) k then 1 else 0) := rfl
      rw [e, nI_succ j, hk _ hk6] at ihj
      refine EV.at ck252 (by decide) 300 [] ?_
      conv => whnf
      try dsimp only
      rw [hM.1]
      refine pk_le (tS T) j (fun z => absurd z (by omega)) (fun _ => ?_)
      conv => whnf
      try dsimp only
      refine ⟨in_nI (show j < 5 by omega) (by decide), ?_⟩
      conv => whnf
      try dsimp only
      rw [cj, r80]
      refine pk_eq (tK T j) x (fun z => ?_) (fun z => ?_)
      · rw [decide_eq_true z, Bool.true_or, if_pos rfl, nI_succ (cntN _ _)] at ihj
        conv => whnf
        try dsimp only
        exact ⟨trivial, ihj⟩
      · conv => whnf
        try dsimp only
        refine ⟨in_nI (show j < 5 by omega) (by decide), ?_⟩
        conv => whnf
        try dsimp only
        rw [cj, r80]
        refine ⟨fun z2 => ?_, fun z2 => ?_⟩
        · have z2' : ¬ tK T j = y := fun u => z2 (by rw [u])
          rw [decide_eq_false z, decide_eq_false z2', Bool.or_false, if_neg (by decide), Nat.add_zero] at ihj
          conv => whnf
          try dsimp only
          rw [Int32.add_zero]
          exact ⟨trivial, ihj⟩
        · have z2' : tK T j = y := (nu_eq (by omega) (by omega)).mp z2
          rw [decide_eq_false z, decide_eq_true z2', Bool.or_true, if_pos rfl, nI_succ (cntN _ _)] at ihj
          conv => whnf
          try dsimp only
          exact ⟨trivial, ihj⟩
  refine MT.by ck252 (by decide) rfl (Nat.le_of_ble_eq_true rfl) rfl 300 [5] ?_
  conv => whnf
  try dsimp only
  exact ⟨trivial, loop (tS T) 0 (by omega)⟩
theorem r_thereMany {a : AB} {k : Nat} {P : Nat → Bool} (hO : aOK a) (hC : MA a I J) (hk : (k = 6 ∧ ∀ r, r < 6 → P r = decide (aRs a r ≠ 0)) ∨ (k = 7 ∧ ∀ r, r < 6 → P r = decide (r < 4 ∧ aTs a r ≠ 0)) ∨ (k = 8 ∧ ∀ r, r < 6 → P r = (decide (r < 3) && (aK a r).1))) (h : Q (some (.int (nI (cntN P 6)))) (SH n, I, J)) : MT G (D + 1) 253 [.ref 77, .int (nI k)] (SH n, I, J) Q := by
  obtain ⟨hcT, hcF, hcK, hcR, hcX, hcN, hcA, hcU⟩ := id hC
  obtain ⟨oT, oF, oN, oK, oR, oX⟩ := id hO
  have loop : ∀ m j, j + m = 6 → EV G 253 D 0 0 4 [.ref 77, .int (nI k), .int (nI (cntN P j)), .int (nI j)] [] (SH n, I, J) Q := by
    intro m
    induction m with
    | zero =>
      intro j hj
      have hj : j = 6 := hj
      subst hj
      refine EV.at ck253 (by decide) 300 [] ?_
      conv => whnf
      try dsimp only
      first | refine ⟨fun h1 => absurd h1 (by decide), fun _ => ?_⟩ | refine ⟨fun _ => ?_, fun h1 => absurd (by decide) h1⟩ | refine ⟨fun h1 => absurd (by decide) h1, fun _ => ?_⟩ | refine ⟨fun _ => ?_, fun h1 => absurd h1 (by decide)⟩
      conv => whnf
      try dsimp only
      exact ⟨trivial, h⟩
    | succ m ih =>
      intro j hj
      have ihj := ih (j + 1) (by omega)
      have cj : (nI j).toNatClampNeg = j := nI_clamp (by omega)
      have e : cntN P (j + 1) = cntN P j + (if P j then 1 else 0) := rfl
      rw [e, nI_succ j] at ihj
      have e84 : P j = true → EV G 253 D 0 0 84 [.ref 77, .int (nI k), .int (nI (cntN P j)), .int (nI j)] [.int (nI (cntN P j))] (SH n, I, J) Q := by
        intro hp
        rw [hp, if_pos rfl, nI_succ (cntN P j)] at ihj
        refine EV.at ck253 (by decide) 300 [] ?_
        conv => whnf
        try dsimp only
        exact ⟨trivial, ihj⟩
      have e88 : P j = false → EV G 253 D 0 0 88 [.ref 77, .int (nI k), .int (nI (cntN P j)), .int (nI j)] [.int (nI (cntN P j))] (SH n, I, J) Q := by
        intro hp
        rw [hp, if_neg (by decide), Nat.add_zero] at ihj
        refine EV.at ck253 (by decide) 300 [] ?_
        conv => whnf
        try dsimp only
        rw [Int32.add_zero]
        exact ⟨trivial, ihj⟩
      rcases hk with ⟨rfl, hp⟩ | ⟨rfl, hp⟩ | ⟨rfl, hp⟩
      · have hpj := hp j (by omega)
        refine EV.at ck253 (by decide) 300 [84, 88] ?_
        conv => whnf
        try dsimp only
        refine ⟨fun z => absurd z (nI_ge (b := 6) (show j < 6 by omega) (by decide)), fun _ => ?_⟩
        conv => whnf
        try dsimp only
        first | refine ⟨fun h1 => absurd h1 (by decide), fun _ => ?_⟩ | refine ⟨fun _ => ?_, fun h1 => absurd (by decide) h1⟩ | refine ⟨fun h1 => absurd (by decide) h1, fun _ => ?_⟩ | refine ⟨fun _ => ?_, fun h1 => absurd h1 (by decide)⟩
        conv => whnf
        try dsimp only
        refine ⟨in_nI (show j < 6 by omega) (by decide), ?_⟩
        conv => whnf
        try dsimp only
        rw [cj, (hcR j (by omega)).1]
        have hz := szI_ge (show aRs a j ≤ 100 by have := oR j (by omega); omega)
        refine ⟨fun z => ?_, fun z => ?_⟩
        · conv => whnf
          try dsimp only
          exact ⟨trivial, e84 (by rw [hpj]; exact decide_eq_true (hz.mp z))⟩
        · conv => whnf
          try dsimp only
          first | refine ⟨fun h1 => absurd h1 (by decide), fun _ => ?_⟩ | refine ⟨fun _ => ?_, fun h1 => absurd (by decide) h1⟩ | refine ⟨fun h1 => absurd (by decide) h1, fun _ => ?_⟩ | refine ⟨fun _ => ?_, fun h1 => absurd h1 (by decide)⟩
          conv => whnf
          try dsimp only
          first | refine ⟨fun h1 => absurd h1 (by decide), fun _ => ?_⟩ | refine ⟨fun _ => ?_, fun h1 => absurd (by decide) h1⟩ | refine ⟨fun h1 => absurd (by decide) h1, fun _ => ?_⟩ | refine ⟨fun _ => ?_, fun h1 => absurd h1 (by decide)⟩
          conv => whnf
          try dsimp only
          exact ⟨trivial, e88 (by rw [hpj]; exact decide_eq_false (fun u => z (hz.mpr u)))⟩
      · have hpj := hp j (by omega)
        refine EV.at ck253 (by decide) 300 [84, 88] ?_
        conv => whnf
        try dsimp only
        refine ⟨fun z => absurd z (nI_ge (b := 6) (show j < 6 by omega) (by decide)), fun _ => ?_⟩
        conv => whnf
        try dsimp only
        first | refine ⟨fun h1 => absurd h1 (by decide), fun _ => ?_⟩ | refine ⟨fun _ => ?_, fun h1 => absurd (by decide) h1⟩ | refine ⟨fun h1 => absurd (by decide) h1, fun _ => ?_⟩ | refine ⟨fun _ => ?_, fun h1 => absurd h1 (by decide)⟩
        conv => whnf
        try dsimp only
        first | refine ⟨fun h1 => absurd h1 (by decide), fun _ => ?_⟩ | refine ⟨fun _ => ?_, fun h1 => absurd (by decide) h1⟩ | refine ⟨fun h1 => absurd (by decide) h1, fun _ => ?_⟩ | refine ⟨fun _ => ?_, fun h1 => absurd h1 (by decide)⟩
        conv => whnf
        try dsimp only
        refine pk_le 4 j (fun z => ?_) (fun z => ?_)
        · conv => whnf
          try dsimp only
          first | refine ⟨fun h1 => absurd h1 (by decide), fun _ => ?_⟩ | refine ⟨fun _ => ?_, fun h1 => absurd (by decide) h1⟩ | refine ⟨fun h1 => absurd (by decide) h1, fun _ => ?_⟩ | refine ⟨fun _ => ?_, fun h1 => absurd h1 (by decide)⟩
          conv => whnf
          try dsimp only
          exact ⟨trivial, e88 (by rw [hpj]; exact decide_eq_false (fun u => by omega))⟩
        · conv => whnf
          try dsimp only
          refine pk_le 4 j (fun z => absurd z (by omega)) (fun _ => ?_)
          conv => whnf
          try dsimp only
          refine ⟨in_nI (show j < 4 by omega) (by decide), ?_⟩
          conv => whnf
          try dsimp only
          rw [cj, (hcX j (by omega)).1]
          have hz := szI_ge (show aTs a j ≤ 100 by have := oX j (by omega); omega)
          refine ⟨fun y => ?_, fun y => ?_⟩
          · conv => whnf
            try dsimp only
            exact ⟨trivial, e84 (by rw [hpj]; exact decide_eq_true ⟨z, hz.mp y⟩)⟩
          · conv => whnf
            try dsimp only
            first | refine ⟨fun h1 => absurd h1 (by decide), fun _ => ?_⟩ | refine ⟨fun _ => ?_, fun h1 => absurd (by decide) h1⟩ | refine ⟨fun h1 => absurd (by decide) h1, fun _ => ?_⟩ | refine ⟨fun _ => ?_, fun h1 => absurd h1 (by decide)⟩
            conv => whnf
            try dsimp only
            exact ⟨trivial, e88 (by rw [hpj]; exact decide_eq_false (fun u => y (hz.mpr u.2)))⟩
      · have hpj := hp j (by omega)
        refine EV.at ck253 (by decide) 300 [84, 88] ?_
        conv => whnf
        try dsimp only
        refine ⟨fun z => absurd z (nI_ge (b := 6) (show j < 6 by omega) (by decide)), fun _ => ?_⟩
        conv => whnf
        try dsimp only
        first | refine ⟨fun h1 => absurd h1 (by decide), fun _ => ?_⟩ | refine ⟨fun _ => ?_, fun h1 => absurd (by decide) h1⟩ | refine ⟨fun h1 => absurd (by decide) h1, fun _ => ?_⟩ | refine ⟨fun _ => ?_, fun h1 => absurd h1 (by decide)⟩
        conv => whnf
        try dsimp only
        first | refine ⟨fun h1 => absurd h1 (by decide), fun _ => ?_⟩ | refine ⟨fun _ => ?_, fun h1 => absurd (by decide) h1⟩ | refine ⟨fun h1 => absurd (by decide) h1, fun _ => ?_⟩ | refine ⟨fun _ => ?_, fun h1 => absurd h1 (by decide)⟩
        conv => whnf
        try dsimp only
        first | refine ⟨fun h1 => absurd h1 (by decide), fun _ => ?_⟩ | refine ⟨fun _ => ?_, fun h1 => absurd (by decide) h1⟩ | refine ⟨fun h1 => absurd (by decide) h1, fun _ => ?_⟩ | refine ⟨fun _ => ?_, fun h1 => absurd h1 (by decide)⟩
        conv => whnf
        try dsimp only
        refine pk_le 3 j (fun z => ?_) (fun z => ?_)
        · conv => whnf
          try dsimp only
          exact ⟨trivial, e88 (by rw [hpj, decide_eq_false (by omega)]; rfl)⟩
        · conv => whnf
          try dsimp only
          refine pk_le 3 j (fun z => absurd z (by omega)) (fun _ => ?_)
          conv => whnf
          try dsimp only
          refine ⟨in_nI (show j < 3 by omega) (by decide), ?_⟩
          conv => whnf
          try dsimp only
          rw [cj, (hcK j (by omega)).1]
          rw [decide_eq_true z, Bool.true_and] at hpj
          cases hb : (aK a j).1
          · rw [hb] at hpj
            first | refine ⟨fun h1 => absurd h1 (by decide), fun _ => ?_⟩ | refine ⟨fun _ => ?_, fun h1 => absurd (by decide) h1⟩ | refine ⟨fun h1 => absurd (by decide) h1, fun _ => ?_⟩ | refine ⟨fun _ => ?_, fun h1 => absurd h1 (by decide)⟩
            conv => whnf
            try dsimp only
            exact ⟨trivial, e88 hpj⟩
          · rw [hb] at hpj
            first | refine ⟨fun h1 => absurd h1 (by decide), fun _ => ?_⟩ | refine ⟨fun _ => ?_, fun h1 => absurd (by decide) h1⟩ | refine ⟨fun h1 => absurd (by decide) h1, fun _ => ?_⟩ | refine ⟨fun _ => ?_, fun h1 => absurd h1 (by decide)⟩
            conv => whnf
            try dsimp only
            exact ⟨trivial, e84 hpj⟩
  refine MT.by ck253 (by decide) rfl (Nat.le_of_ble_eq_true rfl) rfl 300 [4] ?_
  conv => whnf
  try dsimp only
  exact ⟨trivial, loop 6 0 (by omega)⟩
theorem cnt_cut {P : Nat → Bool} {c : Nat} : ∀ m, (∀ x, c ≤ x → x < c + m → P x = false) → cntN P (c + m) = cntN P c
  | 0, _ => rfl
  | m + 1, h => by
    rw [← Nat.add_assoc, cntN, h (c + m) (by omega) (by omega), if_neg (by decide), Nat.add_zero]
    exact cnt_cut m (fun x a b => h x a (by omega))
theorem cnt_congr {P R : Nat → Bool} : ∀ c, (∀ x, x < c → P x = R x) → cntN P c = cntN R c
  | 0, _ => rfl
  | c + 1, h => by rw [cntN, cntN, cnt_congr c (fun x hx => h x (by omega)), h c (by omega)]
theorem r_countOf {a : AB} {k : Nat} (hk : k < 9) (hO : aOK a) (hC : MA a I J) (h : Q (some (.int (ctI a k))) (SH n, I, J)) : MT G (D + 2) 254 [.ref 77, .int (nI k)] (SH n, I, J) Q := by
  obtain ⟨hcT, hcF, hcK, hcR, hcX, hcN, hcA, hcU⟩ := id hC
  obtain ⟨oT, oF, oN, oK, oR, oX⟩ := id hO
  have c8 : Int32.toNatClampNeg 8 = 8 := by decide
  have c2 : Int32.toNatClampNeg 2 = 2 := by decide
  have c3 : Int32.toNatClampNeg 3 = 3 := by decide
  obtain ⟨g1, g2, g3, g4, g5⟩ := id hcF.2
  have r8 : I 78 8 = nI (az a) := g4
  rcases (show k = 0 ∨ k = 1 ∨ k = 2 ∨ k = 3 ∨ k = 4 ∨ k = 5 ∨ k = 6 ∨ k = 7 ∨ k = 8 by omega) with rfl | rfl | rfl | rfl | rfl | rfl | rfl | rfl | rfl
  · refine MT.by ck254 (by decide) rfl (Nat.le_of_ble_eq_true rfl) rfl 300 [] ?_
    conv => whnf
    try dsimp only
    first | refine ⟨fun h1 => absurd h1 (by decide), fun _ => ?_⟩ | refine ⟨fun _ => ?_, fun h1 => absurd (by decide) h1⟩ | refine ⟨fun h1 => absurd (by decide) h1, fun _ => ?_⟩ | refine ⟨fun _ => ?_, fun h1 => absurd h1 (by decide)⟩
    conv => whnf
    try dsimp only
    rw [hcT.1]
    exact ⟨trivial, h⟩
  · refine MT.by ck254 (by decide) rfl (Nat.le_of_ble_eq_true rfl) rfl 300 [] ?_
    conv => whnf
    try dsimp only
    first | refine ⟨fun h1 => absurd h1 (by decide), fun _ => ?_⟩ | refine ⟨fun _ => ?_, fun h1 => absurd (by decide) h1⟩ | refine ⟨fun h1 => absurd (by decide) h1, fun _ => ?_⟩ | refine ⟨fun _ => ?_, fun h1 => absurd h1 (by decide)⟩
    conv => whnf
    try dsimp only
    first | refine ⟨fun h1 => absurd h1 (by decide), fun _ => ?_⟩ | refine ⟨fun _ => ?_, fun h1 => absurd (by decide) h1⟩ | refine ⟨fun h1 => absurd (by decide) h1, fun _ => ?_⟩ | refine ⟨fun _ => ?_, fun h1 => absurd h1 (by decide)⟩
    conv => whnf
    try dsimp only
    rw [hcT.2.2.1]
    exact ⟨trivial, h⟩
  · refine MT.by ck254 (by decide) rfl (Nat.le_of_ble_eq_true rfl) rfl 300 [] ?_
    conv => whnf
    try dsimp only
    first | refine ⟨fun h1 => absurd h1 (by decide), fun _ => ?_⟩ | refine ⟨fun _ => ?_, fun h1 => absurd (by decide) h1⟩ | refine ⟨fun h1 => absurd (by decide) h1, fun _ => ?_⟩ | refine ⟨fun _ => ?_, fun h1 => absurd h1 (by decide)⟩
    conv => whnf
    try dsimp only
    first | refine ⟨fun h1 => absurd h1 (by decide), fun _ => ?_⟩ | refine ⟨fun _ => ?_, fun h1 => absurd (by decide) h1⟩ | refine ⟨fun h1 => absurd (by decide) h1, fun _ => ?_⟩ | refine ⟨fun _ => ?_, fun h1 => absurd h1 (by decide)⟩
    conv => whnf
    try dsimp only
    first | refine ⟨fun h1 => absurd h1 (by decide), fun _ => ?_⟩ | refine ⟨fun _ => ?_, fun h1 => absurd (by decide) h1⟩ | refine ⟨fun h1 => absurd (by decide) h1, fun _ => ?_⟩ | refine ⟨fun _ => ?_, fun h1 => absurd h1 (by decide)⟩
    conv => whnf
    try dsimp only
    refine ⟨by unfold vp_in; decide, ?_⟩
    conv => whnf
    try dsimp only
    rw [c8, r8]
    exact ⟨trivial, h⟩
  · refine MT.by ck254 (by decide) rfl (Nat.le_of_ble_eq_true rfl) rfl 300 [] ?_
    conv => whnf
    try dsimp only
    first | refine ⟨fun h1 => absurd h1 (by decide), fun _ => ?_⟩ | refine ⟨fun _ => ?_, fun h1 => absurd (by decide) h1⟩ | refine ⟨fun h1 => absurd (by decide) h1, fun _ => ?_⟩ | refine ⟨fun _ => ?_, fun h1 => absurd h1 (by decide)⟩
    conv => whnf
    try dsimp only
    first | refine ⟨fun h1 => absurd h1 (by decide), fun _ => ?_⟩ | refine ⟨fun _ => ?_, fun h1 => absurd (by decide) h1⟩ | refine ⟨fun h1 => absurd (by decide) h1, fun _ => ?_⟩ | refine ⟨fun _ => ?_, fun h1 => absurd h1 (by decide)⟩
    conv => whnf
    try dsimp only
    first | refine ⟨fun h1 => absurd h1 (by decide), fun _ => ?_⟩ | refine ⟨fun _ => ?_, fun h1 => absurd (by decide) h1⟩ | refine ⟨fun h1 => absurd (by decide) h1, fun _ => ?_⟩ | refine ⟨fun _ => ?_, fun h1 => absurd h1 (by decide)⟩
    conv => whnf
    try dsimp only
    first | refine ⟨fun h1 => absurd h1 (by decide), fun _ => ?_⟩ | refine ⟨fun _ => ?_, fun h1 => absurd (by decide) h1⟩ | refine ⟨fun h1 => absurd (by decide) h1, fun _ => ?_⟩ | refine ⟨fun _ => ?_, fun h1 => absurd h1 (by decide)⟩
    conv => whnf
    try dsimp only
    refine ⟨trivial, r_kindsMany (x := 1) (y := 5) (k := 1) (by decide) (by decide) oT.1 hcT kd_1 ?_⟩
    refine EV.at ck254 (by decide) 300 [] ?_
    conv => whnf
    try dsimp only
    exact ⟨trivial, h⟩
  · refine MT.by ck254 (by decide) rfl (Nat.le_of_ble_eq_true rfl) rfl 300 [] ?_
    conv => whnf
    try dsimp only
    first | refine ⟨fun h1 => absurd h1 (by decide), fun _ => ?_⟩ | refine ⟨fun _ => ?_, fun h1 => absurd (by decide) h1⟩ | refine ⟨fun h1 => absurd (by decide) h1, fun _ => ?_⟩ | refine ⟨fun _ => ?_, fun h1 => absurd h1 (by decide)⟩
    conv => whnf
    try dsimp only
    first | refine ⟨fun h1 => absurd h1 (by decide), fun _ => ?_⟩ | refine ⟨fun _ => ?_, fun h1 => absurd (by decide) h1⟩ | refine ⟨fun h1 => absurd (by decide) h1, fun _ => ?_⟩ | refine ⟨fun _ => ?_, fun h1 => absurd h1 (by decide)⟩
    conv => whnf
    try dsimp only
    first | refine ⟨fun h1 => absurd h1 (by decide), fun _ => ?_⟩ | refine ⟨fun _ => ?_, fun h1 => absurd (by decide) h1⟩ | refine ⟨fun h1 => absurd (by decide) h1, fun _ => ?_⟩ | refine ⟨fun _ => ?_, fun h1 => absurd h1 (by decide)⟩
    conv => whnf
    try dsimp only
    first | refine ⟨fun h1 => absurd h1 (by decide), fun _ => ?_⟩ | refine ⟨fun _ => ?_, fun h1 => absurd (by decide) h1⟩ | refine ⟨fun h1 => absurd (by decide) h1, fun _ => ?_⟩ | refine ⟨fun _ => ?_, fun h1 => absurd h1 (by decide)⟩
    conv => whnf
    try dsimp only
    first | refine ⟨fun h1 => absurd h1 (by decide), fun _ => ?_⟩ | refine ⟨fun _ => ?_, fun h1 => absurd (by decide) h1⟩ | refine ⟨fun h1 => absurd (by decide) h1, fun _ => ?_⟩ | refine ⟨fun _ => ?_, fun h1 => absurd h1 (by decide)⟩
    conv => whnf
    try dsimp only
    refine ⟨trivial, r_kindsMany (x := 2) (y := 4) (k := 2) (by decide) (by decide) oT.1 hcT kd_2 ?_⟩
    refine EV.at ck254 (by decide) 300 [] ?_
    conv => whnf
    try dsimp only
    exact ⟨trivial, h⟩
  · refine MT.by ck254 (by decide) rfl (Nat.le_of_ble_eq_true rfl) rfl 300 [] ?_
    conv => whnf
    try dsimp only
    first | refine ⟨fun h1 => absurd h1 (by decide), fun _ => ?_⟩ | refine ⟨fun _ => ?_, fun h1 => absurd (by decide) h1⟩ | refine ⟨fun h1 => absurd (by decide) h1, fun _ => ?_⟩ | refine ⟨fun _ => ?_, fun h1 => absurd h1 (by decide)⟩
    conv => whnf
    try dsimp only
    first | refine ⟨fun h1 => absurd h1 (by decide), fun _ => ?_⟩ | refine ⟨fun _ => ?_, fun h1 => absurd (by decide) h1⟩ | refine ⟨fun h1 => absurd (by decide) h1, fun _ => ?_⟩ | refine ⟨fun _ => ?_, fun h1 => absurd h1 (by decide)⟩
    conv => whnf
    try dsimp only
    first | refine ⟨fun h1 => absurd h1 (by decide), fun _ => ?_⟩ | refine ⟨fun _ => ?_, fun h1 => absurd (by decide) h1⟩ | refine ⟨fun h1 => absurd (by decide) h1, fun _ => ?_⟩ | refine ⟨fun _ => ?_, fun h1 => absurd h1 (by decide)⟩
    conv => whnf
    try dsimp only
    first | refine ⟨fun h1 => absurd h1 (by decide), fun _ => ?_⟩ | refine ⟨fun _ => ?_, fun h1 => absurd (by decide) h1⟩ | refine ⟨fun h1 => absurd (by decide) h1, fun _ => ?_⟩ | refine ⟨fun _ => ?_, fun h1 => absurd h1 (by decide)⟩
    conv => whnf
    try dsimp only
    first | refine ⟨fun h1 => absurd h1 (by decide), fun _ => ?_⟩ | refine ⟨fun _ => ?_, fun h1 => absurd (by decide) h1⟩ | refine ⟨fun h1 => absurd (by decide) h1, fun _ => ?_⟩ | refine ⟨fun _ => ?_, fun h1 => absurd h1 (by decide)⟩
    conv => whnf
    try dsimp only
    first | refine ⟨fun h1 => absurd h1 (by decide), fun _ => ?_⟩ | refine ⟨fun _ => ?_, fun h1 => absurd (by decide) h1⟩ | refine ⟨fun h1 => absurd (by decide) h1, fun _ => ?_⟩ | refine ⟨fun _ => ?_, fun h1 => absurd h1 (by decide)⟩
    conv => whnf
    try dsimp only
    refine ⟨by unfold vp_in; decide, ?_⟩
    conv => whnf
    try dsimp only
    refine ⟨by unfold vp_in; decide, ?_⟩
    conv => whnf
    try dsimp only
    rw [c2, c3, show I 78 2 = nI (aq a 0).2.1 from g1 2 (by decide), show I 78 3 = nI (aq a 1).2.1 from g1 3 (by decide), nI_add]
    exact ⟨trivial, h⟩
  · refine MT.by ck254 (by decide) rfl (Nat.le_of_ble_eq_true rfl) rfl 300 [] ?_
    conv => whnf
    try dsimp only
    first | refine ⟨fun h1 => absurd h1 (by decide), fun _ => ?_⟩ | refine ⟨fun _ => ?_, fun h1 => absurd (by decide) h1⟩ | refine ⟨fun h1 => absurd (by decide) h1, fun _ => ?_⟩ | refine ⟨fun _ => ?_, fun h1 => absurd h1 (by decide)⟩
    conv => whnf
    try dsimp only
    first | refine ⟨fun h1 => absurd h1 (by decide), fun _ => ?_⟩ | refine ⟨fun _ => ?_, fun h1 => absurd (by decide) h1⟩ | refine ⟨fun h1 => absurd (by decide) h1, fun _ => ?_⟩ | refine ⟨fun _ => ?_, fun h1 => absurd h1 (by decide)⟩
    conv => whnf
    try dsimp only
    first | refine ⟨fun h1 => absurd h1 (by decide), fun _ => ?_⟩ | refine ⟨fun _ => ?_, fun h1 => absurd (by decide) h1⟩ | refine ⟨fun h1 => absurd (by decide) h1, fun _ => ?_⟩ | refine ⟨fun _ => ?_, fun h1 => absurd h1 (by decide)⟩
    conv => whnf
    try dsimp only
    first | refine ⟨fun h1 => absurd h1 (by decide), fun _ => ?_⟩ | refine ⟨fun _ => ?_, fun h1 => absurd (by decide) h1⟩ | refine ⟨fun h1 => absurd (by decide) h1, fun _ => ?_⟩ | refine ⟨fun _ => ?_, fun h1 => absurd h1 (by decide)⟩
    conv => whnf
    try dsimp only
    first | refine ⟨fun h1 => absurd h1 (by decide), fun _ => ?_⟩ | refine ⟨fun _ => ?_, fun h1 => absurd (by decide) h1⟩ | refine ⟨fun h1 => absurd (by decide) h1, fun _ => ?_⟩ | refine ⟨fun _ => ?_, fun h1 => absurd h1 (by decide)⟩
    conv => whnf
    try dsimp only
    first | refine ⟨fun h1 => absurd h1 (by decide), fun _ => ?_⟩ | refine ⟨fun _ => ?_, fun h1 => absurd (by decide) h1⟩ | refine ⟨fun h1 => absurd (by decide) h1, fun _ => ?_⟩ | refine ⟨fun _ => ?_, fun h1 => absurd h1 (by decide)⟩
    conv => whnf
    try dsimp only
    refine ⟨trivial, r_thereMany (k := 6) (P := fun r => decide (aRs a r ≠ 0)) hO hC (Or.inl ⟨rfl, fun r _ => rfl⟩) ?_⟩
    refine EV.at ck254 (by decide) 300 [] ?_
    conv => whnf
    try dsimp only
    exact ⟨trivial, h⟩
  · refine MT.by ck254 (by decide) rfl (Nat.le_of_ble_eq_true rfl) rfl 300 [] ?_
    conv => whnf
    try dsimp only
    first | refine ⟨fun h1 => absurd h1 (by decide), fun _ => ?_⟩ | refine ⟨fun _ => ?_, fun h1 => absurd (by decide) h1⟩ | refine ⟨fun h1 => absurd (by decide) h1, fun _ => ?_⟩ | refine ⟨fun _ => ?_, fun h1 => absurd h1 (by decide)⟩
    conv => whnf
    try dsimp only
    first | refine ⟨fun h1 => absurd h1 (by decide), fun _ => ?_⟩ | refine ⟨fun _ => ?_, fun h1 => absurd (by decide) h1⟩ | refine ⟨fun h1 => absurd (by decide) h1, fun _ => ?_⟩ | refine ⟨fun _ => ?_, fun h1 => absurd h1 (by decide)⟩
    conv => whnf
    try dsimp only
    first | refine ⟨fun h1 => absurd h1 (by decide), fun _ => ?_⟩ | refine ⟨fun _ => ?_, fun h1 => absurd (by decide) h1⟩ | refine ⟨fun h1 => absurd (by decide) h1, fun _ => ?_⟩ | refine ⟨fun _ => ?_, fun h1 => absurd h1 (by decide)⟩
    conv => whnf
    try dsimp only
    first | refine ⟨fun h1 => absurd h1 (by decide), fun _ => ?_⟩ | refine ⟨fun _ => ?_, fun h1 => absurd (by decide) h1⟩ | refine ⟨fun h1 => absurd (by decide) h1, fun _ => ?_⟩ | refine ⟨fun _ => ?_, fun h1 => absurd h1 (by decide)⟩
    conv => whnf
    try dsimp only
    first | refine ⟨fun h1 => absurd h1 (by decide), fun _ => ?_⟩ | refine ⟨fun _ => ?_, fun h1 => absurd (by decide) h1⟩ | refine ⟨fun h1 => absurd (by decide) h1, fun _ => ?_⟩ | refine ⟨fun _ => ?_, fun h1 => absurd h1 (by decide)⟩
    conv => whnf
    try dsimp only
    first | refine ⟨fun h1 => absurd h1 (by decide), fun _ => ?_⟩ | refine ⟨fun _ => ?_, fun h1 => absurd (by decide) h1⟩ | refine ⟨fun h1 => absurd (by decide) h1, fun _ => ?_⟩ | refine ⟨fun _ => ?_, fun h1 => absurd h1 (by decide)⟩
    conv => whnf
    try dsimp only
    refine ⟨trivial, r_thereMany (k := 7) (P := fun r => decide (r < 4 ∧ aTs a r ≠ 0)) hO hC (Or.inr (Or.inl ⟨rfl, fun r _ => rfl⟩)) ?_⟩
    rw [show cntN (fun r => decide (r < 4 ∧ aTs a r ≠ 0)) 6 = cntN (fun r => decide (aTs a r ≠ 0)) 4 from (cnt_cut (c := 4) 2 (fun x h1 _ => decide_eq_false (fun u => by omega))).trans (cnt_congr 4 (fun x hx => by rw [decide_eq_decide]; exact ⟨fun u => u.2, fun u => ⟨hx, u⟩⟩))]
    refine EV.at ck254 (by decide) 300 [] ?_
    conv => whnf
    try dsimp only
    exact ⟨trivial, h⟩
  · refine MT.by ck254 (by decide) rfl (Nat.le_of_ble_eq_true rfl) rfl 300 [] ?_
    conv => whnf
    try dsimp only
    first | refine ⟨fun h1 => absurd h1 (by decide), fun _ => ?_⟩ | refine ⟨fun _ => ?_, fun h1 => absurd (by decide) h1⟩ | refine ⟨fun h1 => absurd (by decide) h1, fun _ => ?_⟩ | refine ⟨fun _ => ?_, fun h1 => absurd h1 (by decide)⟩
    conv => whnf
    try dsimp only
    first | refine ⟨fun h1 => absurd h1 (by decide), fun _ => ?_⟩ | refine ⟨fun _ => ?_, fun h1 => absurd (by decide) h1⟩ | refine ⟨fun h1 => absurd (by decide) h1, fun _ => ?_⟩ | refine ⟨fun _ => ?_, fun h1 => absurd h1 (by decide)⟩
    conv => whnf
    try dsimp only
    first | refine ⟨fun h1 => absurd h1 (by decide), fun _ => ?_⟩ | refine ⟨fun _ => ?_, fun h1 => absurd (by decide) h1⟩ | refine ⟨fun h1 => absurd (by decide) h1, fun _ => ?_⟩ | refine ⟨fun _ => ?_, fun h1 => absurd h1 (by decide)⟩
    conv => whnf
    try dsimp only
    first | refine ⟨fun h1 => absurd h1 (by decide), fun _ => ?_⟩ | refine ⟨fun _ => ?_, fun h1 => absurd (by decide) h1⟩ | refine ⟨fun h1 => absurd (by decide) h1, fun _ => ?_⟩ | refine ⟨fun _ => ?_, fun h1 => absurd h1 (by decide)⟩
    conv => whnf
    try dsimp only
    first | refine ⟨fun h1 => absurd h1 (by decide), fun _ => ?_⟩ | refine ⟨fun _ => ?_, fun h1 => absurd (by decide) h1⟩ | refine ⟨fun h1 => absurd (by decide) h1, fun _ => ?_⟩ | refine ⟨fun _ => ?_, fun h1 => absurd h1 (by decide)⟩
    conv => whnf
    try dsimp only
    first | refine ⟨fun h1 => absurd h1 (by decide), fun _ => ?_⟩ | refine ⟨fun _ => ?_, fun h1 => absurd (by decide) h1⟩ | refine ⟨fun h1 => absurd (by decide) h1, fun _ => ?_⟩ | refine ⟨fun _ => ?_, fun h1 => absurd h1 (by decide)⟩
    conv => whnf
    try dsimp only
    refine ⟨trivial, r_thereMany (k := 8) (P := fun r => decide (r < 3) && (aK a r).1) hO hC (Or.inr (Or.inr ⟨rfl, fun r _ => rfl⟩)) ?_⟩
    rw [show cntN (fun r => decide (r < 3) && (aK a r).1) 6 = cntN (fun r => (aK a r).1) 3 from (cnt_cut (c := 3) 3 (fun x h1 _ => by rw [decide_eq_false (by omega)]; rfl)).trans (cnt_congr 3 (fun x hx => by rw [decide_eq_true hx]; rfl))]
    refine EV.at ck254 (by decide) 300 [] ?_
    conv => whnf
    try dsimp only
    exact ⟨trivial, h⟩
theorem m_count {x : Int32} : RS G n 255 [.int x] (fun a => sp_count a x) := by
  intro D I J Q a hO hC h
  try dsimp only at h
  obtain ⟨hcT, hcF, hcK, hcR, hcX, hcN, hcA, hcU⟩ := id hC
  obtain ⟨oT, oF, oN, oK, oR, oX⟩ := id hO
  unfold sp_count at h
  refine MT.by ck255 (by decide) rfl (Nat.le_of_ble_eq_true rfl) rfl 300 [] ?_
  conv => whnf
  try dsimp only
  refine ⟨trivial, r_ix (K := 9) (by decide) (by decide) (fun e1 => ?_) (fun k hk hr e1 => ?_)⟩
  · rw [e1] at h
    refine EV.at ck255 (by decide) 300 [] ?_
    conv => whnf
    try dsimp only
    first | refine ⟨fun h1 => absurd h1 (by decide), fun _ => ?_⟩ | refine ⟨fun _ => ?_, fun h1 => absurd (by decide) h1⟩ | refine ⟨fun h1 => absurd (by decide) h1, fun _ => ?_⟩ | refine ⟨fun _ => ?_, fun h1 => absurd h1 (by decide)⟩
    conv => whnf
    try dsimp only
    exact ⟨trivial, rfin rfl hC (FM.rf I) (FMJ.rf J) h⟩
  rw [e1] at h
  subst hr
  refine EV.at ck255 (by decide) 300 [] ?_
  conv => whnf
  try dsimp only
  first | refine ⟨fun h1 => absurd h1 (by decide), fun _ => ?_⟩ | refine ⟨fun _ => ?_, fun h1 => absurd (by decide) h1⟩ | refine ⟨fun h1 => absurd (by decide) h1, fun _ => ?_⟩ | refine ⟨fun _ => ?_, fun h1 => absurd h1 (by decide)⟩
  conv => whnf
  try dsimp only
  refine ⟨trivial, r_countOf hk hO hC ?_⟩
  refine EV.at ck255 (by decide) 300 [] ?_
  conv => whnf
  try dsimp only
  exact ⟨trivial, rfin rfl hC (FM.rf I) (FMJ.rf J) h⟩
end
