/-! the reference's calls: rings, cover, best and what is read -/
theorem div5 {i : Nat} (hi : i < 65536) : nI i / 5 = nI (i / 5) := pk_div (d := 5) (by omega) (by decide) (by decide)
theorem div25 {i : Nat} (hi : i < 65536) : nI i / 25 = nI (i / 25) := pk_div (d := 25) (by omega) (by decide) (by decide)
theorem rem5 {i : Nat} (hi : i < 65536) : jrem (nI i) 5 = nI (i % 5) := pk_rem (d := 5) (by omega) (by decide) (by decide)
theorem ld_lo : ∀ a, a < 13 → ∀ b, b < 13 → ¬ nI a - nI b ≤ -99 := by decide +kernel
section
variable {G : GG} {D n : Nat}
theorem m_asked : RS G n 249 [] (fun a => (aA a, a)) := by
  intro D I J Q a hO hC h
  try dsimp only at h
  obtain ⟨hcT, hcF, hcK, hcR, hcX, hcN, hcA, hcU⟩ := id hC
  obtain ⟨oT, oF, oN, oK, oR, oX⟩ := id hO
  have h := h I J hC (FM.rf I) (FMJ.rf J)
  refine MT.by ck249 (by decide) rfl (Nat.le_of_ble_eq_true rfl) rfl 300 [] ?_
  conv => whnf
  try dsimp only
  rw [hcA]
  exact ⟨trivial, h⟩
theorem m_finding : RS G n 256 [] (fun a => (aL a, a)) := by
  intro D I J Q a hO hC h
  try dsimp only at h
  obtain ⟨hcT, hcF, hcK, hcR, hcX, hcN, hcA, hcU⟩ := id hC
  obtain ⟨oT, oF, oN, oK, oR, oX⟩ := id hO
  have h := h I J hC (FM.rf I) (FMJ.rf J)
  refine MT.by ck256 (by decide) rfl (Nat.le_of_ble_eq_true rfl) rfl 300 [] ?_
  conv => whnf
  try dsimp only
  rw [hcN.1]
  exact ⟨trivial, h⟩
theorem m_upper : RSL G n 250 aU := by
  intro D I J Q a hO hC h
  have h := h I J hC (FM.rf I) (FMJ.rf J)
  have e : J 77 13 = aU a := hC.2.2.2.2.2.2.2.1
  refine MT.by ck250 (by decide) rfl (Nat.le_of_ble_eq_true rfl) rfl 300 [] ?_
  conv => whnf
  try dsimp only
  rw [e]
  exact ⟨trivial, h⟩
theorem m_lower : RSL G n 251 aW := by
  intro D I J Q a hO hC h
  have h := h I J hC (FM.rf I) (FMJ.rf J)
  have e : J 77 14 = aW a := hC.2.2.2.2.2.2.2.2
  refine MT.by ck251 (by decide) rfl (Nat.le_of_ble_eq_true rfl) rfl 300 [] ?_
  conv => whnf
  try dsimp only
  rw [e]
  exact ⟨trivial, h⟩
theorem m_findings {x : Int32} : RS G n 257 [.int x] (fun a => sp_findings a x) := by
  intro D I J Q a hO hC h
  try dsimp only at h
  obtain ⟨hcT, hcF, hcK, hcR, hcX, hcN, hcA, hcU⟩ := id hC
  obtain ⟨oT, oF, oN, oK, oR, oX⟩ := id hO
  unfold sp_findings at h
  refine MT.by ck257 (by decide) rfl (Nat.le_of_ble_eq_true rfl) rfl 300 [] ?_
  conv => whnf
  try dsimp only
  refine ⟨trivial, r_in1 (H := 5) (by decide) (by decide) (fun e1 => ?_) (fun m hm1 hm hr e1 => ?_)⟩
  · refine EV.at ck257 (by decide) 300 [] ?_
    conv => whnf
    try dsimp only
    first | refine ⟨fun h1 => absurd h1 (by decide), fun _ => ?_⟩ | refine ⟨fun _ => ?_, fun h1 => absurd (by decide) h1⟩ | refine ⟨fun h1 => absurd (by decide) h1, fun _ => ?_⟩ | refine ⟨fun _ => ?_, fun h1 => absurd h1 (by decide)⟩
    conv => whnf
    try dsimp only
    refine ⟨trivial, rfin (a' := a) ?_ hC (FM.rf I) (FMJ.rf J) h⟩
    rcases e1 with e1 | e1
    · rw [e1]
    · rw [e1]
      exact if_pos rfl
  rw [e1] at h
  dsimp only at h
  rw [if_neg (by omega)] at h
  subst hr
  have cm : (nI m).toNatClampNeg = m := nI_clamp (by omega)
  refine EV.at ck257 (by decide) 300 [] ?_
  conv => whnf
  try dsimp only
  first | refine ⟨fun h1 => absurd h1 (by decide), fun _ => ?_⟩ | refine ⟨fun _ => ?_, fun h1 => absurd (by decide) h1⟩ | refine ⟨fun h1 => absurd (by decide) h1, fun _ => ?_⟩ | refine ⟨fun _ => ?_, fun h1 => absurd h1 (by decide)⟩
  conv => whnf
  try dsimp only
  refine ⟨in_nI (show m < 6 by omega) (by decide), ?_⟩
  conv => whnf
  try dsimp only
  rw [cm, hcN.2 m (by omega)]
  exact ⟨trivial, rfin rfl hC (FM.rf I) (FMJ.rf J) h⟩
theorem m_rings : RS G n 245 [] sp_rings := by
  intro D I J Q a hO hC h
  try dsimp only at h
  obtain ⟨hcT, hcF, hcK, hcR, hcX, hcN, hcA, hcU⟩ := id hC
  obtain ⟨oT, oF, oN, oK, oR, oX⟩ := id hO
  unfold sp_rings at h
  have hT := oT.1
  have h5 : tS (aT a) ≤ 5 := hT.1
  have hS : I 77 3 = nI (tS (aT a)) := hcT.1
  generalize hTT : aT a = T at *
  have loop : ∀ m c (z4 z5 z6 z7 : Value), c + m = 125 → EV G 245 (D + 59) 0 0 6 [.ref 77, .int (nI (rgN T c).1), .int (nI (rgN T c).2), .int (nI c), z4, z5, z6, z7] [] (SH n, I, J) Q := by
    intro m
    induction m with
    | zero =>
      intro c z4 z5 z6 z7 hc
      have hc : c = 125 := hc
      subst hc
      refine EV.at ck245 (by decide) 300 [] ?_
      conv => whnf
      try dsimp only
      first | refine ⟨fun h1 => absurd h1 (by decide), fun _ => ?_⟩ | refine ⟨fun _ => ?_, fun h1 => absurd (by decide) h1⟩ | refine ⟨fun h1 => absurd (by decide) h1, fun _ => ?_⟩ | refine ⟨fun _ => ?_, fun h1 => absurd h1 (by decide)⟩
      conv => whnf
      try dsimp only
      rw [hS]
      refine ⟨trivial, r_says ?_⟩
      refine EV.at ck245 (by decide) 300 [] ?_
      conv => whnf
      try dsimp only
      exact ⟨trivial, rfin rfl hC.ask ((FM.rf I).up (by decide)) (FMJ.rf J) h⟩
    | succ m ih =>
      intro c z4 z5 z6 z7 hc
      have ihj := ih (c + 1)
      have e0 : rgN T (c + 1) = if ringP T (c / 25) (c / 5 % 5) (c % 5) then ((rgN T c).1 + 1, (rgN T c).2 ||| ((2 ^ (c / 25) ||| 2 ^ (c / 5 % 5)) ||| 2 ^ (c % 5))) else rgN T c := rfl
      have l1 : c / 25 < 5 := by omega
      have l2 : c / 5 % 5 < 5 := by omega
      have l3 : c % 5 < 5 := by omega
      rw [nI_succ c] at ihj
      have hd1 := div25 (i := c) (by omega)
      have hd2 := div5 (i := c) (by omega)
      have hd3 := rem5 (i := c / 5) (by omega)
      have hd4 := rem5 (i := c) (by omega)
      generalize c / 25 = x at *
      generalize c / 5 % 5 = y at *
      generalize c % 5 = z at *
      have e107 : ∀ (b : Bool) (z7 : Value), ringP T x y z = b → EV G 245 (D + 59) 0 0 107 [.ref 77, .int (nI (rgN T c).1), .int (nI (rgN T c).2), .int (nI c), .int (nI x), .int (nI y), .int (nI z), z7] [.int (b2i b)] (SH n, I, J) Q := by
        intro b z7 hb
        rw [hb] at e0
        cases b
        · rw [if_neg (by decide)] at e0
          rw [e0] at ihj
          refine EV.at ck245 (by decide) 300 [] ?_
          conv => whnf
          try dsimp only
          first | refine ⟨fun h1 => absurd h1 (by decide), fun _ => ?_⟩ | refine ⟨fun _ => ?_, fun h1 => absurd (by decide) h1⟩ | refine ⟨fun h1 => absurd (by decide) h1, fun _ => ?_⟩ | refine ⟨fun _ => ?_, fun h1 => absurd h1 (by decide)⟩
          conv => whnf
          try dsimp only
          first | refine ⟨fun h1 => absurd h1 (by decide), fun _ => ?_⟩ | refine ⟨fun _ => ?_, fun h1 => absurd (by decide) h1⟩ | refine ⟨fun h1 => absurd (by decide) h1, fun _ => ?_⟩ | refine ⟨fun _ => ?_, fun h1 => absurd h1 (by decide)⟩
          conv => whnf
          try dsimp only
          rw [show nI (rgN T c).1 + 0 = nI (rgN T c).1 from Int32.add_zero _, show nI (rgN T c).2 ||| 0 = nI (rgN T c).2 from Int32.or_zero]
          exact ⟨trivial, ihj _ _ _ _ (by omega)⟩
        · rw [if_pos rfl] at e0
          rw [e0] at ihj
          dsimp only at ihj
          rw [nI_succ (rgN T c).1, ← fa_or, ← fa_or, ← fa_or, ← nu_one (show x < 31 by omega), ← nu_one (show y < 31 by omega), ← nu_one (show z < 31 by omega)] at ihj
          refine EV.at ck245 (by decide) 300 [] ?_
          conv => whnf
          try dsimp only
          first | refine ⟨fun h1 => absurd h1 (by decide), fun _ => ?_⟩ | refine ⟨fun _ => ?_, fun h1 => absurd (by decide) h1⟩ | refine ⟨fun h1 => absurd (by decide) h1, fun _ => ?_⟩ | refine ⟨fun _ => ?_, fun h1 => absurd h1 (by decide)⟩
          conv => whnf
          try dsimp only
          first | refine ⟨fun h1 => absurd h1 (by decide), fun _ => ?_⟩ | refine ⟨fun _ => ?_, fun h1 => absurd (by decide) h1⟩ | refine ⟨fun h1 => absurd (by decide) h1, fun _ => ?_⟩ | refine ⟨fun _ => ?_, fun h1 => absurd h1 (by decide)⟩
          conv => whnf
          try dsimp only
          exact ⟨trivial, ihj _ _ _ _ (by omega)⟩
      have e106 : ∀ (z7 : Value), ringP T x y z = false → EV G 245 (D + 59) 0 0 106 [.ref 77, .int (nI (rgN T c).1), .int (nI (rgN T c).2), .int (nI c), .int (nI x), .int (nI y), .int (nI z), z7] [] (SH n, I, J) Q := by
        intro z7 hb
        refine EV.at ck245 (by decide) 300 [107] ?_
        conv => whnf
        try dsimp only
        exact ⟨trivial, e107 false _ hb⟩
      have e30 : ∀ (z7 : Value), EV G 245 (D + 59) 0 0 30 [.ref 77, .int (nI (rgN T c).1), .int (nI (rgN T c).2), .int (nI c), .int (nI x), .int (nI y), .int (nI z), z7] [] (SH n, I, J) Q := by
        intro z7
        have no : ¬ (x < y ∧ x < z ∧ y < tS T ∧ z < tS T ∧ y ≠ z) → ringP T x y z = false := fun q => by
          unfold ringP
          rw [decide_eq_false q]
          rfl
        refine EV.at ck245 (by decide) 300 [106, 107] ?_
        conv => whnf
        try dsimp only
        refine pk_le y x (fun u => ?_) (fun u1 => ?_)
        · conv => whnf
          try dsimp only
          exact ⟨trivial, e106 _ (no (fun q => by omega))⟩
        conv => whnf
        try dsimp only
        refine pk_le z x (fun u => ?_) (fun u2 => ?_)
        · conv => whnf
          try dsimp only
          exact ⟨trivial, e106 _ (no (fun q => by omega))⟩
        conv => whnf
        try dsimp only
        rw [hS]
        refine pk_le (tS T) y (fun u => ?_) (fun u3 => ?_)
        · conv => whnf
          try dsimp only
          exact ⟨trivial, e106 _ (no (fun q => by omega))⟩
        conv => whnf
        try dsimp only
        rw [hS]
        refine pk_le (tS T) z (fun u => ?_) (fun u4 => ?_)
        · conv => whnf
          try dsimp only
          exact ⟨trivial, e106 _ (no (fun q => by omega))⟩
        conv => whnf
        try dsimp only
        refine pk_eq y z (fun u => ?_) (fun u5 => ?_)
        · conv => whnf
          try dsimp only
          exact ⟨trivial, e106 _ (no (fun q => q.2.2.2.2 u))⟩
        have yes : ringP T x y z = (btT T x y && (btT T y z && btT T z x)) := by
          unfold ringP
          rw [decide_eq_true ⟨u1, u2, u3, u4, u5⟩]
          rfl
        conv => whnf
        try dsimp only
        refine ⟨trivial, r_beats hT hcT (by omega) u3 ?_⟩
        cases hb1 : btT T x y
        · refine EV.at ck245 (by decide) 300 [106, 107] ?_
          conv => whnf
          try dsimp only
          first | refine ⟨fun h1 => absurd h1 (by decide), fun _ => ?_⟩ | refine ⟨fun _ => ?_, fun h1 => absurd (by decide) h1⟩ | refine ⟨fun h1 => absurd (by decide) h1, fun _ => ?_⟩ | refine ⟨fun _ => ?_, fun h1 => absurd h1 (by decide)⟩
          conv => whnf
          try dsimp only
          exact ⟨trivial, e106 _ (by rw [yes, hb1]; rfl)⟩
        refine EV.at ck245 (by decide) 300 [106, 107] ?_
        conv => whnf
        try dsimp only
        first | refine ⟨fun h1 => absurd h1 (by decide), fun _ => ?_⟩ | refine ⟨fun _ => ?_, fun h1 => absurd (by decide) h1⟩ | refine ⟨fun h1 => absurd (by decide) h1, fun _ => ?_⟩ | refine ⟨fun _ => ?_, fun h1 => absurd h1 (by decide)⟩
        conv => whnf
        try dsimp only
        refine ⟨trivial, r_beats hT hcT u3 u4 ?_⟩
        cases hb2 : btT T y z
        · refine EV.at ck245 (by decide) 300 [106, 107] ?_
          conv => whnf
          try dsimp only
          first | refine ⟨fun h1 => absurd h1 (by decide), fun _ => ?_⟩ | refine ⟨fun _ => ?_, fun h1 => absurd (by decide) h1⟩ | refine ⟨fun h1 => absurd (by decide) h1, fun _ => ?_⟩ | refine ⟨fun _ => ?_, fun h1 => absurd h1 (by decide)⟩
          conv => whnf
          try dsimp only
          exact ⟨trivial, e106 _ (by rw [yes, hb1, hb2]; rfl)⟩
        refine EV.at ck245 (by decide) 300 [106, 107] ?_
        conv => whnf
        try dsimp only
        first | refine ⟨fun h1 => absurd h1 (by decide), fun _ => ?_⟩ | refine ⟨fun _ => ?_, fun h1 => absurd (by decide) h1⟩ | refine ⟨fun h1 => absurd (by decide) h1, fun _ => ?_⟩ | refine ⟨fun _ => ?_, fun h1 => absurd h1 (by decide)⟩
        conv => whnf
        try dsimp only
        refine ⟨trivial, r_beats hT hcT u4 (by omega) ?_⟩
        cases hb3 : btT T z x
        · refine EV.at ck245 (by decide) 300 [106, 107] ?_
          conv => whnf
          try dsimp only
          first | refine ⟨fun h1 => absurd h1 (by decide), fun _ => ?_⟩ | refine ⟨fun _ => ?_, fun h1 => absurd (by decide) h1⟩ | refine ⟨fun h1 => absurd (by decide) h1, fun _ => ?_⟩ | refine ⟨fun _ => ?_, fun h1 => absurd h1 (by decide)⟩
          conv => whnf
          try dsimp only
          exact ⟨trivial, e106 _ (by rw [yes, hb1, hb2, hb3]; rfl)⟩
        refine EV.at ck245 (by decide) 300 [106, 107] ?_
        conv => whnf
        try dsimp only
        first | refine ⟨fun h1 => absurd h1 (by decide), fun _ => ?_⟩ | refine ⟨fun _ => ?_, fun h1 => absurd (by decide) h1⟩ | refine ⟨fun h1 => absurd (by decide) h1, fun _ => ?_⟩ | refine ⟨fun _ => ?_, fun h1 => absurd h1 (by decide)⟩
        conv => whnf
        try dsimp only
        exact ⟨trivial, e107 true _ (by rw [yes, hb1, hb2, hb3]; rfl)⟩
      refine EV.at ck245 (by decide) 300 [30] ?_
      conv => whnf
      try dsimp only
      refine ⟨fun u => absurd u (nI_ge (b := 125) (show c < 125 by omega) (by decide)), fun _ => ?_⟩
      conv => whnf
      try dsimp only
      refine ⟨by decide, ?_⟩
      conv => whnf
      try dsimp only
      refine ⟨by decide, ?_⟩
      conv => whnf
      try dsimp only
      rw [hd2]
      refine ⟨by decide, ?_⟩
      conv => whnf
      try dsimp only
      refine ⟨by decide, ?_⟩
      conv => whnf
      try dsimp only
      rw [hd1, hd3, hd4]
      exact ⟨trivial, e30 _⟩
  refine MT.by ck245 (by decide) rfl (Nat.le_of_ble_eq_true rfl) rfl 300 [6] ?_
  conv => whnf
  try dsimp only
  exact ⟨trivial, loop 125 0 dm dm dm dm rfl⟩
theorem m_best : RS G n 248 [] sp_best := by
  intro D I J Q a hO hC h
  try dsimp only at h
  obtain ⟨hcT, hcF, hcK, hcR, hcX, hcN, hcA, hcU⟩ := id hC
  obtain ⟨oT, oF, oN, oK, oR, oX⟩ := id hO
  unfold sp_best at h
  have hT := oT.1
  have h5 : tS (aT a) ≤ 5 := hT.1
  have hS : I 77 3 = nI (tS (aT a)) := hcT.1
  generalize hTT : aT a = T at *
  by_cases h0 : tS T = 0
  · rw [if_pos h0] at h
    refine MT.by ck248 (by decide) rfl (Nat.le_of_ble_eq_true rfl) rfl 300 [] ?_
    conv => whnf
    try dsimp only
    rw [hS, h0]
    first | refine ⟨fun h1 => absurd h1 (by decide), fun _ => ?_⟩ | refine ⟨fun _ => ?_, fun h1 => absurd (by decide) h1⟩ | refine ⟨fun h1 => absurd (by decide) h1, fun _ => ?_⟩ | refine ⟨fun _ => ?_, fun h1 => absurd h1 (by decide)⟩
    conv => whnf
    try dsimp only
    exact ⟨trivial, rfin rfl hC (FM.rf I) (FMJ.rf J) h⟩
  rw [if_neg h0] at h
  have hlt : ∀ P : Nat → Bool, orN P (tS T) < 4096 := fun P => by
    have h1 := orN_lt (P := P) (tS T)
    have h2 : 2 ^ tS T ≤ 2 ^ 5 := Nat.pow_le_pow_right (by decide) h5
    omega
  have hlo : ¬ ldI T 0 ≤ -99 := by
    have p1 := (pc_le (orN (btT T 0) (tS T)) (hlt _)).1
    have p2 := (pc_le (orN (fun j => btT T j 0) (tS T)) (hlt _)).1
    exact ld_lo _ (by omega) _ (by omega)
  have e0 : bsN T 1 = 0 := by
    show (if ldI T (bsN T 0) < ldI T 0 then 0 else bsN T 0) = 0
    split <;> rfl
  have loop : ∀ m j (y : Int32) (z4 : Value), j + m = tS T → y = (if j = 0 then -99 else ldI T (bsN T j)) → EV G 248 (D + 59) 0 0 17 [.ref 77, .int (nI (bsN T j)), .int y, .int (nI j), z4] [] (SH n, I, J) Q := by
    intro m
    induction m with
    | zero =>
      intro j y z4 hj hy
      have hj : j = tS T := hj
      rw [if_neg (by omega)] at hy
      rw [hj] at hy ⊢
      refine EV.at ck248 (by decide) 300 [] ?_
      conv => whnf
      try dsimp only
      rw [hS]
      refine pk_le (tS T) (tS T) (fun _ => ?_) (fun z => absurd z (by omega))
      conv => whnf
      try dsimp only
      rw [hy]
      refine ⟨trivial, r_says ?_⟩
      refine EV.at ck248 (by decide) 300 [] ?_
      conv => whnf
      try dsimp only
      exact ⟨trivial, rfin rfl hC.ask ((FM.rf I).up (by decide)) (FMJ.rf J) h⟩
    | succ m ih =>
      intro j y z4 hj hy
      have ihj := ih (j + 1)
      have hjs : j < tS T := by omega
      have eb : bsN T (j + 1) = if ldI T (bsN T j) < ldI T j then j else bsN T j := rfl
      rw [if_neg (Nat.succ_ne_zero j), nI_succ j] at ihj
      have big : ¬ ldI T j ≤ y → bsN T (j + 1) = j := fun z => by
        by_cases hj0 : j = 0
        · subst hj0; exact e0
        · rw [if_neg hj0] at hy
          rw [eb, if_pos (by rw [← hy]; exact Int32.not_le.mp z)]
      have small : ldI T j ≤ y → bsN T (j + 1) = bsN T j ∧ y = ldI T (bsN T (j + 1)) := fun z => by
        by_cases hj0 : j = 0
        · subst hj0
          rw [if_pos rfl] at hy
          rw [hy] at z
          exact absurd z hlo
        · rw [if_neg hj0] at hy
          have e : bsN T (j + 1) = bsN T j := by rw [eb, if_neg (by rw [← hy]; exact Int32.not_lt.mpr z)]
          exact ⟨e, by rw [e]; exact hy⟩
      refine EV.at ck248 (by decide) 300 [] ?_
      conv => whnf
      try dsimp only
      rw [hS]
      refine pk_le (tS T) j (fun z => absurd z (by omega)) (fun _ => ?_)
      conv => whnf
      try dsimp only
      refine ⟨trivial, r_beatsOf hT hcT hjs ?_⟩
      refine EV.at ck248 (by decide) 300 [] ?_
      conv => whnf
      try dsimp only
      refine ⟨trivial, r_ones (hlt _) ?_⟩
      refine EV.at ck248 (by decide) 300 [] ?_
      conv => whnf
      try dsimp only
      refine ⟨trivial, r_beatenBy hT hcT hjs ?_⟩
      refine EV.at ck248 (by decide) 300 [] ?_
      conv => whnf
      try dsimp only
      refine ⟨trivial, r_ones (hlt _) ?_⟩
      refine EV.at ck248 (by decide) 300 [] ?_
      conv => whnf
      try dsimp only
      rw [show nI (pcN 12 (orN (btT T j) (tS T))) - nI (pcN 12 (orN (fun j_1 => btT T j_1 j) (tS T))) = ldI T j from rfl]
      refine ⟨fun z => ?_, fun z => ?_⟩
      · obtain ⟨s1, s2⟩ := small z
        rw [s1] at ihj s2
        conv => whnf
        try dsimp only
        refine ⟨fun _ => ?_, fun z' => absurd z z'⟩
        conv => whnf
        try dsimp only
        exact ⟨trivial, ihj _ _ (by omega) s2⟩
      · have s1 := big z
        rw [s1] at ihj
        conv => whnf
        try dsimp only
        refine ⟨fun z' => absurd z' z, fun _ => ?_⟩
        conv => whnf
        try dsimp only
        exact ⟨trivial, ihj _ _ (by omega) rfl⟩
  refine MT.by ck248 (by decide) rfl (Nat.le_of_ble_eq_true rfl) rfl 300 [17] ?_
  conv => whnf
  try dsimp only
  rw [hS]
  refine ⟨fun _ => ?_, fun z => absurd ((nu_eq (b := 0) (by omega) (by decide)).mp z) h0⟩
  conv => whnf
  try dsimp only
  exact ⟨trivial, loop (tS T) 0 (-99) dm (by omega) rfl⟩
end
