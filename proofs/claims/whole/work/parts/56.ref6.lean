/-! the reference's table and fighters -/
theorem clr_or {x k : Nat} : clrN x k ||| 2 ^ k = x ||| 2 ^ k := by
  apply Nat.eq_of_testBit_eq
  intro i
  rw [Nat.testBit_or, Nat.testBit_or, clrN_bits, Nat.testBit_two_pow]
  by_cases h : i = k
  · subst h; simp
  · simp [h]
theorem sB_m {x k b : Nat} (hk : k < 31) (hb : b < 2) : (nI x &&& (jshl 1 (nI k) ^^^ (-1))) ||| jshl (nI b) (nI k) = nI (sB x k b) := by
  rw [nu_clr hk]
  rcases (show b = 0 ∨ b = 1 by omega) with rfl | rfl
  · rw [nu_shl (x := 0) (j := k) (by omega) (by omega), fa_or, Nat.zero_mul, Nat.or_zero]
    rfl
  · rw [show jshl (nI 1) (nI k) = jshl 1 (nI k) from rfl, nu_one hk, fa_or, clr_or]
    rfl
section
variable {I I' : Nat → Nat → Int32} {J J' : Nat → Nat → Int64} {a : AB}
theorem MA.fgt {b : Bool} {F : FG} (h : MA a I J) (hf : ∀ r, r < 90 → r ≠ 77 → r ≠ 78 → I' r = I r) (h7 : ∀ k, k = 3 ∨ k = 6 ∨ k = 10 ∨ k = 12 → I' 77 k = I 77 k) (hw : ∀ x, 289 ≤ x → I' 78 x = I 78 x) (hF : mF b F I') : MA (uF a b F) I' J := by
  obtain ⟨h1, h2, h3, h4, h5, h6, h7', h8⟩ := h
  refine ⟨h1.of (fun r x y => hf r (by omega) (by omega) (by omega)) (h7 3 (by omega)) (h7 6 (by omega)), hF, fun k hk => ?_, h4.of (hf 86 (by omega) (by omega) (by omega)) (hf 87 (by omega) (by omega) (by omega)), h5.of (hf 88 (by omega) (by omega) (by omega)) (hf 89 (by omega) (by omega) (by omega)), h6.of (h7 10 (by omega)) (hf 85 (by omega) (by omega) (by omega)), by rw [h7 12 (by omega)]; exact h7', h8⟩
  obtain ⟨k1, k2⟩ := h3 k hk
  refine ⟨by rw [hf 79 (by omega) (by omega) (by omega)]; exact k1, fun hb => ?_⟩
  obtain ⟨g1, g2, g3, g4, g5⟩ := k2 hb
  exact ⟨fun e he => by rw [hw _ (by omega)]; exact g1 e he, by rw [hw _ (by omega)]; exact g2, by rw [hw _ (by omega)]; exact g3, by rw [hw _ (by omega)]; exact g4, fun i hi => ⟨by rw [hw _ (by omega)]; exact (g5 i hi).1, fun e he => by rw [hw _ (by omega)]; exact (g5 i hi).2 e he⟩⟩
theorem wM_set {F : FG} {q : Nat → SD} {p : Nat} {v : Int32} (h : wM 0 F I) (hp : p < 8) (h6 : ∀ e, e < 6 → upI I 78 p v 78 e = nI (pl q e)) (k0 : upI I 78 p v 78 6 = nI (q 0).2.2.2) (k1 : upI I 78 p v 78 7 = nI (q 1).2.2.2) : wM 0 (q, F.2) (upI I 78 p v) := by
  obtain ⟨g1, g2, g3, g4, g5⟩ := h
  exact ⟨fun e he => by rw [Nat.zero_add]; exact h6 e he, k0, k1, by rw [up_ne (by omega)]; exact g4, fun i hi => ⟨by rw [up_ne (by omega)]; exact (g5 i hi).1, fun e he => by rw [up_ne (by omega)]; exact (g5 i hi).2 e he⟩⟩
theorem wM_at {F : FG} {w x : Nat} (h : wM 0 F I) (hw : w < 2) (hx : x < 4) : I 78 (2 * x + w) = sdV (F.1 w) x := by
  obtain ⟨g1, g2, g3, g4, g5⟩ := h
  rcases (show w = 0 ∨ w = 1 by omega) with rfl | rfl
  · rcases (show x = 0 ∨ x = 1 ∨ x = 2 ∨ x = 3 by omega) with rfl | rfl | rfl | rfl
    · exact g1 0 (by decide)
    · exact g1 2 (by decide)
    · exact g1 4 (by decide)
    · exact g2
  · rcases (show x = 0 ∨ x = 1 ∨ x = 2 ∨ x = 3 by omega) with rfl | rfl | rfl | rfl
    · exact g1 1 (by decide)
    · exact g1 3 (by decide)
    · exact g1 5 (by decide)
    · exact g3
theorem wM_K {F : FG} {w v : Nat} (h : wM 0 F I) (hw : w < 2) : wM 0 (setK F.1 w v, F.2) (upI I 78 (6 + w) (nI v)) := by
  have g := h
  obtain ⟨g1, g2, g3, g4, g5⟩ := g
  rcases (show w = 0 ∨ w = 1 by omega) with rfl | rfl
  · refine wM_set h (by decide) (fun e he => ?_) rfl ?_
    · rw [up_ne (by omega)]
      have := g1 e he
      rw [Nat.zero_add] at this
      rw [this]
      rfl
    · rw [up_ne (by decide)]; exact g3
  · refine wM_set h (by decide) (fun e he => ?_) ?_ rfl
    · rw [up_ne (by omega)]
      have := g1 e he
      rw [Nat.zero_add] at this
      rw [this]
      rfl
    · rw [up_ne (by decide)]; exact g2
theorem wM_F {F : FG} {w v : Nat} (h : wM 0 F I) (hw : w < 2) : wM 0 (setF F.1 w v, F.2) (upI I 78 (2 + w) (nI v)) := by
  have g := h
  obtain ⟨g1, g2, g3, g4, g5⟩ := g
  rcases (show w = 0 ∨ w = 1 by omega) with rfl | rfl
  · refine wM_set h (by decide) (fun e he => ?_) (by rw [up_ne (by decide)]; exact g2) (by rw [up_ne (by decide)]; exact g3)
    rcases (show e = 0 ∨ e = 1 ∨ e = 2 ∨ e = 3 ∨ e = 4 ∨ e = 5 by omega) with rfl | rfl | rfl | rfl | rfl | rfl
    · exact g1 0 (by decide)
    · exact g1 1 (by decide)
    · rfl
    · exact g1 3 (by decide)
    · exact g1 4 (by decide)
    · exact g1 5 (by decide)
  · refine wM_set h (by decide) (fun e he => ?_) (by rw [up_ne (by decide)]; exact g2) (by rw [up_ne (by decide)]; exact g3)
    rcases (show e = 0 ∨ e = 1 ∨ e = 2 ∨ e = 3 ∨ e = 4 ∨ e = 5 by omega) with rfl | rfl | rfl | rfl | rfl | rfl
    · exact g1 0 (by decide)
    · exact g1 1 (by decide)
    · exact g1 2 (by decide)
    · rfl
    · exact g1 4 (by decide)
    · exact g1 5 (by decide)
end
section
variable {G : GG} {d n : Nat} {σ : MH} {I : Nat → Nat → Int32} {J : Nat → Nat → Int64} {Q : Option Value → MH → Prop} {T : TN}
theorem r_in1 {H : Nat} {x : Int32} {y : Int64} (hy : y.toInt = (H : Int)) (hH : H < 60000) (hbad : ix (H + 1) x = none ∨ ix (H + 1) x = some 0 → Q (some (.int 0)) σ) (hok : ∀ j, 1 ≤ j → j < H + 1 → x = nI j → ix (H + 1) x = some j → Q (some (.int 1)) σ) : MT G (d + 1) 158 [.long x.toInt64, .long 1, .long y] σ Q := by
  refine r_in ?_
  rcases ix_cases (n := H + 1) (by omega) x with ⟨e1, e2⟩ | ⟨j, hj, hr, e1, e2⟩
  · rw [decide_eq_false (fun q => ?_)]
    · exact hbad (Or.inl e1)
    · refine of_decide_eq_false e2 ?_
      rw [Int64.le_iff_toInt_le, Int64.le_iff_toInt_le, Int32.toInt_toInt64, hy, show (1 : Int64).toInt = 1 from by decide] at q
      rw [Int32.le_iff_toInt_le, Int32.lt_iff_toInt_lt, nI_toInt (show H + 1 < 2 ^ 31 by omega), show (0 : Int32).toInt = 0 from by decide]
      omega
  · by_cases j0 : j = 0
    · subst j0
      rw [decide_eq_false (fun q => ?_)]
      · exact hbad (Or.inr e1)
      · rw [hr] at q
        exact absurd q.1 (by decide)
    · rw [decide_eq_true ?_]
      · exact hok j (by omega) hj hr e1
      · rw [Int64.le_iff_toInt_le, Int64.le_iff_toInt_le, Int32.toInt_toInt64, hy, hr, nI_toInt (show j < 2 ^ 31 by omega), show (1 : Int64).toInt = 1 from by decide]
        omega
theorem r_isShape {x : Int32} (hT : tOK T) (hM : mT T I) (hbad : ix (tS T) x = none → Q (some (.int 0)) (SH n, I, J)) (hok : ∀ j, j < tS T → x = nI j → ix (tS T) x = some j → Q (some (.int 1)) (SH n, I, J)) : MT G (d + 2) 186 [.ref 77, .int x] (SH n, I, J) Q := by
  have h5 : tS T ≤ 5 := hT.1
  refine MT.by ck186 (by decide) rfl (Nat.le_of_ble_eq_true rfl) rfl 300 [] ?_
  conv => whnf
  try dsimp only
  rw [hM.1]
  refine ⟨trivial, r_ix (K := tS T) (sub1 (by omega)) (by omega) (fun e1 => ?_) (fun j hj hr e1 => ?_)⟩
  · refine EV.at ck186 (by decide) 300 [] ?_
    conv => whnf
    try dsimp only
    exact ⟨Or.inl rfl, hbad e1⟩
  · refine EV.at ck186 (by decide) 300 [] ?_
    conv => whnf
    try dsimp only
    exact ⟨Or.inr rfl, hok j hj hr e1⟩
theorem r_isChange {x : Int32} (hT : tOK T) (hM : mT T I) (hbad : ix (tC T) x = none → Q (some (.int 0)) (SH n, I, J)) (hok : ∀ j, j < tC T → x = nI j → ix (tC T) x = some j → Q (some (.int 1)) (SH n, I, J)) : MT G (d + 2) 187 [.ref 77, .int x] (SH n, I, J) Q := by
  have h5 : tC T ≤ 12 := hT.2.2.1
  refine MT.by ck187 (by decide) rfl (Nat.le_of_ble_eq_true rfl) rfl 300 [] ?_
  conv => whnf
  try dsimp only
  rw [hM.2.2.1]
  refine ⟨trivial, r_ix (K := tC T) (sub1 (by omega)) (by omega) (fun e1 => ?_) (fun j hj hr e1 => ?_)⟩
  · refine EV.at ck187 (by decide) 300 [] ?_
    conv => whnf
    try dsimp only
    exact ⟨Or.inl rfl, hbad e1⟩
  · refine EV.at ck187 (by decide) 300 [] ?_
    conv => whnf
    try dsimp only
    exact ⟨Or.inr rfl, hok j hj hr e1⟩
theorem r_fi {a : AB} {r : Int32} (hb : I 77 2 = b2i (aH a)) (hbad : fx a r = none → Q (some (.int 0)) (SH n, I, J)) (hok : ∀ j, j < 2 → r = nI j → aH a = true → fx a r = some j → Q (some (.int 1)) (SH n, I, J)) : MT G (d + 2) 188 [.ref 77, .int r] (SH n, I, J) Q := by
  unfold fx at hbad hok
  refine MT.by ck188 (by decide) rfl (Nat.le_of_ble_eq_true rfl) rfl 300 [] ?_
  conv => whnf
  try dsimp only
  rw [hb]
  cases hh : aH a
  · rw [hh] at hbad
    first | refine ⟨fun h1 => absurd h1 (by decide), fun _ => ?_⟩ | refine ⟨fun _ => ?_, fun h1 => absurd (by decide) h1⟩ | refine ⟨fun h1 => absurd (by decide) h1, fun _ => ?_⟩ | refine ⟨fun _ => ?_, fun h1 => absurd h1 (by decide)⟩
    conv => whnf
    try dsimp only
    exact ⟨Or.inl rfl, hbad rfl⟩
  rw [if_pos hh] at hbad hok
  first | refine ⟨fun h1 => absurd h1 (by decide), fun _ => ?_⟩ | refine ⟨fun _ => ?_, fun h1 => absurd (by decide) h1⟩ | refine ⟨fun h1 => absurd (by decide) h1, fun _ => ?_⟩ | refine ⟨fun _ => ?_, fun h1 => absurd h1 (by decide)⟩
  conv => whnf
  try dsimp only
  refine ⟨trivial, r_ix (K := 2) (by decide) (by decide) (fun e1 => ?_) (fun j hj hr e1 => ?_)⟩
  · refine EV.at ck188 (by decide) 300 [] ?_
    conv => whnf
    try dsimp only
    first | refine ⟨fun h1 => absurd h1 (by decide), fun _ => ?_⟩ | refine ⟨fun _ => ?_, fun h1 => absurd (by decide) h1⟩ | refine ⟨fun h1 => absurd (by decide) h1, fun _ => ?_⟩ | refine ⟨fun _ => ?_, fun h1 => absurd h1 (by decide)⟩
    conv => whnf
    try dsimp only
    exact ⟨Or.inl rfl, hbad e1⟩
  · refine EV.at ck188 (by decide) 300 [] ?_
    conv => whnf
    try dsimp only
    first | refine ⟨fun h1 => absurd h1 (by decide), fun _ => ?_⟩ | refine ⟨fun _ => ?_, fun h1 => absurd (by decide) h1⟩ | refine ⟨fun h1 => absurd (by decide) h1, fun _ => ?_⟩ | refine ⟨fun _ => ?_, fun h1 => absurd h1 (by decide)⟩
    conv => whnf
    try dsimp only
    exact ⟨Or.inr rfl, hok j hj hr hh e1⟩
theorem r_beats {i j : Nat} (hT : tOK T) (hM : mT T I) (hi : i < tS T) (hj : j < tS T) (h : Q (some (.int (b2i (btT T i j)))) (SH n, I, J)) : MT G (d + 2) 189 [.ref 77, .int (nI i), .int (nI j)] (SH n, I, J) Q := by
  have h5 : tS T ≤ 5 := hT.1
  have ci : (nI i).toNatClampNeg = i := nI_clamp (by omega)
  have cj : (nI j).toNatClampNeg = j := nI_clamp (by omega)
  obtain ⟨k1, k2⟩ := hT.2.1 i hi
  obtain ⟨k3, k4⟩ := hT.2.1 j hj
  obtain ⟨m1, m2⟩ := hM.2.1 i hi
  obtain ⟨m3, m4⟩ := hM.2.1 j hj
  unfold btT at h
  refine MT.by ck189 (by decide) rfl (Nat.le_of_ble_eq_true rfl) rfl 300 [] ?_
  conv => whnf
  try dsimp only
  refine ⟨in_nI (show i < 5 by omega) (by decide), ?_⟩
  conv => whnf
  try dsimp only
  rw [ci, m2]
  refine ⟨trivial, r_has (by omega) (by omega) ?_⟩
  cases hb : (tT T i).testBit j
  · rw [hb] at h
    refine EV.at ck189 (by decide) 300 [] ?_
    conv => whnf
    try dsimp only
    first | refine ⟨fun h1 => absurd h1 (by decide), fun _ => ?_⟩ | refine ⟨fun _ => ?_, fun h1 => absurd (by decide) h1⟩ | refine ⟨fun h1 => absurd (by decide) h1, fun _ => ?_⟩ | refine ⟨fun _ => ?_, fun h1 => absurd h1 (by decide)⟩
    conv => whnf
    try dsimp only
    exact ⟨Or.inl rfl, h⟩
  rw [hb, Bool.true_and] at h
  refine EV.at ck189 (by decide) 300 [] ?_
  conv => whnf
  try dsimp only
  first | refine ⟨fun h1 => absurd h1 (by decide), fun _ => ?_⟩ | refine ⟨fun _ => ?_, fun h1 => absurd (by decide) h1⟩ | refine ⟨fun h1 => absurd (by decide) h1, fun _ => ?_⟩ | refine ⟨fun _ => ?_, fun h1 => absurd h1 (by decide)⟩
  conv => whnf
  try dsimp only
  refine ⟨in_nI (show i < 5 by omega) (by decide), ?_⟩
  conv => whnf
  try dsimp only
  rw [ci, m1]
  refine ⟨fun z => ?_, fun z => ?_⟩
  · have z' : ¬ tK T i = 3 := fun y => z (by rw [y]; rfl)
    rw [beq_false_of_ne z'] at h
    conv => whnf
    try dsimp only
    exact ⟨Or.inr rfl, h⟩
  have z' : tK T i = 3 := (nu_eq (b := 3) (by omega) (by decide)).mp z
  rw [z', beq_self_eq_true, Bool.true_and] at h
  conv => whnf
  try dsimp only
  refine ⟨in_nI (show j < 5 by omega) (by decide), ?_⟩
  conv => whnf
  try dsimp only
  rw [cj, m3]
  refine ⟨fun z => ?_, fun z => ?_⟩
  · have z' : tK T j = 5 := (nu_eq (b := 5) (by omega) (by decide)).mp z
    rw [z'] at h
    conv => whnf
    try dsimp only
    exact ⟨Or.inl rfl, h⟩
  · have z' : ¬ tK T j = 5 := fun y => z (by rw [y]; rfl)
    rw [beq_false_of_ne z'] at h
    conv => whnf
    try dsimp only
    exact ⟨Or.inr rfl, h⟩
theorem r_beatsOf {i : Nat} (hT : tOK T) (hM : mT T I) (hi : i < tS T) (h : Q (some (.int (nI (orN (btT T i) (tS T))))) (SH n, I, J)) : MT G (d + 3) 190 [.ref 77, .int (nI i)] (SH n, I, J) Q := by
  have h5 : tS T ≤ 5 := hT.1
  have loop : ∀ m j, j + m = tS T → EV G 190 (d + 2) 0 0 4 [.ref 77, .int (nI i), .int (nI (orN (btT T i) j)), .int (nI j)] [] (SH n, I, J) Q := by
    intro m
    induction m with
    | zero =>
      intro j hj
      have hj : j = tS T := hj
      rw [← hj] at h
      refine EV.at ck190 (by decide) 300 [] ?_
      conv => whnf
      try dsimp only
      rw [hM.1]
      refine pk_le (tS T) j (fun _ => ?_) (fun z => absurd z (by omega))
      conv => whnf
      try dsimp only
      exact ⟨trivial, h⟩
    | succ m ih =>
      intro j hj
      have ihj := ih (j + 1) (by omega)
      have e : orN (btT T i) (j + 1) = orN (btT T i) j ||| (if btT T i j then 2 ^ j else 0) := rfl
      rw [e, nI_succ j, ← fa_or] at ihj
      refine EV.at ck190 (by decide) 300 [] ?_
      conv => whnf
      try dsimp only
      rw [hM.1]
      refine pk_le (tS T) j (fun z => absurd z (by omega)) (fun _ => ?_)
      conv => whnf
      try dsimp only
      refine ⟨trivial, r_beats hT hM hi (by omega) ?_⟩
      cases hb : btT T i j
      · rw [hb] at ihj
        refine EV.at ck190 (by decide) 300 [] ?_
        conv => whnf
        try dsimp only
        first | refine ⟨fun h1 => absurd h1 (by decide), fun _ => ?_⟩ | refine ⟨fun _ => ?_, fun h1 => absurd (by decide) h1⟩ | refine ⟨fun h1 => absurd (by decide) h1, fun _ => ?_⟩ | refine ⟨fun _ => ?_, fun h1 => absurd h1 (by decide)⟩
        conv => whnf
        try dsimp only
        exact ⟨trivial, ihj⟩
      · rw [hb, if_pos rfl, ← nu_one (show j < 31 by omega)] at ihj
        refine EV.at ck190 (by decide) 300 [] ?_
        conv => whnf
        try dsimp only
        first | refine ⟨fun h1 => absurd h1 (by decide), fun _ => ?_⟩ | refine ⟨fun _ => ?_, fun h1 => absurd (by decide) h1⟩ | refine ⟨fun h1 => absurd (by decide) h1, fun _ => ?_⟩ | refine ⟨fun _ => ?_, fun h1 => absurd h1 (by decide)⟩
        conv => whnf
        try dsimp only
        exact ⟨trivial, ihj⟩
  refine MT.by ck190 (by decide) rfl (Nat.le_of_ble_eq_true rfl) rfl 300 [4] ?_
  conv => whnf
  try dsimp only
  exact ⟨trivial, loop (tS T) 0 (by omega)⟩
theorem r_beatenBy {i : Nat} (hT : tOK T) (hM : mT T I) (hi : i < tS T) (h : Q (some (.int (nI (orN (fun j => btT T j i) (tS T))))) (SH n, I, J)) : MT G (d + 3) 191 [.ref 77, .int (nI i)] (SH n, I, J) Q := by
  have h5 : tS T ≤ 5 := hT.1
  have loop : ∀ m j, j + m = tS T → EV G 191 (d + 2) 0 0 4 [.ref 77, .int (nI i), .int (nI (orN (fun j => btT T j i) j)), .int (nI j)] [] (SH n, I, J) Q := by
    intro m
    induction m with
    | zero =>
      intro j hj
      have hj : j = tS T := hj
      rw [← hj] at h
      refine EV.at ck191 (by decide) 300 [] ?_
      conv => whnf
      try dsimp only
      rw [hM.1]
      refine pk_le (tS T) j (fun _ => ?_) (fun z => absurd z (by omega))
      conv => whnf
      try dsimp only
      exact ⟨trivial, h⟩
    | succ m ih =>
      intro j hj
      have ihj := ih (j + 1) (by omega)
      have e : orN (fun j => btT T j i) (j + 1) = orN (fun j => btT T j i) j ||| (if btT T j i then 2 ^ j else 0) := rfl
      rw [e, nI_succ j, ← fa_or] at ihj
      refine EV.at ck191 (by decide) 300 [] ?_
      conv => whnf
      try dsimp only
      rw [hM.1]
      refine pk_le (tS T) j (fun z => absurd z (by omega)) (fun _ => ?_)
      conv => whnf
      try dsimp only
      refine ⟨trivial, r_beats hT hM (by omega) hi ?_⟩
      cases hb : btT T j i
      · rw [hb] at ihj
        refine EV.at ck191 (by decide) 300 [] ?_
        conv => whnf
        try dsimp only
        first | refine ⟨fun h1 => absurd h1 (by decide), fun _ => ?_⟩ | refine ⟨fun _ => ?_, fun h1 => absurd (by decide) h1⟩ | refine ⟨fun h1 => absurd (by decide) h1, fun _ => ?_⟩ | refine ⟨fun _ => ?_, fun h1 => absurd h1 (by decide)⟩
        conv => whnf
        try dsimp only
        exact ⟨trivial, ihj⟩
      · rw [hb, if_pos rfl, ← nu_one (show j < 31 by omega)] at ihj
        refine EV.at ck191 (by decide) 300 [] ?_
        conv => whnf
        try dsimp only
        first | refine ⟨fun h1 => absurd h1 (by decide), fun _ => ?_⟩ | refine ⟨fun _ => ?_, fun h1 => absurd (by decide) h1⟩ | refine ⟨fun h1 => absurd (by decide) h1, fun _ => ?_⟩ | refine ⟨fun _ => ?_, fun h1 => absurd h1 (by decide)⟩
        conv => whnf
        try dsimp only
        exact ⟨trivial, ihj⟩
  refine MT.by ck191 (by decide) rfl (Nat.le_of_ble_eq_true rfl) rfl 300 [4] ?_
  conv => whnf
  try dsimp only
  exact ⟨trivial, loop (tS T) 0 (by omega)⟩
theorem r_leading {i : Nat} (hT : tOK T) (hM : mT T I) (hi : i < 5) (h : Q (some (.int (nI (cntN (fun k => tI T k == i) (tC T))))) (SH n, I, J)) : MT G (d + 1) 192 [.ref 77, .int (nI i)] (SH n, I, J) Q := by
  have h5 : tS T ≤ 5 := hT.1
  have h12 : tC T ≤ 12 := hT.2.2.1
  have loop : ∀ m j, j + m = tC T → EV G 192 d 0 0 4 [.ref 77, .int (nI i), .int (nI (cntN (fun k => tI T k == i) j)), .int (nI j)] [] (SH n, I, J) Q := by
    intro m
    induction m with
    | zero =>
      intro j hj
      have hj : j = tC T := hj
      rw [← hj] at h
      refine EV.at ck192 (by decide) 300 [] ?_
      conv => whnf
      try dsimp only
      rw [hM.2.2.1]
      refine pk_le (tC T) j (fun _ => ?_) (fun z => absurd z (by omega))
      conv => whnf
      try dsimp only
      exact ⟨trivial, h⟩
    | succ m ih =>
      intro j hj
      have ihj := ih (j + 1) (by omega)
      have cj : (nI j).toNatClampNeg = j := nI_clamp (by omega)
      have hk := (hT.2.2.2 j (by omega)).2.1
      have e : cntN (fun k => tI T k == i) (j + 1) = cntN (fun k => tI T k == i) j + (if tI T j == i then 1 else 0) := rfl
      rw [e, nI_succ j, ← nI_add] at ihj
      refine EV.at ck192 (by decide) 300 [] ?_
      conv => whnf
      try dsimp only
      rw [hM.2.2.1]
      refine pk_le (tC T) j (fun z => absurd z (by omega)) (fun _ => ?_)
      conv => whnf
      try dsimp only
      refine ⟨in_nI (show j < 12 by omega) (by decide), ?_⟩
      conv => whnf
      try dsimp only
      rw [cj, (hM.2.2.2 j (by omega)).2.1]
      refine ⟨fun z => ?_, fun z => ?_⟩
      · rw [beq_false_of_ne (fun y => z (by rw [y]))] at ihj
        conv => whnf
        try dsimp only
        exact ⟨trivial, ihj⟩
      · rw [(nu_eq (by omega) (by omega)).mp z, beq_self_eq_true] at ihj
        conv => whnf
        try dsimp only
        exact ⟨trivial, ihj⟩
  refine MT.by ck192 (by decide) rfl (Nat.le_of_ble_eq_true rfl) rfl 300 [4] ?_
  conv => whnf
  try dsimp only
  exact ⟨trivial, loop (tC T) 0 (by omega)⟩
theorem r_shapeOf {i w : Nat} (hT : tOK T) (hM : mT T I) (hi : i < tS T) (hw : w < 4) (h : Q (some (.int (shI T i w))) (SH n, I, J)) : MT G (d + 4) 193 [.ref 77, .int (nI i), .int (nI w)] (SH n, I, J) Q := by
  have h5 : tS T ≤ 5 := hT.1
  have ci : (nI i).toNatClampNeg = i := nI_clamp (by omega)
  rcases (show w = 0 ∨ w = 1 ∨ w = 2 ∨ w = 3 by omega) with rfl | rfl | rfl | rfl
  · refine MT.by ck193 (by decide) rfl (Nat.le_of_ble_eq_true rfl) rfl 300 [] ?_
    conv => whnf
    try dsimp only
    first | refine ⟨fun h1 => absurd h1 (by decide), fun _ => ?_⟩ | refine ⟨fun _ => ?_, fun h1 => absurd (by decide) h1⟩ | refine ⟨fun h1 => absurd (by decide) h1, fun _ => ?_⟩ | refine ⟨fun _ => ?_, fun h1 => absurd h1 (by decide)⟩
    conv => whnf
    try dsimp only
    refine ⟨in_nI (show i < 5 by omega) (by decide), ?_⟩
    conv => whnf
    try dsimp only
    rw [ci, (hM.2.1 i hi).1]
    exact ⟨trivial, h⟩
  · refine MT.by ck193 (by decide) rfl (Nat.le_of_ble_eq_true rfl) rfl 300 [] ?_
    conv => whnf
    try dsimp only
    first | refine ⟨fun h1 => absurd h1 (by decide), fun _ => ?_⟩ | refine ⟨fun _ => ?_, fun h1 => absurd (by decide) h1⟩ | refine ⟨fun h1 => absurd (by decide) h1, fun _ => ?_⟩ | refine ⟨fun _ => ?_, fun h1 => absurd h1 (by decide)⟩
    conv => whnf
    try dsimp only
    first | refine ⟨fun h1 => absurd h1 (by decide), fun _ => ?_⟩ | refine ⟨fun _ => ?_, fun h1 => absurd (by decide) h1⟩ | refine ⟨fun h1 => absurd (by decide) h1, fun _ => ?_⟩ | refine ⟨fun _ => ?_, fun h1 => absurd h1 (by decide)⟩
    conv => whnf
    try dsimp only
    refine ⟨trivial, r_beatsOf hT hM hi ?_⟩
    refine EV.at ck193 (by decide) 300 [] ?_
    conv => whnf
    try dsimp only
    exact ⟨trivial, h⟩
  · refine MT.by ck193 (by decide) rfl (Nat.le_of_ble_eq_true rfl) rfl 300 [] ?_
    conv => whnf
    try dsimp only
    first | refine ⟨fun h1 => absurd h1 (by decide), fun _ => ?_⟩ | refine ⟨fun _ => ?_, fun h1 => absurd (by decide) h1⟩ | refine ⟨fun h1 => absurd (by decide) h1, fun _ => ?_⟩ | refine ⟨fun _ => ?_, fun h1 => absurd h1 (by decide)⟩
    conv => whnf
    try dsimp only
    first | refine ⟨fun h1 => absurd h1 (by decide), fun _ => ?_⟩ | refine ⟨fun _ => ?_, fun h1 => absurd (by decide) h1⟩ | refine ⟨fun h1 => absurd (by decide) h1, fun _ => ?_⟩ | refine ⟨fun _ => ?_, fun h1 => absurd h1 (by decide)⟩
    conv => whnf
    try dsimp only
    first | refine ⟨fun h1 => absurd h1 (by decide), fun _ => ?_⟩ | refine ⟨fun _ => ?_, fun h1 => absurd (by decide) h1⟩ | refine ⟨fun h1 => absurd (by decide) h1, fun _ => ?_⟩ | refine ⟨fun _ => ?_, fun h1 => absurd h1 (by decide)⟩
    conv => whnf
    try dsimp only
    refine ⟨trivial, r_beatenBy hT hM hi ?_⟩
    refine EV.at ck193 (by decide) 300 [] ?_
    conv => whnf
    try dsimp only
    exact ⟨trivial, h⟩
  · refine MT.by ck193 (by decide) rfl (Nat.le_of_ble_eq_true rfl) rfl 300 [] ?_
    conv => whnf
    try dsimp only
    first | refine ⟨fun h1 => absurd h1 (by decide), fun _ => ?_⟩ | refine ⟨fun _ => ?_, fun h1 => absurd (by decide) h1⟩ | refine ⟨fun h1 => absurd (by decide) h1, fun _ => ?_⟩ | refine ⟨fun _ => ?_, fun h1 => absurd h1 (by decide)⟩
    conv => whnf
    try dsimp only
    first | refine ⟨fun h1 => absurd h1 (by decide), fun _ => ?_⟩ | refine ⟨fun _ => ?_, fun h1 => absurd (by decide) h1⟩ | refine ⟨fun h1 => absurd (by decide) h1, fun _ => ?_⟩ | refine ⟨fun _ => ?_, fun h1 => absurd h1 (by decide)⟩
    conv => whnf
    try dsimp only
    first | refine ⟨fun h1 => absurd h1 (by decide), fun _ => ?_⟩ | refine ⟨fun _ => ?_, fun h1 => absurd (by decide) h1⟩ | refine ⟨fun h1 => absurd (by decide) h1, fun _ => ?_⟩ | refine ⟨fun _ => ?_, fun h1 => absurd h1 (by decide)⟩
    conv => whnf
    try dsimp only
    refine ⟨trivial, r_leading hT hM (by omega) ?_⟩
    refine EV.at ck193 (by decide) 300 [] ?_
    conv => whnf
    try dsimp only
    exact ⟨trivial, h⟩
theorem r_changeOf {F : FG} {k w : Nat} (hT : tOK T) (hM : mT T I) (hF : wM 0 F I) (hv : vQ T F.1) (hk : k < tC T) (hw : w < 4) (h : Q (some (.int (cgI T F.1 k w))) (SH n, I, J)) : MT G (d + 1) 195 [.ref 77, .int (nI k), .int (nI w)] (SH n, I, J) Q := by
  have h12 : tC T ≤ 12 := hT.2.2.1
  have ck : (nI k).toNatClampNeg = k := nI_clamp (by omega)
  obtain ⟨m1, m2, m3⟩ := hM.2.2.2 k hk
  have k0 := hv.1.2.2.2
  have k1 := hv.2.2.2.2
  have e6 : I 78 6 = nI (F.1 0).2.2.2 := hF.2.1
  have e7 : I 78 7 = nI (F.1 1).2.2.2 := hF.2.2.1
  rcases (show w = 0 ∨ w = 1 ∨ w = 2 ∨ w = 3 by omega) with rfl | rfl | rfl | rfl
  · refine MT.by ck195 (by decide) rfl (Nat.le_of_ble_eq_true rfl) rfl 300 [] ?_
    conv => whnf
    try dsimp only
    refine ⟨by unfold vp_in; decide, ?_⟩
    conv => whnf
    try dsimp only
    refine ⟨by unfold vp_in; decide, ?_⟩
    conv => whnf
    try dsimp only
    first | refine ⟨fun h1 => absurd h1 (by decide), fun _ => ?_⟩ | refine ⟨fun _ => ?_, fun h1 => absurd (by decide) h1⟩ | refine ⟨fun h1 => absurd (by decide) h1, fun _ => ?_⟩ | refine ⟨fun _ => ?_, fun h1 => absurd h1 (by decide)⟩
    conv => whnf
    try dsimp only
    refine ⟨in_nI (show k < 12 by omega) (by decide), ?_⟩
    conv => whnf
    try dsimp only
    rw [ck, m1]
    exact ⟨trivial, h⟩
  · refine MT.by ck195 (by decide) rfl (Nat.le_of_ble_eq_true rfl) rfl 300 [] ?_
    conv => whnf
    try dsimp only
    refine ⟨by unfold vp_in; decide, ?_⟩
    conv => whnf
    try dsimp only
    refine ⟨by unfold vp_in; decide, ?_⟩
    conv => whnf
    try dsimp only
    first | refine ⟨fun h1 => absurd h1 (by decide), fun _ => ?_⟩ | refine ⟨fun _ => ?_, fun h1 => absurd (by decide) h1⟩ | refine ⟨fun h1 => absurd (by decide) h1, fun _ => ?_⟩ | refine ⟨fun _ => ?_, fun h1 => absurd h1 (by decide)⟩
    conv => whnf
    try dsimp only
    first | refine ⟨fun h1 => absurd h1 (by decide), fun _ => ?_⟩ | refine ⟨fun _ => ?_, fun h1 => absurd (by decide) h1⟩ | refine ⟨fun h1 => absurd (by decide) h1, fun _ => ?_⟩ | refine ⟨fun _ => ?_, fun h1 => absurd h1 (by decide)⟩
    conv => whnf
    try dsimp only
    refine ⟨in_nI (show k < 12 by omega) (by decide), ?_⟩
    conv => whnf
    try dsimp only
    rw [ck, m2]
    exact ⟨trivial, h⟩
  · refine MT.by ck195 (by decide) rfl (Nat.le_of_ble_eq_true rfl) rfl 300 [] ?_
    conv => whnf
    try dsimp only
    refine ⟨by unfold vp_in; decide, ?_⟩
    conv => whnf
    try dsimp only
    refine ⟨by unfold vp_in; decide, ?_⟩
    conv => whnf
    try dsimp only
    first | refine ⟨fun h1 => absurd h1 (by decide), fun _ => ?_⟩ | refine ⟨fun _ => ?_, fun h1 => absurd (by decide) h1⟩ | refine ⟨fun h1 => absurd (by decide) h1, fun _ => ?_⟩ | refine ⟨fun _ => ?_, fun h1 => absurd h1 (by decide)⟩
    conv => whnf
    try dsimp only
    first | refine ⟨fun h1 => absurd h1 (by decide), fun _ => ?_⟩ | refine ⟨fun _ => ?_, fun h1 => absurd (by decide) h1⟩ | refine ⟨fun h1 => absurd (by decide) h1, fun _ => ?_⟩ | refine ⟨fun _ => ?_, fun h1 => absurd h1 (by decide)⟩
    conv => whnf
    try dsimp only
    first | refine ⟨fun h1 => absurd h1 (by decide), fun _ => ?_⟩ | refine ⟨fun _ => ?_, fun h1 => absurd (by decide) h1⟩ | refine ⟨fun h1 => absurd (by decide) h1, fun _ => ?_⟩ | refine ⟨fun _ => ?_, fun h1 => absurd h1 (by decide)⟩
    conv => whnf
    try dsimp only
    refine ⟨in_nI (show k < 12 by omega) (by decide), ?_⟩
    conv => whnf
    try dsimp only
    rw [ck, m3]
    exact ⟨trivial, h⟩
  · refine MT.by ck195 (by decide) rfl (Nat.le_of_ble_eq_true rfl) rfl 300 [] ?_
    conv => whnf
    try dsimp only
    refine ⟨by unfold vp_in; decide, ?_⟩
    conv => whnf
    try dsimp only
    refine ⟨by unfold vp_in; decide, ?_⟩
    conv => whnf
    try dsimp only
    first | refine ⟨fun h1 => absurd h1 (by decide), fun _ => ?_⟩ | refine ⟨fun _ => ?_, fun h1 => absurd (by decide) h1⟩ | refine ⟨fun h1 => absurd (by decide) h1, fun _ => ?_⟩ | refine ⟨fun _ => ?_, fun h1 => absurd h1 (by decide)⟩
    conv => whnf
    try dsimp only
    first | refine ⟨fun h1 => absurd h1 (by decide), fun _ => ?_⟩ | refine ⟨fun _ => ?_, fun h1 => absurd (by decide) h1⟩ | refine ⟨fun h1 => absurd (by decide) h1, fun _ => ?_⟩ | refine ⟨fun _ => ?_, fun h1 => absurd h1 (by decide)⟩
    conv => whnf
    try dsimp only
    first | refine ⟨fun h1 => absurd h1 (by decide), fun _ => ?_⟩ | refine ⟨fun _ => ?_, fun h1 => absurd (by decide) h1⟩ | refine ⟨fun h1 => absurd (by decide) h1, fun _ => ?_⟩ | refine ⟨fun _ => ?_, fun h1 => absurd h1 (by decide)⟩
    conv => whnf
    try dsimp only
    have c6 : Int32.toNatClampNeg 6 = 6 := by decide
    have c7 : Int32.toNatClampNeg 7 = 7 := by decide
    rw [c6, c7, e6, e7, nu_bit (by omega) (by omega), nu_bit (by omega) (by omega)]
    exact ⟨trivial, h⟩
theorem m_shape {i w : Int32} : RS G n 194 [.int i, .int w] (fun a => sp_shape a i w) := by
  intro D I J Q a hO hC h
  try dsimp only at h
  obtain ⟨hcT, hcF, hcK, hcR, hcX, hcN, hcA, hcU⟩ := id hC
  obtain ⟨oT, oF, oN, oK, oR, oX⟩ := id hO
  unfold sp_shape at h
  refine MT.by ck194 (by decide) rfl (Nat.le_of_ble_eq_true rfl) rfl 300 [] ?_
  conv => whnf
  try dsimp only
  refine ⟨trivial, r_isShape oT.1 hcT (fun e1 => ?_) (fun j hj hr e1 => ?_)⟩
  · rw [e1] at h
    refine EV.at ck194 (by decide) 300 [] ?_
    conv => whnf
    try dsimp only
    first | refine ⟨fun h1 => absurd h1 (by decide), fun _ => ?_⟩ | refine ⟨fun _ => ?_, fun h1 => absurd (by decide) h1⟩ | refine ⟨fun h1 => absurd (by decide) h1, fun _ => ?_⟩ | refine ⟨fun _ => ?_, fun h1 => absurd h1 (by decide)⟩
    conv => whnf
    try dsimp only
    exact ⟨trivial, rfin rfl hC (FM.rf I) (FMJ.rf J) h⟩
  rw [e1] at h
  dsimp only at h
  subst hr
  refine EV.at ck194 (by decide) 300 [] ?_
  conv => whnf
  try dsimp only
  first | refine ⟨fun h1 => absurd h1 (by decide), fun _ => ?_⟩ | refine ⟨fun _ => ?_, fun h1 => absurd (by decide) h1⟩ | refine ⟨fun h1 => absurd (by decide) h1, fun _ => ?_⟩ | refine ⟨fun _ => ?_, fun h1 => absurd h1 (by decide)⟩
  conv => whnf
  try dsimp only
  refine ⟨trivial, r_ix (K := 4) (by decide) (by decide) (fun e2 => ?_) (fun l hl hr e2 => ?_)⟩
  · rw [e2] at h
    refine EV.at ck194 (by decide) 300 [] ?_
    conv => whnf
    try dsimp only
    first | refine ⟨fun h1 => absurd h1 (by decide), fun _ => ?_⟩ | refine ⟨fun _ => ?_, fun h1 => absurd (by decide) h1⟩ | refine ⟨fun h1 => absurd (by decide) h1, fun _ => ?_⟩ | refine ⟨fun _ => ?_, fun h1 => absurd h1 (by decide)⟩
    conv => whnf
    try dsimp only
    exact ⟨trivial, rfin rfl hC (FM.rf I) (FMJ.rf J) h⟩
  rw [e2] at h
  subst hr
  refine EV.at ck194 (by decide) 300 [] ?_
  conv => whnf
  try dsimp only
  first | refine ⟨fun h1 => absurd h1 (by decide), fun _ => ?_⟩ | refine ⟨fun _ => ?_, fun h1 => absurd (by decide) h1⟩ | refine ⟨fun h1 => absurd (by decide) h1, fun _ => ?_⟩ | refine ⟨fun _ => ?_, fun h1 => absurd h1 (by decide)⟩
  conv => whnf
  try dsimp only
  refine ⟨trivial, r_shapeOf oT.1 hcT hj hl ?_⟩
  refine EV.at ck194 (by decide) 300 [] ?_
  conv => whnf
  try dsimp only
  refine ⟨trivial, r_says ?_⟩
  refine EV.at ck194 (by decide) 300 [] ?_
  conv => whnf
  try dsimp only
  exact ⟨trivial, rfin rfl hC.ask ((FM.rf I).up (by decide)) (FMJ.rf J) h⟩
theorem m_change {i w : Int32} : RS G n 196 [.int i, .int w] (fun a => sp_change a i w) := by
  intro D I J Q a hO hC h
  try dsimp only at h
  obtain ⟨hcT, hcF, hcK, hcR, hcX, hcN, hcA, hcU⟩ := id hC
  obtain ⟨oT, oF, oN, oK, oR, oX⟩ := id hO
  unfold sp_change at h
  refine MT.by ck196 (by decide) rfl (Nat.le_of_ble_eq_true rfl) rfl 300 [] ?_
  conv => whnf
  try dsimp only
  refine ⟨trivial, r_isChange oT.1 hcT (fun e1 => ?_) (fun j hj hr e1 => ?_)⟩
  · rw [e1] at h
    refine EV.at ck196 (by decide) 300 [] ?_
    conv => whnf
    try dsimp only
    first | refine ⟨fun h1 => absurd h1 (by decide), fun _ => ?_⟩ | refine ⟨fun _ => ?_, fun h1 => absurd (by decide) h1⟩ | refine ⟨fun h1 => absurd (by decide) h1, fun _ => ?_⟩ | refine ⟨fun _ => ?_, fun h1 => absurd h1 (by decide)⟩
    conv => whnf
    try dsimp only
    exact ⟨trivial, rfin rfl hC (FM.rf I) (FMJ.rf J) h⟩
  rw [e1] at h
  dsimp only at h
  subst hr
  refine EV.at ck196 (by decide) 300 [] ?_
  conv => whnf
  try dsimp only
  first | refine ⟨fun h1 => absurd h1 (by decide), fun _ => ?_⟩ | refine ⟨fun _ => ?_, fun h1 => absurd (by decide) h1⟩ | refine ⟨fun h1 => absurd (by decide) h1, fun _ => ?_⟩ | refine ⟨fun _ => ?_, fun h1 => absurd h1 (by decide)⟩
  conv => whnf
  try dsimp only
  refine ⟨trivial, r_ix (K := 4) (by decide) (by decide) (fun e2 => ?_) (fun l hl hr e2 => ?_)⟩
  · rw [e2] at h
    refine EV.at ck196 (by decide) 300 [] ?_
    conv => whnf
    try dsimp only
    first | refine ⟨fun h1 => absurd h1 (by decide), fun _ => ?_⟩ | refine ⟨fun _ => ?_, fun h1 => absurd (by decide) h1⟩ | refine ⟨fun h1 => absurd (by decide) h1, fun _ => ?_⟩ | refine ⟨fun _ => ?_, fun h1 => absurd h1 (by decide)⟩
    conv => whnf
    try dsimp only
    exact ⟨trivial, rfin rfl hC (FM.rf I) (FMJ.rf J) h⟩
  rw [e2] at h
  subst hr
  have hv := (oF (aH_of hO (Or.inr (by omega)))).1
  refine EV.at ck196 (by decide) 300 [] ?_
  conv => whnf
  try dsimp only
  first | refine ⟨fun h1 => absurd h1 (by decide), fun _ => ?_⟩ | refine ⟨fun _ => ?_, fun h1 => absurd (by decide) h1⟩ | refine ⟨fun h1 => absurd (by decide) h1, fun _ => ?_⟩ | refine ⟨fun _ => ?_, fun h1 => absurd h1 (by decide)⟩
  conv => whnf
  try dsimp only
  refine ⟨trivial, r_changeOf oT.1 hcT hcF.2 hv hj hl ?_⟩
  refine EV.at ck196 (by decide) 300 [] ?_
  conv => whnf
  try dsimp only
  refine ⟨trivial, r_says ?_⟩
  refine EV.at ck196 (by decide) 300 [] ?_
  conv => whnf
  try dsimp only
  exact ⟨trivial, rfin rfl hC.ask ((FM.rf I).up (by decide)) (FMJ.rf J) h⟩
theorem m_fighter {r x : Int32} : RS G n 199 [.int r, .int x] (fun a => sp_fighter a r x) := by
  intro D I J Q a hO hC h
  try dsimp only at h
  obtain ⟨hcT, hcF, hcK, hcR, hcX, hcN, hcA, hcU⟩ := id hC
  obtain ⟨oT, oF, oN, oK, oR, oX⟩ := id hO
  unfold sp_fighter at h
  refine MT.by ck199 (by decide) rfl (Nat.le_of_ble_eq_true rfl) rfl 300 [] ?_
  conv => whnf
  try dsimp only
  refine ⟨trivial, r_fi hcF.1 (fun e1 => ?_) (fun j hj hr hh e1 => ?_)⟩
  · rw [e1] at h
    refine EV.at ck199 (by decide) 300 [] ?_
    conv => whnf
    try dsimp only
    first | refine ⟨fun h1 => absurd h1 (by decide), fun _ => ?_⟩ | refine ⟨fun _ => ?_, fun h1 => absurd (by decide) h1⟩ | refine ⟨fun h1 => absurd (by decide) h1, fun _ => ?_⟩ | refine ⟨fun _ => ?_, fun h1 => absurd h1 (by decide)⟩
    conv => whnf
    try dsimp only
    exact ⟨trivial, rfin rfl hC (FM.rf I) (FMJ.rf J) h⟩
  rw [e1] at h
  dsimp only at h
  subst hr
  refine EV.at ck199 (by decide) 300 [] ?_
  conv => whnf
  try dsimp only
  first | refine ⟨fun h1 => absurd h1 (by decide), fun _ => ?_⟩ | refine ⟨fun _ => ?_, fun h1 => absurd (by decide) h1⟩ | refine ⟨fun h1 => absurd (by decide) h1, fun _ => ?_⟩ | refine ⟨fun _ => ?_, fun h1 => absurd h1 (by decide)⟩
  conv => whnf
  try dsimp only
  refine ⟨trivial, r_ix (K := 4) (by decide) (by decide) (fun e2 => ?_) (fun l hl hr e2 => ?_)⟩
  · rw [e2] at h
    refine EV.at ck199 (by decide) 300 [] ?_
    conv => whnf
    try dsimp only
    first | refine ⟨fun h1 => absurd h1 (by decide), fun _ => ?_⟩ | refine ⟨fun _ => ?_, fun h1 => absurd (by decide) h1⟩ | refine ⟨fun h1 => absurd (by decide) h1, fun _ => ?_⟩ | refine ⟨fun _ => ?_, fun h1 => absurd h1 (by decide)⟩
    conv => whnf
    try dsimp only
    exact ⟨trivial, rfin rfl hC (FM.rf I) (FMJ.rf J) h⟩
  rw [e2] at h
  subst hr
  have ca : (nI (2 * l + j)).toNatClampNeg = 2 * l + j := nI_clamp (by omega)
  refine EV.at ck199 (by decide) 300 [] ?_
  conv => whnf
  try dsimp only
  first | refine ⟨fun h1 => absurd h1 (by decide), fun _ => ?_⟩ | refine ⟨fun _ => ?_, fun h1 => absurd (by decide) h1⟩ | refine ⟨fun h1 => absurd (by decide) h1, fun _ => ?_⟩ | refine ⟨fun _ => ?_, fun h1 => absurd h1 (by decide)⟩
  conv => whnf
  try dsimp only
  rw [show (2 : Int32) * nI l = nI (2 * l) from pk_mul 2 l, nI_add]
  refine ⟨in_nI (show 2 * l + j < 1156 by omega) (by decide), ?_⟩
  conv => whnf
  try dsimp only
  rw [ca, wM_at hcF.2 hj hl]
  refine ⟨trivial, r_says ?_⟩
  refine EV.at ck199 (by decide) 300 [] ?_
  conv => whnf
  try dsimp only
  exact ⟨trivial, rfin rfl hC.ask ((FM.rf I).up (by decide)) (FMJ.rf J) h⟩
theorem m_teach {r x b : Int32} : RS G n 200 [.int r, .int x, .int b] (fun a => sp_teach a r x b) := by
  intro D I J Q a hO hC h
  try dsimp only at h
  obtain ⟨hcT, hcF, hcK, hcR, hcX, hcN, hcA, hcU⟩ := id hC
  obtain ⟨oT, oF, oN, oK, oR, oX⟩ := id hO
  have h12 : tC (aT a) ≤ 12 := oT.1.2.2.1
  unfold sp_teach at h
  refine MT.by ck200 (by decide) rfl (Nat.le_of_ble_eq_true rfl) rfl 300 [] ?_
  conv => whnf
  try dsimp only
  refine ⟨trivial, r_fi hcF.1 (fun e1 => ?_) (fun j hj hr hh e1 => ?_)⟩
  · rw [e1] at h
    refine EV.at ck200 (by decide) 300 [] ?_
    conv => whnf
    try dsimp only
    first | refine ⟨fun h1 => absurd h1 (by decide), fun _ => ?_⟩ | refine ⟨fun _ => ?_, fun h1 => absurd (by decide) h1⟩ | refine ⟨fun h1 => absurd (by decide) h1, fun _ => ?_⟩ | refine ⟨fun _ => ?_, fun h1 => absurd h1 (by decide)⟩
    conv => whnf
    try dsimp only
    exact ⟨trivial, rfin rfl hC (FM.rf I) (FMJ.rf J) h⟩
  rw [e1] at h
  dsimp only at h
  subst hr
  refine EV.at ck200 (by decide) 300 [] ?_
  conv => whnf
  try dsimp only
  first | refine ⟨fun h1 => absurd h1 (by decide), fun _ => ?_⟩ | refine ⟨fun _ => ?_, fun h1 => absurd (by decide) h1⟩ | refine ⟨fun h1 => absurd (by decide) h1, fun _ => ?_⟩ | refine ⟨fun _ => ?_, fun h1 => absurd h1 (by decide)⟩
  conv => whnf
  try dsimp only
  refine ⟨trivial, r_isChange oT.1 hcT (fun e2 => ?_) (fun k hk hr e2 => ?_)⟩
  · rw [e2] at h
    refine EV.at ck200 (by decide) 300 [] ?_
    conv => whnf
    try dsimp only
    first | refine ⟨fun h1 => absurd h1 (by decide), fun _ => ?_⟩ | refine ⟨fun _ => ?_, fun h1 => absurd (by decide) h1⟩ | refine ⟨fun h1 => absurd (by decide) h1, fun _ => ?_⟩ | refine ⟨fun _ => ?_, fun h1 => absurd h1 (by decide)⟩
    conv => whnf
    try dsimp only
    exact ⟨trivial, rfin rfl hC (FM.rf I) (FMJ.rf J) h⟩
  rw [e2] at h
  dsimp only at h
  subst hr
  refine EV.at ck200 (by decide) 300 [] ?_
  conv => whnf
  try dsimp only
  first | refine ⟨fun h1 => absurd h1 (by decide), fun _ => ?_⟩ | refine ⟨fun _ => ?_, fun h1 => absurd (by decide) h1⟩ | refine ⟨fun h1 => absurd (by decide) h1, fun _ => ?_⟩ | refine ⟨fun _ => ?_, fun h1 => absurd h1 (by decide)⟩
  conv => whnf
  try dsimp only
  refine ⟨trivial, r_ix (K := 2) (by decide) (by decide) (fun e3 => ?_) (fun l hl hr e3 => ?_)⟩
  · rw [e3] at h
    refine EV.at ck200 (by decide) 300 [] ?_
    conv => whnf
    try dsimp only
    first | refine ⟨fun h1 => absurd h1 (by decide), fun _ => ?_⟩ | refine ⟨fun _ => ?_, fun h1 => absurd (by decide) h1⟩ | refine ⟨fun h1 => absurd (by decide) h1, fun _ => ?_⟩ | refine ⟨fun _ => ?_, fun h1 => absurd h1 (by decide)⟩
    conv => whnf
    try dsimp only
    exact ⟨trivial, rfin rfl hC (FM.rf I) (FMJ.rf J) h⟩
  rw [e3] at h
  subst hr
  have hkn : (aq a j).2.2.2 < 4096 := (vQ_at (oF hh).1 hj).2.2.2
  have a6 : (6 : Int32) + nI j = nI (6 + j) := nI_add 6 j
  have c6 : (nI (6 + j)).toNatClampNeg = 6 + j := nI_clamp (by omega)
  have e6 : I 78 (6 + j) = nI (aq a j).2.2.2 := wM_at (x := 3) hcF.2 hj (by decide)
  refine EV.at ck200 (by decide) 300 [] ?_
  conv => whnf
  try dsimp only
  first | refine ⟨fun h1 => absurd h1 (by decide), fun _ => ?_⟩ | refine ⟨fun _ => ?_, fun h1 => absurd (by decide) h1⟩ | refine ⟨fun h1 => absurd (by decide) h1, fun _ => ?_⟩ | refine ⟨fun _ => ?_, fun h1 => absurd h1 (by decide)⟩
  conv => whnf
  try dsimp only
  rw [a6]
  refine ⟨in_nI (show 6 + j < 1156 by omega) (by decide), ?_⟩
  conv => whnf
  try dsimp only
  rw [a6]
  refine ⟨in_nI (show 6 + j < 1156 by omega) (by decide), ?_⟩
  conv => whnf
  try dsimp only
  rw [c6, e6, sB_m (show k < 31 by omega) hl, nu_bit (Nat.lt_trans hkn (by decide)) (by omega)]
  refine ⟨in_nI (show 6 + j < 1156 by omega) (by decide), ?_⟩
  conv => whnf
  try dsimp only
  refine ⟨trivial, rfin rfl (hC.fgt (b := true) (fun r _ _ h2 => upI_oth h2) (fun k _ => by rw [upI_oth (by decide)]) (fun x hx => up_ne (by omega)) ⟨by rw [upI_oth (by decide), hcF.1, hh], wM_K hcF.2 hj⟩) ((FM.rf I).up (by decide)) (FMJ.rf J) h⟩
theorem m_fire {r x : Int32} : RS G n 201 [.int r, .int x] (fun a => sp_fire a r x) := by
  intro D I J Q a hO hC h
  try dsimp only at h
  obtain ⟨hcT, hcF, hcK, hcR, hcX, hcN, hcA, hcU⟩ := id hC
  obtain ⟨oT, oF, oN, oK, oR, oX⟩ := id hO
  unfold sp_fire at h
  refine MT.by ck201 (by decide) rfl (Nat.le_of_ble_eq_true rfl) rfl 300 [] ?_
  conv => whnf
  try dsimp only
  refine ⟨trivial, r_fi hcF.1 (fun e1 => ?_) (fun j hj hr hh e1 => ?_)⟩
  · rw [e1] at h
    refine EV.at ck201 (by decide) 300 [] ?_
    conv => whnf
    try dsimp only
    first | refine ⟨fun h1 => absurd h1 (by decide), fun _ => ?_⟩ | refine ⟨fun _ => ?_, fun h1 => absurd (by decide) h1⟩ | refine ⟨fun h1 => absurd (by decide) h1, fun _ => ?_⟩ | refine ⟨fun _ => ?_, fun h1 => absurd h1 (by decide)⟩
    conv => whnf
    try dsimp only
    exact ⟨trivial, rfin rfl hC (FM.rf I) (FMJ.rf J) h⟩
  rw [e1] at h
  dsimp only at h
  subst hr
  refine EV.at ck201 (by decide) 300 [] ?_
  conv => whnf
  try dsimp only
  first | refine ⟨fun h1 => absurd h1 (by decide), fun _ => ?_⟩ | refine ⟨fun _ => ?_, fun h1 => absurd (by decide) h1⟩ | refine ⟨fun h1 => absurd (by decide) h1, fun _ => ?_⟩ | refine ⟨fun _ => ?_, fun h1 => absurd h1 (by decide)⟩
  conv => whnf
  try dsimp only
  refine ⟨trivial, r_ix (K := 6) (by decide) (by decide) (fun e2 => ?_) (fun k hk hr e2 => ?_)⟩
  · rw [e2] at h
    refine EV.at ck201 (by decide) 300 [] ?_
    conv => whnf
    try dsimp only
    first | refine ⟨fun h1 => absurd h1 (by decide), fun _ => ?_⟩ | refine ⟨fun _ => ?_, fun h1 => absurd (by decide) h1⟩ | refine ⟨fun h1 => absurd (by decide) h1, fun _ => ?_⟩ | refine ⟨fun _ => ?_, fun h1 => absurd h1 (by decide)⟩
    conv => whnf
    try dsimp only
    exact ⟨trivial, rfin rfl hC (FM.rf I) (FMJ.rf J) h⟩
  rw [e2] at h
  subst hr
  have a2 : (2 : Int32) + nI j = nI (2 + j) := nI_add 2 j
  have c2 : (nI (2 + j)).toNatClampNeg = 2 + j := nI_clamp (by omega)
  have e3 : I 78 (2 + j) = nI (aq a j).2.1 := wM_at (x := 1) hcF.2 hj (by decide)
  refine EV.at ck201 (by decide) 300 [] ?_
  conv => whnf
  try dsimp only
  first | refine ⟨fun h1 => absurd h1 (by decide), fun _ => ?_⟩ | refine ⟨fun _ => ?_, fun h1 => absurd (by decide) h1⟩ | refine ⟨fun h1 => absurd (by decide) h1, fun _ => ?_⟩ | refine ⟨fun _ => ?_, fun h1 => absurd h1 (by decide)⟩
  conv => whnf
  try dsimp only
  rw [a2]
  refine ⟨in_nI (show 2 + j < 1156 by omega) (by decide), ?_⟩
  conv => whnf
  try dsimp only
  rw [a2]
  refine ⟨in_nI (show 2 + j < 1156 by omega) (by decide), ?_⟩
  conv => whnf
  try dsimp only
  rw [c2, e3]
  refine ⟨trivial, rfin rfl (hC.fgt (b := true) (fun r _ _ h2 => upI_oth h2) (fun k _ => by rw [upI_oth (by decide)]) (fun x hx => up_ne (by omega)) ⟨by rw [upI_oth (by decide), hcF.1, hh], wM_F hcF.2 hj⟩) ((FM.rf I).up (by decide)) (FMJ.rf J) h⟩
theorem m_beat {r x b : Int32} : RS G n 202 [.int r, .int x, .int b] (fun a => sp_beat a r x b) := by
  intro D I J Q a hO hC h
  try dsimp only at h
  obtain ⟨hcT, hcF, hcK, hcR, hcX, hcN, hcA, hcU⟩ := id hC
  obtain ⟨oT, oF, oN, oK, oR, oX⟩ := id hO
  have h5 : tS (aT a) ≤ 5 := oT.1.1
  unfold sp_beat at h
  refine MT.by ck202 (by decide) rfl (Nat.le_of_ble_eq_true rfl) rfl 300 [] ?_
  conv => whnf
  try dsimp only
  refine ⟨trivial, r_isShape oT.1 hcT (fun e1 => ?_) (fun j hj hr e1 => ?_)⟩
  · rw [e1] at h
    refine EV.at ck202 (by decide) 300 [] ?_
    conv => whnf
    try dsimp only
    first | refine ⟨fun h1 => absurd h1 (by decide), fun _ => ?_⟩ | refine ⟨fun _ => ?_, fun h1 => absurd (by decide) h1⟩ | refine ⟨fun h1 => absurd (by decide) h1, fun _ => ?_⟩ | refine ⟨fun _ => ?_, fun h1 => absurd h1 (by decide)⟩
    conv => whnf
    try dsimp only
    exact ⟨trivial, rfin rfl hC (FM.rf I) (FMJ.rf J) h⟩
  rw [e1] at h
  dsimp only at h
  subst hr
  have cj : (nI j).toNatClampNeg = j := nI_clamp (by omega)
  refine EV.at ck202 (by decide) 300 [] ?_
  conv => whnf
  try dsimp only
  first | refine ⟨fun h1 => absurd h1 (by decide), fun _ => ?_⟩ | refine ⟨fun _ => ?_, fun h1 => absurd (by decide) h1⟩ | refine ⟨fun h1 => absurd (by decide) h1, fun _ => ?_⟩ | refine ⟨fun _ => ?_, fun h1 => absurd h1 (by decide)⟩
  conv => whnf
  try dsimp only
  refine ⟨trivial, r_isShape oT.1 hcT (fun e2 => ?_) (fun k hk hr e2 => ?_)⟩
  · rw [e2] at h
    refine EV.at ck202 (by decide) 300 [] ?_
    conv => whnf
    try dsimp only
    first | refine ⟨fun h1 => absurd h1 (by decide), fun _ => ?_⟩ | refine ⟨fun _ => ?_, fun h1 => absurd (by decide) h1⟩ | refine ⟨fun h1 => absurd (by decide) h1, fun _ => ?_⟩ | refine ⟨fun _ => ?_, fun h1 => absurd h1 (by decide)⟩
    conv => whnf
    try dsimp only
    exact ⟨trivial, rfin rfl hC (FM.rf I) (FMJ.rf J) h⟩
  rw [e2] at h
  dsimp only at h
  subst hr
  refine EV.at ck202 (by decide) 300 [] ?_
  conv => whnf
  try dsimp only
  first | refine ⟨fun h1 => absurd h1 (by decide), fun _ => ?_⟩ | refine ⟨fun _ => ?_, fun h1 => absurd (by decide) h1⟩ | refine ⟨fun h1 => absurd (by decide) h1, fun _ => ?_⟩ | refine ⟨fun _ => ?_, fun h1 => absurd h1 (by decide)⟩
  conv => whnf
  try dsimp only
  refine pk_eq j k (fun z1 => ?_) (fun z1 => ?_)
  · conv => whnf
    try dsimp only
    exact ⟨trivial, rfin (if_pos z1) hC (FM.rf I) (FMJ.rf J) h⟩
  rw [if_neg z1] at h
  conv => whnf
  try dsimp only
  refine ⟨trivial, r_ix (K := 2) (by decide) (by decide) (fun e3 => ?_) (fun l hl hr e3 => ?_)⟩
  · rw [e3] at h
    refine EV.at ck202 (by decide) 300 [] ?_
    conv => whnf
    try dsimp only
    first | refine ⟨fun h1 => absurd h1 (by decide), fun _ => ?_⟩ | refine ⟨fun _ => ?_, fun h1 => absurd (by decide) h1⟩ | refine ⟨fun h1 => absurd (by decide) h1, fun _ => ?_⟩ | refine ⟨fun _ => ?_, fun h1 => absurd h1 (by decide)⟩
    conv => whnf
    try dsimp only
    exact ⟨trivial, rfin rfl hC (FM.rf I) (FMJ.rf J) h⟩
  rw [e3] at h
  subst hr
  have hk8 := (oT.1.2.1 j hj).2
  have m8 := (hcT.2.1 j hj).2
  refine EV.at ck202 (by decide) 300 [] ?_
  conv => whnf
  try dsimp only
  first | refine ⟨fun h1 => absurd h1 (by decide), fun _ => ?_⟩ | refine ⟨fun _ => ?_, fun h1 => absurd (by decide) h1⟩ | refine ⟨fun h1 => absurd (by decide) h1, fun _ => ?_⟩ | refine ⟨fun _ => ?_, fun h1 => absurd h1 (by decide)⟩
  conv => whnf
  try dsimp only
  refine ⟨in_nI (show j < 5 by omega) (by decide), ?_⟩
  conv => whnf
  try dsimp only
  refine ⟨in_nI (show j < 5 by omega) (by decide), ?_⟩
  conv => whnf
  try dsimp only
  rw [cj, m8, sB_m (show k < 31 by omega) hl, nu_bit (by omega) (by omega)]
  refine ⟨in_nI (show j < 5 by omega) (by decide), ?_⟩
  conv => whnf
  try dsimp only
  refine ⟨trivial, rfin rfl ?_ ((FM.rf I).up (by decide)) (FMJ.rf J) h⟩
  obtain ⟨t1, t2, t3, t4⟩ := hcT
  have o : ∀ r, r ≠ 81 → ∀ x, upI I 81 j x r = I r := fun r hr x => upI_oth hr
  refine ⟨⟨by rw [o 77 (by decide)]; exact t1, fun i hi => ?_, by rw [o 77 (by decide)]; exact t3, fun k' hk' => ?_⟩, hcF.of (o 78 (by decide) _) (by rw [o 77 (by decide)]), hcK.of (o 78 (by decide) _) (o 79 (by decide) _), hcR.of (o 86 (by decide) _) (o 87 (by decide) _), hcX.of (o 88 (by decide) _) (o 89 (by decide) _), hcN.of (by rw [o 77 (by decide)]) (o 85 (by decide) _), by rw [o 77 (by decide)]; exact hcA, hcU⟩
  · rw [o 80 (by decide)]
    refine ⟨(t2 i hi).1, ?_⟩
    show _ = nI (if i = j then _ else _)
    by_cases hij : i = j
    · subst hij
      rw [up_same, if_pos rfl]
    · rw [up_ne hij, if_neg hij]
      exact (t2 i hi).2
  · rw [o 82 (by decide), o 83 (by decide), o 84 (by decide)]
    exact t4 k' hk'
end
