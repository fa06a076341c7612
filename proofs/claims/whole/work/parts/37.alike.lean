/-! the class's Patterns: alike, best -/
section
variable {G : GG} {d n : Nat} {I : Nat → Nat → Int32} {J : Nat → Nat → Int64} {Q : Option Value → MH → Prop} {T : TN}
theorem c_fits {i p : Nat} {g : Nat → Nat} (hT : tOK T) (hM : tMem T I) (hi : i < tS T) (hp : p < tS T) (hg : ∀ j, j < i → g j < tS T ∧ I 37 j = nI (g j)) (h : Q (some (.int (b2i (ftB T g i p i)))) (SH n, I, J)) : MT G (d + 3) 33 [.ref 36, .int (nI i), .int (nI p)] (SH n, I, J) Q := by
  have h5 : tS T ≤ 5 := hT.1
  have loop : ∀ m j v4, j + m = i → ftB T g i p j = true → EV G 33 (d + 2) 0 0 2 [.ref 36, .int (nI i), .int (nI p), .int (nI j), v4] [] (SH n, I, J) Q := by
    intro m
    induction m with
    | zero =>
      intro j v4 hj hal
      have hj : j = i := hj
      subst hj
      rw [hal] at h
      refine EV.at ck33 (by decide) 300 [] ?_
      conv => whnf
      try dsimp only
      refine pk_le j j (fun _ => ?_) (fun h1 => absurd h1 (by omega))
      conv => whnf
      try dsimp only
      exact ⟨Or.inr rfl, h⟩
    | succ m ih =>
      intro j v4 hj hal
      have hji : j < i := by omega
      have cj : (nI j).toNatClampNeg = j := nI_clamp (by omega)
      obtain ⟨g1, g2⟩ := hg j hji
      have bad : ((btT T i j == btT T p (g j)) && (btT T j i == btT T (g j) p)) = false → Q (some (.int 0)) (SH n, I, J) := fun hf => by
        rw [ftB_false hji hf] at h
        exact h
      have good : ((btT T i j == btT T p (g j)) && (btT T j i == btT T (g j) p)) = true → EV G 33 (d + 2) 0 0 61 [.ref 36, .int (nI i), .int (nI p), .int (nI j), .int (nI (g j))] [] (SH n, I, J) Q := fun hf => by
        have ihj := ih (j + 1) (.int (nI (g j))) (by omega) (by unfold ftB; rw [hal, hf]; rfl)
        rw [nI_succ j] at ihj
        refine EV.at ck33 (by decide) 300 [] ?_
        conv => whnf
        try dsimp only
        exact ⟨trivial, ihj⟩
      refine EV.at ck33 (by decide) 300 [61] ?_
      conv => whnf
      try dsimp only
      refine pk_le i j (fun h1 => absurd h1 (by omega)) (fun _ => ?_)
      conv => whnf
      try dsimp only
      refine ⟨in_nI (show j < 5 by omega) (by decide), ?_⟩
      conv => whnf
      try dsimp only
      rw [cj, g2]
      refine ⟨trivial, c_beats (show i < 5 by omega) (show j < 5 by omega) ?_⟩
      rw [bt_eq hT hM hi (show j < tS T by omega)]
      refine EV.at ck33 (by decide) 300 [61] ?_
      conv => whnf
      try dsimp only
      refine ⟨trivial, c_beats (show p < 5 by omega) (show g j < 5 by omega) ?_⟩
      rw [bt_eq hT hM hp g1]
      refine EV.at ck33 (by decide) 300 [61] ?_
      conv => whnf
      try dsimp only
      cases e1 : (btT T i j == btT T p (g j))
      · have e1' : ¬ b2i (btT T i j) = b2i (btT T p (g j)) := fun z => by
          revert e1 z
          cases btT T i j <;> cases btT T p (g j) <;> decide
        refine ⟨fun _ => ?_, fun z => absurd z e1'⟩
        conv => whnf
        try dsimp only
        exact ⟨Or.inl rfl, bad (by rw [e1]; rfl)⟩
      · have e1' : btT T i j = btT T p (g j) := eq_of_beq e1
        refine ⟨fun z => absurd (congrArg b2i e1') z, fun _ => ?_⟩
        conv => whnf
        try dsimp only
        refine ⟨trivial, c_beats (show j < 5 by omega) (show i < 5 by omega) ?_⟩
        rw [bt_eq hT hM (show j < tS T by omega) hi]
        refine EV.at ck33 (by decide) 300 [61] ?_
        conv => whnf
        try dsimp only
        refine ⟨trivial, c_beats (show g j < 5 by omega) (show p < 5 by omega) ?_⟩
        rw [bt_eq hT hM g1 hp]
        refine EV.at ck33 (by decide) 300 [61] ?_
        conv => whnf
        try dsimp only
        cases e2 : (btT T j i == btT T (g j) p)
        · have e2' : ¬ b2i (btT T j i) = b2i (btT T (g j) p) := fun z => by
            revert e2 z
            cases btT T j i <;> cases btT T (g j) p <;> decide
          refine ⟨fun z => absurd z e2', fun _ => ?_⟩
          conv => whnf
          try dsimp only
          exact ⟨Or.inl rfl, bad (by rw [e1, e2]; rfl)⟩
        · have e2' : btT T j i = btT T (g j) p := eq_of_beq e2
          refine ⟨fun _ => ?_, fun z => absurd (congrArg b2i e2') z⟩
          conv => whnf
          try dsimp only
          exact ⟨trivial, good (by rw [e1, e2]; rfl)⟩
  refine MT.by ck33 (by decide) rfl (Nat.le_of_ble_eq_true rfl) rfl 300 [2] ?_
  conv => whnf
  try dsimp only
  exact ⟨trivial, loop i 0 dm (by omega) rfl⟩
theorem c_noteMoved {g : Nat → Nat} {w0 : Nat} (hT : tOK T) (hM : tMem T I) (hg : ∀ j, j < tS T → g j < tS T ∧ I 37 j = nI (g j)) (hw : I 36 2 = nI w0) (h : Q none (SH n, upI I 36 2 (nI (w0 ||| mvN g (tS T))), J)) : MT G (d + 1) 34 [.ref 36] (SH n, I, J) Q := by
  have h5 : tS T ≤ 5 := hT.1
  have hI : I 6 0 = nI (tS T) := hM.1
  have loop : ∀ m j, j + m = tS T → EV G 34 d 0 0 2 [.ref 36, .int (nI j)] [] (SH n, upI I 36 2 (nI (w0 ||| mvN g j)), J) Q := by
    intro m
    induction m with
    | zero =>
      intro j hj
      have hj : j = tS T := hj
      rw [← hj] at h
      refine EV.at ck34 (by decide) 300 [] ?_
      conv => whnf
      try dsimp only
      rw [upI_oth (by decide), hI]
      refine pk_le (tS T) j (fun _ => ?_) (fun h1 => absurd h1 (by omega))
      conv => whnf
      try dsimp only
      exact ⟨trivial, h⟩
    | succ m ih =>
      intro j hj
      have ihj := ih (j + 1) (by omega)
      have cj : (nI j).toNatClampNeg = j := nI_clamp (by omega)
      obtain ⟨g1, g2⟩ := hg j (by omega)
      have e : mvN g (j + 1) = mvN g j ||| (if g j = j then 0 else 2 ^ g j) := rfl
      rw [e, ← Nat.or_assoc, nI_succ j, ← fa_or] at ihj
      have r1 : ∀ x, upI I 36 2 x 37 j = nI (g j) := fun x => by rw [upI_oth (by decide)]; exact g2
      have r2 : ∀ x, upI I 36 2 x 36 2 = x := fun x => rfl
      refine EV.at ck34 (by decide) 300 [] ?_
      conv => whnf
      try dsimp only
      rw [upI_oth (r' := 6) (by decide), hI]
      refine pk_le (tS T) j (fun h1 => absurd h1 (by omega)) (fun _ => ?_)
      conv => whnf
      try dsimp only
      refine ⟨in_nI (show j < 5 by omega) (by decide), ?_⟩
      conv => whnf
      try dsimp only
      rw [cj, r1, r2]
      refine pk_eq (g j) j (fun h1 => ?_) (fun h1 => ?_)
      · rw [if_pos h1, nI_0] at ihj
        conv => whnf
        try dsimp only
        rw [up_up]
        exact ⟨trivial, ihj⟩
      · rw [if_neg h1, ← nu_one (show g j < 31 by omega)] at ihj
        conv => whnf
        try dsimp only
        refine ⟨in_nI (show j < 5 by omega) (by decide), ?_⟩
        conv => whnf
        try dsimp only
        rw [cj, r1, up_up]
        exact ⟨trivial, ihj⟩
  refine MT.by ck34 (by decide) rfl (Nat.le_of_ble_eq_true rfl) rfl 300 [2] ?_
  conv => whnf
  try dsimp only
  have l0 := loop (tS T) 0 (by omega)
  rw [show mvN g 0 = 0 from rfl, Nat.or_zero, ← hw, up_self] at l0
  exact ⟨trivial, l0⟩
theorem alW_le {f : Nat → Nat × Nat} {c : Nat → Bool} {b : Nat} (hb : ∀ p, (f p).1 ≤ b) : ∀ m, (alW f c m).1 ≤ m * b
  | 0 => by show 0 ≤ _; omega
  | m + 1 => by
    have h := alW_le (f := f) (c := c) hb m
    have h2 := hb m
    rw [alW, Nat.succ_mul]
    split
    · show (alW f c m).1 + (f m).1 ≤ _; omega
    · omega
theorem alF_le {T : TN} (h5 : tS T ≤ 5) : ∀ m i tk g, (alF T m i tk g).1 ≤ 5 ^ m
  | 0, _, _, _ => Nat.le_refl 1
  | m + 1, i, tk, g => by
    have h := alW_le (f := fun p => alF T m (i + 1) (tk ||| 2 ^ p) (setG g i p)) (c := fun p => !(tk.testBit p) && ftB T g i p i) (b := 5 ^ m) (fun p => alF_le h5 m _ _ _) (tS T)
    have h2 : tS T * 5 ^ m ≤ 5 * 5 ^ m := Nat.mul_le_mul_right _ h5
    have h3 : 5 ^ (m + 1) = 5 ^ m * 5 := Nat.pow_succ ..
    show (alW _ _ _).1 ≤ _
    omega
/-- placingsFrom, by how many SHAPES are left -/
def PFr (G : GG) (n : Nat) (T : TN) (m : Nat) : Prop := ∀ (D : Nat) (I : Nat → Nat → Int32) (J : Nat → Nat → Int64) (Q : Option Value → MH → Prop) (i tk w0 : Nat) (g : Nat → Nat), m + 5 ≤ D → i + m = tS T → tk < 32 → tMem T I → (∀ j, j < i → g j < tS T ∧ I 37 j = nI (g j)) → I 36 2 = nI w0 →
  (∀ I', (∀ r, r ≠ 36 → r ≠ 37 → I' r = I r) → I' 36 2 = nI (w0 ||| (alF T m i tk g).2) → (∀ j, j < i → I' 37 j = I 37 j) → Q (some (.int (nI (alF T m i tk g).1))) (SH n, I', J)) → MT G D 32 [.ref 36, .int (nI i), .int (nI tk)] (SH n, I, J) Q
theorem PFr_zero (hT : tOK T) : PFr G n T 0 := by
  intro D I J Q i tk w0 g hD hi htk hM hg hw h
  obtain ⟨x, rfl⟩ : ∃ x, D = x + 5 := ⟨D - 5, by omega⟩
  have h5 : tS T ≤ 5 := hT.1
  have hI : I 6 0 = nI (tS T) := hM.1
  have hi : i = tS T := hi
  refine MT.by ck32 (by decide) rfl (Nat.le_of_ble_eq_true rfl) rfl 300 [] ?_
  conv => whnf
  try dsimp only
  rw [hI]
  refine pk_lt i (tS T) (fun h1 => absurd h1 (by omega)) (fun _ => ?_)
  conv => whnf
  try dsimp only
  refine ⟨trivial, c_noteMoved hT hM (fun j hj => hg j (by omega)) hw ?_⟩
  refine EV.at ck32 (by decide) 300 [] ?_
  conv => whnf
  try dsimp only
  exact ⟨trivial, h _ (fun r h1 h2 => upI_oth h1) rfl (fun j hj => by rw [upI_oth (by decide)])⟩
theorem PFr_succ {m : Nat} (hT : tOK T) (hP : PFr G n T m) : PFr G n T (m + 1) := by
  intro D I J Q i tk w0 g hD hi htk hM hg hw h
  obtain ⟨x, rfl⟩ : ∃ x, D = x + 6 := ⟨D - 6, by omega⟩
  have h5 : tS T ≤ 5 := hT.1
  have hI : I 6 0 = nI (tS T) := hM.1
  have ci : (nI i).toNatClampNeg = i := nI_clamp (by omega)
  have hA : alF T (m + 1) i tk g = alW (fun p => alF T m (i + 1) (tk ||| 2 ^ p) (setG g i p)) (fun p => !(tk.testBit p) && ftB T g i p i) (tS T) := rfl
  rw [hA] at h
  generalize hf : (fun p => alF T m (i + 1) (tk ||| 2 ^ p) (setG g i p)) = f at h
  generalize hc : (fun p => !(tk.testBit p) && ftB T g i p i) = c at h
  have loop : ∀ k p (I1 : Nat → Nat → Int32), p + k = tS T → (∀ r, r ≠ 36 → r ≠ 37 → I1 r = I r) → I1 36 2 = nI (w0 ||| (alW f c p).2) → (∀ j, j < i → I1 37 j = I 37 j) → EV G 32 (x + 5) 0 0 22 [.ref 36, .int (nI i), .int (nI tk), .int (nI (alW f c p).1), .int (nI p)] [] (SH n, I1, J) Q := by
    intro k
    induction k with
    | zero =>
      intro p I1 hp a1 a2 a3
      have hp : p = tS T := hp
      rw [hp] at a2
      have hq := h I1 a1 a2 a3
      refine EV.at ck32 (by decide) 300 [] ?_
      conv => whnf
      try dsimp only
      rw [a1 6 (by decide) (by decide), hI]
      refine pk_le (tS T) p (fun _ => ?_) (fun h1 => absurd h1 (by omega))
      conv => whnf
      try dsimp only
      rw [hp]
      exact ⟨trivial, hq⟩
    | succ k ih =>
      intro p I1 hp a1 a2 a3
      have hps : p < tS T := by omega
      have hM1 : tMem T I1 := tMem_of (fun r hr => a1 r (by omega) (by omega)) hM
      have hg1 : ∀ j, j < i → g j < tS T ∧ I1 37 j = nI (g j) := fun j hj => ⟨(hg j hj).1, by rw [a3 j hj]; exact (hg j hj).2⟩
      have k77 : ∀ (I2 : Nat → Nat → Int32) (y : Nat), (∀ r, r ≠ 36 → r ≠ 37 → I2 r = I r) → I2 36 2 = nI (w0 ||| (alW f c (p + 1)).2) → (∀ j, j < i → I2 37 j = I 37 j) → y = (alW f c (p + 1)).1 → EV G 32 (x + 5) 0 0 77 [.ref 36, .int (nI i), .int (nI tk), .int (nI y), .int (nI p)] [] (SH n, I2, J) Q := by
        intro I2 y b1 b2 b3 b4
        have ihj := ih (p + 1) I2 (by omega) b1 b2 b3
        rw [← b4, nI_succ p] at ihj
        refine EV.at ck32 (by decide) 300 [] ?_
        conv => whnf
        try dsimp only
        exact ⟨trivial, ihj⟩
      have un : alW f c (p + 1) = if c p then ((alW f c p).1 + (f p).1, (alW f c p).2 ||| (f p).2) else alW f c p := rfl
      have cp : c p = (!(tk.testBit p) && ftB T g i p i) := by rw [← hc]
      have fp : f p = alF T m (i + 1) (tk ||| 2 ^ p) (setG g i p) := by rw [← hf]
      have no : c p = false → EV G 32 (x + 5) 0 0 77 [.ref 36, .int (nI i), .int (nI tk), .int (nI (alW f c p).1), .int (nI p)] [] (SH n, I1, J) Q := fun hc0 => by
        rw [hc0] at un
        have un : alW f c (p + 1) = alW f c p := un
        exact k77 I1 _ a1 (by rw [un]; exact a2) a3 (by rw [un])
      refine EV.at ck32 (by decide) 300 [77] ?_
      conv => whnf
      try dsimp only
      rw [a1 6 (by decide) (by decide), hI]
      refine pk_le (tS T) p (fun h1 => absurd h1 (by omega)) (fun _ => ?_)
      conv => whnf
      try dsimp only
      refine ⟨trivial, c_bit ?_⟩
      rw [nu_bit (by omega) (by omega)]
      cases hb : tk.testBit p
      case true =>
        refine EV.at ck32 (by decide) 300 [77] ?_
        conv => whnf
        try dsimp only
        first | refine ⟨fun h1 => absurd h1 (by decide), fun _ => ?_⟩ | refine ⟨fun _ => ?_, fun h1 => absurd (by decide) h1⟩ | refine ⟨fun h1 => absurd (by decide) h1, fun _ => ?_⟩ | refine ⟨fun _ => ?_, fun h1 => absurd h1 (by decide)⟩
        conv => whnf
        try dsimp only
        exact ⟨trivial, no (by rw [cp, hb]; rfl)⟩
      refine EV.at ck32 (by decide) 300 [77] ?_
      conv => whnf
      try dsimp only
      first | refine ⟨fun h1 => absurd h1 (by decide), fun _ => ?_⟩ | refine ⟨fun _ => ?_, fun h1 => absurd (by decide) h1⟩ | refine ⟨fun h1 => absurd (by decide) h1, fun _ => ?_⟩ | refine ⟨fun _ => ?_, fun h1 => absurd h1 (by decide)⟩
      conv => whnf
      try dsimp only
      refine ⟨trivial, c_fits hT hM1 (show i < tS T by omega) hps hg1 ?_⟩
      cases hb2 : ftB T g i p i
      · refine EV.at ck32 (by decide) 300 [77] ?_
        conv => whnf
        try dsimp only
        first | refine ⟨fun h1 => absurd h1 (by decide), fun _ => ?_⟩ | refine ⟨fun _ => ?_, fun h1 => absurd (by decide) h1⟩ | refine ⟨fun h1 => absurd (by decide) h1, fun _ => ?_⟩ | refine ⟨fun _ => ?_, fun h1 => absurd h1 (by decide)⟩
        conv => whnf
        try dsimp only
        exact ⟨trivial, no (by rw [cp, hb, hb2]; rfl)⟩
      rw [cp, hb, hb2] at un
      have un : alW f c (p + 1) = ((alW f c p).1 + (f p).1, (alW f c p).2 ||| (f p).2) := un
      have htk2 : tk ||| 2 ^ p < 32 := Nat.or_lt_two_pow (n := 5) htk (Nat.pow_lt_pow_right (by decide) (by omega))
      refine EV.at ck32 (by decide) 300 [77] ?_
      conv => whnf
      try dsimp only
      first | refine ⟨fun h1 => absurd h1 (by decide), fun _ => ?_⟩ | refine ⟨fun _ => ?_, fun h1 => absurd (by decide) h1⟩ | refine ⟨fun h1 => absurd (by decide) h1, fun _ => ?_⟩ | refine ⟨fun _ => ?_, fun h1 => absurd h1 (by decide)⟩
      conv => whnf
      try dsimp only
      refine ⟨in_nI (show i < 5 by omega) (by decide), ?_⟩
      conv => whnf
      try dsimp only
      rw [ci, nI_1, nu_one (show p < 31 by omega), fa_or]
      refine ⟨trivial, hP (x + 5) _ _ _ (i + 1) (tk ||| 2 ^ p) (w0 ||| (alW f c p).2) (setG g i p) (by omega) (by omega) htk2 (tMem_of (fun r hr => upI_oth (by omega)) hM1) (fun j hj => ?_) (by rw [upI_oth (by decide)]; exact a2) (fun I2 b1 b2 b3 => ?_)⟩
      · by_cases hji : j = i
        · subst hji
          exact ⟨by simp [setG, hps], by simp [setG, upI]⟩
        · have := hg1 j (by omega)
          exact ⟨by simp only [setG, if_neg hji]; exact this.1, by rw [up_ne hji]; simp only [setG, if_neg hji]; exact this.2⟩
      · rw [← fp] at b2 ⊢
        refine EV.at ck32 (by decide) 300 [77] ?_
        conv => whnf
        try dsimp only
        rw [nI_add]
        refine ⟨trivial, k77 I2 _ (fun r h1 h2 => ?_) ?_ (fun j hj => ?_) ?_⟩
        · rw [b1 r h1 h2, upI_oth h2]
          exact a1 r h1 h2
        · rw [un, b2, Nat.or_assoc]
        · rw [b3 j (by omega), up_ne (by omega)]
          exact a3 j hj
        · rw [un]
  refine MT.by ck32 (by decide) rfl (Nat.le_of_ble_eq_true rfl) rfl 300 [22] ?_
  conv => whnf
  try dsimp only
  rw [hI]
  refine pk_lt i (tS T) (fun _ => ?_) (fun h1 => absurd h1 (by omega))
  conv => whnf
  try dsimp only
  exact ⟨trivial, loop (tS T) 0 I (by omega) (fun _ _ _ => rfl) (by rw [hw, show (alW f c 0).2 = 0 from rfl, Nat.or_zero]) (fun _ _ => rfl)⟩
theorem PFr_all (hT : tOK T) : ∀ m, PFr G n T m
  | 0 => PFr_zero hT
  | m + 1 => PFr_succ hT (PFr_all hT m)
def alN (T : TN) : Nat × Nat := alF T (tS T) 0 0 (fun _ => 0)
theorem c_countAlike (hT : tOK T) (hM : tMem T I) (h : ∀ I', (∀ r, r ≠ 36 → r ≠ 37 → I' r = I r) → I' 36 2 = nI (alN T).2 → Q (some (.int (nI (alN T).1))) (SH n, I', J)) : MT G (d + 12) 31 [.ref 36] (SH n, I, J) Q := by
  have h5 : tS T ≤ 5 := hT.1
  refine MT.by ck31 (by decide) rfl (Nat.le_of_ble_eq_true rfl) rfl 300 [] ?_
  conv => whnf
  try dsimp only
  refine ⟨trivial, PFr_all hT (tS T) (d + 11) _ _ _ 0 0 0 (fun _ => 0) (by omega) (by omega) (by decide) (tMem_of (fun r hr => upI_oth (by omega)) hM) (fun j hj => absurd hj (by omega)) (by rw [up_same]; exact nI_0.symm) (fun I' a1 a2 a3 => ?_)⟩
  refine EV.at ck31 (by decide) 300 [] ?_
  conv => whnf
  try dsimp only
  rw [Nat.zero_or] at a2
  exact ⟨trivial, h I' (fun r h1 h2 => by rw [a1 r h1 h2, upI_oth h1]) a2⟩
theorem lead_eq {i : Nat} (hT : tOK T) (hM : tMem T I) (hi : i < tS T) : popJ (bset (fun j => btB (I 8) (I 7) i j) (tS T)) - popJ (bset (fun j => btB (I 8) (I 7) j i) (tS T)) = ldI T i := by
  have h5 : tS T ≤ 5 := hT.1
  have hp : 2 ^ tS T ≤ 2 ^ 5 := Nat.pow_le_pow_right (by decide) h5
  have l1 : orN (btT T i) (tS T) < 2 ^ tS T := orN_lt _
  have l2 : orN (fun j => btT T j i) (tS T) < 2 ^ tS T := orN_lt _
  rw [bset_or (g := btT T i) (tS T) (by omega) (fun k hk => bt_eq hT hM hi hk), bset_or (g := fun j => btT T j i) (tS T) (by omega) (fun k hk => bt_eq hT hM hk hi), nu_pop _ (by omega), nu_pop _ (by omega)]
  rfl
theorem c_firstBest (hT : tOK T) (hM : tMem T I) (h0 : 0 < tS T) (h : Q (some (.int (nI (bsN T (tS T))))) (SH n, I, J)) : MT G (d + 5) 35 [.ref 36] (SH n, I, J) Q := by
  have h5 : tS T ≤ 5 := hT.1
  have hI : I 6 0 = nI (tS T) := hM.1
  have loop : ∀ m j, j + m = tS T → 1 ≤ j → EV G 35 (d + 4) 0 0 4 [.ref 36, .int (nI (bsN T j)), .int (nI j)] [] (SH n, I, J) Q := by
    intro m
    induction m with
    | zero =>
      intro j hj h1
      have hj : j = tS T := hj
      rw [← hj] at h
      refine EV.at ck35 (by decide) 300 [] ?_
      conv => whnf
      try dsimp only
      rw [hI]
      refine pk_le (tS T) j (fun _ => ?_) (fun h1 => absurd h1 (by omega))
      conv => whnf
      try dsimp only
      exact ⟨trivial, h⟩
    | succ m ih =>
      intro j hj h1
      have ihj := ih (j + 1) (by omega) (by omega)
      have e : bsN T (j + 1) = if ldI T (bsN T j) < ldI T j then j else bsN T j := rfl
      have hb := bsN_lt (T := T) j (by omega)
      rw [e, nI_succ j] at ihj
      refine EV.at ck35 (by decide) 300 [] ?_
      conv => whnf
      try dsimp only
      rw [hI]
      refine pk_le (tS T) j (fun h1 => absurd h1 (by omega)) (fun _ => ?_)
      conv => whnf
      try dsimp only
      refine ⟨trivial, c_lead (show j < 5 by omega) h5 hI ?_⟩
      rw [lead_eq hT hM (show j < tS T by omega)]
      refine EV.at ck35 (by decide) 300 [] ?_
      conv => whnf
      try dsimp only
      refine ⟨trivial, c_lead (show bsN T j < 5 by omega) h5 hI ?_⟩
      rw [lead_eq hT hM (show bsN T j < tS T by omega)]
      refine EV.at ck35 (by decide) 300 [] ?_
      conv => whnf
      try dsimp only
      refine ⟨fun h2 => ?_, fun h2 => ?_⟩
      · rw [if_neg (Int32.not_lt.mpr h2)] at ihj
        conv => whnf
        try dsimp only
        exact ⟨trivial, ihj⟩
      · rw [if_pos (Int32.not_le.mp h2)] at ihj
        conv => whnf
        try dsimp only
        exact ⟨trivial, ihj⟩
  have e0 : bsN T 1 = 0 := by
    show (if ldI T (bsN T 0) < ldI T 0 then 0 else bsN T 0) = 0
    split <;> rfl
  have l0 := loop (tS T - 1) 1 (by omega) (by omega)
  rw [e0] at l0
  refine MT.by ck35 (by decide) rfl (Nat.le_of_ble_eq_true rfl) rfl 300 [4] ?_
  conv => whnf
  try dsimp only
  exact ⟨trivial, l0⟩
end
