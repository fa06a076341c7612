/-! contracts: rows and texts (a strip: its cell c, its array a of N places) -/
def flI (I : Nat → Nat → Int32) (a lo hi : Nat) (v : Int32) : Nat → Nat → Int32 := fun r k => if r = a ∧ lo ≤ k ∧ k < hi then v else I r k
theorem fl_0 (I : Nat → Nat → Int32) (a lo : Nat) (v : Int32) : flI I a lo lo v = I := by
  funext r k
  unfold flI
  rw [if_neg (by omega)]
theorem fl_s {I : Nat → Nat → Int32} {a lo j : Nat} {v : Int32} (h : lo ≤ j) : upI (flI I a lo j v) a j v = flI I a lo (j + 1) v := by
  funext r k
  unfold upI flI
  by_cases h1 : r = a ∧ k = j
  · rw [if_pos h1, if_pos ⟨h1.1, by omega, by omega⟩]
  · rw [if_neg h1]
    by_cases h2 : r = a ∧ lo ≤ k ∧ k < j
    · rw [if_pos h2, if_pos ⟨h2.1, h2.2.1, by omega⟩]
    · rw [if_neg h2, if_neg (fun q => ?_)]
      by_cases h3 : k = j
      · exact h1 ⟨q.1, h3⟩
      · exact h2 ⟨q.1, q.2.1, by omega⟩
def sumL (f : Nat → Int32) : Nat → Int64
  | 0 => 0
  | j + 1 => sumL f j + (f j).toInt64
def mixL (f : Nat → Int32) (h : Int64) : Nat → Int64
  | 0 => h
  | j + 1 => 31 * mixL f h j + (f j).toInt64
def allW (f : Nat → Int32) (e : Int32) : Nat → Bool
  | 0 => true
  | j + 1 => allW f e j && decide (0 ≤ f j ∧ f j < e)
theorem allW_false {f : Nat → Int32} {e : Int32} {j m : Nat} (hj : j < m) (h : decide (0 ≤ f j ∧ f j < e) = false) : allW f e m = false := by
  induction m with
  | zero => omega
  | succ m ih =>
    unfold allW
    by_cases hm : j = m
    · subst hm; rw [h, Bool.and_false]
    · rw [ih (by omega), Bool.false_and]
section
variable {G : GG} {d n : Nat} {σ : MH} {S : SHL} {I : Nat → Nat → Int32} {J : Nat → Nat → Int64} {Q : Option Value → MH → Prop}
theorem c_rangeCheck {m N : Nat} (hm : m ≤ N) (hN : N ≤ 65536) (h : Q none σ) : MT G (d + 1) 262 [.int (nI N), .int 0, .int (nI m)] σ Q := by
  refine MT.by ck262 (by decide) rfl (Nat.le_of_ble_eq_true rfl) rfl 300 [] ?_
  conv => whnf
  try dsimp only
  refine ⟨fun _ => ?_, fun h1 => absurd (nI_pos' (show m < 2 ^ 31 by omega)) h1⟩
  conv => whnf
  try dsimp only
  refine ⟨fun _ => ?_, fun h1 => absurd (by decide) h1⟩
  conv => whnf
  try dsimp only
  refine ⟨fun _ => ?_, fun h1 => absurd (nI_le hm (by omega)) h1⟩
  conv => whnf
  try dsimp only
  exact ⟨trivial, h⟩
theorem c_fill4 {a m N : Nat} {v : Int32} (ha : S[a]? = some (12, N, [])) (hm : m ≤ N) (hN : N ≤ 65536) (h : Q none (S, flI I a 0 m v, J)) : MT G (d + 2) 264 [.ref a, .int 0, .int (nI m), .int v] (S, I, J) Q := by
  have loop : ∀ k j, j + k = m → EV G 264 (d + 1) 0 0 10 [.ref a, .int 0, .int (nI m), .int v, .int (nI j)] [] (S, flI I a 0 j v, J) Q := by
    intro k
    induction k with
    | zero =>
      intro j hj
      have hj : j = m := hj
      subst hj
      refine EV.at ck264 (by decide) 300 [] ?_
      conv => whnf
      try dsimp only
      refine ⟨fun _ => ?_, fun h1 => absurd (nI_le (Nat.le_refl j) (by omega)) h1⟩
      conv => whnf
      try dsimp only
      exact ⟨trivial, h⟩
    | succ k ih =>
      intro j hj
      have ihj := ih (j + 1) (by omega)
      have cj : (nI j).toNatClampNeg = j := nI_clamp (by omega)
      rw [← fl_s (Nat.zero_le j), nI_succ] at ihj
      refine EV.at ck264 (by decide) 300 [] ?_
      conv => whnf
      try dsimp only
      refine ⟨fun h1 => absurd h1 (nI_ge (show j < m by omega) (by omega)), fun _ => ?_⟩
      conv => whnf
      try dsimp only
      rw [ha]
      conv => whnf
      try dsimp only
      refine ⟨in_nI (show j < N by omega) hN, ?_⟩
      conv => whnf
      try dsimp only
      rw [cj]
      exact ⟨trivial, ihj⟩
  refine MT.by ck264 (by decide) rfl (Nat.le_of_ble_eq_true rfl) rfl 300 [10] ?_
  conv => whnf
  try dsimp only
  rw [ha]
  conv => whnf
  try dsimp only
  refine ⟨trivial, c_rangeCheck hm hN ?_⟩
  refine EV.at ck264 (by decide) 300 [10] ?_
  conv => whnf
  try dsimp only
  have h0 := loop m 0 (by omega)
  rw [fl_0] at h0
  exact ⟨trivial, h0⟩
theorem c_fill2 {a N : Nat} {v : Int32} (ha : S[a]? = some (12, N, [])) (hN : N ≤ 65536) (h : Q none (S, flI I a 0 N v, J)) : MT G (d + 1) 263 [.ref a, .int v] (S, I, J) Q := by
  have loop : ∀ k j, j + k = N → EV G 263 d 0 0 5 [.ref a, .int v, .int (nI j), .int (nI N)] [] (S, flI I a 0 j v, J) Q := by
    intro k
    induction k with
    | zero =>
      intro j hj
      have hj : j = N := hj
      subst hj
      refine EV.at ck263 (by decide) 300 [] ?_
      conv => whnf
      try dsimp only
      refine ⟨fun _ => ?_, fun h1 => absurd (nI_le (Nat.le_refl j) (by omega)) h1⟩
      conv => whnf
      try dsimp only
      exact ⟨trivial, h⟩
    | succ k ih =>
      intro j hj
      have ihj := ih (j + 1) (by omega)
      have cj : (nI j).toNatClampNeg = j := nI_clamp (by omega)
      rw [← fl_s (Nat.zero_le j), nI_succ] at ihj
      refine EV.at ck263 (by decide) 300 [] ?_
      conv => whnf
      try dsimp only
      refine ⟨fun h1 => absurd h1 (nI_ge (show j < N by omega) (by omega)), fun _ => ?_⟩
      conv => whnf
      try dsimp only
      rw [ha]
      conv => whnf
      try dsimp only
      refine ⟨in_nI (show j < N by omega) hN, ?_⟩
      conv => whnf
      try dsimp only
      rw [cj]
      exact ⟨trivial, ihj⟩
  refine MT.by ck263 (by decide) rfl (Nat.le_of_ble_eq_true rfl) rfl 300 [5] ?_
  conv => whnf
  try dsimp only
  rw [ha]
  conv => whnf
  try dsimp only
  have h0 := loop N 0 (by omega)
  rw [fl_0] at h0
  exact ⟨trivial, h0⟩
theorem c_fillAnew {c a m N : Nat} {v : Int32} (hc : S[c]? = some (8, 2, [some a, none])) (ha : S[a]? = some (12, N, [])) (hm : m ≤ N) (hN : N ≤ 65536) (h : Q none (S, flI (upI I c 1 (nI m)) a 0 m v, J)) : MT G (d + 3) 72 [.ref c, .int (nI m), .int v] (S, I, J) Q := by
  refine MT.by ck72 (by decide) rfl (Nat.le_of_ble_eq_true rfl) rfl 300 [] ?_
  conv => whnf
  try dsimp only
  rw [hc]
  conv => whnf
  try dsimp only
  rw [hc]
  conv => whnf
  try dsimp only
  refine ⟨trivial, c_fill4 ha hm hN ?_⟩
  refine EV.at ck72 (by decide) 300 [] ?_
  conv => whnf
  try dsimp only
  exact ⟨trivial, h⟩
theorem c_setTo {c a b m N M : Nat} (hc : S[c]? = some (8, 2, [some a, none])) (ha : S[a]? = some (12, N, [])) (hb : S[b]? = some (12, M, [])) (hm : m ≤ N) (hm2 : m ≤ M) (hN : N ≤ 65536) (h : Q none (S, cpI (upI I c 1 (nI m)) b a 0 0 m, J)) : MT G (d + 1) 73 [.ref c, .ref b, .int (nI m)] (S, I, J) Q := by
  have cm : (nI m).toNatClampNeg = m := nI_clamp (by omega)
  refine MT.by ck73 (by decide) rfl (Nat.le_of_ble_eq_true rfl) rfl 300 [] ?_
  conv => whnf
  try dsimp only
  rw [hc]
  conv => whnf
  try dsimp only
  rw [hc]
  conv => whnf
  try dsimp only
  rw [hb]
  conv => whnf
  try dsimp only
  rw [ha]
  conv => whnf
  try dsimp only
  refine ⟨⟨by decide, by decide, nI_pos (by omega), ?_, ?_⟩, ?_⟩
  · rw [cm]; show 0 + m ≤ M; omega
  · rw [cm]; show 0 + m ≤ N; omega
  conv => whnf
  try dsimp only
  rw [cm]
  exact ⟨trivial, h⟩
theorem c_holds {c a : Nat} {x k : Int32} (hc : S[c]? = some (8, 2, [some a, none])) (h : Q (some (.int (b2i (decide (0 ≤ x ∧ k ≤ I c 1 ∧ x ≤ I c 1 - k))))) (S, I, J)) : MT G (d + 1) 74 [.ref c, .int x, .int k] (S, I, J) Q := by
  refine MT.by ck74 (by decide) rfl (Nat.le_of_ble_eq_true rfl) rfl 300 [] ?_
  conv => whnf
  try dsimp only
  refine ⟨fun h1 => ?_, fun h1 => ?_⟩
  · rw [decide_eq_false (fun q => Int32.not_le.mpr h1 q.1)] at h
    conv => whnf
    try dsimp only
    exact ⟨Or.inl rfl, h⟩
  conv => whnf
  try dsimp only
  rw [hc]
  conv => whnf
  try dsimp only
  refine ⟨fun h2 => ?_, fun h2 => ?_⟩
  · rw [decide_eq_false (fun q => Int32.not_le.mpr h2 q.2.1)] at h
    conv => whnf
    try dsimp only
    exact ⟨Or.inl rfl, h⟩
  conv => whnf
  try dsimp only
  rw [hc]
  conv => whnf
  try dsimp only
  refine ⟨fun h3 => ?_, fun h3 => ?_⟩
  · rw [decide_eq_false (fun q => Int32.not_le.mpr h3 q.2.2)] at h
    conv => whnf
    try dsimp only
    exact ⟨Or.inl rfl, h⟩
  · rw [decide_eq_true ⟨Int32.not_lt.mp h1, Int32.not_lt.mp h2, Int32.not_lt.mp h3⟩] at h
    conv => whnf
    try dsimp only
    exact ⟨Or.inr rfl, h⟩
theorem c_allWithin {c a m N : Nat} {e : Int32} (hc : S[c]? = some (8, 2, [some a, none])) (ha : S[a]? = some (12, N, [])) (hm : m ≤ N) (hN : N ≤ 65536) (hI : I c 1 = nI m) (h : Q (some (.int (b2i (allW (I a) e m)))) (S, I, J)) : MT G (d + 2) 75 [.ref c, .int e] (S, I, J) Q := by
  have loop : ∀ k j, j + k = m → allW (I a) e j = true → EV G 75 (d + 1) 0 0 2 [.ref c, .int e, .int (nI j)] [] (S, I, J) Q := by
    intro k
    induction k with
    | zero =>
      intro j hj hal
      have hj : j = m := hj
      subst hj
      rw [hal] at h
      refine EV.at ck75 (by decide) 300 [] ?_
      conv => whnf
      try dsimp only
      rw [hc]
      conv => whnf
      try dsimp only
      rw [hI]
      refine ⟨fun _ => ?_, fun h1 => absurd (nI_le (Nat.le_refl j) (by omega)) h1⟩
      conv => whnf
      try dsimp only
      exact ⟨Or.inr rfl, h⟩
    | succ k ih =>
      intro j hj hal
      have cj : (nI j).toNatClampNeg = j := nI_clamp (by omega)
      refine EV.at ck75 (by decide) 300 [] ?_
      conv => whnf
      try dsimp only
      rw [hc]
      conv => whnf
      try dsimp only
      rw [hI]
      refine ⟨fun h1 => absurd h1 (nI_ge (show j < m by omega) (by omega)), fun _ => ?_⟩
      conv => whnf
      try dsimp only
      rw [hc]
      conv => whnf
      try dsimp only
      rw [ha]
      conv => whnf
      try dsimp only
      refine ⟨in_nI (show j < N by omega) hN, ?_⟩
      conv => whnf
      try dsimp only
      rw [cj]
      refine ⟨trivial, c_within ?_⟩
      cases hb : decide (0 ≤ I a j ∧ I a j < e)
      · rw [allW_false (show j < m by omega) hb] at h
        refine EV.at ck75 (by decide) 300 [] ?_
        conv => whnf
        try dsimp only
        refine ⟨fun h1 => absurd rfl h1, fun _ => ?_⟩
        conv => whnf
        try dsimp only
        exact ⟨Or.inl rfl, h⟩
      · have ihj := ih (j + 1) (by omega) (by unfold allW; rw [hal, hb]; rfl)
        rw [nI_succ] at ihj
        refine EV.at ck75 (by decide) 300 [] ?_
        conv => whnf
        try dsimp only
        refine ⟨fun _ => ?_, fun h1 => absurd h1 (by decide)⟩
        conv => whnf
        try dsimp only
        exact ⟨trivial, ihj⟩
  refine MT.by ck75 (by decide) rfl (Nat.le_of_ble_eq_true rfl) rfl 300 [2] ?_
  conv => whnf
  try dsimp only
  exact ⟨trivial, loop m 0 (by omega) rfl⟩
theorem c_sum {c a m N : Nat} (hc : S[c]? = some (8, 2, [some a, none])) (ha : S[a]? = some (12, N, [])) (hm : m ≤ N) (hN : N ≤ 65536) (hI : I c 1 = nI m) (h : Q (some (.long (sumL (I a) m))) (S, I, J)) : MT G (d + 1) 76 [.ref c] (S, I, J) Q := by
  have loop : ∀ k j, j + k = m → EV G 76 d 0 0 4 [.ref c, .long (sumL (I a) j), dm, .int (nI j)] [] (S, I, J) Q := by
    intro k
    induction k with
    | zero =>
      intro j hj
      have hj : j = m := hj
      subst hj
      refine EV.at ck76 (by decide) 300 [] ?_
      conv => whnf
      try dsimp only
      rw [hc]
      conv => whnf
      try dsimp only
      rw [hI]
      refine ⟨fun _ => ?_, fun h1 => absurd (nI_le (Nat.le_refl j) (by omega)) h1⟩
      conv => whnf
      try dsimp only
      exact ⟨trivial, h⟩
    | succ k ih =>
      intro j hj
      have ihj := ih (j + 1) (by omega)
      rw [nI_succ] at ihj
      have cj : (nI j).toNatClampNeg = j := nI_clamp (by omega)
      refine EV.at ck76 (by decide) 300 [] ?_
      conv => whnf
      try dsimp only
      rw [hc]
      conv => whnf
      try dsimp only
      rw [hI]
      refine ⟨fun h1 => absurd h1 (nI_ge (show j < m by omega) (by omega)), fun _ => ?_⟩
      conv => whnf
      try dsimp only
      rw [hc]
      conv => whnf
      try dsimp only
      rw [ha]
      conv => whnf
      try dsimp only
      refine ⟨in_nI (show j < N by omega) hN, ?_⟩
      conv => whnf
      try dsimp only
      rw [cj]
      exact ⟨trivial, ihj⟩
  refine MT.by ck76 (by decide) rfl (Nat.le_of_ble_eq_true rfl) rfl 300 [4] ?_
  conv => whnf
  try dsimp only
  exact ⟨trivial, loop m 0 (by omega)⟩
theorem c_mixInto {c a m N : Nat} {z : Int64} (hc : S[c]? = some (8, 2, [some a, none])) (ha : S[a]? = some (12, N, [])) (hm : m ≤ N) (hN : N ≤ 65536) (hI : I c 1 = nI m) (h : Q (some (.long (mixL (I a) (31 * z + (nI m).toInt64) m))) (S, I, J)) : MT G (d + 1) 77 [.ref c, .long z] (S, I, J) Q := by
  have loop : ∀ k j, j + k = m → EV G 77 d 0 0 15 [.ref c, .long z, dm, .long (mixL (I a) (31 * z + (nI m).toInt64) j), dm, .int (nI j)] [] (S, I, J) Q := by
    intro k
    induction k with
    | zero =>
      intro j hj
      have hj : j = m := hj
      subst hj
      refine EV.at ck77 (by decide) 300 [] ?_
      conv => whnf
      try dsimp only
      rw [hc]
      conv => whnf
      try dsimp only
      rw [hI]
      refine ⟨fun _ => ?_, fun h1 => absurd (nI_le (Nat.le_refl j) (by omega)) h1⟩
      conv => whnf
      try dsimp only
      exact ⟨trivial, h⟩
    | succ k ih =>
      intro j hj
      have ihj := ih (j + 1) (by omega)
      rw [nI_succ] at ihj
      have cj : (nI j).toNatClampNeg = j := nI_clamp (by omega)
      refine EV.at ck77 (by decide) 300 [] ?_
      conv => whnf
      try dsimp only
      rw [hc]
      conv => whnf
      try dsimp only
      rw [hI]
      refine ⟨fun h1 => absurd h1 (nI_ge (show j < m by omega) (by omega)), fun _ => ?_⟩
      conv => whnf
      try dsimp only
      rw [hc]
      conv => whnf
      try dsimp only
      rw [ha]
      conv => whnf
      try dsimp only
      refine ⟨in_nI (show j < N by omega) hN, ?_⟩
      conv => whnf
      try dsimp only
      rw [cj]
      exact ⟨trivial, ihj⟩
  refine MT.by ck77 (by decide) rfl (Nat.le_of_ble_eq_true rfl) rfl 300 [15] ?_
  conv => whnf
  try dsimp only
  rw [hc]
  conv => whnf
  try dsimp only
  have h0 := loop m 0 (by omega)
  rw [hI]
  exact ⟨trivial, h0⟩
theorem c_mixInto0 {c a : Nat} {z : Int64} (hc : S[c]? = some (8, 2, [some a, none])) (hI : I c 1 = -1) (h : Q (some (.long (31 * z + (-1 : Int32).toInt64))) (S, I, J)) : MT G (d + 1) 77 [.ref c, .long z] (S, I, J) Q := by
  refine MT.by ck77 (by decide) rfl (Nat.le_of_ble_eq_true rfl) rfl 300 [] ?_
  conv => whnf
  try dsimp only
  rw [hc]
  conv => whnf
  try dsimp only
  rw [hc]
  conv => whnf
  try dsimp only
  rw [hI]
  refine ⟨fun _ => ?_, fun h1 => absurd (by decide) h1⟩
  conv => whnf
  try dsimp only
  exact ⟨trivial, h⟩
end
