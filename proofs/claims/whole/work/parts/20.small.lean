/-! contracts: the smallest methods (each as: if Q holds of the answer and the memory behind it, the call is well) -/
theorem in_nI {i N : Nat} (h : i < N) (hN : N ≤ 65536) : vp_in (nI i) N := vp_in_nI h (by omega)
theorem cl_nI {i N : Nat} (h : i < N) (hN : N ≤ 65536) : (nI i).toNatClampNeg = i := nI_clamp (by omega)
def btB (told kinds : Nat → Int32) (i j : Nat) : Bool := decide (jshr (told i) (nI j) &&& 1 = 1 ∧ ¬ (kinds i = 3 ∧ kinds j = 5))
/-- the set of those below n of which f holds, as bits -/
def bset (f : Nat → Bool) : Nat → Int32
  | 0 => 0
  | j + 1 => bset f j ||| (match f j with
    | true => jshl 1 (nI j)
    | false => 0)
/-- how many below n f holds of -/
def cntI (f : Nat → Bool) : Nat → Int32
  | 0 => 0
  | j + 1 => cntI f j + b2i (f j)
/-- KINDS: of which one each is besides itself -/
def abv (q : Nat) : Int32 := match q with
  | 4 => 2
  | 5 => 1
  | _ => 0
def ltr (q : Nat) : Int32 := match q with
  | 0 => 115
  | 1 => 103
  | 2 => 98
  | 3 => 97
  | 4 => 119
  | _ => 109
def EX (I : Nat → Nat → Int32) : Prop := ∀ q, q < 6 → I 1 q = ltr q ∧ I 2 q = abv q
def isK (q : Nat) (kd : Int32) : Bool := decide (nI q = kd ∨ abv q = kd)
section
variable {G : GG} {d n : Nat} {σ : MH} {I : Nat → Nat → Int32} {J : Nat → Nat → Int64} {Q : Option Value → MH → Prop}
theorem c_within {x e : Int32} (h : Q (some (.int (b2i (decide (0 ≤ x ∧ x < e))))) σ) : MT G (d + 1) 142 [.int x, .int e] σ Q := by
  refine MT.by ck142 (by decide) rfl (Nat.le_of_ble_eq_true rfl) rfl 300 [] ?_
  conv => whnf
  try dsimp only
  refine ⟨fun h1 => ?_, fun h1 => ?_⟩
  · conv => whnf
    try dsimp only
    refine ⟨Or.inl rfl, ?_⟩
    rw [decide_eq_false (fun h => Int32.not_le.mpr h1 h.1)] at h
    exact h
  · conv => whnf
    try dsimp only
    refine ⟨fun h2 => ?_, fun h2 => ?_⟩
    · conv => whnf
      try dsimp only
      refine ⟨Or.inl rfl, ?_⟩
      rw [decide_eq_false (fun h => Int32.not_le.mpr h.2 h2)] at h
      exact h
    · conv => whnf
      try dsimp only
      refine ⟨Or.inr rfl, ?_⟩
      rw [decide_eq_true ⟨Int32.not_lt.mp h1, Int32.not_le.mp h2⟩] at h
      exact h
theorem c_bit {x e : Int32} (h : Q (some (.int (jshr x e &&& 1))) σ) : MT G (d + 1) 143 [.int x, .int e] σ Q := by
  refine MT.by ck143 (by decide) rfl (Nat.le_of_ble_eq_true rfl) rfl 300 [] ?_
  conv => whnf
  try dsimp only
  exact ⟨trivial, h⟩
theorem c_withBit {x e b : Int32} (h : Q (some (.int (if b = 1 then x ||| jshl 1 e else x &&& (jshl 1 e ^^^ (-1))))) σ) : MT G (d + 1) 144 [.int x, .int e, .int b] σ Q := by
  refine MT.by ck144 (by decide) rfl (Nat.le_of_ble_eq_true rfl) rfl 300 [] ?_
  conv => whnf
  try dsimp only
  refine ⟨fun h1 => ?_, fun h1 => ?_⟩
  · conv => whnf
    try dsimp only
    rw [if_neg h1] at h
    exact ⟨trivial, h⟩
  · conv => whnf
    try dsimp only
    rw [if_pos h1] at h
    exact ⟨trivial, h⟩
theorem c_isOf {i q : Nat} {kd : Int32} (hi : i < 5) (hq : q < 6) (hk : I 7 i = nI q) (hE : EX I) (h : Q (some (.int (b2i (isK q kd)))) (SH n, I, J)) : MT G (d + 1) 80 [.ref 6, .int (nI i), .int kd] (SH n, I, J) Q := by
  have ci : (nI i).toNatClampNeg = i := cl_nI hi (by decide)
  have cq : (nI q).toNatClampNeg = q := cl_nI hq (by decide)
  refine MT.by ck80 (by decide) rfl (Nat.le_of_ble_eq_true rfl) rfl 300 [] ?_
  conv => whnf
  try dsimp only
  refine ⟨in_nI hi (by decide), ?_⟩
  conv => whnf
  try dsimp only
  rw [ci, hk]
  refine ⟨fun h1 => ?_, fun h1 => ?_⟩
  · conv => whnf
    try dsimp only
    refine ⟨Or.inr rfl, ?_⟩
    rw [show isK q kd = true from decide_eq_true (Or.inl h1)] at h
    exact h
  · conv => whnf
    try dsimp only
    refine ⟨in_nI hi (by decide), ?_⟩
    conv => whnf
    try dsimp only
    rw [ci, hk]
    refine ⟨in_nI hq (by decide), ?_⟩
    conv => whnf
    try dsimp only
    rw [cq, (hE q hq).2]
    refine ⟨fun h2 => ?_, fun h2 => ?_⟩
    · conv => whnf
      try dsimp only
      refine ⟨Or.inl rfl, ?_⟩
      rw [show isK q kd = false from decide_eq_false (fun z => z.elim h1 h2)] at h
      exact h
    · conv => whnf
      try dsimp only
      refine ⟨Or.inr rfl, ?_⟩
      rw [show isK q kd = true from decide_eq_true (Or.inr h2)] at h
      exact h
theorem c_beats {i j : Nat} (hi : i < 5) (hj : j < 5) (h : Q (some (.int (b2i (btB (I 8) (I 7) i j)))) (SH n, I, J)) : MT G (d + 2) 81 [.ref 6, .int (nI i), .int (nI j)] (SH n, I, J) Q := by
  have ci : (nI i).toNatClampNeg = i := cl_nI hi (by decide)
  have cj : (nI j).toNatClampNeg = j := cl_nI hj (by decide)
  refine MT.by ck81 (by decide) rfl (Nat.le_of_ble_eq_true rfl) rfl 300 [] ?_
  conv => whnf
  try dsimp only
  refine ⟨in_nI hi (by decide), ?_⟩
  conv => whnf
  try dsimp only
  refine ⟨trivial, c_bit ?_⟩
  refine EV.at ck81 (by decide) 300 [] ?_
  conv => whnf
  try dsimp only
  rw [ci]
  refine ⟨fun h1 => ?_, fun h1 => ?_⟩
  · conv => whnf
    try dsimp only
    refine ⟨Or.inl rfl, ?_⟩
    rw [show btB (I 8) (I 7) i j = false from decide_eq_false (fun q => h1 q.1)] at h
    exact h
  · conv => whnf
    try dsimp only
    refine ⟨in_nI hi (by decide), ?_⟩
    conv => whnf
    try dsimp only
    rw [ci]
    refine ⟨fun h2 => ?_, fun h2 => ?_⟩
    · conv => whnf
      try dsimp only
      refine ⟨Or.inr rfl, ?_⟩
      rw [show btB (I 8) (I 7) i j = true from decide_eq_true ⟨h1, fun q => h2 q.1⟩] at h
      exact h
    · conv => whnf
      try dsimp only
      refine ⟨in_nI hj (by decide), ?_⟩
      conv => whnf
      try dsimp only
      rw [cj]
      refine ⟨fun h3 => ?_, fun h3 => ?_⟩
      · conv => whnf
        try dsimp only
        refine ⟨Or.inl rfl, ?_⟩
        rw [show btB (I 8) (I 7) i j = false from decide_eq_false (fun q => q.2 ⟨h2, h3⟩)] at h
        exact h
      · conv => whnf
        try dsimp only
        refine ⟨Or.inr rfl, ?_⟩
        rw [show btB (I 8) (I 7) i j = true from decide_eq_true ⟨h1, fun q => h3 q.2⟩] at h
        exact h
theorem c_beatenBy {i s : Nat} (hi : i < 5) (hs : s ≤ 5) (hI : I 6 0 = nI s) (h : Q (some (.int (bset (fun j => btB (I 8) (I 7) i j) s))) (SH n, I, J)) : MT G (d + 3) 82 [.ref 6, .int (nI i)] (SH n, I, J) Q := by
  have loop : ∀ m j, j + m = s → EV G 82 (d + 2) 0 0 4 [.ref 6, .int (nI i), .int (bset (fun j => btB (I 8) (I 7) i j) j), .int (nI j)] [] (SH n, I, J) Q := by
    intro m
    induction m with
    | zero =>
      intro j hj
      have hj : j = s := hj
      subst hj
      refine EV.at ck82 (by decide) 300 [] ?_
      conv => whnf
      try dsimp only
      rw [hI]
      refine ⟨fun _ => ?_, fun h1 => absurd (nI_le (Nat.le_refl j) (by omega)) h1⟩
      conv => whnf
      try dsimp only
      exact ⟨trivial, h⟩
    | succ m ih =>
      intro j hj
      have ihj := ih (j + 1) (by omega)
      refine EV.at ck82 (by decide) 300 [] ?_
      conv => whnf
      try dsimp only
      rw [hI]
      refine ⟨fun h1 => absurd h1 (nI_ge (show j < s by omega) (by omega)), fun _ => ?_⟩
      conv => whnf
      try dsimp only
      refine ⟨trivial, c_beats hi (show j < 5 by omega) ?_⟩
      cases hb : btB (I 8) (I 7) i j
      · have e : bset (fun j => btB (I 8) (I 7) i j) (j + 1) = bset (fun j => btB (I 8) (I 7) i j) j ||| 0 := by simp only [bset, hb]
        rw [e, nI_succ] at ihj
        refine EV.at ck82 (by decide) 300 [] ?_
        conv => whnf
        try dsimp only
        refine ⟨fun _ => ?_, fun h1 => absurd rfl h1⟩
        conv => whnf
        try dsimp only
        exact ⟨trivial, ihj⟩
      · have e : bset (fun j => btB (I 8) (I 7) i j) (j + 1) = bset (fun j => btB (I 8) (I 7) i j) j ||| jshl 1 (nI j) := by simp only [bset, hb]
        rw [e, nI_succ] at ihj
        refine EV.at ck82 (by decide) 300 [] ?_
        conv => whnf
        try dsimp only
        refine ⟨fun h1 => absurd h1 (by decide), fun _ => ?_⟩
        conv => whnf
        try dsimp only
        exact ⟨trivial, ihj⟩
  refine MT.by ck82 (by decide) rfl (Nat.le_of_ble_eq_true rfl) rfl 300 [4] ?_
  conv => whnf
  try dsimp only
  exact ⟨trivial, loop s 0 (by omega)⟩
theorem c_beatersOf {i s : Nat} (hi : i < 5) (hs : s ≤ 5) (hI : I 6 0 = nI s) (h : Q (some (.int (bset (fun j => btB (I 8) (I 7) j i) s))) (SH n, I, J)) : MT G (d + 3) 83 [.ref 6, .int (nI i)] (SH n, I, J) Q := by
  have loop : ∀ m j, j + m = s → EV G 83 (d + 2) 0 0 4 [.ref 6, .int (nI i), .int (bset (fun j => btB (I 8) (I 7) j i) j), .int (nI j)] [] (SH n, I, J) Q := by
    intro m
    induction m with
    | zero =>
      intro j hj
      have hj : j = s := hj
      subst hj
      refine EV.at ck83 (by decide) 300 [] ?_
      conv => whnf
      try dsimp only
      rw [hI]
      refine ⟨fun _ => ?_, fun h1 => absurd (nI_le (Nat.le_refl j) (by omega)) h1⟩
      conv => whnf
      try dsimp only
      exact ⟨trivial, h⟩
    | succ m ih =>
      intro j hj
      have ihj := ih (j + 1) (by omega)
      refine EV.at ck83 (by decide) 300 [] ?_
      conv => whnf
      try dsimp only
      rw [hI]
      refine ⟨fun h1 => absurd h1 (nI_ge (show j < s by omega) (by omega)), fun _ => ?_⟩
      conv => whnf
      try dsimp only
      refine ⟨trivial, c_beats (show j < 5 by omega) hi ?_⟩
      cases hb : btB (I 8) (I 7) j i
      · have e : bset (fun j => btB (I 8) (I 7) j i) (j + 1) = bset (fun j => btB (I 8) (I 7) j i) j ||| 0 := by simp only [bset, hb]
        rw [e, nI_succ] at ihj
        refine EV.at ck83 (by decide) 300 [] ?_
        conv => whnf
        try dsimp only
        refine ⟨fun _ => ?_, fun h1 => absurd rfl h1⟩
        conv => whnf
        try dsimp only
        exact ⟨trivial, ihj⟩
      · have e : bset (fun j => btB (I 8) (I 7) j i) (j + 1) = bset (fun j => btB (I 8) (I 7) j i) j ||| jshl 1 (nI j) := by simp only [bset, hb]
        rw [e, nI_succ] at ihj
        refine EV.at ck83 (by decide) 300 [] ?_
        conv => whnf
        try dsimp only
        refine ⟨fun h1 => absurd h1 (by decide), fun _ => ?_⟩
        conv => whnf
        try dsimp only
        exact ⟨trivial, ihj⟩
  refine MT.by ck83 (by decide) rfl (Nat.le_of_ble_eq_true rfl) rfl 300 [4] ?_
  conv => whnf
  try dsimp only
  exact ⟨trivial, loop s 0 (by omega)⟩
end
