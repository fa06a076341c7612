/-! contracts: the class's table -/
/-- Integer.bitCount as the library has it -/
def pop1 (i : Int32) : Int32 := i - (jushr i 1 &&& 1431655765)
def pop2 (i : Int32) : Int32 := (i &&& 858993459) + (jushr i 2 &&& 858993459)
def pop3 (i : Int32) : Int32 := (i + jushr i 4) &&& 252645135
def pop4 (i : Int32) : Int32 := i + jushr i 8
def pop5 (i : Int32) : Int32 := i + jushr i 16
def popJ (i : Int32) : Int32 := pop5 (pop4 (pop3 (pop2 (pop1 i)))) &&& 63
/-- the cheapest of those into x: NONE (-9) if there is none -/
def cheapest (into cost : Nat → Int32) (x : Int32) : Nat → Int32
  | 0 => -9
  | k + 1 => if into k = x ∧ (cheapest into cost x k = -9 ∨ cost k < cheapest into cost x k) then cost k else cheapest into cost x k
def beastsI (told kinds : Nat → Int32) (x : Int32) : Nat → Int32
  | 0 => 0
  | j + 1 => beastsI told kinds x j + (if kinds j = 3 then jshr (told j) x &&& 1 else 0)
section
variable {G : GG} {d n : Nat} {σ : MH} {I : Nat → Nat → Int32} {J : Nat → Nat → Int64} {Q : Option Value → MH → Prop}
theorem c_bitCount {x : Int32} (h : Q (some (.int (popJ x))) σ) : MT G (d + 1) 261 [.int x] σ Q := by
  refine MT.by ck261 (by decide) rfl (Nat.le_of_ble_eq_true rfl) rfl 300 [] ?_
  conv => whnf
  try dsimp only
  exact ⟨trivial, h⟩
theorem c_lead {i s : Nat} (hi : i < 5) (hs : s ≤ 5) (hI : I 6 0 = nI s) (h : Q (some (.int (popJ (bset (fun j => btB (I 8) (I 7) i j) s) - popJ (bset (fun j => btB (I 8) (I 7) j i) s)))) (SH n, I, J)) : MT G (d + 4) 84 [.ref 6, .int (nI i)] (SH n, I, J) Q := by
  refine MT.by ck84 (by decide) rfl (Nat.le_of_ble_eq_true rfl) rfl 300 [] ?_
  conv => whnf
  try dsimp only
  refine ⟨trivial, c_beatenBy hi hs hI ?_⟩
  refine EV.at ck84 (by decide) 300 [] ?_
  conv => whnf
  try dsimp only
  refine ⟨trivial, c_bitCount ?_⟩
  refine EV.at ck84 (by decide) 300 [] ?_
  conv => whnf
  try dsimp only
  refine ⟨trivial, c_beatersOf hi hs hI ?_⟩
  refine EV.at ck84 (by decide) 300 [] ?_
  conv => whnf
  try dsimp only
  refine ⟨trivial, c_bitCount ?_⟩
  refine EV.at ck84 (by decide) 300 [] ?_
  conv => whnf
  try dsimp only
  exact ⟨trivial, h⟩
theorem c_changesFrom {c : Nat} {x : Int32} (hc : c ≤ 12) (hI : I 6 3 = nI c) (h : Q (some (.int (cntI (fun k => decide (I 9 k = x)) c))) (SH n, I, J)) : MT G (d + 1) 86 [.ref 6, .int x] (SH n, I, J) Q := by
  have loop : ∀ m j, j + m = c → EV G 86 d 0 0 4 [.ref 6, .int x, .int (cntI (fun k => decide (I 9 k = x)) j), .int (nI j)] [] (SH n, I, J) Q := by
    intro m
    induction m with
    | zero =>
      intro j hj
      have hj : j = c := hj
      subst hj
      refine EV.at ck86 (by decide) 300 [] ?_
      conv => whnf
      try dsimp only
      rw [hI]
      refine ⟨fun _ => ?_, fun h1 => absurd (nI_le (Nat.le_refl j) (by omega)) h1⟩
      conv => whnf
      try dsimp only
      exact ⟨trivial, h⟩
    | succ m ih =>
      intro j hj
      have ihj := ih (j + 1) (by omega)
      have cj : (nI j).toNatClampNeg = j := nI_clamp (by omega)
      refine EV.at ck86 (by decide) 300 [] ?_
      conv => whnf
      try dsimp only
      rw [hI]
      refine ⟨fun h1 => absurd h1 (nI_ge (show j < c by omega) (by omega)), fun _ => ?_⟩
      conv => whnf
      try dsimp only
      refine ⟨in_nI (show j < 12 by omega) (by decide), ?_⟩
      conv => whnf
      try dsimp only
      rw [cj]
      refine ⟨fun h1 => ?_, fun h1 => ?_⟩
      · have e : cntI (fun k => decide (I 9 k = x)) (j + 1) = cntI (fun k => decide (I 9 k = x)) j + 0 := by simp only [cntI, decide_eq_false h1, b2i]
        rw [e, nI_succ] at ihj
        conv => whnf
        try dsimp only
        exact ⟨trivial, ihj⟩
      · have e : cntI (fun k => decide (I 9 k = x)) (j + 1) = cntI (fun k => decide (I 9 k = x)) j + 1 := by simp only [cntI, decide_eq_true h1, b2i]
        rw [e, nI_succ] at ihj
        conv => whnf
        try dsimp only
        exact ⟨trivial, ihj⟩
  refine MT.by ck86 (by decide) rfl (Nat.le_of_ble_eq_true rfl) rfl 300 [4] ?_
  conv => whnf
  try dsimp only
  exact ⟨trivial, loop c 0 (by omega)⟩
theorem c_changesFromD {c : Nat} {x : Int32} (hc : c ≤ 12) (hI : I 20 3 = nI c) (h : Q (some (.int (cntI (fun k => decide (I 23 k = x)) c))) (SH n, I, J)) : MT G (d + 1) 86 [.ref 20, .int x] (SH n, I, J) Q := by
  have loop : ∀ m j, j + m = c → EV G 86 d 0 0 4 [.ref 20, .int x, .int (cntI (fun k => decide (I 23 k = x)) j), .int (nI j)] [] (SH n, I, J) Q := by
    intro m
    induction m with
    | zero =>
      intro j hj
      have hj : j = c := hj
      subst hj
      refine EV.at ck86 (by decide) 300 [] ?_
      conv => whnf
      try dsimp only
      rw [hI]
      refine ⟨fun _ => ?_, fun h1 => absurd (nI_le (Nat.le_refl j) (by omega)) h1⟩
      conv => whnf
      try dsimp only
      exact ⟨trivial, h⟩
    | succ m ih =>
      intro j hj
      have ihj := ih (j + 1) (by omega)
      have cj : (nI j).toNatClampNeg = j := nI_clamp (by omega)
      refine EV.at ck86 (by decide) 300 [] ?_
      conv => whnf
      try dsimp only
      rw [hI]
      refine ⟨fun h1 => absurd h1 (nI_ge (show j < c by omega) (by omega)), fun _ => ?_⟩
      conv => whnf
      try dsimp only
      refine ⟨in_nI (show j < 12 by omega) (by decide), ?_⟩
      conv => whnf
      try dsimp only
      rw [cj]
      refine ⟨fun h1 => ?_, fun h1 => ?_⟩
      · have e : cntI (fun k => decide (I 23 k = x)) (j + 1) = cntI (fun k => decide (I 23 k = x)) j + 0 := by simp only [cntI, decide_eq_false h1, b2i]
        rw [e, nI_succ] at ihj
        conv => whnf
        try dsimp only
        exact ⟨trivial, ihj⟩
      · have e : cntI (fun k => decide (I 23 k = x)) (j + 1) = cntI (fun k => decide (I 23 k = x)) j + 1 := by simp only [cntI, decide_eq_true h1, b2i]
        rw [e, nI_succ] at ihj
        conv => whnf
        try dsimp only
        exact ⟨trivial, ihj⟩
  refine MT.by ck86 (by decide) rfl (Nat.le_of_ble_eq_true rfl) rfl 300 [4] ?_
  conv => whnf
  try dsimp only
  exact ⟨trivial, loop c 0 (by omega)⟩
theorem c_changesInto {c : Nat} {x : Int32} (hc : c ≤ 12) (hI : I 6 3 = nI c) (h : Q (some (.int (cntI (fun k => decide (I 10 k = x)) c))) (SH n, I, J)) : MT G (d + 1) 87 [.ref 6, .int x] (SH n, I, J) Q := by
  have loop : ∀ m j, j + m = c → EV G 87 d 0 0 4 [.ref 6, .int x, .int (cntI (fun k => decide (I 10 k = x)) j), .int (nI j)] [] (SH n, I, J) Q := by
    intro m
    induction m with
    | zero =>
      intro j hj
      have hj : j = c := hj
      subst hj
      refine EV.at ck87 (by decide) 300 [] ?_
      conv => whnf
      try dsimp only
      rw [hI]
      refine ⟨fun _ => ?_, fun h1 => absurd (nI_le (Nat.le_refl j) (by omega)) h1⟩
      conv => whnf
      try dsimp only
      exact ⟨trivial, h⟩
    | succ m ih =>
      intro j hj
      have ihj := ih (j + 1) (by omega)
      have cj : (nI j).toNatClampNeg = j := nI_clamp (by omega)
      refine EV.at ck87 (by decide) 300 [] ?_
      conv => whnf
      try dsimp only
      rw [hI]
      refine ⟨fun h1 => absurd h1 (nI_ge (show j < c by omega) (by omega)), fun _ => ?_⟩
      conv => whnf
      try dsimp only
      refine ⟨in_nI (show j < 12 by omega) (by decide), ?_⟩
      conv => whnf
      try dsimp only
      rw [cj]
      refine ⟨fun h1 => ?_, fun h1 => ?_⟩
      · have e : cntI (fun k => decide (I 10 k = x)) (j + 1) = cntI (fun k => decide (I 10 k = x)) j + 0 := by simp only [cntI, decide_eq_false h1, b2i]
        rw [e, nI_succ] at ihj
        conv => whnf
        try dsimp only
        exact ⟨trivial, ihj⟩
      · have e : cntI (fun k => decide (I 10 k = x)) (j + 1) = cntI (fun k => decide (I 10 k = x)) j + 1 := by simp only [cntI, decide_eq_true h1, b2i]
        rw [e, nI_succ] at ihj
        conv => whnf
        try dsimp only
        exact ⟨trivial, ihj⟩
  refine MT.by ck87 (by decide) rfl (Nat.le_of_ble_eq_true rfl) rfl 300 [4] ?_
  conv => whnf
  try dsimp only
  exact ⟨trivial, loop c 0 (by omega)⟩
theorem c_cheapestInto {c : Nat} {x : Int32} (hc : c ≤ 12) (hI : I 6 3 = nI c) (h : Q (some (.int (cheapest (I 10) (I 11) x c))) (SH n, I, J)) : MT G (d + 1) 88 [.ref 6, .int x] (SH n, I, J) Q := by
  have loop : ∀ m j, j + m = c → EV G 88 d 0 0 5 [.ref 6, .int x, .int (cheapest (I 10) (I 11) x j), .int (nI j)] [] (SH n, I, J) Q := by
    intro m
    induction m with
    | zero =>
      intro j hj
      have hj : j = c := hj
      subst hj
      refine EV.at ck88 (by decide) 300 [] ?_
      conv => whnf
      try dsimp only
      rw [hI]
      refine ⟨fun _ => ?_, fun h1 => absurd (nI_le (Nat.le_refl j) (by omega)) h1⟩
      conv => whnf
      try dsimp only
      exact ⟨trivial, h⟩
    | succ m ih =>
      intro j hj
      have ihj := ih (j + 1) (by omega)
      have cj : (nI j).toNatClampNeg = j := nI_clamp (by omega)
      refine EV.at ck88 (by decide) 300 [] ?_
      conv => whnf
      try dsimp only
      rw [hI]
      refine ⟨fun h1 => absurd h1 (nI_ge (show j < c by omega) (by omega)), fun _ => ?_⟩
      conv => whnf
      try dsimp only
      refine ⟨in_nI (show j < 12 by omega) (by decide), ?_⟩
      conv => whnf
      try dsimp only
      rw [cj]
      refine ⟨fun h1 => ?_, fun h1 => ?_⟩
      · have e : cheapest (I 10) (I 11) x (j + 1) = cheapest (I 10) (I 11) x j := by rw [cheapest, if_neg (fun q => h1 q.1)]
        rw [e, nI_succ] at ihj
        conv => whnf
        try dsimp only
        exact ⟨trivial, ihj⟩
      · conv => whnf
        try dsimp only
        refine ⟨fun h2 => ?_, fun h2 => ?_⟩
        · have e : cheapest (I 10) (I 11) x (j + 1) = I 11 j := by rw [cheapest, if_pos ⟨h1, Or.inl h2⟩]
          rw [e, nI_succ] at ihj
          conv => whnf
          try dsimp only
          refine ⟨in_nI (show j < 12 by omega) (by decide), ?_⟩
          conv => whnf
          try dsimp only
          rw [cj]
          exact ⟨trivial, ihj⟩
        · conv => whnf
          try dsimp only
          refine ⟨in_nI (show j < 12 by omega) (by decide), ?_⟩
          conv => whnf
          try dsimp only
          rw [cj]
          refine ⟨fun h3 => ?_, fun h3 => ?_⟩
          · have e : cheapest (I 10) (I 11) x (j + 1) = cheapest (I 10) (I 11) x j := by rw [cheapest, if_neg (fun q => q.2.elim h2 (fun z => Int32.not_le.mpr z h3))]
            rw [e, nI_succ] at ihj
            conv => whnf
            try dsimp only
            exact ⟨trivial, ihj⟩
          · have e : cheapest (I 10) (I 11) x (j + 1) = I 11 j := by rw [cheapest, if_pos ⟨h1, Or.inr (Int32.not_le.mp h3)⟩]
            rw [e, nI_succ] at ihj
            conv => whnf
            try dsimp only
            refine ⟨in_nI (show j < 12 by omega) (by decide), ?_⟩
            conv => whnf
            try dsimp only
            rw [cj]
            exact ⟨trivial, ihj⟩
  refine MT.by ck88 (by decide) rfl (Nat.le_of_ble_eq_true rfl) rfl 300 [5] ?_
  conv => whnf
  try dsimp only
  exact ⟨trivial, loop c 0 (by omega)⟩
theorem c_beasts {s : Nat} {x : Int32} (hs : s ≤ 5) (hI : I 6 0 = nI s) (h : Q (some (.int (beastsI (I 8) (I 7) x s))) (SH n, I, J)) : MT G (d + 2) 89 [.ref 6, .int x] (SH n, I, J) Q := by
  have loop : ∀ m j, j + m = s → EV G 89 (d+1) 0 0 4 [.ref 6, .int x, .int (beastsI (I 8) (I 7) x j), .int (nI j)] [] (SH n, I, J) Q := by
    intro m
    induction m with
    | zero =>
      intro j hj
      have hj : j = s := hj
      subst hj
      refine EV.at ck89 (by decide) 300 [] ?_
      conv => whnf
      try dsimp only
      rw [hI]
      refine ⟨fun _ => ?_, fun h1 => absurd (nI_le (Nat.le_refl j) (by omega)) h1⟩
      conv => whnf
      try dsimp only
      exact ⟨trivial, h⟩
    | succ m ih =>
      intro j hj
      have ihj := ih (j + 1) (by omega)
      have cj : (nI j).toNatClampNeg = j := nI_clamp (by omega)
      refine EV.at ck89 (by decide) 300 [] ?_
      conv => whnf
      try dsimp only
      rw [hI]
      refine ⟨fun h1 => absurd h1 (nI_ge (show j < s by omega) (by omega)), fun _ => ?_⟩
      conv => whnf
      try dsimp only
      refine ⟨in_nI (show j < 5 by omega) (by decide), ?_⟩
      conv => whnf
      try dsimp only
      rw [cj]
      refine ⟨fun h1 => ?_, fun h1 => ?_⟩
      · have e : beastsI (I 8) (I 7) x (j + 1) = beastsI (I 8) (I 7) x j + 0 := by rw [beastsI, if_neg h1]
        rw [e, nI_succ] at ihj
        conv => whnf
        try dsimp only
        exact ⟨trivial, ihj⟩
      · have e : beastsI (I 8) (I 7) x (j + 1) = beastsI (I 8) (I 7) x j + (jshr (I 8 j) x &&& 1) := by rw [beastsI, if_pos h1]
        rw [e, nI_succ] at ihj
        conv => whnf
        try dsimp only
        refine ⟨in_nI (show j < 5 by omega) (by decide), ?_⟩
        conv => whnf
        try dsimp only
        rw [cj]
        refine ⟨trivial, c_bit ?_⟩
        refine EV.at ck89 (by decide) 300 [] ?_
        conv => whnf
        try dsimp only
        exact ⟨trivial, ihj⟩
  refine MT.by ck89 (by decide) rfl (Nat.le_of_ble_eq_true rfl) rfl 300 [4] ?_
  conv => whnf
  try dsimp only
  exact ⟨trivial, loop s 0 (by omega)⟩
theorem c_countOf {s : Nat} {kd : Int32} {kn : Nat → Nat} (hs : s ≤ 5) (hI : I 6 0 = nI s) (hk : ∀ i, i < s → kn i < 6 ∧ I 7 i = nI (kn i)) (hE : EX I) (h : Q (some (.int (cntI (fun i => isK (kn i) kd) s))) (SH n, I, J)) : MT G (d + 2) 90 [.ref 6, .int kd] (SH n, I, J) Q := by
  have loop : ∀ m j, j + m = s → EV G 90 (d+1) 0 0 4 [.ref 6, .int kd, .int (cntI (fun i => isK (kn i) kd) j), .int (nI j)] [] (SH n, I, J) Q := by
    intro m
    induction m with
    | zero =>
      intro j hj
      have hj : j = s := hj
      subst hj
      refine EV.at ck90 (by decide) 300 [] ?_
      conv => whnf
      try dsimp only
      rw [hI]
      refine ⟨fun _ => ?_, fun h1 => absurd (nI_le (Nat.le_refl j) (by omega)) h1⟩
      conv => whnf
      try dsimp only
      exact ⟨trivial, h⟩
    | succ m ih =>
      intro j hj
      have ihj := ih (j + 1) (by omega)
      have cj : (nI j).toNatClampNeg = j := nI_clamp (by omega)
      refine EV.at ck90 (by decide) 300 [] ?_
      conv => whnf
      try dsimp only
      rw [hI]
      refine ⟨fun h1 => absurd h1 (nI_ge (show j < s by omega) (by omega)), fun _ => ?_⟩
      conv => whnf
      try dsimp only
      refine ⟨trivial, c_isOf (show j < 5 by omega) (hk j (by omega)).1 (hk j (by omega)).2 hE ?_⟩
      cases hb : isK (kn j) kd
      · have e : cntI (fun i => isK (kn i) kd) (j + 1) = cntI (fun i => isK (kn i) kd) j + 0 := by simp only [cntI, hb, b2i]
        rw [e, nI_succ] at ihj
        refine EV.at ck90 (by decide) 300 [] ?_
        conv => whnf
        try dsimp only
        refine ⟨fun _ => ?_, fun h1 => absurd rfl h1⟩
        conv => whnf
        try dsimp only
        exact ⟨trivial, ihj⟩
      · have e : cntI (fun i => isK (kn i) kd) (j + 1) = cntI (fun i => isK (kn i) kd) j + 1 := by simp only [cntI, hb, b2i]
        rw [e, nI_succ] at ihj
        refine EV.at ck90 (by decide) 300 [] ?_
        conv => whnf
        try dsimp only
        refine ⟨fun h1 => absurd h1 (by decide), fun _ => ?_⟩
        conv => whnf
        try dsimp only
        exact ⟨trivial, ihj⟩
  refine MT.by ck90 (by decide) rfl (Nat.le_of_ble_eq_true rfl) rfl 300 [4] ?_
  conv => whnf
  try dsimp only
  exact ⟨trivial, loop s 0 (by omega)⟩
/-- what a CHANGE TAKES: its cost, the kinds of into, from, the other one -/
def priceI (cost : Int32) (qi : Nat) (kf ko : Int32) : Int32 := jmax (cost - b2i (isK qi 1) + b2i (decide (kf = 3)) + b2i (decide (ko = 4))) 1
theorem c_price {k f t o q : Nat} (hk : k < 12) (hf : f < 5) (ht : t < 5) (ho : o < 5) (hq : q < 6) (ef : I 9 k = nI f) (et : I 10 k = nI t) (eq : I 7 t = nI q) (hE : EX I) (h : Q (some (.int (priceI (I 11 k) q (I 7 f) (I 7 o)))) (SH n, I, J)) : MT G (d + 2) 91 [.ref 6, .int (nI k), .int (nI o)] (SH n, I, J) Q := by
  have ck : (nI k).toNatClampNeg = k := cl_nI hk (by decide)
  have cf : (nI f).toNatClampNeg = f := cl_nI hf (by decide)
  have co : (nI o).toNatClampNeg = o := cl_nI ho (by decide)
  unfold priceI at h
  refine MT.by ck91 (by decide) rfl (Nat.le_of_ble_eq_true rfl) rfl 300 [] ?_
  conv => whnf
  try dsimp only
  refine ⟨in_nI hk (by decide), ?_⟩
  conv => whnf
  try dsimp only
  refine ⟨in_nI hk (by decide), ?_⟩
  conv => whnf
  try dsimp only
  rw [ck, et]
  refine ⟨trivial, c_isOf ht hq eq hE ?_⟩
  cases hb : isK q 1 <;> rw [hb] at h
  · refine EV.at ck91 (by decide) 300 [] ?_
    conv => whnf
    try dsimp only
    refine ⟨fun _ => ?_, fun h1 => absurd rfl h1⟩
    conv => whnf
    try dsimp only
    refine ⟨in_nI hk (by decide), ?_⟩
    conv => whnf
    try dsimp only
    rw [ck, ef]
    refine ⟨in_nI hf (by decide), ?_⟩
    conv => whnf
    try dsimp only
    rw [cf]
    refine ⟨fun h1 => ?_, fun h1 => ?_⟩
    · rw [decide_eq_false h1] at h
      conv => whnf
      try dsimp only
      refine ⟨in_nI ho (by decide), ?_⟩
      conv => whnf
      try dsimp only
      rw [co]
      refine ⟨fun h2 => ?_, fun h2 => ?_⟩
      · rw [decide_eq_false h2] at h
        conv => whnf
        try dsimp only
        exact ⟨trivial, h⟩
      · rw [decide_eq_true h2] at h
        conv => whnf
        try dsimp only
        exact ⟨trivial, h⟩
    · rw [decide_eq_true h1] at h
      conv => whnf
      try dsimp only
      refine ⟨in_nI ho (by decide), ?_⟩
      conv => whnf
      try dsimp only
      rw [co]
      refine ⟨fun h2 => ?_, fun h2 => ?_⟩
      · rw [decide_eq_false h2] at h
        conv => whnf
        try dsimp only
        exact ⟨trivial, h⟩
      · rw [decide_eq_true h2] at h
        conv => whnf
        try dsimp only
        exact ⟨trivial, h⟩
  · refine EV.at ck91 (by decide) 300 [] ?_
    conv => whnf
    try dsimp only
    refine ⟨fun h1 => absurd h1 (by decide), fun _ => ?_⟩
    conv => whnf
    try dsimp only
    refine ⟨in_nI hk (by decide), ?_⟩
    conv => whnf
    try dsimp only
    rw [ck, ef]
    refine ⟨in_nI hf (by decide), ?_⟩
    conv => whnf
    try dsimp only
    rw [cf]
    refine ⟨fun h1 => ?_, fun h1 => ?_⟩
    · rw [decide_eq_false h1] at h
      conv => whnf
      try dsimp only
      refine ⟨in_nI ho (by decide), ?_⟩
      conv => whnf
      try dsimp only
      rw [co]
      refine ⟨fun h2 => ?_, fun h2 => ?_⟩
      · rw [decide_eq_false h2] at h
        conv => whnf
        try dsimp only
        exact ⟨trivial, h⟩
      · rw [decide_eq_true h2] at h
        conv => whnf
        try dsimp only
        exact ⟨trivial, h⟩
    · rw [decide_eq_true h1] at h
      conv => whnf
      try dsimp only
      refine ⟨in_nI ho (by decide), ?_⟩
      conv => whnf
      try dsimp only
      rw [co]
      refine ⟨fun h2 => ?_, fun h2 => ?_⟩
      · rw [decide_eq_false h2] at h
        conv => whnf
        try dsimp only
        exact ⟨trivial, h⟩
      · rw [decide_eq_true h2] at h
        conv => whnf
        try dsimp only
        exact ⟨trivial, h⟩
end
