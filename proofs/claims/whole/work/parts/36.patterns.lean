/-! the class's Patterns (cell 36; newPlace 37) -/
def noSelf (T : TN) : Prop := ∀ i, i < tS T → (tT T i).testBit i = false
def ringP (T : TN) (x y z : Nat) : Bool := decide (x < y ∧ x < z ∧ y < tS T ∧ z < tS T ∧ y ≠ z) && (btT T x y && (btT T y z && btT T z x))
def rgN (T : TN) : Nat → Nat × Nat
  | 0 => (0, 0)
  | c + 1 => if ringP T (c / 25) (c / 5 % 5) (c % 5) then ((rgN T c).1 + 1, (rgN T c).2 ||| ((2 ^ (c / 25) ||| 2 ^ (c / 5 % 5)) ||| 2 ^ (c % 5))) else rgN T c
theorem rg_skip {T : TN} {a : Nat} : ∀ m, (∀ c, a ≤ c → c < a + m → ringP T (c / 25) (c / 5 % 5) (c % 5) = false) → rgN T (a + m) = rgN T a
  | 0, _ => rfl
  | m + 1, h => by
    show rgN T (a + m + 1) = _
    rw [rgN, h (a + m) (by omega) (by omega)]
    exact rg_skip m (fun c h1 h2 => h c h1 (by omega))
theorem rg_to {T : TN} {a b : Nat} (hab : a ≤ b) (h : ∀ c, a ≤ c → c < b → ¬ (c / 25 < c / 5 % 5 ∧ c / 25 < c % 5 ∧ c / 5 % 5 < tS T ∧ c % 5 < tS T ∧ c / 5 % 5 ≠ c % 5)) : rgN T b = rgN T a := by
  have h1 := rg_skip (T := T) (a := a) (b - a) (fun c h1 h2 => by unfold ringP; rw [decide_eq_false (h c h1 (by omega))]; rfl)
  rw [show a + (b - a) = b by omega] at h1
  exact h1
theorem ring_eq {T : TN} (hN : noSelf T) {x y z : Nat} (h1 : x < y) (h2 : x < z) (h3 : y < tS T) (h4 : z < tS T) : ringP T x y z = (btT T x y && (btT T y z && btT T z x)) := by
  unfold ringP
  by_cases h : y = z
  · subst h
    have : btT T y y = false := by unfold btT; rw [hN y h3]; rfl
    rw [this]
    simp
  · rw [decide_eq_true ⟨h1, h2, h3, h4, h⟩, Bool.true_and]
theorem bset_or {f g : Nat → Bool} : ∀ m, m < 31 → (∀ j, j < m → f j = g j) → bset f m = nI (orN g m)
  | 0, _, _ => rfl
  | m + 1, hm, h => by
    rw [bset, orN, bset_or m (by omega) (fun j hj => h j (by omega)), h m (by omega), ← fa_or]
    cases g m
    · show _ ||| (0 : Int32) = _ ||| nI 0
      rw [nI_0]
    · show _ ||| jshl 1 (nI m) = _ ||| nI (2 ^ m)
      rw [nu_one (by omega)]
theorem orN_lt {P : Nat → Bool} : ∀ c, orN P c < 2 ^ c
  | 0 => by show 0 < 1; decide
  | c + 1 => by
    have h := orN_lt (P := P) c
    have h2 : 2 ^ c < 2 ^ (c + 1) := Nat.pow_lt_pow_right (by decide) (by omega)
    unfold orN
    refine Nat.or_lt_two_pow (by omega) ?_
    split <;> omega
def bbN (T : TN) (b : Nat) : Nat → Nat
  | 0 => 0
  | i + 1 => bbN T b i ||| (if b.testBit i then orN (btT T i) (tS T) else 0)
def cvN (T : TN) : Nat → Nat → Nat
  | 0, b => b
  | m + 1, b => cvN T m (if bbN T m (tS T) = bbN T (2 ^ tS T - 1) (tS T) ∧ pcN 12 m ≤ pcN 12 b then m else b)
theorem ev_eq : ∀ s, s < 6 → jshl 1 (nI s) - 1 = nI (2 ^ s - 1) ∧ pcN 12 (2 ^ s - 1) = s := by decide +kernel
theorem m1_eq (x : Int32) : x + (-1) = x - 1 := (Int32.sub_eq_add_neg ..).symm
theorem bbN_lt {T : TN} {b : Nat} (h : tS T ≤ 5) : ∀ i, bbN T b i < 32
  | 0 => by show 0 < 32; decide
  | i + 1 => by
    have h1 := bbN_lt (T := T) (b := b) h i
    have h2 : orN (btT T i) (tS T) < 2 ^ tS T := orN_lt _
    have h3 : 2 ^ tS T ≤ 2 ^ 5 := Nat.pow_le_pow_right (by decide) h
    unfold bbN
    refine Nat.or_lt_two_pow (n := 5) h1 ?_
    split <;> omega
def ftB (T : TN) (g : Nat → Nat) (i p : Nat) : Nat → Bool
  | 0 => true
  | j + 1 => ftB T g i p j && ((btT T i j == btT T p (g j)) && (btT T j i == btT T (g j) p))
theorem ftB_false {T : TN} {g : Nat → Nat} {i p j m : Nat} (hj : j < m) (h : ((btT T i j == btT T p (g j)) && (btT T j i == btT T (g j) p)) = false) : ftB T g i p m = false := by
  induction m with
  | zero => omega
  | succ m ih =>
    unfold ftB
    by_cases hm : j = m
    · subst hm; rw [h, Bool.and_false]
    · rw [ih (by omega), Bool.false_and]
def mvN (g : Nat → Nat) : Nat → Nat
  | 0 => 0
  | i + 1 => mvN g i ||| (if g i = i then 0 else 2 ^ g i)
def alW (h : Nat → Nat × Nat) (c : Nat → Bool) : Nat → Nat × Nat
  | 0 => (0, 0)
  | p + 1 => if c p then ((alW h c p).1 + (h p).1, (alW h c p).2 ||| (h p).2) else alW h c p
def setG (g : Nat → Nat) (i p : Nat) : Nat → Nat := fun x => if x = i then p else g x
def alF (T : TN) : Nat → Nat → Nat → (Nat → Nat) → Nat × Nat
  | 0, _, _, g => (1, mvN g (tS T))
  | m + 1, i, tk, g => alW (fun p => alF T m (i + 1) (tk ||| 2 ^ p) (setG g i p)) (fun p => !(tk.testBit p) && ftB T g i p i) (tS T)
def ldI (T : TN) (i : Nat) : Int32 := nI (pcN 12 (orN (btT T i) (tS T))) - nI (pcN 12 (orN (fun j => btT T j i) (tS T)))
def bsN (T : TN) : Nat → Nat
  | 0 => 0
  | i + 1 => if ldI T (bsN T i) < ldI T i then i else bsN T i
theorem bsN_lt {T : TN} : ∀ i, 0 < i → bsN T i < i
  | 0, h => by omega
  | i + 1, _ => by
    unfold bsN
    split
    · omega
    · rcases Nat.eq_zero_or_pos i with rfl | h
      · show 0 < 1; decide
      · have := bsN_lt (T := T) i h; omega
section
variable {G : GG} {d n : Nat} {I : Nat → Nat → Int32} {J : Nat → Nat → Int64} {Q : Option Value → MH → Prop} {T : TN}
theorem c_countRings (hT : tOK T) (hN : noSelf T) (hM : tMem T I) (h : Q (some (.int (nI (rgN T 125).1))) (SH n, upI I 36 2 ((jshl 1 (nI (tS T)) - 1) &&& (nI (rgN T 125).2 ^^^ (-1))), J)) : MT G (d + 4) 28 [.ref 36] (SH n, I, J) Q := by
  have h5 : tS T ≤ 5 := hT.1
  have hI : I 6 0 = nI (tS T) := hM.1
  have zl : ∀ x y, x < y → y < tS T → (∀ v5, EV G 28 (d + 3) 0 0 22 [.ref 36, .int (nI (rgN T (25 * x + 5 * y + tS T)).1), .int (nI (rgN T (25 * x + 5 * y + tS T)).2), .int (nI x), .int (nI (y + 1)), v5] [] (SH n, I, J) Q) → ∀ m z, z + m = tS T → x < z → EV G 28 (d + 3) 0 0 39 [.ref 36, .int (nI (rgN T (25 * x + 5 * y + z)).1), .int (nI (rgN T (25 * x + 5 * y + z)).2), .int (nI x), .int (nI y), .int (nI z)] [] (SH n, I, J) Q := by
    intro x y hxy hy hk m
    induction m with
    | zero =>
      intro z hz hxz
      have hz : z = tS T := hz
      have hk := hk (.int (nI z))
      rw [← hz, nI_succ y] at hk
      refine EV.at ck28 (by decide) 300 [] ?_
      conv => whnf
      try dsimp only
      rw [hI]
      refine pk_le (tS T) z (fun _ => ?_) (fun h1 => absurd h1 (by omega))
      conv => whnf
      try dsimp only
      exact ⟨trivial, hk⟩
    | succ m ih =>
      intro z hz hxz
      have ihj := ih (z + 1) (by omega) (by omega)
      have hzs : z < tS T := by omega
      have hre := ring_eq hN hxy hxz hy hzs
      have e0 : rgN T (25 * x + 5 * y + (z + 1)) = if ringP T x y z then ((rgN T (25 * x + 5 * y + z)).1 + 1, (rgN T (25 * x + 5 * y + z)).2 ||| ((2 ^ x ||| 2 ^ y) ||| 2 ^ z)) else rgN T (25 * x + 5 * y + z) := by
        show rgN T (25 * x + 5 * y + z + 1) = _
        rw [rgN, show (25 * x + 5 * y + z) / 25 = x by omega, show (25 * x + 5 * y + z) / 5 % 5 = y by omega, show (25 * x + 5 * y + z) % 5 = z by omega]
      have k110 : ringP T x y z = false → EV G 28 (d + 3) 0 0 110 [.ref 36, .int (nI (rgN T (25 * x + 5 * y + z)).1), .int (nI (rgN T (25 * x + 5 * y + z)).2), .int (nI x), .int (nI y), .int (nI z)] [] (SH n, I, J) Q := by
        intro hr
        rw [hr] at e0
        have e1 : rgN T (25 * x + 5 * y + (z + 1)) = rgN T (25 * x + 5 * y + z) := e0
        rw [e1, nI_succ z] at ihj
        refine EV.at ck28 (by decide) 300 [] ?_
        conv => whnf
        try dsimp only
        exact ⟨trivial, ihj⟩
      refine EV.at ck28 (by decide) 300 [110] ?_
      conv => whnf
      try dsimp only
      rw [hI]
      refine pk_le (tS T) z (fun h1 => absurd h1 (by omega)) (fun _ => ?_)
      conv => whnf
      try dsimp only
      refine ⟨trivial, c_beats (show x < 5 by omega) (show y < 5 by omega) ?_⟩
      rw [bt_eq hT hM (show x < tS T by omega) hy]
      cases hb1 : btT T x y
      · refine EV.at ck28 (by decide) 300 [110] ?_
        conv => whnf
        try dsimp only
        first | refine ⟨fun h1 => absurd h1 (by decide), fun _ => ?_⟩ | refine ⟨fun _ => ?_, fun h1 => absurd (by decide) h1⟩ | refine ⟨fun h1 => absurd (by decide) h1, fun _ => ?_⟩ | refine ⟨fun _ => ?_, fun h1 => absurd h1 (by decide)⟩
        conv => whnf
        try dsimp only
        exact ⟨trivial, k110 (by rw [hre, hb1]; rfl)⟩
      refine EV.at ck28 (by decide) 300 [110] ?_
      conv => whnf
      try dsimp only
      first | refine ⟨fun h1 => absurd h1 (by decide), fun _ => ?_⟩ | refine ⟨fun _ => ?_, fun h1 => absurd (by decide) h1⟩ | refine ⟨fun h1 => absurd (by decide) h1, fun _ => ?_⟩ | refine ⟨fun _ => ?_, fun h1 => absurd h1 (by decide)⟩
      conv => whnf
      try dsimp only
      refine ⟨trivial, c_beats (show y < 5 by omega) (show z < 5 by omega) ?_⟩
      rw [bt_eq hT hM hy hzs]
      cases hb2 : btT T y z
      · refine EV.at ck28 (by decide) 300 [110] ?_
        conv => whnf
        try dsimp only
        first | refine ⟨fun h1 => absurd h1 (by decide), fun _ => ?_⟩ | refine ⟨fun _ => ?_, fun h1 => absurd (by decide) h1⟩ | refine ⟨fun h1 => absurd (by decide) h1, fun _ => ?_⟩ | refine ⟨fun _ => ?_, fun h1 => absurd h1 (by decide)⟩
        conv => whnf
        try dsimp only
        exact ⟨trivial, k110 (by rw [hre, hb1, hb2]; rfl)⟩
      refine EV.at ck28 (by decide) 300 [110] ?_
      conv => whnf
      try dsimp only
      first | refine ⟨fun h1 => absurd h1 (by decide), fun _ => ?_⟩ | refine ⟨fun _ => ?_, fun h1 => absurd (by decide) h1⟩ | refine ⟨fun h1 => absurd (by decide) h1, fun _ => ?_⟩ | refine ⟨fun _ => ?_, fun h1 => absurd h1 (by decide)⟩
      conv => whnf
      try dsimp only
      refine ⟨trivial, c_beats (show z < 5 by omega) (show x < 5 by omega) ?_⟩
      rw [bt_eq hT hM hzs (show x < tS T by omega)]
      cases hb3 : btT T z x
      · refine EV.at ck28 (by decide) 300 [110] ?_
        conv => whnf
        try dsimp only
        first | refine ⟨fun h1 => absurd h1 (by decide), fun _ => ?_⟩ | refine ⟨fun _ => ?_, fun h1 => absurd (by decide) h1⟩ | refine ⟨fun h1 => absurd (by decide) h1, fun _ => ?_⟩ | refine ⟨fun _ => ?_, fun h1 => absurd h1 (by decide)⟩
        conv => whnf
        try dsimp only
        exact ⟨trivial, k110 (by rw [hre, hb1, hb2, hb3]; rfl)⟩
      rw [hre, hb1, hb2, hb3] at e0
      have e1 : rgN T (25 * x + 5 * y + (z + 1)) = ((rgN T (25 * x + 5 * y + z)).1 + 1, (rgN T (25 * x + 5 * y + z)).2 ||| ((2 ^ x ||| 2 ^ y) ||| 2 ^ z)) := e0
      rw [e1, nI_succ z] at ihj
      dsimp only at ihj
      rw [nI_succ (rgN T (25 * x + 5 * y + z)).1, ← fa_or, ← fa_or, ← fa_or, ← nu_one (show x < 31 by omega), ← nu_one (show y < 31 by omega), ← nu_one (show z < 31 by omega)] at ihj
      refine EV.at ck28 (by decide) 300 [] ?_
      conv => whnf
      try dsimp only
      first | refine ⟨fun h1 => absurd h1 (by decide), fun _ => ?_⟩ | refine ⟨fun _ => ?_, fun h1 => absurd (by decide) h1⟩ | refine ⟨fun h1 => absurd (by decide) h1, fun _ => ?_⟩ | refine ⟨fun _ => ?_, fun h1 => absurd h1 (by decide)⟩
      conv => whnf
      try dsimp only
      exact ⟨trivial, ihj⟩
  have yl : ∀ x, x < tS T → (∀ v4 v5, EV G 28 (d + 3) 0 0 6 [.ref 36, .int (nI (rgN T (25 * (x + 1))).1), .int (nI (rgN T (25 * (x + 1))).2), .int (nI (x + 1)), v4, v5] [] (SH n, I, J) Q) → ∀ m y, y + m = tS T → x < y → ∀ v5, EV G 28 (d + 3) 0 0 22 [.ref 36, .int (nI (rgN T (25 * x + 5 * y)).1), .int (nI (rgN T (25 * x + 5 * y)).2), .int (nI x), .int (nI y), v5] [] (SH n, I, J) Q := by
    intro x hx hk m
    induction m with
    | zero =>
      intro y hy hxy v5
      have hy : y = tS T := hy
      have hk := hk (.int (nI y)) v5
      have e : rgN T (25 * (x + 1)) = rgN T (25 * x + 5 * y) := rg_to (by omega) (fun c h1 h2 => by omega)
      rw [e, nI_succ x] at hk
      refine EV.at ck28 (by decide) 300 [] ?_
      conv => whnf
      try dsimp only
      rw [hI]
      refine pk_le (tS T) y (fun _ => ?_) (fun h1 => absurd h1 (by omega))
      conv => whnf
      try dsimp only
      exact ⟨trivial, hk⟩
    | succ m ih =>
      intro y hy hxy v5
      have ihj := ih (y + 1) (by omega) (by omega)
      have e : rgN T (25 * x + 5 * (y + 1)) = rgN T (25 * x + 5 * y + tS T) := rg_to (by omega) (fun c h1 h2 => by omega)
      rw [e] at ihj
      have z0 := zl x y hxy (by omega) ihj (tS T - (x + 1)) (x + 1) (by omega) (by omega)
      have e2 : rgN T (25 * x + 5 * y + (x + 1)) = rgN T (25 * x + 5 * y) := rg_to (by omega) (fun c h1 h2 => by omega)
      rw [e2, nI_succ x] at z0
      refine EV.at ck28 (by decide) 300 [39] ?_
      conv => whnf
      try dsimp only
      rw [hI]
      refine pk_le (tS T) y (fun h1 => absurd h1 (by omega)) (fun _ => ?_)
      conv => whnf
      try dsimp only
      exact ⟨trivial, z0⟩
  have xl : ∀ m x, x + m = tS T → ∀ v4 v5, EV G 28 (d + 3) 0 0 6 [.ref 36, .int (nI (rgN T (25 * x)).1), .int (nI (rgN T (25 * x)).2), .int (nI x), v4, v5] [] (SH n, I, J) Q := by
    intro m
    induction m with
    | zero =>
      intro x hx v4 v5
      have hx : x = tS T := hx
      have e : rgN T 125 = rgN T (25 * x) := rg_to (by omega) (fun c h1 h2 => by omega)
      rw [e] at h
      refine EV.at ck28 (by decide) 300 [] ?_
      conv => whnf
      try dsimp only
      rw [hI]
      refine pk_le (tS T) x (fun _ => ?_) (fun h1 => absurd h1 (by omega))
      conv => whnf
      try dsimp only
      rw [hI]
      exact ⟨trivial, h⟩
    | succ m ih =>
      intro x hx v4 v5
      have ihj := ih (x + 1) (by omega)
      have y0 := yl x (by omega) ihj (tS T - (x + 1)) (x + 1) (by omega) (by omega) v5
      have e2 : rgN T (25 * x + 5 * (x + 1)) = rgN T (25 * x) := rg_to (by omega) (fun c h1 h2 => by omega)
      rw [e2, nI_succ x] at y0
      refine EV.at ck28 (by decide) 300 [22] ?_
      conv => whnf
      try dsimp only
      rw [hI]
      refine pk_le (tS T) x (fun h1 => absurd h1 (by omega)) (fun _ => ?_)
      conv => whnf
      try dsimp only
      exact ⟨trivial, y0⟩
  refine MT.by ck28 (by decide) rfl (Nat.le_of_ble_eq_true rfl) rfl 300 [6] ?_
  conv => whnf
  try dsimp only
  exact ⟨trivial, xl (tS T) 0 (by omega) dm dm⟩
theorem c_beatenByAny {b : Nat} (hT : tOK T) (hM : tMem T I) (hb : b < 32) (h : Q (some (.int (nI (bbN T b (tS T))))) (SH n, I, J)) : MT G (d + 4) 30 [.ref 36, .int (nI b)] (SH n, I, J) Q := by
  have h5 : tS T ≤ 5 := hT.1
  have hI : I 6 0 = nI (tS T) := hM.1
  have loop : ∀ m j, j + m = tS T → EV G 30 (d + 3) 0 0 4 [.ref 36, .int (nI b), .int (nI (bbN T b j)), .int (nI j)] [] (SH n, I, J) Q := by
    intro m
    induction m with
    | zero =>
      intro j hj
      have hj : j = tS T := hj
      rw [← hj] at h
      refine EV.at ck30 (by decide) 300 [] ?_
      conv => whnf
      try dsimp only
      rw [hI]
      refine pk_le (tS T) j (fun _ => ?_) (fun h1 => absurd h1 (by omega))
      conv => whnf
      try dsimp only
      exact ⟨trivial, h⟩
    | succ m ih =>
      intro j hj
      have ihj := ih (j + 1) (by omega)
      have e : bbN T b (j + 1) = bbN T b j ||| (if b.testBit j then orN (btT T j) (tS T) else 0) := rfl
      rw [e, nI_succ j, ← fa_or] at ihj
      refine EV.at ck30 (by decide) 300 [] ?_
      conv => whnf
      try dsimp only
      rw [hI]
      refine pk_le (tS T) j (fun h1 => absurd h1 (by omega)) (fun _ => ?_)
      conv => whnf
      try dsimp only
      refine ⟨trivial, c_bit ?_⟩
      rw [nu_bit (by omega) (by omega)]
      cases hb1 : b.testBit j <;> rw [hb1] at ihj
      · refine EV.at ck30 (by decide) 300 [] ?_
        conv => whnf
        try dsimp only
        first | refine ⟨fun h1 => absurd h1 (by decide), fun _ => ?_⟩ | refine ⟨fun _ => ?_, fun h1 => absurd (by decide) h1⟩ | refine ⟨fun h1 => absurd (by decide) h1, fun _ => ?_⟩ | refine ⟨fun _ => ?_, fun h1 => absurd h1 (by decide)⟩
        conv => whnf
        try dsimp only
        exact ⟨trivial, ihj⟩
      · refine EV.at ck30 (by decide) 300 [] ?_
        conv => whnf
        try dsimp only
        first | refine ⟨fun h1 => absurd h1 (by decide), fun _ => ?_⟩ | refine ⟨fun _ => ?_, fun h1 => absurd (by decide) h1⟩ | refine ⟨fun h1 => absurd (by decide) h1, fun _ => ?_⟩ | refine ⟨fun _ => ?_, fun h1 => absurd h1 (by decide)⟩
        conv => whnf
        try dsimp only
        refine ⟨trivial, c_beatenBy (show j < 5 by omega) h5 hI ?_⟩
        rw [bset_or (g := btT T j) (tS T) (by omega) (fun k hk => bt_eq hT hM (by omega) hk)]
        refine EV.at ck30 (by decide) 300 [] ?_
        conv => whnf
        try dsimp only
        exact ⟨trivial, ihj⟩
  refine MT.by ck30 (by decide) rfl (Nat.le_of_ble_eq_true rfl) rfl 300 [4] ?_
  conv => whnf
  try dsimp only
  exact ⟨trivial, loop (tS T) 0 (by omega)⟩
theorem c_smallestCover (hT : tOK T) (hM : tMem T I) (h : Q (some (.int (nI (pcN 12 (cvN T (2 ^ tS T) (2 ^ tS T - 1)))))) (SH n, upI I 36 2 (nI (cvN T (2 ^ tS T) (2 ^ tS T - 1))), J)) : MT G (d + 5) 29 [.ref 36] (SH n, I, J) Q := by
  have h5 : tS T ≤ 5 := hT.1
  have hI : I 6 0 = nI (tS T) := hM.1
  have hp : 2 ^ tS T ≤ 2 ^ 5 := Nat.pow_le_pow_right (by decide) h5
  have hp1 : 0 < 2 ^ tS T := Nat.two_pow_pos _
  obtain ⟨v1, v2⟩ := ev_eq (tS T) (by omega)
  have hM' : ∀ x, tMem T (upI I 36 2 x) := fun x => tMem_of (fun r hr => upI_oth (by omega)) hM
  have loop : ∀ m b, m ≤ 32 → b < 32 → cvN T m b = cvN T (2 ^ tS T) (2 ^ tS T - 1) → EV G 29 (d + 4) 0 0 34 [.ref 36, .int (nI (2 ^ tS T - 1)), .int (nI (bbN T (2 ^ tS T - 1) (tS T))), .int (nI (pcN 12 b)), .int (nI m - 1)] [] (SH n, upI I 36 2 (nI b), J) Q := by
    intro m
    induction m with
    | zero =>
      intro b hm hb he
      have he : b = cvN T (2 ^ tS T) (2 ^ tS T - 1) := he
      rw [← he] at h
      refine EV.at ck29 (by decide) 300 [] ?_
      conv => whnf
      try dsimp only
      first | refine ⟨fun h1 => absurd h1 (by decide), fun _ => ?_⟩ | refine ⟨fun _ => ?_, fun h1 => absurd (by decide) h1⟩ | refine ⟨fun h1 => absurd (by decide) h1, fun _ => ?_⟩ | refine ⟨fun _ => ?_, fun h1 => absurd h1 (by decide)⟩
      conv => whnf
      try dsimp only
      exact ⟨trivial, h⟩
    | succ m ih =>
      intro b hm hb he
      have he : cvN T m (if bbN T m (tS T) = bbN T (2 ^ tS T - 1) (tS T) ∧ pcN 12 m ≤ pcN 12 b then m else b) = _ := he
      have c1 := (pc_le m (by omega)).1
      have c2 := (pc_le b (by omega)).1
      have k70 : ∀ b', b' < 32 → cvN T m b' = cvN T (2 ^ tS T) (2 ^ tS T - 1) → EV G 29 (d + 4) 0 0 70 [.ref 36, .int (nI (2 ^ tS T - 1)), .int (nI (bbN T (2 ^ tS T - 1) (tS T))), .int (nI (pcN 12 b')), .int (nI m)] [] (SH n, upI I 36 2 (nI b'), J) Q := by
        intro b' hb' he'
        have ihj := ih b' (by omega) hb' he'
        rw [← m1_eq] at ihj
        refine EV.at ck29 (by decide) 300 [] ?_
        conv => whnf
        try dsimp only
        exact ⟨trivial, ihj⟩
      rw [nI_pred]
      refine EV.at ck29 (by decide) 300 [70] ?_
      conv => whnf
      try dsimp only
      refine ⟨fun h1 => absurd h1 (nI_pos (by omega)), fun _ => ?_⟩
      conv => whnf
      try dsimp only
      refine ⟨trivial, c_beatenByAny hT (hM' _) (show m < 32 by omega) ?_⟩
      refine EV.at ck29 (by decide) 300 [70] ?_
      conv => whnf
      try dsimp only
      have l1 := bbN_lt (T := T) (b := m) h5 (tS T)
      have l2 := bbN_lt (T := T) (b := 2 ^ tS T - 1) h5 (tS T)
      refine ⟨fun h1 => ?_, fun h1 => ?_⟩
      · conv => whnf
        try dsimp only
        rw [if_neg (fun q => h1 (by rw [q.1]))] at he
        exact ⟨trivial, k70 b hb he⟩
      have h1' := (nu_eq (by omega) (by omega)).mp h1
      conv => whnf
      try dsimp only
      refine ⟨trivial, c_bitCount ?_⟩
      rw [nu_pop m (by omega)]
      refine EV.at ck29 (by decide) 300 [70] ?_
      conv => whnf
      try dsimp only
      refine pk_lt (pcN 12 b) (pcN 12 m) (fun h2 => ?_) (fun h2 => ?_)
      · conv => whnf
        try dsimp only
        rw [if_neg (fun q => by omega)] at he
        exact ⟨trivial, k70 b hb he⟩
      conv => whnf
      try dsimp only
      refine ⟨trivial, c_bitCount ?_⟩
      rw [nu_pop m (by omega)]
      refine EV.at ck29 (by decide) 300 [70] ?_
      conv => whnf
      try dsimp only
      rw [if_pos ⟨h1', h2⟩] at he
      rw [up_up]
      exact ⟨trivial, k70 m (by omega) he⟩
  refine MT.by ck29 (by decide) rfl (Nat.le_of_ble_eq_true rfl) rfl 300 [34] ?_
  conv => whnf
  try dsimp only
  rw [hI, v1]
  refine ⟨trivial, c_beatenByAny hT hM (show 2 ^ tS T - 1 < 32 by omega) ?_⟩
  refine EV.at ck29 (by decide) 300 [34] ?_
  conv => whnf
  try dsimp only
  have l0 := loop (2 ^ tS T) (2 ^ tS T - 1) (by omega) (by omega) rfl
  rw [v2, show nI (2 ^ tS T) - 1 = nI (2 ^ tS T - 1) by rw [show 2 ^ tS T = (2 ^ tS T - 1) + 1 by omega, nI_pred, Nat.add_sub_cancel]] at l0
  rw [hI]
  exact ⟨trivial, l0⟩
end
