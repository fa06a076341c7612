/-! the table and the fighters as naturals; the class's Side and Fight -/
/-- shapes, kinds, told (bits), changes, from, into, cost -/
abbrev TN : Type := Nat × (Nat → Nat) × (Nat → Nat) × Nat × (Nat → Nat) × (Nat → Nat) × (Nat → Nat)
abbrev tS (T : TN) : Nat := T.1
abbrev tK (T : TN) : Nat → Nat := T.2.1
abbrev tT (T : TN) : Nat → Nat := T.2.2.1
abbrev tC (T : TN) : Nat := T.2.2.2.1
abbrev tF (T : TN) : Nat → Nat := T.2.2.2.2.1
abbrev tI (T : TN) : Nat → Nat := T.2.2.2.2.2.1
abbrev tW (T : TN) : Nat → Nat := T.2.2.2.2.2.2
def tOK (T : TN) : Prop := tS T ≤ 5 ∧ (∀ i, i < tS T → tK T i < 6 ∧ tT T i < 32) ∧ tC T ≤ 12 ∧ ∀ k, k < tC T → tF T k < tS T ∧ tI T k < tS T ∧ 1 ≤ tW T k ∧ tW T k ≤ 5
/-- the class's memory holds the table -/
def tMem (T : TN) (I : Nat → Nat → Int32) : Prop := I 6 0 = nI (tS T) ∧ (∀ i, i < tS T → I 7 i = nI (tK T i) ∧ I 8 i = nI (tT T i)) ∧ I 6 3 = nI (tC T) ∧ ∀ k, k < tC T → I 9 k = nI (tF T k) ∧ I 10 k = nI (tI T k) ∧ I 11 k = nI (tW T k)
def btT (T : TN) (i j : Nat) : Bool := (tT T i).testBit j && !(tK T i == 3 && tK T j == 5)
/-- a fighter: shape, fire, used, knows -/
abbrev SD : Type := Nat × Nat × Nat × Nat
def sOK (T : TN) (q : SD) : Prop := q.1 < tS T ∧ q.2.1 ≤ 5 ∧ q.2.2.1 < 32 ∧ q.2.2.2 < 4096
def sMem (c : Nat) (q : SD) (I : Nat → Nat → Int32) : Prop := I c 0 = nI q.1 ∧ I c 1 = nI q.2.1 ∧ I c 2 = nI q.2.2.1 ∧ I c 3 = nI q.2.2.2
def isB (q k : Nat) : Bool := q == k || (match q with
  | 4 => k == 2
  | 5 => k == 1
  | _ => false)
def priceN (T : TN) (k o : Nat) : Nat := max (tW T k - (if isB (tK T (tI T k)) 1 then 1 else 0) + (if tK T (tF T k) = 3 then 1 else 0) + (if tK T o = 4 then 1 else 0)) 1
def canN (T : TN) (q : SD) (o k : Nat) : Bool := q.2.2.2.testBit k && (tF T k == q.1 && ((!(q.2.2.1.testBit (tI T k)) || isB (tK T (tI T k)) 2) && (btT T (tI T k) o && decide (priceN T k o ≤ q.2.1))))
def takesN (T : TN) (q : SD) (o k : Nat) : Nat := if canN T q o k then priceN T k o else 0
theorem isB_isK : ∀ q, q < 6 → ∀ k, k < 6 → 1 ≤ k → isK q (nI k) = isB q k := by decide +kernel
theorem bt_eq {T : TN} {I : Nat → Nat → Int32} (hT : tOK T) (hM : tMem T I) {i j : Nat} (hi : i < tS T) (hj : j < tS T) : btB (I 8) (I 7) i j = btT T i j := by
  obtain ⟨h5, hk, -⟩ := hT
  unfold btB btT
  rw [(hM.2.1 i hi).2, (hM.2.1 i hi).1, (hM.2.1 j hj).1, nu_bit (by have := (hk i hi).2; omega) (by omega)]
  have e3 : (nI (tK T i) = 3) ↔ tK T i = 3 := nI_eq (b := 3) (by have := (hk i hi).1; omega) (by decide)
  have e5 : (nI (tK T j) = 5) ↔ tK T j = 5 := nI_eq (b := 5) (by have := (hk j hj).1; omega) (by decide)
  simp only [e3, e5, b2i_1]
  cases (tT T i).testBit j <;> by_cases a : tK T i = 3 <;> by_cases b : tK T j = 5 <;> simp [a, b]
theorem price_eq {T : TN} (hT : tOK T) {k o : Nat} (hk : k < tC T) (ho : o < tS T) : priceI (nI (tW T k)) (tK T (tI T k)) (nI (tK T (tF T k))) (nI (tK T o)) = nI (priceN T k o) := by
  obtain ⟨h5, hkk, h12, hc⟩ := hT
  obtain ⟨c1, c2, c3, c4⟩ := hc k hk
  have q1 := (hkk _ c2).1
  have q2 := (hkk _ c1).1
  have q3 := (hkk _ ho).1
  unfold priceI priceN
  have e1 := isB_isK _ q1 1 (by decide) (by decide)
  have e1 : isK (tK T (tI T k)) 1 = isB (tK T (tI T k)) 1 := e1
  have e3 : (nI (tK T (tF T k)) = 3) ↔ tK T (tF T k) = 3 := nI_eq (b := 3) (by omega) (by decide)
  have e4 : (nI (tK T o) = 4) ↔ tK T o = 4 := nI_eq (b := 4) (by omega) (by decide)
  rw [e1]
  simp only [e3, e4]
  generalize tW T k = w at c3 c4 ⊢
  generalize isB (tK T (tI T k)) 1 = b1
  generalize hb2 : decide (tK T (tF T k) = 3) = b2
  generalize hb3 : decide (tK T o = 4) = b3
  have hall : ∀ w, w < 6 → 1 ≤ w → ∀ b1 b2 b3 : Bool, jmax (nI w - b2i b1 + b2i b2 + b2i b3) 1 = nI (max (w - (if b1 then 1 else 0) + (if b2 then 1 else 0) + (if b3 then 1 else 0)) 1) := by decide +kernel
  rw [hall w (by omega) c3 b1 b2 b3, ← hb2, ← hb3]
  simp only [decide_eq_true_eq]
section
variable {G : GG} {d n : Nat} {σ : MH} {S : SHL} {I : Nat → Nat → Int32} {J : Nat → Nat → Int64} {Q : Option Value → MH → Prop} {T : TN}
theorem c_mover {z : Nat} (hz : z ≤ 40) (hI : I 12 5 = nI z) (h : Q (some (.int (nI (z % 2)))) (SH n, I, J)) : MT G (d + 1) 3 [.ref 12] (SH n, I, J) Q := by
  refine MT.by ck3 (by decide) rfl (Nat.le_of_ble_eq_true rfl) rfl 300 [] ?_
  conv => whnf
  try dsimp only
  rw [hI, nu_a1 (by omega)]
  exact ⟨trivial, h⟩
def packS (q : SD) : Nat := (q.1 * 8 + q.2.1) * 32 + q.2.2.1
theorem packS_eq {a b u : Nat} (ha : a < 8) (hb : b < 8) (hu : u < 32) : jshl (jshl (nI a) 3 ||| nI b) 5 ||| nI u = nI ((a * 8 + b) * 32 + u) := by
  have e1 : jshl (nI a) 3 = nI (a * 2 ^ 3) := nu_shl (j := 3) (by omega) (by omega)
  have e2 : nI (a * 2 ^ 3) ||| nI b = nI (2 ^ 3 * a + b) := by rw [Nat.mul_comm a]; exact fa_or_sum a hb
  have e3 : jshl (nI (2 ^ 3 * a + b)) 5 = nI ((2 ^ 3 * a + b) * 2 ^ 5) := nu_shl (j := 5) (by omega) (by omega)
  rw [e1, e2, e3, Nat.mul_comm _ (2 ^ 5), fa_or_sum _ hu]
  congr 1
  omega
theorem c_packedS {c : Nat} {q : SD} (hc : S[c]? = some (7, 4, [none, none, none, none])) (hm : sMem c q I) (ha : q.1 < 8) (hb : q.2.1 < 8) (hu : q.2.2.1 < 32) (h : Q (some (.int (nI (packS q)))) (S, I, J)) : MT G (d + 1) 69 [.ref c] (S, I, J) Q := by
  refine MT.by ck69 (by decide) rfl (Nat.le_of_ble_eq_true rfl) rfl 300 [] ?_
  conv => whnf
  try dsimp only
  rw [hc]
  conv => whnf
  try dsimp only
  rw [hc]
  conv => whnf
  try dsimp only
  rw [hc]
  conv => whnf
  try dsimp only
  rw [hm.1, hm.2.1, hm.2.2.1, packS_eq ha hb hu]
  exact ⟨trivial, h⟩
/-- a fighter's shape, fire, used written -/
def sdI (I : Nat → Nat → Int32) (c a b u : Nat) : Nat → Nat → Int32 := fun r k => if r = c ∧ k = 0 then nI a else if r = c ∧ k = 1 then nI b else if r = c ∧ k = 2 then nI u else I r k
theorem sd_012 {I : Nat → Nat → Int32} {c a b u : Nat} : upI (upI (upI I c 0 (nI a)) c 1 (nI b)) c 2 (nI u) = sdI I c a b u := by
  funext r k
  unfold upI sdI
  by_cases h : r = c
  · subst h
    by_cases h0 : k = 0
    · subst h0; simp
    · by_cases h1 : k = 1
      · subst h1; simp
      · by_cases h2 : k = 2
        · subst h2; simp
        · simp [h0, h1, h2]
  · simp [h]
theorem sd_021 {I : Nat → Nat → Int32} {c a b u : Nat} : upI (upI (upI I c 0 (nI a)) c 2 (nI u)) c 1 (nI b) = sdI I c a b u := by
  funext r k
  unfold upI sdI
  by_cases h : r = c
  · subst h
    by_cases h0 : k = 0
    · subst h0; simp
    · by_cases h1 : k = 1
      · subst h1; simp
      · by_cases h2 : k = 2
        · subst h2; simp
        · simp [h0, h1, h2]
  · simp [h]
theorem sd_self {I : Nat → Nat → Int32} {c : Nat} {q : SD} (h : sMem c q I) : sdI I c q.1 q.2.1 q.2.2.1 = I := by
  funext r k
  unfold sdI
  split
  · rename_i z; rw [z.1, z.2]; exact h.1.symm
  · split
    · rename_i z; rw [z.1, z.2]; exact h.2.1.symm
    · split
      · rename_i z; rw [z.1, z.2]; exact h.2.2.1.symm
      · rfl
theorem sd_sd {I : Nat → Nat → Int32} {c a b u a' b' u' : Nat} : sdI (sdI I c a b u) c a' b' u' = sdI I c a' b' u' := by
  funext r k
  unfold sdI
  split
  · rfl
  · split
    · rfl
    · split
      · rfl
      · rfl
theorem unp_eq : ∀ a, a < 8 → ∀ b, b < 8 → ∀ u, u < 32 → (jshr (nI ((a * 8 + b) * 32 + u)) 8 &&& 7 = nI a ∧ jshr (nI ((a * 8 + b) * 32 + u)) 5 &&& 7 = nI b ∧ nI ((a * 8 + b) * 32 + u) &&& 31 = nI u) := by
  intro a ha b hb u hu
  have s8 : jshr (nI ((a * 8 + b) * 32 + u)) 8 = nI (((a * 8 + b) * 32 + u) / 2 ^ 8) := nu_shr (j := 8) (by omega) (by omega)
  have s5 : jshr (nI ((a * 8 + b) * 32 + u)) 5 = nI (((a * 8 + b) * 32 + u) / 2 ^ 5) := nu_shr (j := 5) (by omega) (by omega)
  have m7 : ∀ x, x < 2 ^ 32 → nI x &&& 7 = nI (x % 2 ^ 3) := fun x hx => pk_andN hx 3 (by decide)
  have m31 : ∀ x, x < 2 ^ 32 → nI x &&& 31 = nI (x % 2 ^ 5) := fun x hx => pk_andN hx 5 (by decide)
  rw [s8, s5, m7 _ (by omega), m7 _ (by omega), m31 _ (by omega)]
  refine ⟨congrArg nI ?_, congrArg nI ?_, congrArg nI ?_⟩ <;> omega
theorem c_unpackS {c a b u : Nat} (hc : S[c]? = some (7, 4, [none, none, none, none])) (ha : a < 8) (hb : b < 8) (hu : u < 32) (h : Q none (S, sdI I c a b u, J)) : MT G (d + 1) 70 [.ref c, .int (nI ((a * 8 + b) * 32 + u))] (S, I, J) Q := by
  obtain ⟨e1, e2, e3⟩ := unp_eq a ha b hb u hu
  rw [← sd_012] at h
  refine MT.by ck70 (by decide) rfl (Nat.le_of_ble_eq_true rfl) rfl 300 [] ?_
  conv => whnf
  try dsimp only
  rw [hc]
  conv => whnf
  try dsimp only
  rw [hc]
  conv => whnf
  try dsimp only
  rw [hc]
  conv => whnf
  try dsimp only
  rw [e1, e2, e3]
  exact ⟨trivial, h⟩
theorem c_takeOverS {c c' : Nat} (hc : S[c]? = some (7, 4, [none, none, none, none])) (hc' : S[c']? = some (7, 4, [none, none, none, none])) (hne : c' ≠ c) (h : Q none (S, upI (upI (upI (upI I c 0 (I c' 0)) c 1 (I c' 1)) c 2 (I c' 2)) c 3 (I c' 3), J)) : MT G (d + 1) 67 [.ref c, .ref c'] (S, I, J) Q := by
  refine MT.by ck67 (by decide) rfl (Nat.le_of_ble_eq_true rfl) rfl 300 [] ?_
  conv => whnf
  try dsimp only
  rw [hc']
  conv => whnf
  try dsimp only
  rw [hc]
  conv => whnf
  try dsimp only
  rw [hc']
  conv => whnf
  try dsimp only
  rw [hc]
  conv => whnf
  try dsimp only
  rw [hc']
  conv => whnf
  try dsimp only
  rw [hc]
  conv => whnf
  try dsimp only
  rw [hc']
  conv => whnf
  try dsimp only
  rw [hc]
  conv => whnf
  try dsimp only
  simp only [upI_oth hne]
  exact ⟨trivial, h⟩
theorem c_aboutS {c : Nat} {x : Int32} (hc : S[c]? = some (7, 4, [none, none, none, none])) (h : Q (some (.int (if x = 0 then I c 0 else if x = 1 then I c 1 else if x = 2 then I c 2 else I c 3))) (S, I, J)) : MT G (d + 1) 68 [.ref c, .int x] (S, I, J) Q := by
  refine MT.by ck68 (by decide) rfl (Nat.le_of_ble_eq_true rfl) rfl 300 [] ?_
  conv => whnf
  try dsimp only
  refine ⟨fun h1 => ?_, fun h1 => ?_⟩
  · rw [if_pos h1] at h
    conv => whnf
    try dsimp only
    rw [hc]
    conv => whnf
    try dsimp only
    exact ⟨trivial, h⟩
  rw [if_neg h1] at h
  refine ⟨fun h2 => ?_, fun h2 => ?_⟩
  · rw [if_pos h2] at h
    conv => whnf
    try dsimp only
    rw [hc]
    conv => whnf
    try dsimp only
    exact ⟨trivial, h⟩
  rw [if_neg h2] at h
  refine ⟨fun h3 => ?_, fun h3 => ?_⟩
  · rw [if_pos h3] at h
    conv => whnf
    try dsimp only
    rw [hc]
    conv => whnf
    try dsimp only
    exact ⟨trivial, h⟩
  rw [if_neg h3] at h
  conv => whnf
  try dsimp only
  rw [hc]
  conv => whnf
  try dsimp only
  exact ⟨trivial, h⟩
end
