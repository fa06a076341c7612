/-! the class's Memo (cell 28; keys 29, values 30); the rows wb_ are the kit's BITS.to-paste -/
theorem wb_tb (n : Nat) : (lN n).toBitVec = BitVec.ofNat 64 n := rfl
theorem wb_inj {a b : Int64} (h : a.toBitVec = b.toBitVec) : a = b := Int64.toBitVec_inj.mp h
theorem wb_tn {n : Nat} (h : n < 2 ^ 64) : (lN n).toBitVec.toNat = n := by rw [wb_tb, BitVec.toNat_ofNat, Nat.mod_eq_of_lt h]
theorem wb_of (x : Int64) : ∃ n, n < 2 ^ 64 ∧ x = lN n := ⟨x.toBitVec.toNat, x.toBitVec.isLt, wb_inj (by rw [wb_tb]; simp)⟩
theorem wb_of32 (x : Int32) : ∃ n, n < 2 ^ 32 ∧ x = nI n := ⟨x.toBitVec.toNat, x.toBitVec.isLt, Int32.toBitVec_inj.mp (by show _ = BitVec.ofNat 32 _; simp)⟩
theorem wb_c : ∀ k, k < 64 → ((nI k).toInt64 &&& 63) = lN k := by decide +kernel
theorem wb_cu : ∀ k, k < 64 → ((nI k).toInt64.toUInt64 &&& Int64.toUInt64 63) = UInt64.ofNat k := by decide +kernel
theorem wb_sm : ∀ k, k < 64 → (BitVec.ofNat 64 k).smod 64 = BitVec.ofNat 64 k := by decide +kernel
theorem wb_pw {a b : Nat} (h : a ≤ b) : 2 ^ b = 2 ^ a * 2 ^ (b - a) := by rw [← Nat.pow_add]; congr 1; omega
theorem wb_lt2 {a b : Nat} (h : a < b) : 2 ^ a < 2 ^ b := Nat.pow_lt_pow_right (by decide) h
theorem wb_mod (n : Nat) : lN n = lN (n % 2 ^ 64) := wb_inj (by rw [wb_tb, wb_tb]; apply BitVec.eq_of_toNat_eq; rw [BitVec.toNat_ofNat, BitVec.toNat_ofNat, Nat.mod_mod])
theorem wb_shr {n k : Nat} (hn : n < 2 ^ 64) (hk : k < 64) : ((lN n).toUInt64 >>> ((nI k).toInt64.toUInt64 &&& Int64.toUInt64 63)).toInt64 = lN (n / 2 ^ k) := by
  rw [wb_cu k hk]
  apply wb_inj
  apply BitVec.eq_of_toNat_eq
  show ((lN n).toUInt64 >>> UInt64.ofNat k).toNat = (BitVec.ofNat 64 _).toNat
  have h1 : (UInt64.ofNat k).toNat = k := by
    show (BitVec.ofNat 64 k).toNat = k
    rw [BitVec.toNat_ofNat, Nat.mod_eq_of_lt (by omega)]
  have h2 : (lN n).toUInt64.toNat = n := wb_tn hn
  rw [UInt64.toNat_shiftRight, h1, h2, Nat.mod_eq_of_lt hk, Nat.shiftRight_eq_div_pow, BitVec.toNat_ofNat, Nat.mod_eq_of_lt (Nat.lt_of_le_of_lt (Nat.div_le_self _ _) hn)]
theorem wb_shl (n : Nat) {k : Nat} (hk : k < 64) : lN n <<< ((nI k).toInt64 &&& 63) = lN (n * 2 ^ k) := by
  rw [wb_c k hk]
  apply wb_inj
  rw [Int64.toBitVec_shiftLeft, wb_tb, wb_tb, wb_tb, wb_sm k hk]
  apply BitVec.eq_of_toNat_eq
  rw [BitVec.shiftLeft_eq', BitVec.toNat_shiftLeft, BitVec.toNat_ofNat, BitVec.toNat_ofNat, BitVec.toNat_ofNat, Nat.mod_eq_of_lt (show k < 2 ^ 64 by omega), Nat.shiftLeft_eq, Nat.mul_mod, Nat.mod_mod, ← Nat.mul_mod]
theorem wb_and {a b : Nat} (ha : a < 2 ^ 64) (hb : b < 2 ^ 64) : lN a &&& lN b = lN (a &&& b) := by
  apply wb_inj
  rw [Int64.toBitVec_and, wb_tb, wb_tb, wb_tb]
  apply BitVec.eq_of_toNat_eq
  rw [BitVec.toNat_and, BitVec.toNat_ofNat, BitVec.toNat_ofNat, BitVec.toNat_ofNat, Nat.mod_eq_of_lt ha, Nat.mod_eq_of_lt hb, Nat.mod_eq_of_lt (Nat.and_lt_two_pow _ hb)]
theorem wb_or {a b : Nat} (ha : a < 2 ^ 64) (hb : b < 2 ^ 64) : lN a ||| lN b = lN (a ||| b) := by
  apply wb_inj
  rw [Int64.toBitVec_or, wb_tb, wb_tb, wb_tb]
  apply BitVec.eq_of_toNat_eq
  rw [BitVec.toNat_or, BitVec.toNat_ofNat, BitVec.toNat_ofNat, BitVec.toNat_ofNat, Nat.mod_eq_of_lt ha, Nat.mod_eq_of_lt hb, Nat.mod_eq_of_lt (Nat.or_lt_two_pow ha hb)]
theorem lgc {x y : Int64} : lg_cmp x y = 0 ↔ x = y := by
  unfold lg_cmp
  by_cases h1 : x > y
  · rw [if_pos h1]
    constructor
    · intro h; exact absurd h (by decide)
    · intro h; rw [h] at h1; exact absurd h1 (Int64.lt_irrefl)
  · rw [if_neg h1]
    by_cases h2 : x = y
    · rw [if_pos h2]; simp [h2]
    · rw [if_neg h2]
      constructor
      · intro h; exact absurd h (by decide)
      · intro h; exact absurd h h2
def keyN (e p w : Nat) : Nat := e * 2 ^ 32 + p * 2 + w
theorem key_eq {e p w : Nat} (he : e < 2 ^ 30) (hp : p < 2 ^ 22) (hw : w < 2) : (jshlL (lN e) 32 ||| (jshl (nI p) 1).toInt64) ||| (nI w).toInt64 = lN (keyN e p w) := by
  have e1 : jshlL (lN e) 32 = lN (e * 2 ^ 32) := wb_shl e (k := 32) (by decide)
  have e2 : jshl (nI p) 1 = nI (p * 2 ^ 1) := nu_shl (j := 1) (by omega) (by omega)
  rw [e1, e2, nI_l (by omega), nI_l (by omega), wb_or (by omega) (by omega)]
  have e3 : e * 2 ^ 32 ||| p * 2 ^ 1 = e * 2 ^ 32 + p * 2 := by rw [Nat.mul_comm e, ← Nat.two_pow_add_eq_or_of_lt (show p * 2 ^ 1 < 2 ^ 32 by omega)]
  rw [e3, wb_or (by omega) (by omega)]
  have e4 : (e * 2 ^ 32 + p * 2) ||| w = e * 2 ^ 32 + p * 2 + w := by
    have e5 : e * 2 ^ 32 + p * 2 = 2 ^ 1 * (e * 2 ^ 31 + p) := by omega
    rw [e5, ← Nat.two_pow_add_eq_or_of_lt (show w < 2 ^ 1 by omega)]
  rw [e4]
  rfl
theorem ush21 (x : Int32) : ∃ s, s < 2048 ∧ jushr x 21 = nI s := by
  have h := pk_ushr x 21 21 (by decide)
  have hl : x.toBitVec.toNat < 2 ^ 32 := x.toBitVec.isLt
  refine ⟨x.toBitVec.toNat / 2 ^ 21, by omega, ?_⟩
  apply Int32.toBitVec_inj.1
  apply BitVec.eq_of_toNat_eq
  show (jushr x 21).toBitVec.toNat = (BitVec.ofNat 32 _).toNat
  rw [BitVec.toNat_ofNat, Nat.mod_eq_of_lt (by omega)]
  exact h
def SF (J : Nat → Nat → Int64) (key : Int64) (v : Int32) : Prop := v = -1 ∨ ∃ s, s < 2048 ∧ v = nI s ∧ (J 29 s = key ∨ ¬ jushrL (J 29 s) 32 = J 28 2)
section
variable {G : GG} {d n : Nat} {I : Nat → Nat → Int32} {J : Nat → Nat → Int64} {Q : Option Value → MH → Prop}
theorem c_forget (h : Q none (SH n, I, upL J 28 2 (J 28 2 + 1))) : MT G (d + 1) 22 [.ref 28] (SH n, I, J) Q := by
  refine MT.by ck22 (by decide) rfl (Nat.le_of_ble_eq_true rfl) rfl 300 [] ?_
  conv => whnf
  try dsimp only
  exact ⟨trivial, h⟩
theorem c_keyOf {e p w : Nat} (he : e < 2 ^ 30) (hp : p < 2 ^ 22) (hw : w < 2) (hJ : J 28 2 = lN e) (h : Q (some (.long (lN (keyN e p w)))) (SH n, I, J)) : MT G (d + 1) 23 [.ref 28, .int (nI p), .int (nI w)] (SH n, I, J) Q := by
  refine MT.by ck23 (by decide) rfl (Nat.le_of_ble_eq_true rfl) rfl 300 [] ?_
  conv => whnf
  try dsimp only
  rw [hJ, key_eq he hp hw]
  exact ⟨trivial, h⟩
theorem c_slotFor {key : Int64} (h : ∀ v, SF J key v → Q (some (.int v)) (SH n, I, J)) : MT G (d + 1) 24 [.ref 28, .long key] (SH n, I, J) Q := by
  have loop : ∀ m j s, j + m = 16 → s < 2048 → EV G 24 d 0 0 12 [.ref 28, .long key, dm, .int (nI s), .int (nI j)] [] (SH n, I, J) Q := by
    intro m
    induction m with
    | zero =>
      intro j s hj hs
      have hj : j = 16 := hj
      subst hj
      refine EV.at ck24 (by decide) 300 [] ?_
      conv => whnf
      try dsimp only
      refine ⟨fun _ => ?_, fun h1 => absurd (by decide) h1⟩
      conv => whnf
      try dsimp only
      exact ⟨trivial, h _ (Or.inl rfl)⟩
    | succ m ih =>
      intro j s hj hs
      have cs : (nI s).toNatClampNeg = s := nI_clamp (by omega)
      have ihj := ih (j + 1) ((s + 1) % 2048) (by omega) (Nat.mod_lt _ (by decide))
      rw [nI_succ j] at ihj
      have es : (nI s + 1) &&& 2047 = nI ((s + 1) % 2048) := by
        rw [nI_1]
        exact pk_andN (by omega) 11 (by decide)
      rw [← es] at ihj
      refine EV.at ck24 (by decide) 300 [] ?_
      conv => whnf
      try dsimp only
      refine ⟨fun h1 => absurd h1 (nI_ge (b := 16) (show j < 16 by omega) (by decide)), fun _ => ?_⟩
      conv => whnf
      try dsimp only
      refine ⟨in_nI hs (by decide), ?_⟩
      conv => whnf
      try dsimp only
      rw [cs]
      refine ⟨fun h1 => ?_, fun h1 => ?_⟩
      · conv => whnf
        try dsimp only
        exact ⟨trivial, h _ (Or.inr ⟨s, hs, rfl, Or.inl (lgc.mp h1)⟩)⟩
      · conv => whnf
        try dsimp only
        refine ⟨in_nI hs (by decide), ?_⟩
        conv => whnf
        try dsimp only
        rw [cs]
        refine ⟨fun h2 => ?_, fun h2 => ?_⟩
        · conv => whnf
          try dsimp only
          exact ⟨trivial, ihj⟩
        · conv => whnf
          try dsimp only
          exact ⟨trivial, h _ (Or.inr ⟨s, hs, rfl, Or.inr (fun z => h2 (lgc.mpr z))⟩)⟩
  refine MT.by ck24 (by decide) rfl (Nat.le_of_ble_eq_true rfl) rfl 300 [12] ?_
  conv => whnf
  try dsimp only
  obtain ⟨s, hs, e⟩ := ush21 (key.toInt32 * -1640531535)
  rw [e]
  exact ⟨trivial, loop 16 0 s (by omega) hs⟩
theorem c_hasN {key : Int64} (h : Q (some (.int 0)) (SH n, I, J)) : MT G (d + 1) 25 [.ref 28, .int (-1), .long key] (SH n, I, J) Q := by
  refine MT.by ck25 (by decide) rfl (Nat.le_of_ble_eq_true rfl) rfl 300 [] ?_
  conv => whnf
  try dsimp only
  refine ⟨fun _ => ?_, fun h1 => absurd (by decide) h1⟩
  conv => whnf
  try dsimp only
  exact ⟨Or.inl rfl, h⟩
theorem c_has {key : Int64} {s : Nat} (hs : s < 2048) (h : Q (some (.int (b2i (decide (J 29 s = key))))) (SH n, I, J)) : MT G (d + 1) 25 [.ref 28, .int (nI s), .long key] (SH n, I, J) Q := by
  have cs : (nI s).toNatClampNeg = s := nI_clamp (by omega)
  refine MT.by ck25 (by decide) rfl (Nat.le_of_ble_eq_true rfl) rfl 300 [] ?_
  conv => whnf
  try dsimp only
  refine ⟨fun h1 => absurd h1 (nI_pos (by omega)), fun _ => ?_⟩
  conv => whnf
  try dsimp only
  refine ⟨in_nI hs (by decide), ?_⟩
  conv => whnf
  try dsimp only
  rw [cs]
  refine ⟨fun h1 => ?_, fun h1 => ?_⟩
  · conv => whnf
    try dsimp only
    rw [decide_eq_false (fun z => h1 (lgc.mpr z))] at h
    exact ⟨Or.inl rfl, h⟩
  · conv => whnf
    try dsimp only
    rw [decide_eq_true (lgc.mp h1)] at h
    exact ⟨Or.inr rfl, h⟩
def ST (J : Nat → Nat → Int64) (key value : Int64) (J' : Nat → Nat → Int64) : Prop := J' = J ∨ ∃ s, s < 2048 ∧ (J 29 s = key ∨ ¬ jushrL (J 29 s) 32 = J 28 2) ∧ J' = upL (upL J 29 s key) 30 s value
theorem c_store {key value : Int64} (h : ∀ J', ST J key value J' → Q none (SH n, I, J')) : MT G (d + 2) 26 [.ref 28, .long key, .long value] (SH n, I, J) Q := by
  refine MT.by ck26 (by decide) rfl (Nat.le_of_ble_eq_true rfl) rfl 300 [] ?_
  conv => whnf
  try dsimp only
  refine ⟨trivial, c_slotFor (fun v hv => ?_)⟩
  rcases hv with rfl | ⟨s, hs, rfl, hv⟩
  · refine EV.at ck26 (by decide) 300 [] ?_
    conv => whnf
    try dsimp only
    refine ⟨fun _ => ?_, fun h1 => absurd (by decide) h1⟩
    conv => whnf
    try dsimp only
    exact ⟨trivial, h _ (Or.inl rfl)⟩
  · have cs : (nI s).toNatClampNeg = s := nI_clamp (by omega)
    refine EV.at ck26 (by decide) 300 [] ?_
    conv => whnf
    try dsimp only
    refine ⟨fun h1 => absurd h1 (nI_pos (by omega)), fun _ => ?_⟩
    conv => whnf
    try dsimp only
    refine ⟨in_nI hs (by decide), ?_⟩
    conv => whnf
    try dsimp only
    refine ⟨in_nI hs (by decide), ?_⟩
    conv => whnf
    try dsimp only
    rw [cs]
    exact ⟨trivial, h _ (Or.inr ⟨s, hs, hv, rfl⟩)⟩
end
