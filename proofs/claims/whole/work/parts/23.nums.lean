/-! numbers: bits of small naturals (fa_and, fa_or, fa_or_sum are the kit's NUMBERS.to-paste) -/
theorem fa_and (a b : Nat) : nI a &&& nI b = nI (a &&& b) := by
  apply Int32.toBitVec_inj.1
  show BitVec.ofNat 32 a &&& BitVec.ofNat 32 b = BitVec.ofNat 32 (a &&& b)
  apply BitVec.eq_of_getLsbD_eq
  intro i hi
  simp [hi]
theorem fa_or (a b : Nat) : nI a ||| nI b = nI (a ||| b) := by
  apply Int32.toBitVec_inj.1
  show BitVec.ofNat 32 a ||| BitVec.ofNat 32 b = BitVec.ofNat 32 (a ||| b)
  apply BitVec.eq_of_getLsbD_eq
  intro i hi
  simp [hi]
theorem fa_or_sum {a k : Nat} (b : Nat) (h : a < 2 ^ k) : nI (2 ^ k * b) ||| nI a = nI (2 ^ k * b + a) := by rw [fa_or, Nat.two_pow_add_eq_or_of_lt h]
theorem nu_s : ∀ j, j < 32 → ((nI j &&& 31).toBitVec.smod 32).toNat = j := by decide +kernel
theorem nu_shr {x j : Nat} (hx : x < 2 ^ 31) (hj : j < 32) : jshr (nI x) (nI j) = nI (x / 2 ^ j) := pk_shrN hx _ j (nu_s j hj)
theorem nu_shl {x j : Nat} (hj : j < 32) (h : x * 2 ^ j < 2 ^ 32) : jshl (nI x) (nI j) = nI (x * 2 ^ j) := pk_shlN _ j (nu_s j hj) h
theorem nu_a1 {x : Nat} (hx : x < 2 ^ 32) : nI x &&& 1 = nI (x % 2) := by
  have h := pk_andN hx (m := 1) 1 (by decide)
  exact h
theorem nu_b2 (b : Bool) : b2i b = nI (if b then 1 else 0) := by cases b <;> rfl
theorem nu_bit {x j : Nat} (hx : x < 2 ^ 31) (hj : j < 32) : jshr (nI x) (nI j) &&& 1 = b2i (x.testBit j) := by
  have h1 : x / 2 ^ j < 2 ^ 32 := Nat.lt_of_le_of_lt (Nat.div_le_self _ _) (by omega)
  rw [nu_shr hx hj, nu_a1 h1, Nat.testBit_eq_decide_div_mod_eq]
  rcases Nat.mod_two_eq_zero_or_one (x / 2 ^ j) with h | h <;> rw [h] <;> rfl
theorem nu_one {j : Nat} (hj : j < 31) : jshl 1 (nI j) = nI (2 ^ j) := by
  have h2 : (2 : Nat) ^ j < 2 ^ 31 := Nat.pow_lt_pow_right (by decide) hj
  have h := nu_shl (x := 1) (j := j) (by omega) (by omega)
  rw [Nat.one_mul] at h
  exact h
theorem b2i_1 (b : Bool) : b2i b = 1 ↔ b = true := by cases b <;> simp [b2i]
theorem b2i_0 (b : Bool) : b2i b = 0 ↔ b = false := by cases b <;> simp [b2i]
theorem nu_eq {a b : Nat} (ha : a < 65536) (hb : b < 65536) : nI a = nI b ↔ a = b := nI_eq (by omega) (by omega)
/-- a set of bits without one of them -/
def clrN (x k : Nat) : Nat := if x.testBit k then x ^^^ 2 ^ k else x
theorem clrN_bits {x k : Nat} (i : Nat) : (clrN x k).testBit i = (x.testBit i && decide (i ≠ k)) := by
  unfold clrN
  by_cases h : x.testBit k = true
  · rw [if_pos h, Nat.testBit_xor, Nat.testBit_two_pow]
    by_cases hi : k = i
    · subst hi; simp [h]
    · simp [hi, Ne.symm hi]
  · rw [if_neg h]
    by_cases hi : i = k
    · subst hi; simp [h]
    · simp [hi]
theorem clrN_lt {x k b : Nat} (h : x < 2 ^ b) (hk : k < b) : clrN x k < 2 ^ b := by
  unfold clrN
  split
  · exact Nat.xor_lt_two_pow h (Nat.pow_lt_pow_right (by decide) hk)
  · exact h
theorem nu_clr {x k : Nat} (hk : k < 31) : nI x &&& (jshl 1 (nI k) ^^^ (-1)) = nI (clrN x k) := by
  rw [nu_one hk]
  apply Int32.toBitVec_inj.1
  show BitVec.ofNat 32 x &&& (BitVec.ofNat 32 (2 ^ k) ^^^ BitVec.allOnes 32) = BitVec.ofNat 32 (clrN x k)
  apply BitVec.eq_of_getLsbD_eq
  intro i hi
  simp only [BitVec.getLsbD_and, BitVec.getLsbD_xor, BitVec.getLsbD_ofNat, BitVec.getLsbD_allOnes, hi, decide_true, Bool.true_and, clrN_bits, Nat.testBit_two_pow]
  by_cases h : k = i
  · subst h; simp
  · simp [h, Ne.symm h]
/-- Integer.bitCount of a small set -/
def pcN : Nat → Nat → Nat
  | 0, _ => 0
  | f + 1, x => x % 2 + pcN f (x / 2)
set_option maxRecDepth 100000 in
theorem nu_pop : ∀ x, x < 4096 → popJ (nI x) = nI (pcN 12 x) := by decide +kernel
