/-! SHAPES shown: all rows, the first one (the reference's side) -/
def orP (f0 w : Nat) (pth : Nat → Nat) : Nat → Nat
  | 0 => 0
  | e + 1 => orP f0 w pth e ||| (if (f0 + e) % 2 = w then 2 ^ pth e else 0)
def anF (h : Nat → Nat) (c : Nat → Bool) : Nat → Nat
  | 0 => 4095
  | k + 1 => anF h c k &&& (if c k then h k else 4095)
def selS (T : TN) (rw' : Nat → Nat) (d : Nat) (q : Nat → SD) (f k : Nat) : Bool := tI T k == rw' d && canN T (q f) (q (1 - f)).1 k
def anS (T : TN) (rw' : Nat → Nat) (f0 w : Nat) : Nat → Nat → (Nat → SD) → (Nat → Nat) → Nat
  | 0, d, _, pth => orP f0 w pth d
  | r + 1, d, q, pth => anF (fun k => anS T rw' f0 w r (d + 1) (stepQ T q ((f0 + d) % 2) k) (setG pth d k)) (selS T rw' d q ((f0 + d) % 2)) (tC T)
theorem orP_bit {f0 w k : Nat} {pth : Nat → Nat} : ∀ d, ((orP f0 w pth d).testBit k = true ↔ ∃ e, e < d ∧ (f0 + e) % 2 = w ∧ pth e = k)
  | 0 => by
    show (0 : Nat).testBit k = true ↔ _
    rw [Nat.zero_testBit]
    exact ⟨fun h => Bool.noConfusion h, fun ⟨e, he, _⟩ => absurd he (Nat.not_lt_zero e)⟩
  | d + 1 => by
    rw [orP, Nat.testBit_or, Bool.or_eq_true, orP_bit d]
    constructor
    · rintro (⟨e, a, b, c⟩ | h)
      · exact ⟨e, by omega, b, c⟩
      · split at h
        · rename_i hw
          rw [Nat.testBit_two_pow, decide_eq_true_eq] at h
          exact ⟨d, by omega, hw, h⟩
        · rw [Nat.zero_testBit] at h
          exact Bool.noConfusion h
    · rintro ⟨e, a, b, c⟩
      by_cases he : e = d
      · subst he
        right
        rw [if_pos b, Nat.testBit_two_pow, decide_eq_true_eq]
        exact c
      · left
        exact ⟨e, by omega, b, c⟩
theorem t4095 : ∀ k, k < 12 → Nat.testBit 4095 k = true := by decide
theorem anF_bit {h : Nat → Nat} {c : Nat → Bool} {k : Nat} (hk : k < 12) : ∀ m, ((anF h c m).testBit k = true ↔ ∀ x, x < m → c x = true → (h x).testBit k = true)
  | 0 => ⟨fun _ x hx => absurd hx (Nat.not_lt_zero x), fun _ => t4095 k hk⟩
  | m + 1 => by
    rw [anF, Nat.testBit_and, Bool.and_eq_true, anF_bit hk m]
    constructor
    · rintro ⟨h1, h2⟩ x hx hc
      by_cases e : x = m
      · subst e
        rw [if_pos hc] at h2
        exact h2
      · exact h1 x (by omega) hc
    · intro h1
      refine ⟨fun x hx hc => h1 x (by omega) hc, ?_⟩
      split
      · rename_i hc
        exact h1 m (by omega) hc
      · exact t4095 k hk
theorem anF_lt {h : Nat → Nat} {c : Nat → Bool} : ∀ m, anF h c m < 4096
  | 0 => by show 4095 < 4096; decide
  | m + 1 => by
    rw [anF]
    exact Nat.lt_of_le_of_lt Nat.and_le_left (anF_lt m)
theorem orP_lt {f0 w : Nat} {pth : Nat → Nat} : ∀ d, (∀ e, e < d → pth e < 12) → orP f0 w pth d < 2 ^ 12
  | 0, _ => by show 0 < 4096; decide
  | d + 1, h => by
    rw [orP]
    refine Nat.or_lt_two_pow (orP_lt d (fun e he => h e (by omega))) ?_
    split
    · exact Nat.pow_lt_pow_right (by decide) (h d (by omega))
    · decide
theorem sF_zero {g : Nat → Nat} {c : Nat → Bool} : ∀ m, (sFold g c m = 0 ↔ ∀ k, k < m → c k = true → g k = 0)
  | 0 => ⟨fun _ k hk => absurd hk (Nat.not_lt_zero k), fun _ => rfl⟩
  | m + 1 => by
    rw [sFold, Nat.add_eq_zero_iff, sF_zero m]
    constructor
    · rintro ⟨h1, h2⟩ k hk hc
      by_cases e : k = m
      · subst e
        rw [if_pos hc] at h2
        exact h2
      · exact h1 k (by omega) hc
    · intro h
      refine ⟨fun k hk hc => h k (by omega) hc, ?_⟩
      split
      · rename_i hc
        exact h m (by omega) hc
      · rfl
/-- without a CHANGE that one knows -/
def wo (q : Nat → SD) (w k : Nat) : Nat → SD := setK q w (clrN (q w).2.2.2 k)
theorem wo_at {q : Nat → SD} {w k v : Nat} : (wo q w k v).1 = (q v).1 ∧ (wo q w k v).2.1 = (q v).2.1 ∧ (wo q w k v).2.2.1 = (q v).2.2.1 ∧ (v ≠ w → (wo q w k v).2.2.2 = (q v).2.2.2) ∧ (v = w → (wo q w k v).2.2.2 = clrN (q w).2.2.2 k) := by
  unfold wo setK
  by_cases h : v = w
  · rw [if_pos h, h]
    exact ⟨rfl, rfl, rfl, fun z => absurd rfl z, fun _ => rfl⟩
  · rw [if_neg h]
    exact ⟨rfl, rfl, rfl, fun _ => rfl, fun z => absurd z h⟩
theorem can_wo {T : TN} {q : Nat → SD} {w k f x : Nat} : canN T (wo q w k f) (wo q w k (1 - f)).1 x = (canN T (q f) (q (1 - f)).1 x && !(decide (f = w ∧ x = k))) := by
  obtain ⟨a1, a2, a3, a4, a5⟩ := wo_at (q := q) (w := w) (k := k) (v := f)
  obtain ⟨b1, -⟩ := wo_at (q := q) (w := w) (k := k) (v := 1 - f)
  unfold canN
  rw [b1, a1, a2, a3]
  by_cases h : f = w
  · rw [a5 h, clrN_bits, h]
    by_cases hx : x = k
    · subst hx; simp
    · simp [hx]
  · rw [a4 h]
    simp [h]
theorem step_wo {T : TN} {q : Nat → SD} {w k f x v : Nat} (hc : canN T (q f) (q (1 - f)).1 x = true) (hn : ¬ (f = w ∧ x = k)) : stepQ T (wo q w k) f x v = wo (stepQ T q f x) w k v := by
  have hc2 : canN T (wo q w k f) (wo q w k (1 - f)).1 x = true := by rw [can_wo, hc, decide_eq_false hn]; rfl
  have ht : takesN T (wo q w k f) (wo q w k (1 - f)).1 x = takesN T (q f) (q (1 - f)).1 x := by
    unfold takesN
    rw [if_pos hc, if_pos hc2, (wo_at (v := 1 - f)).1]
  obtain ⟨a1, a2, a3, a4, a5⟩ := wo_at (q := q) (w := w) (k := k) (v := f)
  have ks : (stepQ T q f x w).2.2.2 = (q w).2.2.2 := knows_step
  have L : stepQ T (wo q w k) f x v = if v = f then stepS T (wo q w k f) x (takesN T (q f) (q (1 - f)).1 x) else wo q w k v := by
    unfold stepQ
    rw [ht]
  have R : wo (stepQ T q f x) w k v = if v = w then ((stepQ T q f x w).1, (stepQ T q f x w).2.1, (stepQ T q f x w).2.2.1, clrN (q w).2.2.2 k) else stepQ T q f x v := by
    unfold wo setK
    rw [ks]
  have ef : stepQ T q f x f = stepS T (q f) x (takesN T (q f) (q (1 - f)).1 x) := by
    unfold stepQ
    rw [if_pos rfl]
  have eo : ∀ u, u ≠ f → stepQ T q f x u = q u := fun u hu => by
    unfold stepQ
    rw [if_neg hu]
  rw [L, R]
  by_cases hv : v = f
  · subst hv
    rw [if_pos rfl]
    by_cases hvw : v = w
    · subst hvw
      rw [if_pos rfl, ef]
      unfold stepS
      rw [a2, a3, a5 rfl]
    · rw [if_neg hvw, ef]
      unfold stepS
      rw [a2, a3, a4 hvw]
  · rw [if_neg hv]
    by_cases hvw : v = w
    · subst hvw
      rw [if_pos rfl, eo v hv]
      unfold wo setK
      rw [if_pos rfl]
    · rw [if_neg hvw, eo v hv]
      unfold wo setK
      rw [if_neg hvw]
theorem nz_step {T : TN} {rw' : Nat → Nat} {r d w k f : Nat} {q : Nat → SD} (hf : f < 2) : shC T rw' (r + 1) d (wo q w k) f = 0 ↔ ∀ x, x < tC T → selS T rw' d q f x = true → (f = w ∧ x = k) ∨ shC T rw' r (d + 1) (wo (stepQ T q f x) w k) (1 - f) = 0 := by
  rw [shC, sF_zero]
  constructor
  · intro h x hx hs
    by_cases hn : f = w ∧ x = k
    · exact Or.inl hn
    right
    unfold selS at hs
    rw [Bool.and_eq_true] at hs
    have := h x hx (by rw [hs.1, can_wo, hs.2, decide_eq_false hn]; rfl)
    rw [← this]
    exact shC_congr _ _ _ _ _ (by omega) (step_wo hs.2 hn).symm (step_wo hs.2 hn).symm
  · intro h x hx hs
    rw [Bool.and_eq_true, can_wo, Bool.and_eq_true] at hs
    have hn : ¬ (f = w ∧ x = k) := fun z => by
      have := hs.2.2
      rw [decide_eq_true z] at this
      exact Bool.noConfusion this
    rcases h x hx (by unfold selS; rw [hs.1, hs.2.1]; rfl) with h1 | h1
    · exact absurd h1 hn
    · rw [← h1]
      exact shC_congr _ _ _ _ _ (by omega) (step_wo hs.2.1 hn) (step_wo hs.2.1 hn)
theorem anS_bit {T : TN} {rw' : Nat → Nat} {f0 w k : Nat} (hk : k < 12) : ∀ r d q pth, ((anS T rw' f0 w r d q pth).testBit k = true ↔ (∃ e, e < d ∧ (f0 + e) % 2 = w ∧ pth e = k) ∨ shC T rw' r d (wo q w k) ((f0 + d) % 2) = 0)
  | 0, d, q, pth => by
    rw [anS, orP_bit]
    exact ⟨Or.inl, fun h => h.elim id (fun z => absurd z (by show ¬ 1 = 0; decide))⟩
  | r + 1, d, q, pth => by
    have hf : (f0 + d) % 2 < 2 := Nat.mod_lt _ (by decide)
    have ef : 1 - (f0 + d) % 2 = (f0 + (d + 1)) % 2 := by omega
    rw [anS, anF_bit hk, nz_step hf]
    constructor
    · intro h
      by_cases hu : ∃ e, e < d ∧ (f0 + e) % 2 = w ∧ pth e = k
      · exact Or.inl hu
      right
      intro x hx hs
      have := (anS_bit hk r (d + 1) _ _).mp (h x hx hs)
      rcases this with ⟨e, a, b, c⟩ | h1
      · unfold setG at c
        by_cases he : e = d
        · subst he
          rw [if_pos rfl] at c
          exact Or.inl ⟨b, c⟩
        · rw [if_neg he] at c
          exact absurd ⟨e, by omega, b, c⟩ hu
      · rw [ef]
        exact Or.inr h1
    · intro h x hx hs
      refine (anS_bit hk r (d + 1) _ _).mpr ?_
      rcases h with ⟨e, a, b, c⟩ | h1
      · exact Or.inl ⟨e, by omega, b, by unfold setG; rw [if_neg (by omega)]; exact c⟩
      · rcases h1 x hx hs with ⟨b, c⟩ | h2
        · exact Or.inl ⟨d, by omega, b, by unfold setG; rw [if_pos rfl]; exact c⟩
        · rw [ef] at h2
          exact Or.inr h2
theorem shC_high {T : TN} {rw' : Nat → Nat} {w k : Nat} (hk : tC T ≤ k) : ∀ r d q f, f < 2 → shC T rw' r d (wo q w k) f = shC T rw' r d q f
  | 0, _, _, _, _ => rfl
  | r + 1, d, q, f, hf => by
    rw [shC, shC]
    refine sFold_congr _ (fun x hx => ?_)
    have hn : ¬ (f = w ∧ x = k) := by omega
    have e1 : canN T (wo q w k f) (wo q w k (1 - f)).1 x = canN T (q f) (q (1 - f)).1 x := by rw [can_wo, decide_eq_false hn, Bool.not_false, Bool.and_true]
    refine ⟨by rw [e1], fun hs => ?_⟩
    rw [e1, Bool.and_eq_true] at hs
    rw [← shC_high hk r (d + 1) (stepQ T q f x) (1 - f) (by omega)]
    exact shC_congr _ _ _ _ _ (by omega) (step_wo hs.2 hn) (step_wo hs.2 hn)
theorem orN_bit {P : Nat → Bool} {k : Nat} : ∀ c, (orN P c).testBit k = (decide (k < c) && P k)
  | 0 => by show (0 : Nat).testBit k = _; rw [Nat.zero_testBit]; rfl
  | c + 1 => by
    rw [orN, Nat.testBit_or, orN_bit c]
    by_cases h : k = c
    · subst h
      cases hp : P k <;> simp [Nat.testBit_two_pow]
    · have e : (if P c = true then 2 ^ c else 0).testBit k = false := by
        split
        · rw [Nat.testBit_two_pow]; exact decide_eq_false (fun z => h z.symm)
        · exact Nat.zero_testBit k
      rw [e, Bool.or_false]
      by_cases h2 : k < c
      · rw [decide_eq_true h2, decide_eq_true (show k < c + 1 by omega)]
      · rw [decide_eq_false h2, decide_eq_false (show ¬ k < c + 1 by omega)]
/-- what is in all rows: by both ways of asking -/
theorem must_eq {T : TN} {rw' : Nat → Nat} {N z w : Nat} {q : Nat → SD} {pth : Nat → Nat} (h12 : tC T ≤ 12) (hw : w < 2) (hv : vQ T q) (h0 : shC T rw' N 0 q (z % 2) ≠ 0) (hN : 0 < N) : anS T rw' (z % 2) w N 0 q pth = mustN T rw' N z q w := by
  unfold mustN
  rw [if_neg h0]
  have hlt : anS T rw' (z % 2) w N 0 q pth < 4096 := by
    obtain ⟨N', rfl⟩ : ∃ N', N = N' + 1 := ⟨N - 1, by omega⟩
    exact anF_lt _
  apply Nat.eq_of_testBit_eq
  intro k
  rw [orN_bit]
  by_cases hk : k < 12
  · have hb := anS_bit (T := T) (rw' := rw') (f0 := z % 2) (w := w) hk N 0 q pth
    rw [show (z % 2 + 0) % 2 = z % 2 by omega] at hb
    unfold mustP
    have hwo : shC T rw' N 0 (setK q w (clrN (q w).2.2.2 k)) (z % 2) = shC T rw' N 0 (wo q w k) (z % 2) := rfl
    rw [hwo]
    cases ht : (anS T rw' (z % 2) w N 0 q pth).testBit k with
    | true =>
      rcases hb.mp ht with ⟨e, he, _⟩ | h1
      · exact absurd he (Nat.not_lt_zero e)
      rw [decide_eq_true h1]
      by_cases hc : k < tC T
      · rw [decide_eq_true hc]
        cases hkn : (q w).2.2.2.testBit k with
        | true => rfl
        | false =>
          exfalso
          apply h0
          refine Eq.trans ?_ h1
          have e : clrN (q w).2.2.2 k = (q w).2.2.2 := by unfold clrN; rw [hkn]; rfl
          refine shC_congr _ _ _ _ _ (Nat.mod_lt _ (by decide)) ?_ ?_ <;> (unfold wo setK; rw [e]; split <;> rename_i hx <;> first | rfl | (rw [← hx]))
      · exfalso
        apply h0
        refine Eq.trans ?_ h1
        exact (shC_high (k := k) (by omega) _ _ _ _ (Nat.mod_lt _ (by decide))).symm
    | false =>
      have h1 : ¬ shC T rw' N 0 (wo q w k) (z % 2) = 0 := fun y => by
        rw [hb.mpr (Or.inr y)] at ht
        exact Bool.noConfusion ht
      rw [decide_eq_false h1, Bool.and_false, Bool.and_false]
  · rw [Nat.testBit_lt_two_pow (Nat.lt_of_lt_of_le hlt (show 4096 ≤ 2 ^ k from Nat.pow_le_pow_right (n := 2) (by decide) (show 12 ≤ k by omega))), decide_eq_false (by omega)]
    rfl
/-- positions along the first row, from a depth on -/
def shD (T : TN) (rw' : Nat → Nat) (m z d : Nat) (q : Nat → SD) : Nat → (Nat → SD)
  | 0 => q
  | i + 1 => stepQ T (shD T rw' m z d q i) ((z + (d + i)) % 2) (shK T rw' m z (d + i) (shD T rw' m z d q i))
theorem shD_succ {T : TN} {rw' : Nat → Nat} {m z d : Nat} {q : Nat → SD} : ∀ i, shD T rw' m z d q (i + 1) = shD T rw' m z (d + 1) (stepQ T q ((z + d) % 2) (shK T rw' m z d q)) i
  | 0 => rfl
  | i + 1 => by
    rw [shD, shD_succ i, shD, show d + (i + 1) = d + 1 + i by omega]
theorem shD_Q {T : TN} {rw' : Nat → Nat} {m z : Nat} {q : Nat → SD} : ∀ i, shD T rw' m z 0 q i = shQ T rw' m z q i
  | 0 => rfl
  | i + 1 => by rw [shD, shQ, shD_Q i, Nat.zero_add]
def fpt (T : TN) (rw' : Nat → Nat) (m z d : Nat) (q : Nat → SD) (pth : Nat → Nat) (x : Nat) : Nat := if x < d then pth x else shK T rw' m z x (shD T rw' m z d q (x - d))
theorem fpt_step {T : TN} {rw' : Nat → Nat} {m z d x : Nat} {q : Nat → SD} {pth : Nat → Nat} : fpt T rw' m z (d + 1) (stepQ T q ((z + d) % 2) (shK T rw' m z d q)) (setG pth d (shK T rw' m z d q)) x = fpt T rw' m z d q pth x := by
  unfold fpt setG
  by_cases h1 : x < d
  · rw [if_pos (by omega), if_neg (by omega), if_pos h1]
  · by_cases h2 : x = d
    · subst h2
      rw [if_pos (by omega), if_pos rfl, if_neg h1, Nat.sub_self]
      rfl
    · rw [if_neg (by omega), if_neg h1, show x - d = (x - (d + 1)) + 1 by omega, shD_succ]
theorem sF_skip {g : Nat → Nat} {c : Nat → Bool} {j : Nat} : ∀ m, (∀ x, j ≤ x → x < j + m → c x = false) → sFold g c (j + m) = sFold g c j
  | 0, _ => rfl
  | m + 1, h => by
    rw [← Nat.add_assoc, sFold, h (j + m) (by omega) (by omega)]
    exact sF_skip m (fun x a b => h x a (by omega))
theorem aF_skip {h : Nat → Nat} {c : Nat → Bool} {j : Nat} : ∀ m, (∀ x, j ≤ x → x < j + m → c x = false) → anF h c (j + m) = anF h c j
  | 0, _ => rfl
  | m + 1, hc => by
    rw [← Nat.add_assoc, anF, hc (j + m) (by omega) (by omega)]
    show anF h c (j + m) &&& 4095 = _
    have e := aF_skip (h := h) m (fun x a b => hc x a (by omega))
    rw [e]
    have hl := anF_lt (h := h) (c := c) j
    rw [show 4095 = 2 ^ 12 - 1 from rfl, Nat.and_two_pow_sub_one_eq_mod, Nat.mod_eq_of_lt hl]
