/-! the class's Showing (cell 33; shapes 34, ways 35): by which rows SHAPES can have been shown -/
def sFold (g : Nat → Nat) (c : Nat → Bool) : Nat → Nat
  | 0 => 0
  | k + 1 => sFold g c k + (if c k then g k else 0)
def shC (T : TN) (rw' : Nat → Nat) : Nat → Nat → (Nat → SD) → Nat → Nat
  | 0, _, _, _ => 1
  | m + 1, p, q, w => sFold (fun k => shC T rw' m (p + 1) (stepQ T q w k) (1 - w)) (fun k => tI T k == rw' p && canN T (q w) (q (1 - w)).1 k) (tC T)
theorem sFold_le {g : Nat → Nat} {c : Nat → Bool} {b : Nat} (h : ∀ k, g k ≤ b) : ∀ m, sFold g c m ≤ m * b
  | 0 => by show 0 ≤ _; omega
  | m + 1 => by
    have h1 := sFold_le (g := g) (c := c) h m
    have h2 := h m
    rw [sFold, Nat.succ_mul]
    split <;> omega
theorem shC_le {T : TN} {rw' : Nat → Nat} (h12 : tC T ≤ 12) : ∀ m p q w, shC T rw' m p q w ≤ 12 ^ m
  | 0, _, _, _ => Nat.le_refl 1
  | m + 1, p, q, w => by
    have h := sFold_le (g := fun k => shC T rw' m (p + 1) (stepQ T q w k) (1 - w)) (c := fun k => tI T k == rw' p && canN T (q w) (q (1 - w)).1 k) (b := 12 ^ m) (fun k => shC_le h12 m _ _ _) (tC T)
    have h2 : tC T * 12 ^ m ≤ 12 * 12 ^ m := Nat.mul_le_mul_right _ h12
    have h3 : 12 ^ (m + 1) = 12 ^ m * 12 := Nat.pow_succ ..
    show sFold _ _ _ ≤ _
    omega
theorem shC_lt {T : TN} {rw' : Nat → Nat} (h12 : tC T ≤ 12) {m p : Nat} {q : Nat → SD} {w : Nat} (hm : m ≤ 8) : shC T rw' m p q w < 2 ^ 31 := by
  have h := shC_le (rw' := rw') h12 m p q w
  have h2 : 12 ^ m ≤ 12 ^ 8 := Nat.pow_le_pow_right (by decide) hm
  have h3 : 12 ^ 8 < 2 ^ 31 := by decide
  omega
theorem sFold_congr {g g' : Nat → Nat} {c c' : Nat → Bool} : ∀ m, (∀ k, k < m → c k = c' k ∧ (c k = true → g k = g' k)) → sFold g c m = sFold g' c' m
  | 0, _ => rfl
  | m + 1, h => by
    obtain ⟨h1, h2⟩ := h m (by omega)
    rw [sFold, sFold, sFold_congr m (fun k hk => h k (by omega)), ← h1]
    cases hc : c m
    · rfl
    · rw [h2 hc]
theorem shC_congr {T : TN} {rw' : Nat → Nat} : ∀ m p (q q' : Nat → SD) w, w < 2 → q 0 = q' 0 → q 1 = q' 1 → shC T rw' m p q w = shC T rw' m p q' w
  | 0, _, _, _, _, _, _, _ => rfl
  | m + 1, p, q, q', w, hw, h0, h1 => by
    refine sFold_congr _ (fun k _ => ⟨?_, fun _ => ?_⟩)
    · rcases (show w = 0 ∨ w = 1 by omega) with rfl | rfl <;> simp [h0, h1]
    · obtain ⟨a, b⟩ := stepQ_congr (T := T) (k := k) hw h0 h1
      exact shC_congr m (p + 1) _ _ _ (by omega) a b
/-- who each one is at a place, FIRE aside -/
def shB (rw' : Nat → Nat) (z : Nat) (q0 : Nat → SD) : Nat → Nat → SD
  | 0 => q0
  | p + 1 => fun v => if v = (z + p) % 2 then (rw' p, 0, (shB rw' z q0 p v).2.2.1 ||| 2 ^ rw' p, (shB rw' z q0 p v).2.2.2) else shB rw' z q0 p v
def isBq (rw' : Nat → Nat) (z : Nat) (q0 : Nat → SD) (p : Nat) (q : Nat → SD) : Prop := ∀ v, v < 2 → (q v).1 = (shB rw' z q0 p v).1 ∧ (q v).2.2.1 = (shB rw' z q0 p v).2.2.1 ∧ (q v).2.2.2 = (shB rw' z q0 p v).2.2.2
def slotN (p : Nat) (q : Nat → SD) : Nat := (p * 6 + (q 0).2.1) * 6 + (q 1).2.1
def MW (T : TN) (rw' : Nat → Nat) (z m : Nat) (q0 : Nat → SD) (I : Nat → Nat → Int32) : Prop := ∀ p q, p < m → vQ T q → isBq rw' z q0 p q → I 35 (slotN p q) = -1 ∨ I 35 (slotN p q) = nI (shC T rw' (m - p) p q ((z + p) % 2))
theorem isBq_step {T : TN} {rw' : Nat → Nat} {z p k : Nat} {q0 q : Nat → SD} (h : isBq rw' z q0 p q) (hk : tI T k = rw' p) : isBq rw' z q0 (p + 1) (stepQ T q ((z + p) % 2) k) := by
  intro v hv
  obtain ⟨h1, h2, h3⟩ := h v hv
  by_cases hw : v = (z + p) % 2
  · subst hw
    simp only [shB, stepQ, stepS, if_pos]
    exact ⟨hk, by rw [hk, h2], h3⟩
  · simp only [shB, stepQ, if_neg hw]
    exact ⟨h1, h2, h3⟩
theorem MW.put {T : TN} {rw' : Nat → Nat} {z m p : Nat} {q0 q : Nat → SD} {I : Nat → Nat → Int32} (h : MW T rw' z m q0 I) (hp : p < m) (hv : vQ T q) (hB : isBq rw' z q0 p q) : MW T rw' z m q0 (upI I 35 (slotN p q) (nI (shC T rw' (m - p) p q ((z + p) % 2)))) := by
  intro p' q' hp' hv' hB'
  by_cases hs : slotN p' q' = slotN p q
  · right
    have a0 := hv.1.2.1
    have a1 := hv.2.2.1
    have b0 := hv'.1.2.1
    have b1 := hv'.2.2.1
    have hs' := hs
    unfold slotN at hs'
    have e1 : p' = p := by omega
    have e2 : (q' 0).2.1 = (q 0).2.1 := by omega
    have e3 : (q' 1).2.1 = (q 1).2.1 := by omega
    subst e1
    rw [hs, up_same]
    obtain ⟨c1, c2, c3⟩ := hB 0 (by omega)
    obtain ⟨c4, c5, c6⟩ := hB' 0 (by omega)
    obtain ⟨d1, d2, d3⟩ := hB 1 (by omega)
    obtain ⟨d4, d5, d6⟩ := hB' 1 (by omega)
    refine congrArg nI (shC_congr _ _ _ _ _ (Nat.mod_lt _ (by decide)) ?_ ?_)
    · exact Prod.ext (c1.trans c4.symm) (Prod.ext e2.symm (Prod.ext (c2.trans c5.symm) (c3.trans c6.symm)))
    · exact Prod.ext (d1.trans d4.symm) (Prod.ext e3.symm (Prod.ext (d2.trans d5.symm) (d3.trans d6.symm)))
  · rw [up_ne hs]
    exact h p' q' hp' hv' hB'
theorem MW.of {T : TN} {rw' : Nat → Nat} {z m : Nat} {q0 : Nat → SD} {I I' : Nat → Nat → Int32} (h : MW T rw' z m q0 I) (he : I' 35 = I 35) : MW T rw' z m q0 I' := by
  intro p q hp hv hB
  rw [he]
  exact h p q hp hv hB
/-- what Showing holds: how many SHAPES, which -/
def shM (rw' : Nat → Nat) (m z : Nat) (I : Nat → Nat → Int32) : Prop := I 33 3 = nI m ∧ (∀ i, i < m → I 34 i = nI (rw' i)) ∧ I 12 5 = nI z
theorem shM.of {rw' : Nat → Nat} {m z : Nat} {I I' : Nat → Nat → Int32} (h : shM rw' m z I) (h1 : I' 33 = I 33) (h2 : I' 34 = I 34) (h3 : I' 12 = I 12) : shM rw' m z I' := by
  unfold shM
  rw [h1, h2, h3]
  exact h
def shOK (T : TN) (rw' : Nat → Nat) (m z : Nat) : Prop := m ≤ 8 ∧ z ≤ 40 ∧ ∀ i, i < m → rw' i < tS T
def shV (T : TN) (rw' : Nat → Nat) (m p : Nat) (q : Nat → SD) (w k : Nat) : Nat := if tI T k == rw' p && canN T (q w) (q (1 - w)).1 k then shC T rw' m (p + 1) (stepQ T q w k) (1 - w) else 0
section
variable {G : GG} {d n : Nat} {I : Nat → Nat → Int32} {J : Nat → Nat → Int64} {Q : Option Value → MH → Prop} {T : TN} {q : Nat → SD}
theorem c_whoAt {z p : Nat} (hz : z ≤ 40) (hp : p ≤ 40) (hI : I 12 5 = nI z) (h : Q (some (.int (nI ((z + p) % 2)))) (SH n, I, J)) : MT G (d + 2) 62 [.ref 33, .int (nI p)] (SH n, I, J) Q := by
  refine MT.by ck62 (by decide) rfl (Nat.le_of_ble_eq_true rfl) rfl 300 [] ?_
  conv => whnf
  try dsimp only
  refine ⟨trivial, c_mover hz hI ?_⟩
  refine EV.at ck62 (by decide) 300 [] ?_
  conv => whnf
  try dsimp only
  rw [mov_eq (by omega) (by omega)]
  exact ⟨trivial, h⟩
def WFr (G : GG) (n : Nat) (T : TN) (rw' : Nat → Nat) (z m : Nat) (q0 : Nat → SD) (r : Nat) : Prop := ∀ (D : Nat) (I : Nat → Nat → Int32) (J : Nat → Nat → Int64) (Q : Option Value → MH → Prop) (p : Nat) (q : Nat → SD), 2 * r + 8 ≤ D → p + r = m → tMem T I → EX I → fMem q I → vQ T q → isBq rw' z q0 p q → shM rw' m z I → MW T rw' z m q0 I →
  (∀ I', (∀ x, x ≠ 35 → I' x = I x) → MW T rw' z m q0 I' → Q (some (.int (nI (shC T rw' r p q ((z + p) % 2))))) (SH n, I', J)) → MT G D 60 [.ref 33, .int (nI p)] (SH n, I, J) Q
def WBy (G : GG) (n : Nat) (T : TN) (rw' : Nat → Nat) (z m : Nat) (q0 : Nat → SD) (r : Nat) : Prop := ∀ (D : Nat) (I : Nat → Nat → Int32) (J : Nat → Nat → Int64) (Q : Option Value → MH → Prop) (p k : Nat) (q : Nat → SD), 2 * r + 9 ≤ D → p + (r + 1) = m → k < tC T → tMem T I → EX I → fMem q I → vQ T q → isBq rw' z q0 p q → shM rw' m z I → MW T rw' z m q0 I →
  (∀ I', (∀ x, x ≠ 35 → I' x = I x) → MW T rw' z m q0 I' → Q (some (.int (nI (shV T rw' r p q ((z + p) % 2) k)))) (SH n, I', J)) → MT G D 61 [.ref 33, .int (nI p), .int (nI k)] (SH n, I, J) Q
theorem WFr_zero {rw' : Nat → Nat} {z m : Nat} {q0 : Nat → SD} (hS : shOK T rw' m z) : WFr G n T rw' z m q0 0 := by
  intro D I J Q p q hD hp hM hX hm hv hB hs hW h
  obtain ⟨x, rfl⟩ : ∃ x, D = x + 8 := ⟨D - 8, by omega⟩
  have hS1 := hS.1
  have hp : p = m := hp
  have hq := h I (fun _ _ => rfl) hW
  refine MT.by ck60 (by decide) rfl (Nat.le_of_ble_eq_true rfl) rfl 300 [] ?_
  conv => whnf
  try dsimp only
  rw [hs.1]
  refine pk_lt p m (fun h1 => absurd h1 (by omega)) (fun _ => ?_)
  conv => whnf
  try dsimp only
  exact ⟨trivial, hq⟩
theorem WBy_of {rw' : Nat → Nat} {z m r : Nat} {q0 : Nat → SD} (hT : tOK T) (hS : shOK T rw' m z) (hW0 : WFr G n T rw' z m q0 r) : WBy G n T rw' z m q0 r := by
  intro D I J Q p k q hD hp hk hM hX hm hv hB hs hW h
  obtain ⟨x, rfl⟩ : ∃ x, D = x + 9 := ⟨D - 9, by omega⟩
  obtain ⟨S1, S2, S3⟩ := hS
  have s0 := sS_of hT hv.1
  have s1 := sS_of hT hv.2
  have h5 : tS T ≤ 5 := hT.1
  have h12 : tC T ≤ 12 := hT.2.2.1
  have hw : (z + p) % 2 < 2 := Nat.mod_lt _ (by decide)
  have hpm : p < m := by omega
  have ck : (nI k).toNatClampNeg = k := nI_clamp (by omega)
  have cp : (nI p).toNatClampNeg = p := nI_clamp (by omega)
  obtain ⟨m9, m10, m11⟩ := hM.2.2.2 k hk
  have hik := (hT.2.2.2 k hk).2.1
  have hrp := S3 p hpm
  have nil : (tI T k == rw' p && canN T (q ((z + p) % 2)) (q (1 - (z + p) % 2)).1 k) = false → Q (some (.int 0)) (SH n, I, J) := fun hf => by
    have hq := h I (fun _ _ => rfl) hW
    unfold shV at hq
    rw [hf] at hq
    exact hq
  refine MT.by ck61 (by decide) rfl (Nat.le_of_ble_eq_true rfl) rfl 300 [] ?_
  conv => whnf
  try dsimp only
  refine ⟨trivial, c_whoAt S2 (by omega) hs.2.2 ?_⟩
  refine EV.at ck61 (by decide) 300 [] ?_
  conv => whnf
  try dsimp only
  refine ⟨in_nI (show k < 12 by omega) (by decide), ?_⟩
  conv => whnf
  try dsimp only
  refine ⟨in_nI (show p < 8 by omega) (by decide), ?_⟩
  conv => whnf
  try dsimp only
  rw [ck, cp, m10, hs.2.1 p hpm]
  refine ⟨fun h1 => ?_, fun h1 => ?_⟩
  · have h1' : ¬ tI T k = rw' p := fun z => h1 (by rw [z])
    conv => whnf
    try dsimp only
    refine ⟨fun z => absurd rfl z, fun _ => ?_⟩
    conv => whnf
    try dsimp only
    exact ⟨trivial, nil (by rw [beq_false_of_ne h1']; rfl)⟩
  have h1' : tI T k = rw' p := (nu_eq (by omega) (by omega)).mp h1
  conv => whnf
  try dsimp only
  refine ⟨trivial, c_takes hw hT hM hm hv.1 hv.2 hX hk ?_⟩
  have tl := takes_lt (q := q ((z + p) % 2)) (o := (q (1 - (z + p) % 2)).1) hT hk
  cases hb : canN T (q ((z + p) % 2)) (q (1 - (z + p) % 2)).1 k
  · have ht : takesN T (q ((z + p) % 2)) (q (1 - (z + p) % 2)).1 k = 0 := by unfold takesN; rw [hb]; rfl
    rw [ht]
    refine EV.at ck61 (by decide) 300 [] ?_
    conv => whnf
    try dsimp only
    refine ⟨fun z => absurd rfl z, fun _ => ?_⟩
    conv => whnf
    try dsimp only
    exact ⟨trivial, nil (by rw [hb, Bool.and_false])⟩
  · have ht : 0 < takesN T (q ((z + p) % 2)) (q (1 - (z + p) % 2)).1 k := takes_pos.mpr hb
    have hv' : shV T rw' r p q ((z + p) % 2) k = shC T rw' r (p + 1) (stepQ T q ((z + p) % 2) k) (1 - (z + p) % 2) := by
      unfold shV
      rw [hb, h1', beq_self_eq_true]
      rfl
    have ew : 1 - (z + p) % 2 = (z + (p + 1)) % 2 := by omega
    refine EV.at ck61 (by decide) 300 [] ?_
    conv => whnf
    try dsimp only
    refine ⟨fun _ => ?_, fun z => absurd z (nI_ne0 ht (by omega))⟩
    conv => whnf
    try dsimp only
    refine ⟨trivial, c_packedF hm s0 s1 ?_⟩
    refine EV.at ck61 (by decide) 300 [] ?_
    conv => whnf
    try dsimp only
    refine ⟨trivial, c_step hw hT hM hm hv hk hb ?_⟩
    refine EV.at ck61 (by decide) 300 [] ?_
    conv => whnf
    try dsimp only
    rw [nI_1]
    have lo : ∀ y, y ≠ 14 → y ≠ 15 → stI T I q ((z + p) % 2) k y = I y := fun y a b => sd_oth (by omega)
    refine ⟨trivial, hW0 (x + 8) _ _ _ (p + 1) (stepQ T q ((z + p) % 2) k) (by omega) (by omega) (tMem_of (fun r hr => stI_lo hr) hM) (EX_of (fun r hr => stI_lo hr) hX) (fMem_st hw hm) (vQ_step hT hw hk hv) (isBq_step hB h1') (hs.of (lo 33 (by decide) (by decide)) (lo 34 (by decide) (by decide)) (lo 12 (by decide) (by decide))) (hW.of (lo 35 (by decide) (by decide))) (fun I' a1 a2 => ?_)⟩
    refine EV.at ck61 (by decide) 300 [] ?_
    conv => whnf
    try dsimp only
    refine ⟨trivial, c_unpackF s0 s1 ?_⟩
    refine EV.at ck61 (by decide) 300 [] ?_
    conv => whnf
    try dsimp only
    have hq := h (fdI I' q) (fun y hy => by rw [fd_row (a1 y hy), fd_st hw hm]) (a2.of (fd_oth (by decide) (by decide)))
    rw [hv', ew] at hq
    exact ⟨trivial, hq⟩
theorem WFr_succ {rw' : Nat → Nat} {z m r : Nat} {q0 : Nat → SD} (hT : tOK T) (hS : shOK T rw' m z) (hB0 : WBy G n T rw' z m q0 r) : WFr G n T rw' z m q0 (r + 1) := by
  intro D I J Q p q hD hp hM hX hm hv hB hs hW h
  obtain ⟨x, rfl⟩ : ∃ x, D = x + 10 := ⟨D - 10, by omega⟩
  obtain ⟨S1, S2, S3⟩ := hS
  have h12 : tC T ≤ 12 := hT.2.2.1
  have hC : I 6 3 = nI (tC T) := hM.2.2.1
  have f0 := hv.1.2.1
  have f1 := hv.2.2.1
  have hpm : p < m := by omega
  have hsl : slotN p q < 324 := by unfold slotN; omega
  have cs : (nI (slotN p q)).toNatClampNeg = slotN p q := nI_clamp (by omega)
  have hmp : m - p = r + 1 := by omega
  have es : (nI p * 6 + nI (q 0).2.1) * 6 + nI (q 1).2.1 = nI (slotN p q) := by
    show (nI p * nI 6 + nI (q 0).2.1) * nI 6 + nI (q 1).2.1 = _
    rw [pk_mul, nI_add, pk_mul, nI_add]
    rfl
  generalize hg : (fun k => shC T rw' r (p + 1) (stepQ T q ((z + p) % 2) k) (1 - (z + p) % 2)) = g at h
  have hval : shC T rw' (r + 1) p q ((z + p) % 2) = sFold (fun k => shC T rw' r (p + 1) (stepQ T q ((z + p) % 2) k) (1 - (z + p) % 2)) (fun k => tI T k == rw' p && canN T (q ((z + p) % 2)) (q (1 - (z + p) % 2)).1 k) (tC T) := rfl
  rw [hg] at hval
  generalize hc : (fun k => tI T k == rw' p && canN T (q ((z + p) % 2)) (q (1 - (z + p) % 2)).1 k) = c at hval
  have un : ∀ k, shV T rw' r p q ((z + p) % 2) k = if c k then g k else 0 := fun k => by rw [← hc, ← hg]; rfl
  have loop : ∀ k j (I1 : Nat → Nat → Int32), j + k = tC T → (∀ y, y ≠ 35 → I1 y = I y) → MW T rw' z m q0 I1 → EV G 60 (x + 9) 0 0 65 [.ref 33, .int (nI p), .int (nI (slotN p q)), .int (nI (sFold g c j)), .int (nI j)] [] (SH n, I1, J) Q := by
    intro k
    induction k with
    | zero =>
      intro j I1 hj a1 a2
      have hj : j = tC T := hj
      rw [hj]
      have hp2 := a2.put hpm hv hB
      rw [hmp, hval] at hp2
      have hq := h _ (fun y hy => by rw [upI_oth hy]; exact a1 y hy) hp2
      rw [hval] at hq
      refine EV.at ck60 (by decide) 300 [] ?_
      conv => whnf
      try dsimp only
      rw [a1 6 (by decide), hC]
      refine pk_le (tC T) (tC T) (fun _ => ?_) (fun h1 => absurd h1 (by omega))
      conv => whnf
      try dsimp only
      refine ⟨in_nI hsl (by decide), ?_⟩
      conv => whnf
      try dsimp only
      rw [cs]
      exact ⟨trivial, hq⟩
    | succ k ih =>
      intro j I1 hj a1 a2
      have hjc : j < tC T := by omega
      have hM1 : tMem T I1 := tMem_of (fun y hy => a1 y (by omega)) hM
      refine EV.at ck60 (by decide) 300 [] ?_
      conv => whnf
      try dsimp only
      rw [a1 6 (by decide), hC]
      refine pk_le (tC T) j (fun h1 => absurd h1 (by omega)) (fun _ => ?_)
      conv => whnf
      try dsimp only
      refine ⟨trivial, hB0 (x + 9) _ _ _ p j q (by omega) hp hjc hM1 (EX_of (fun y hy => a1 y (by omega)) hX) ⟨sMem_oth hm.1 (a1 _ (by decide)), sMem_oth hm.2 (a1 _ (by decide))⟩ hv hB (hs.of (a1 _ (by decide)) (a1 _ (by decide)) (a1 _ (by decide))) a2 (fun I2 b1 b2 => ?_)⟩
      have ihj := ih (j + 1) I2 (by omega) (fun y hy => (b1 y hy).trans (a1 y hy)) b2
      have e : sFold g c (j + 1) = sFold g c j + (if c j then g j else 0) := rfl
      rw [e, ← nI_add, nI_succ j] at ihj
      rw [un]
      refine EV.at ck60 (by decide) 300 [] ?_
      conv => whnf
      try dsimp only
      exact ⟨trivial, ihj⟩
  have h01 : shC T rw' (r + 1) p q ((z + p) % 2) < 2 ^ 31 := shC_lt h12 (by omega)
  refine MT.by ck60 (by decide) rfl (Nat.le_of_ble_eq_true rfl) rfl 300 [65] ?_
  conv => whnf
  try dsimp only
  rw [hs.1]
  refine pk_lt p m (fun _ => ?_) (fun h1 => absurd h1 (by omega))
  conv => whnf
  try dsimp only
  refine ⟨by unfold vp_in; decide, ?_⟩
  conv => whnf
  try dsimp only
  refine ⟨by unfold vp_in; decide, ?_⟩
  conv => whnf
  try dsimp only
  rw [hm.1.2.1, hm.2.2.1, es]
  refine ⟨in_nI hsl (by decide), ?_⟩
  conv => whnf
  try dsimp only
  rw [cs]
  rcases hW p q hpm hv hB with e | e
  · rw [e]
    refine ⟨fun _ => ?_, fun h1 => absurd (by decide) h1⟩
    conv => whnf
    try dsimp only
    exact ⟨trivial, loop (tC T) 0 I (by omega) (fun _ _ => rfl) hW⟩
  · rw [hmp] at e
    rw [e]
    refine ⟨fun h1 => absurd h1 (nI_pos h01), fun _ => ?_⟩
    conv => whnf
    try dsimp only
    refine ⟨in_nI hsl (by decide), ?_⟩
    conv => whnf
    try dsimp only
    rw [cs, e]
    exact ⟨trivial, h I (fun _ _ => rfl) hW⟩
theorem WFr_all {rw' : Nat → Nat} {z m : Nat} {q0 : Nat → SD} (hT : tOK T) (hS : shOK T rw' m z) : ∀ r, WFr G n T rw' z m q0 r
  | 0 => WFr_zero hS
  | r + 1 => WFr_succ hT hS (WBy_of hT hS (WFr_all hT hS r))
theorem c_countWays {rw' : Nat → Nat} {z m : Nat} (hT : tOK T) (hS : shOK T rw' m z) (hM : tMem T I) (hX : EX I) (hm : fMem q I) (hv : vQ T q) (hs : shM rw' m z I) (h : ∀ I', (∀ x, x ≠ 35 → I' x = I x) → MW T rw' z m q I' → Q (some (.int (nI (shC T rw' m 0 q (z % 2))))) (SH n, I', J)) : MT G (d + 30) 59 [.ref 33] (SH n, I, J) Q := by
  have S1 := hS.1
  have lo : ∀ y, y ≠ 35 → flI I 35 0 324 (-1) y = I y := fun y hy => by funext k; unfold flI; rw [if_neg (fun z => hy z.1)]
  refine MT.by ck59 (by decide) rfl (Nat.le_of_ble_eq_true rfl) rfl 300 [] ?_
  conv => whnf
  try dsimp only
  refine ⟨trivial, c_fill2 (N := 324) rfl (by decide) ?_⟩
  refine EV.at ck59 (by decide) 300 [] ?_
  conv => whnf
  try dsimp only
  refine ⟨trivial, WFr_all hT hS m (d + 29) _ _ _ 0 q (by omega) (by omega) (tMem_of (fun y hy => lo y (by omega)) hM) (EX_of (fun y hy => lo y (by omega)) hX) ⟨sMem_oth hm.1 (lo _ (by decide)), sMem_oth hm.2 (lo _ (by decide))⟩ hv (fun v hv => ⟨rfl, rfl, rfl⟩) (hs.of (lo _ (by decide)) (lo _ (by decide)) (lo _ (by decide))) ?_ (fun I' a1 a2 => ?_)⟩
  · intro p q' hp hv' hB'
    left
    have f0 := hv'.1.2.1
    have f1 := hv'.2.2.1
    unfold flI
    rw [if_pos ⟨rfl, by omega, by unfold slotN; omega⟩]
  · refine EV.at ck59 (by decide) 300 [] ?_
    conv => whnf
    try dsimp only
    exact ⟨trivial, h I' (fun y hy => (a1 y hy).trans (lo y hy)) a2⟩
end
