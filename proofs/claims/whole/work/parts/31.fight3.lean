/-! the class's Fight: done, undone, followed -/
theorem fMem_fd {q q' : Nat → SD} {I : Nat → Nat → Int32} (hm : fMem q I) (k0 : (q' 0).2.2.2 = (q 0).2.2.2) (k1 : (q' 1).2.2.2 = (q 1).2.2.2) : fMem q' (fdI I q') := by
  refine ⟨?_, ?_⟩
  · exact sMem_oth (sMem_sd hm.1 k0) (sd_oth (by decide))
  · exact sMem_sd (sMem_oth hm.2 (sd_oth (by decide))) k1
theorem fd_self {q : Nat → SD} {I : Nat → Nat → Int32} (hm : fMem q I) : fdI I q = I := by
  unfold fdI
  rw [sd_self hm.1, sd_self hm.2]
theorem fd_fd {q q' : Nat → SD} {I : Nat → Nat → Int32} : fdI (fdI I q) q' = fdI I q' := by
  unfold fdI
  rw [sd_comm (c := 15) (c' := 14) (by decide), sd_sd, sd_sd]
theorem fd_st2 {T : TN} {q : Nat → SD} {I : Nat → Nat → Int32} {w k : Nat} (hw : w < 2) : stI T (fdI I q) q w k = fdI I (stepQ T q w k) := by
  rcases (show w = 0 ∨ w = 1 by omega) with rfl | rfl
  · show sdI (sdI (sdI I 14 _ _ _) 15 _ _ _) 14 _ _ _ = sdI (sdI I 14 _ _ _) 15 _ _ _
    rw [sd_comm (c := 15) (c' := 14) (by decide), sd_sd]
    rfl
  · show sdI (sdI (sdI I 14 _ _ _) 15 _ _ _) 15 _ _ _ = sdI (sdI I 14 _ _ _) 15 _ _ _
    rw [sd_sd]
    rfl
theorem fd_oth {q : Nat → SD} {I : Nat → Nat → Int32} {r : Nat} (h4 : r ≠ 14) (h5 : r ≠ 15) : fdI I q r = I r := by
  unfold fdI
  rw [sd_oth h5, sd_oth h4]
theorem fd_lo {q : Nat → SD} {I : Nat → Nat → Int32} : ∀ r, r < 12 → fdI I q r = I r := fun r h => fd_oth (by omega) (by omega)
theorem two_eq (a b : Bool) : b2i a ||| jshl (b2i b) 1 = b2i a + 2 * b2i b := by revert a b; decide
theorem mov_eq {z i : Nat} (hz : z < 1000) (hi : i < 1000) : nI (z % 2) + nI i &&& 1 = nI ((z + i) % 2) := by
  rw [nI_add, nu_a1 (by omega)]
  congr 1
  omega
/-- a row followed till one CHANGE can't be: how many could, and the fighters then -/
def fol (T : TN) (rw' : Nat → Nat) : Nat → Nat → (Nat → SD) → Nat → Nat × (Nat → SD)
  | 0, i, q, _ => (i, q)
  | m + 1, i, q, w => if canN T (q w) (q (1 - w)).1 (rw' i) then fol T rw' m (i + 1) (stepQ T q w (rw' i)) (1 - w) else (i, q)
theorem fol_le {T : TN} {rw' : Nat → Nat} : ∀ m i q w, (fol T rw' m i q w).1 ≤ i + m
  | 0, i, q, w => Nat.le_refl _
  | m + 1, i, q, w => by
    unfold fol
    split
    · have := fol_le (T := T) (rw' := rw') m (i + 1) (stepQ T q w (rw' i)) (1 - w); omega
    · show i ≤ i + (m + 1); omega
section
variable {G : GG} {d n : Nat} {I : Nat → Nat → Int32} {J : Nat → Nat → Int64} {Q : Option Value → MH → Prop} {T : TN} {q : Nat → SD}
theorem c_whoUsed {i : Nat} (hm : fMem q I) (h0 : (q 0).2.2.1 < 32) (h1 : (q 1).2.2.1 < 32) (hi : i < 5) (h : Q (some (.int (b2i ((q 0).2.2.1.testBit i) + 2 * b2i ((q 1).2.2.1.testBit i)))) (SH n, I, J)) : MT G (d + 2) 12 [.ref 12, .int (nI i)] (SH n, I, J) Q := by
  refine MT.by ck12 (by decide) rfl (Nat.le_of_ble_eq_true rfl) rfl 300 [] ?_
  conv => whnf
  try dsimp only
  refine ⟨by unfold vp_in; decide, ?_⟩
  conv => whnf
  try dsimp only
  rw [hm.1.2.2.1]
  refine ⟨trivial, c_bit ?_⟩
  refine EV.at ck12 (by decide) 300 [] ?_
  conv => whnf
  try dsimp only
  refine ⟨by unfold vp_in; decide, ?_⟩
  conv => whnf
  try dsimp only
  rw [hm.2.2.2.1]
  refine ⟨trivial, c_bit ?_⟩
  refine EV.at ck12 (by decide) 300 [] ?_
  conv => whnf
  try dsimp only
  rw [nu_bit (by omega) (by omega), nu_bit (by omega) (by omega), two_eq]
  exact ⟨trivial, h⟩
theorem c_whoKnows {i : Nat} (hm : fMem q I) (h0 : (q 0).2.2.2 < 4096) (h1 : (q 1).2.2.2 < 4096) (hi : i < 12) (h : Q (some (.int (b2i ((q 0).2.2.2.testBit i) + 2 * b2i ((q 1).2.2.2.testBit i)))) (SH n, I, J)) : MT G (d + 2) 13 [.ref 12, .int (nI i)] (SH n, I, J) Q := by
  refine MT.by ck13 (by decide) rfl (Nat.le_of_ble_eq_true rfl) rfl 300 [] ?_
  conv => whnf
  try dsimp only
  refine ⟨by unfold vp_in; decide, ?_⟩
  conv => whnf
  try dsimp only
  rw [hm.1.2.2.2]
  refine ⟨trivial, c_bit ?_⟩
  refine EV.at ck13 (by decide) 300 [] ?_
  conv => whnf
  try dsimp only
  refine ⟨by unfold vp_in; decide, ?_⟩
  conv => whnf
  try dsimp only
  rw [hm.2.2.2.2]
  refine ⟨trivial, c_bit ?_⟩
  refine EV.at ck13 (by decide) 300 [] ?_
  conv => whnf
  try dsimp only
  rw [nu_bit (by omega) (by omega), nu_bit (by omega) (by omega), two_eq]
  exact ⟨trivial, h⟩
theorem c_takeBack {z m : Nat} {q' : Nat → SD} (hz : z ≤ 40) (hm : m < z) (hI : I 12 5 = nI z) (hA : I 17 m = nI (packF q')) (h0 : sS (q' 0)) (h1 : sS (q' 1)) (h : Q (some (.int (nI (z - m)))) (SH n, upI (fdI I q') 12 5 (nI m), J)) : MT G (d + 3) 10 [.ref 12, .int (nI m)] (SH n, I, J) Q := by
  have cm : (nI m).toNatClampNeg = m := nI_clamp (by omega)
  refine MT.by ck10 (by decide) rfl (Nat.le_of_ble_eq_true rfl) rfl 300 [] ?_
  conv => whnf
  try dsimp only
  rw [hI, pk_sub (by omega)]
  refine ⟨fun h1 => absurd h1 (nI_nle (by omega) (by omega)), fun _ => ?_⟩
  conv => whnf
  try dsimp only
  refine ⟨in_nI (show m < 40 by omega) (by decide), ?_⟩
  conv => whnf
  try dsimp only
  rw [cm, hA]
  refine ⟨trivial, c_unpackF h0 h1 ?_⟩
  refine EV.at ck10 (by decide) 300 [] ?_
  conv => whnf
  try dsimp only
  exact ⟨trivial, h⟩
theorem c_takeBack0 {z : Nat} (hz : z ≤ 40) (hI : I 12 5 = nI z) (h : Q (some (.int 0)) (SH n, I, J)) : MT G (d + 3) 10 [.ref 12, .int (nI z)] (SH n, I, J) Q := by
  refine MT.by ck10 (by decide) rfl (Nat.le_of_ble_eq_true rfl) rfl 300 [] ?_
  conv => whnf
  try dsimp only
  rw [hI, pk_sub (Nat.le_refl z), Nat.sub_self]
  refine ⟨fun _ => ?_, fun h1 => absurd (by decide) h1⟩
  conv => whnf
  try dsimp only
  exact ⟨trivial, h⟩
theorem c_performF {x y : Int32} (hI : I 12 5 = nI 40) (h : Q (some (.int 0)) (SH n, I, J)) : MT G (d + 3) 9 [.ref 12, .int x, .int y] (SH n, I, J) Q := by
  refine MT.by ck9 (by decide) rfl (Nat.le_of_ble_eq_true rfl) rfl 300 [] ?_
  conv => whnf
  try dsimp only
  rw [hI]
  refine ⟨fun h1 => absurd h1 (by decide), fun _ => ?_⟩
  conv => whnf
  try dsimp only
  exact ⟨Or.inl rfl, h⟩
/-- the memory behind a CHANGE that is truly done -/
def pfI (T : TN) (I : Nat → Nat → Int32) (q : Nat → SD) (z k : Nat) : Nat → Nat → Int32 := upI (stI T (upI (upI I 16 z (nI k)) 17 z (nI (packF q))) q (z % 2) k) 12 5 (nI (z + 1))
theorem c_perform {z k : Nat} (hz : z < 40) (hI : I 12 5 = nI z) (hT : tOK T) (hM : tMem T I) (hm : fMem q I) (hv : vQ T q) (hk : k < tC T) (hc : canN T (q (z % 2)) (q (1 - z % 2)).1 k = true) (h : Q (some (.int 1)) (SH n, pfI T I q z k, J)) : MT G (d + 3) 9 [.ref 12, .int (nI k), .int (nI (takesN T (q (z % 2)) (q (1 - z % 2)).1 k))] (SH n, I, J) Q := by
  have cz : (nI z).toNatClampNeg = z := nI_clamp (by omega)
  have hw : z % 2 < 2 := Nat.mod_lt _ (by decide)
  have s0 := sS_of hT hv.1
  have s1 := sS_of hT hv.2
  have fm1 : fMem q (upI I 16 z (nI k)) := ⟨sMem_oth hm.1 (upI_oth (by decide)), sMem_oth hm.2 (upI_oth (by decide))⟩
  have fm2 : fMem q (upI (upI I 16 z (nI k)) 17 z (nI (packF q))) := ⟨sMem_oth fm1.1 (upI_oth (by decide)), sMem_oth fm1.2 (upI_oth (by decide))⟩
  have lo : ∀ r, r < 12 → upI (upI I 16 z (nI k)) 17 z (nI (packF q)) r = I r := fun r hr => by rw [upI_oth (by omega), upI_oth (by omega)]
  have r1 : upI I 16 z (nI k) 12 5 = nI z := hI
  have r2 : upI (upI I 16 z (nI k)) 17 z (nI (packF q)) 12 5 = nI z := hI
  refine MT.by ck9 (by decide) rfl (Nat.le_of_ble_eq_true rfl) rfl 300 [] ?_
  conv => whnf
  try dsimp only
  rw [hI]
  refine ⟨fun _ => ?_, fun h1 => absurd (nI_lt (b := 40) hz (by decide)) h1⟩
  conv => whnf
  try dsimp only
  rw [hI]
  refine ⟨in_nI (show z < 40 by omega) (by decide), ?_⟩
  conv => whnf
  try dsimp only
  rw [cz, r1]
  refine ⟨trivial, c_packedF fm1 s0 s1 ?_⟩
  refine EV.at ck9 (by decide) 300 [] ?_
  conv => whnf
  try dsimp only
  refine ⟨in_nI (show z < 40 by omega) (by decide), ?_⟩
  conv => whnf
  try dsimp only
  rw [cz]
  refine ⟨trivial, c_mover (by omega) r2 ?_⟩
  refine EV.at ck9 (by decide) 300 [] ?_
  conv => whnf
  try dsimp only
  refine ⟨trivial, c_step hw hT (tMem_of lo hM) fm2 hv hk hc ?_⟩
  refine EV.at ck9 (by decide) 300 [] ?_
  conv => whnf
  try dsimp only
  have r3 : stI T (upI (upI I 16 z (nI k)) 17 z (nI (packF q))) q (z % 2) k 12 5 = nI z := by rw [show stI T (upI (upI I 16 z (nI k)) 17 z (nI (packF q))) q (z % 2) k 12 = upI (upI I 16 z (nI k)) 17 z (nI (packF q)) 12 from sd_oth (by omega)]; exact r2
  rw [r3, nI_1]
  exact ⟨Or.inr rfl, h⟩
theorem c_follow {z c a m N : Nat} {rw' : Nat → Nat} (hT : tOK T) (hM : tMem T I) (hX : EX I) (hm : fMem q I) (hv : vQ T q) (hz : z ≤ 40) (hI : I 12 5 = nI z) (hc : (SH n)[c]? = some (8, 2, [some a, none])) (ha : (SH n)[a]? = some (12, N, [])) (ha4 : a ≠ 14) (ha5 : a ≠ 15) (hc4 : c ≠ 14) (hc5 : c ≠ 15) (hmN : m ≤ N) (hN : N ≤ 80) (hs : I c 1 = nI m) (hr : ∀ i, i < m → rw' i < tC T ∧ I a i = nI (rw' i)) (h : Q (some (.int (nI (fol T rw' m 0 q (z % 2)).1))) (SH n, fdI I (fol T rw' m 0 q (z % 2)).2, J)) : MT G (d + 5) 11 [.ref 12, .ref c] (SH n, I, J) Q := by
  have loop : ∀ k i (q1 : Nat → SD) (x3 x4 : Value), (isDm x3 = true ∨ ∃ y, x3 = .int y) → (isDm x4 = true ∨ ∃ y, x4 = .int y) → i + k = m → vQ T q1 → (q1 0).2.2.2 = (q 0).2.2.2 → (q1 1).2.2.2 = (q 1).2.2.2 → fol T rw' m 0 q (z % 2) = fol T rw' k i q1 ((z + i) % 2) → EV G 11 (d + 4) 0 0 2 [.ref 12, .ref c, .int (nI i), x3, x4] [] (SH n, fdI I q1, J) Q := by
    intro k
    induction k with
    | zero =>
      intro i q1 x3 x4 d3 d4 hi hv1 k0 k1 hf
      have hi : i = m := hi
      rw [hf] at h
      have hs1 : fdI I q1 c 1 = nI m := by rw [fd_oth hc4 hc5]; exact hs
      refine EV.at ck11 (by decide) 300 [] ?_
      conv => whnf
      try dsimp only
      rw [hc]
      conv => whnf
      try dsimp only
      rw [hs1, ← hi]
      refine ⟨fun _ => ?_, fun h1 => absurd (nI_le (Nat.le_refl i) (by omega)) h1⟩
      conv => whnf
      try dsimp only
      rw [hc]
      conv => whnf
      try dsimp only
      rw [hs1, ← hi]
      exact ⟨trivial, h⟩
    | succ k ih =>
      intro i q1 x3 x4 d3 d4 hi hv1 k0 k1 hf
      have hs1 : fdI I q1 c 1 = nI m := by rw [fd_oth hc4 hc5]; exact hs
      have hI1 : fdI I q1 12 5 = nI z := by rw [fd_oth (by decide) (by decide)]; exact hI
      have hm1 : fMem q1 (fdI I q1) := fMem_fd hm k0 k1
      have ci : (nI i).toNatClampNeg = i := nI_clamp (by omega)
      obtain ⟨hr1, hr2⟩ := hr i (by omega)
      have hr2 : fdI I q1 a i = nI (rw' i) := by rw [fd_oth ha4 ha5]; exact hr2
      have hw : (z + i) % 2 < 2 := Nat.mod_lt _ (by decide)
      have hun : fol T rw' (k + 1) i q1 ((z + i) % 2) = if canN T (q1 ((z + i) % 2)) (q1 (1 - (z + i) % 2)).1 (rw' i) then fol T rw' k (i + 1) (stepQ T q1 ((z + i) % 2) (rw' i)) (1 - (z + i) % 2) else (i, q1) := rfl
      refine EV.at ck11 (by decide) 300 [] ?_
      conv => whnf
      try dsimp only
      rw [hc]
      conv => whnf
      try dsimp only
      rw [hs1]
      refine ⟨fun h1 => absurd h1 (nI_ge (show i < m by omega) (by omega)), fun _ => ?_⟩
      conv => whnf
      try dsimp only
      refine ⟨trivial, c_mover hz hI1 ?_⟩
      refine EV.at ck11 (by decide) 300 [] ?_
      conv => whnf
      try dsimp only
      rw [hc]
      conv => whnf
      try dsimp only
      rw [ha]
      conv => whnf
      try dsimp only
      refine ⟨in_nI (show i < N by omega) (by omega), ?_⟩
      conv => whnf
      try dsimp only
      rw [mov_eq (by omega) (by omega), ci, hr2]
      refine ⟨trivial, c_takes hw hT (tMem_of fd_lo hM) hm1 hv1.1 hv1.2 (EX_of fd_lo hX) hr1 ?_⟩
      cases hb : canN T (q1 ((z + i) % 2)) (q1 (1 - (z + i) % 2)).1 (rw' i)
      · have ht : takesN T (q1 ((z + i) % 2)) (q1 (1 - (z + i) % 2)).1 (rw' i) = 0 := by unfold takesN; rw [hb]; rfl
        rw [hb] at hun
        have hun : fol T rw' (k + 1) i q1 ((z + i) % 2) = (i, q1) := hun
        rw [hf, hun] at h
        rw [ht]
        refine EV.at ck11 (by decide) 300 [] ?_
        conv => whnf
        try dsimp only
        refine ⟨fun h1 => absurd (by decide) h1, fun _ => ?_⟩
        conv => whnf
        try dsimp only
        exact ⟨trivial, h⟩
      · have ht : 0 < takesN T (q1 ((z + i) % 2)) (q1 (1 - (z + i) % 2)).1 (rw' i) := takes_pos.mpr hb
        have tl := takes_lt (q := q1 ((z + i) % 2)) (o := (q1 (1 - (z + i) % 2)).1) hT hr1
        rw [hb] at hun
        have hun : fol T rw' (k + 1) i q1 ((z + i) % 2) = fol T rw' k (i + 1) (stepQ T q1 ((z + i) % 2) (rw' i)) (1 - (z + i) % 2) := hun
        rw [show 1 - (z + i) % 2 = (z + (i + 1)) % 2 by omega] at hun
        refine EV.at ck11 (by decide) 300 [] ?_
        conv => whnf
        try dsimp only
        refine ⟨fun _ => ?_, fun h1 => absurd h1 (nI_ne0 ht (by omega))⟩
        conv => whnf
        try dsimp only
        rw [hc]
        conv => whnf
        try dsimp only
        rw [ha]
        conv => whnf
        try dsimp only
        refine ⟨in_nI (show i < N by omega) (by omega), ?_⟩
        conv => whnf
        try dsimp only
        rw [ci, hr2]
        refine ⟨trivial, c_step hw hT (tMem_of fd_lo hM) hm1 hv1 hr1 hb ?_⟩
        rw [fd_st2 hw]
        have ihj := ih (i + 1) (stepQ T q1 ((z + i) % 2) (rw' i)) (.int (nI ((z + i) % 2))) (.int (nI (takesN T (q1 ((z + i) % 2)) (q1 (1 - (z + i) % 2)).1 (rw' i)))) (Or.inr ⟨_, rfl⟩) (Or.inr ⟨_, rfl⟩) (by omega) (vQ_step hT hw hr1 hv1) (by rw [knows_step]; exact k0) (by rw [knows_step]; exact k1) (hf.trans hun)
        rw [nI_succ i] at ihj
        refine EV.at ck11 (by decide) 300 [] ?_
        conv => whnf
        try dsimp only
        exact ⟨trivial, ihj⟩
  refine MT.by ck11 (by decide) rfl (Nat.le_of_ble_eq_true rfl) rfl 300 [2] ?_
  conv => whnf
  try dsimp only
  have hl := loop m 0 q dm dm (Or.inl rfl) (Or.inl rfl) (by omega) hv rfl rfl rfl
  rw [fd_self hm] at hl
  exact ⟨trivial, hl⟩
end
