/-! Showing: the first way, what is in all ways -/
def shK (T : TN) (rw' : Nat → Nat) (m z p : Nat) (q : Nat → SD) : Nat := fstN (fun k => decide (0 < shV T rw' (m - p - 1) p q ((z + p) % 2) k)) (tC T) 0
def shQ (T : TN) (rw' : Nat → Nat) (m z : Nat) (q : Nat → SD) : Nat → (Nat → SD)
  | 0 => q
  | i + 1 => stepQ T (shQ T rw' m z q i) ((z + i) % 2) (shK T rw' m z i (shQ T rw' m z q i))
def mustP (T : TN) (rw' : Nat → Nat) (m z : Nat) (q : Nat → SD) (w k : Nat) : Bool := (q w).2.2.2.testBit k && decide (shC T rw' m 0 (setK q w (clrN (q w).2.2.2 k)) (z % 2) = 0)
def mustN (T : TN) (rw' : Nat → Nat) (m z : Nat) (q : Nat → SD) (w : Nat) : Nat := if shC T rw' m 0 q (z % 2) = 0 then 0 else orN (mustP T rw' m z q w) (tC T)
theorem sFold_pos {g : Nat → Nat} {c : Nat → Bool} : ∀ m, 0 < sFold g c m → ∃ k, k < m ∧ c k = true ∧ 0 < g k
  | 0, h => by have : 0 < 0 := h; omega
  | m + 1, h => by
    have h : 0 < sFold g c m + (if c m then g m else 0) := h
    by_cases h1 : 0 < sFold g c m
    · obtain ⟨k, a, b, c'⟩ := sFold_pos m h1
      exact ⟨k, by omega, b, c'⟩
    · cases hc : c m
      · rw [hc] at h
        have h : 0 < sFold g c m + 0 := h
        omega
      · rw [hc] at h
        have h : 0 < sFold g c m + g m := h
        exact ⟨m, by omega, hc, by omega⟩
theorem shK_ok {T : TN} {rw' : Nat → Nat} {m z p : Nat} {q : Nat → SD} (hp : p < m) (h : 0 < shC T rw' (m - p) p q ((z + p) % 2)) : shK T rw' m z p q < tC T ∧ tI T (shK T rw' m z p q) = rw' p ∧ canN T (q ((z + p) % 2)) (q (1 - (z + p) % 2)).1 (shK T rw' m z p q) = true ∧ 0 < shC T rw' (m - (p + 1)) (p + 1) (stepQ T q ((z + p) % 2) (shK T rw' m z p q)) ((z + (p + 1)) % 2) := by
  rw [show m - p = (m - p - 1) + 1 by omega] at h
  obtain ⟨k, h1, h2, h3⟩ := sFold_pos _ h
  have hs := fstN_spec (P := fun k => decide (0 < shV T rw' (m - p - 1) p q ((z + p) % 2) k)) (tC T) 0 ⟨k, by omega, by omega, by
    unfold shV
    rw [decide_eq_true_eq, h2]
    exact h3⟩
  have h4 := hs.1
  rw [decide_eq_true_eq] at h4
  have hl : shK T rw' m z p q < tC T := by have := hs.2.2; unfold shK; omega
  have h4 : 0 < shV T rw' (m - p - 1) p q ((z + p) % 2) (shK T rw' m z p q) := h4
  unfold shV at h4
  split at h4
  · rename_i hc
    rw [Bool.and_eq_true] at hc
    rw [show m - p - 1 = m - (p + 1) by omega, show 1 - (z + p) % 2 = (z + (p + 1)) % 2 by omega] at h4
    exact ⟨hl, eq_of_beq hc.1, hc.2, h4⟩
  · omega
theorem shQ_ok {T : TN} {rw' : Nat → Nat} {m z : Nat} {q : Nat → SD} (hT : tOK T) (hv : vQ T q) (h : 0 < shC T rw' m 0 q (z % 2)) : ∀ i, i ≤ m → vQ T (shQ T rw' m z q i) ∧ isBq rw' z q i (shQ T rw' m z q i) ∧ 0 < shC T rw' (m - i) i (shQ T rw' m z q i) ((z + i) % 2) ∧ ((shQ T rw' m z q i) 0).2.2.2 = (q 0).2.2.2 ∧ ((shQ T rw' m z q i) 1).2.2.2 = (q 1).2.2.2
  | 0, _ => ⟨hv, fun v hv => ⟨rfl, rfl, rfl⟩, h, rfl, rfl⟩
  | i + 1, hi => by
    obtain ⟨h1, h2, h3, h4, h5⟩ := shQ_ok hT hv h i (by omega)
    have hw2 : (z + i) % 2 < 2 := Nat.mod_lt _ (by decide)
    obtain ⟨a1, a2, a3, a4⟩ := shK_ok (show i < m by omega) h3
    exact ⟨vQ_step hT hw2 a1 h1, isBq_step h2 a2, a4, by show (stepQ T _ _ _ 0).2.2.2 = _; rw [knows_step]; exact h4, by show (stepQ T _ _ _ 1).2.2.2 = _; rw [knows_step]; exact h5⟩
theorem up_cg {I I' : Nat → Nat → Int32} {c k y : Nat} {x : Int32} (h : I y = I' y) : upI I c k x y = upI I' c k x y := by
  funext j
  unfold upI
  rw [h]
section
variable {G : GG} {d n : Nat} {I : Nat → Nat → Int32} {J : Nat → Nat → Int64} {Q : Option Value → MH → Prop} {T : TN} {q : Nat → SD}
theorem c_see {c a m : Nat} (hc : (SH n)[c]? = some (8, 2, [some a, none])) (ha : (SH n)[a]? = some (12, 40, [])) (h33 : c ≠ 33) (h34 : a ≠ 34) (h3 : a ≠ 33) (hm : m ≤ 8) (hI : I c 1 = nI m) (h : ∀ I', I' 33 3 = nI m → (∀ i, i < m → I' 34 i = I a i) → (∀ r, r ≠ 33 → r ≠ 34 → I' r = I r) → Q none (SH n, I', J)) : MT G (d + 1) 58 [.ref 33, .ref c] (SH n, I, J) Q := by
  have cm : (nI m).toNatClampNeg = m := nI_clamp (by omega)
  have e : jmin (nI m) 8 = nI m := by
    unfold jmin
    rw [if_neg (show ¬ (8 : Int32) < nI m from nI_nlt (a := 8) (b := m) hm (by decide))]
  have r3 : upI I 33 3 (nI m) 33 3 = nI m := rfl
  refine MT.by ck58 (by decide) rfl (Nat.le_of_ble_eq_true rfl) rfl 300 [] ?_
  conv => whnf
  try dsimp only
  rw [hc]
  conv => whnf
  try dsimp only
  rw [hI, e]
  rw [hc]
  conv => whnf
  try dsimp only
  rw [ha]
  conv => whnf
  try dsimp only
  rw [r3, cm]
  refine ⟨⟨by decide, by decide, nI_pos (by omega), by show 0 + m ≤ 40; omega, by show 0 + m ≤ 8; omega⟩, ?_⟩
  conv => whnf
  try dsimp only
  refine ⟨trivial, h _ ?_ (fun i hi => ?_) (fun r h1 h2 => ?_)⟩
  · rw [cp_oth (by decide)]
    rfl
  · show cpI _ a 34 0 0 m 34 i = _
    rw [cp_in hi, upI_oth h3]
  · rw [cp_oth h2, upI_oth h1]
theorem c_firstAt {rw' : Nat → Nat} {z m p : Nat} {q0 : Nat → SD} (hT : tOK T) (hS : shOK T rw' m z) (hp : p < m) (hM : tMem T I) (hX : EX I) (hm : fMem q I) (hv : vQ T q) (hB : isBq rw' z q0 p q) (hs : shM rw' m z I) (hW : MW T rw' z m q0 I) (h : ∀ I', (∀ x, x ≠ 35 → I' x = I x) → MW T rw' z m q0 I' → Q (some (.int (nI (shK T rw' m z p q)))) (SH n, I', J)) : MT G (d + 30) 64 [.ref 33, .int (nI p)] (SH n, I, J) Q := by
  have h12 : tC T ≤ 12 := hT.2.2.1
  have S1 := hS.1
  have hC : I 6 3 = nI (tC T) := hM.2.2.1
  unfold shK at h
  generalize hP : (fun k => decide (0 < shV T rw' (m - p - 1) p q ((z + p) % 2) k)) = P at h
  have loop : ∀ k j (I1 : Nat → Nat → Int32), j + k = tC T → fstN P (tC T) 0 = fstN P k j → (∀ y, y ≠ 35 → I1 y = I y) → MW T rw' z m q0 I1 → EV G 64 (d + 29) 0 0 2 [.ref 33, .int (nI p), .int (nI j)] [] (SH n, I1, J) Q := by
    intro k
    induction k with
    | zero =>
      intro j I1 hj hf a1 a2
      have hj : j = tC T := hj
      have hq := h I1 a1 a2
      rw [hf] at hq
      refine EV.at ck64 (by decide) 300 [] ?_
      conv => whnf
      try dsimp only
      rw [a1 6 (by decide), hC]
      refine pk_le (tC T) j (fun _ => ?_) (fun h1 => absurd h1 (by omega))
      conv => whnf
      try dsimp only
      exact ⟨trivial, hq⟩
    | succ k ih =>
      intro j I1 hj hf a1 a2
      have hjc : j < tC T := by omega
      have un : fstN P (k + 1) j = if P j then j else fstN P k (j + 1) := rfl
      have hPj : P j = decide (0 < shV T rw' (m - p - 1) p q ((z + p) % 2) j) := by rw [← hP]
      have hl : shV T rw' (m - p - 1) p q ((z + p) % 2) j < 2 ^ 31 := by
        unfold shV
        split
        · exact shC_lt h12 (by omega)
        · decide
      refine EV.at ck64 (by decide) 300 [] ?_
      conv => whnf
      try dsimp only
      rw [a1 6 (by decide), hC]
      refine pk_le (tC T) j (fun h1 => absurd h1 (by omega)) (fun _ => ?_)
      conv => whnf
      try dsimp only
      refine ⟨trivial, WBy_of (r := m - p - 1) hT hS (WFr_all hT hS _) (d + 29) _ _ _ p j q (by omega) (by omega) hjc (tMem_of (fun y hy => a1 y (by omega)) hM) (EX_of (fun y hy => a1 y (by omega)) hX) ⟨sMem_oth hm.1 (a1 _ (by decide)), sMem_oth hm.2 (a1 _ (by decide))⟩ hv hB (hs.of (a1 _ (by decide)) (a1 _ (by decide)) (a1 _ (by decide))) a2 (fun I2 b1 b2 => ?_)⟩
      have b3 : ∀ y, y ≠ 35 → I2 y = I y := fun y hy => (b1 y hy).trans (a1 y hy)
      by_cases h0 : 0 < shV T rw' (m - p - 1) p q ((z + p) % 2) j
      · rw [hPj, decide_eq_true h0] at un
        have hq := h I2 b3 b2
        rw [hf, un] at hq
        refine EV.at ck64 (by decide) 300 [] ?_
        conv => whnf
        try dsimp only
        refine ⟨fun z => absurd z (nI_nle h0 hl), fun _ => ?_⟩
        conv => whnf
        try dsimp only
        exact ⟨trivial, hq⟩
      · rw [hPj, decide_eq_false h0] at un
        have ihj := ih (j + 1) I2 (by omega) (hf.trans un) b3 b2
        rw [nI_succ j] at ihj
        have h00 : shV T rw' (m - p - 1) p q ((z + p) % 2) j = 0 := by omega
        rw [h00]
        refine EV.at ck64 (by decide) 300 [] ?_
        conv => whnf
        try dsimp only
        first | refine ⟨fun h1 => absurd h1 (by decide), fun _ => ?_⟩ | refine ⟨fun _ => ?_, fun h1 => absurd (by decide) h1⟩ | refine ⟨fun h1 => absurd (by decide) h1, fun _ => ?_⟩ | refine ⟨fun _ => ?_, fun h1 => absurd h1 (by decide)⟩
        conv => whnf
        try dsimp only
        exact ⟨trivial, ihj⟩
  refine MT.by ck64 (by decide) rfl (Nat.le_of_ble_eq_true rfl) rfl 300 [2] ?_
  conv => whnf
  try dsimp only
  exact ⟨trivial, loop (tC T) 0 I (by omega) rfl (fun _ _ => rfl) hW⟩
theorem c_firstWay {rw' : Nat → Nat} {z m c a : Nat} (hT : tOK T) (hS : shOK T rw' m z) (hM : tMem T I) (hX : EX I) (hm : fMem q I) (hv : vQ T q) (hs : shM rw' m z I) (hW : MW T rw' z m q I) (h0 : 0 < shC T rw' m 0 q (z % 2)) (hc : (SH n)[c]? = some (8, 2, [some a, none])) (ha : (SH n)[a]? = some (12, 40, [])) (ha4 : 35 < a) (hc4 : 35 < c) (hca : c ≠ a) (h : ∀ I', I' c 1 = nI m → (∀ i, i < m → I' a i = nI (shK T rw' m z i (shQ T rw' m z q i))) → (∀ r, r ≠ c → r ≠ a → r ≠ 35 → I' r = I r) → Q none (SH n, I', J)) : MT G (d + 50) 63 [.ref 33, .ref c] (SH n, I, J) Q := by
  have s0 := sS_of hT hv.1
  have s1 := sS_of hT hv.2
  obtain ⟨S1, S2, S3⟩ := id hS
  have lq := shQ_ok hT hv h0
  have loop : ∀ k i (I1 : Nat → Nat → Int32) (x4 : Value), i + k = m → I1 c 1 = nI m → (∀ j, j < i → I1 a j = nI (shK T rw' m z j (shQ T rw' m z q j))) → (∀ r, r ≠ c → r ≠ a → r ≠ 35 → I1 r = fdI I (shQ T rw' m z q i) r) → MW T rw' z m q I1 → EV G 63 (d + 49) 0 0 19 [.ref 33, .ref c, .int (nI (packF q)), .int (nI i), x4] [] (SH n, I1, J) Q := by
    intro k
    induction k with
    | zero =>
      intro i I1 x4 hi h1 h2 h3 h4
      have hi : i = m := hi
      subst hi
      refine EV.at ck63 (by decide) 300 [] ?_
      conv => whnf
      try dsimp only
      rw [h3 33 (by omega) (by omega) (by decide), fd_oth (by decide) (by decide), hs.1]
      refine pk_le i i (fun _ => ?_) (fun h1 => absurd h1 (by omega))
      conv => whnf
      try dsimp only
      refine ⟨trivial, c_unpackF s0 s1 ?_⟩
      refine EV.at ck63 (by decide) 300 [] ?_
      conv => whnf
      try dsimp only
      refine ⟨trivial, h _ (by rw [fd_oth (by omega) (by omega)]; exact h1) (fun j hj => by rw [fd_oth (by omega) (by omega)]; exact h2 j hj) (fun r hr hr2 hr3 => ?_)⟩
      have hx : fdI (fdI I (shQ T rw' i z q i)) q r = I r := by rw [fd_fd, fd_self hm]
      rw [← hx]
      exact fd_row (h3 r hr hr2 hr3)
    | succ k ih =>
      intro i I1 x4 hi h1 h2 h3 h4
      obtain ⟨g1, g2, g3, g4, g5⟩ := lq i (by omega)
      have hw2 : (z + i) % 2 < 2 := Nat.mod_lt _ (by decide)
      obtain ⟨g6, g7, g8, g9⟩ := shK_ok (show i < m by omega) g3
      have ci : (nI i).toNatClampNeg = i := nI_clamp (by omega)
      have lo1 : ∀ r, r < 12 → I1 r = I r := fun r hr => by rw [h3 r (by omega) (by omega) (by omega)]; exact fd_lo r hr
      have lo0 : ∀ r, r ≠ 14 → r ≠ 15 → r < 35 → I1 r = I r := fun r a1 a2 a3 => by rw [h3 r (by omega) (by omega) (by omega)]; exact fd_oth a1 a2
      have fm1 : fMem (shQ T rw' m z q i) I1 := ⟨sMem_oth (fMem_fd hm g4 g5).1 (h3 14 (by omega) (by omega) (by omega)), sMem_oth (fMem_fd hm g4 g5).2 (h3 15 (by omega) (by omega) (by omega))⟩
      have hs1 : shM rw' m z I1 := hs.of (lo0 33 (by decide) (by decide) (by decide)) (lo0 34 (by decide) (by decide) (by decide)) (lo0 12 (by decide) (by decide) (by decide))
      refine EV.at ck63 (by decide) 300 [] ?_
      conv => whnf
      try dsimp only
      rw [hs1.1]
      refine pk_le m i (fun h1 => absurd h1 (by omega)) (fun _ => ?_)
      conv => whnf
      try dsimp only
      refine ⟨trivial, c_firstAt (d := d + 19) hT hS (show i < m by omega) (tMem_of lo1 hM) (EX_of lo1 hX) fm1 g1 g2 hs1 h4 (fun I2 b1 b2 => ?_)⟩
      generalize hkk : shK T rw' m z i (shQ T rw' m z q i) = kk at g6 g7 g8 g9
      refine EV.at ck63 (by decide) 300 [] ?_
      conv => whnf
      try dsimp only
      rw [hc]
      conv => whnf
      try dsimp only
      rw [ha]
      conv => whnf
      try dsimp only
      refine ⟨in_nI (show i < 40 by omega) (by decide), ?_⟩
      conv => whnf
      try dsimp only
      rw [ci]
      have b4 : ∀ r, r ≠ a → r ≠ 35 → upI I2 a i (nI kk) r = I1 r := fun r hr hr2 => by rw [upI_oth hr]; exact b1 r hr2
      have lo3 : ∀ r, r < 12 → upI I2 a i (nI kk) r = I r := fun r hr => by rw [b4 r (by omega) (by omega)]; exact lo1 r hr
      have fm2 : fMem (shQ T rw' m z q i) (upI I2 a i (nI kk)) := ⟨sMem_oth fm1.1 (b4 14 (by omega) (by omega)), sMem_oth fm1.2 (b4 15 (by omega) (by omega))⟩
      have hz2 : upI I2 a i (nI kk) 12 5 = nI z := by rw [b4 12 (by omega) (by omega)]; exact hs1.2.2
      refine ⟨trivial, c_whoAt S2 (by omega) hz2 ?_⟩
      refine EV.at ck63 (by decide) 300 [] ?_
      conv => whnf
      try dsimp only
      refine ⟨trivial, c_whoAt S2 (by omega) hz2 ?_⟩
      refine EV.at ck63 (by decide) 300 [] ?_
      conv => whnf
      try dsimp only
      refine ⟨trivial, c_takes hw2 hT (tMem_of lo3 hM) fm2 g1.1 g1.2 (EX_of lo3 hX) g6 ?_⟩
      refine EV.at ck63 (by decide) 300 [] ?_
      conv => whnf
      try dsimp only
      refine ⟨trivial, c_step hw2 hT (tMem_of lo3 hM) fm2 g1 g6 g8 ?_⟩
      refine EV.at ck63 (by decide) 300 [] ?_
      conv => whnf
      try dsimp only
      have so : ∀ r, 15 < r → stI T (upI I2 a i (nI kk)) (shQ T rw' m z q i) ((z + i) % 2) kk r = upI I2 a i (nI kk) r := fun r hr => sd_oth (by omega)
      have ihj := ih (i + 1) (stI T (upI I2 a i (nI kk)) (shQ T rw' m z q i) ((z + i) % 2) kk) (.int (nI kk)) (by omega) ?_ ?_ ?_ ?_
      · rw [nI_succ i] at ihj
        exact ⟨trivial, ihj⟩
      · rw [so c (by omega), upI_oth hca, b1 c (by omega)]
        exact h1
      · intro j hj
        rw [so a (by omega)]
        by_cases hji : j = i
        · subst hji
          rw [hkk, up_same]
        · rw [up_ne hji, b1 a (by omega)]
          exact h2 j (by omega)
      · intro r hr hr2 hr3
        show _ = fdI I (stepQ T (shQ T rw' m z q i) ((z + i) % 2) (shK T rw' m z i (shQ T rw' m z q i))) r
        rw [hkk, ← fd_st2 hw2]
        unfold stI
        exact sd_row (by rw [b4 r hr2 hr3]; exact h3 r hr hr2 hr3)
      · exact b2.of (by rw [so 35 (by decide), upI_oth (by omega)])
  refine MT.by ck63 (by decide) rfl (Nat.le_of_ble_eq_true rfl) rfl 300 [19] ?_
  conv => whnf
  try dsimp only
  refine ⟨trivial, c_packedF hm s0 s1 ?_⟩
  refine EV.at ck63 (by decide) 300 [19] ?_
  conv => whnf
  try dsimp only
  rw [hs.1]
  rw [hc]
  conv => whnf
  try dsimp only
  refine ⟨trivial, c_fillAnew hc ha (show m ≤ 40 by omega) (by decide) ?_⟩
  refine EV.at ck63 (by decide) 300 [19] ?_
  conv => whnf
  try dsimp only
  have hfl : ∀ r, r ≠ a → flI (upI I c 1 (nI m)) a 0 m 0 r = upI I c 1 (nI m) r := fun r hr => by funext k; unfold flI; rw [if_neg (fun z => hr z.1)]
  refine ⟨trivial, loop m 0 _ dm (by omega) ?_ (fun j hj => absurd hj (by omega)) (fun r hr hr2 hr3 => ?_) (hW.of (by rw [hfl 35 (by omega), upI_oth (by omega)]))⟩
  · rw [hfl c hca, up_same]
  · show _ = fdI I q r
    rw [hfl r hr2, upI_oth hr, fd_self hm]
theorem c_inAll0 {rw' : Nat → Nat} {z m : Nat} (hT : tOK T) (hS : shOK T rw' m z) (hM : tMem T I) (hX : EX I) (hm : fMem q I) (hv : vQ T q) (hs : shM rw' m z I) (h : ∀ I', (∀ x, x ≠ 35 → I' x = I x) → Q (some (.int (nI (mustN T rw' m z q 0)))) (SH n, I', J)) : MT G (d + 40) 65 [.ref 33, .int (nI 0)] (SH n, I, J) Q := by
  have hm0 : sMem 14 (q 0) I := hm.1
  have t12 : tC T ≤ 12 := hT.2.2.1
  have S1 := hS.1
  have hC : I 6 3 = nI (tC T) := hM.2.2.1
  have hkn := hv.1.2.2.2
  have hbd : ∀ q', shC T rw' m 0 q' (z % 2) < 2 ^ 31 := fun q' => shC_lt t12 S1
  refine MT.by ck65 (by decide) rfl (Nat.le_of_ble_eq_true rfl) rfl 300 [30] ?_
  conv => whnf
  try dsimp only
  refine ⟨trivial, c_countWays (d := d + 9) hT hS hM hX hm hv hs (fun I0 a1 a2 => ?_)⟩
  by_cases h0 : shC T rw' m 0 q (z % 2) = 0
  · have hq := h I0 a1
    unfold mustN at hq
    rw [if_pos h0] at hq
    rw [h0]
    refine EV.at ck65 (by decide) 300 [30] ?_
    conv => whnf
    try dsimp only
    first | refine ⟨fun h1 => absurd h1 (by decide), fun _ => ?_⟩ | refine ⟨fun _ => ?_, fun h1 => absurd (by decide) h1⟩ | refine ⟨fun h1 => absurd (by decide) h1, fun _ => ?_⟩ | refine ⟨fun _ => ?_, fun h1 => absurd h1 (by decide)⟩
    conv => whnf
    try dsimp only
    exact ⟨trivial, hq⟩
  have hL : mustN T rw' m z q 0 = orN (mustP T rw' m z q 0) (tC T) := by unfold mustN; rw [if_neg h0]
  rw [hL] at h
  have loop : ∀ k v (x : Int32) (I1 : Nat → Nat → Int32), v + k = tC T → (∀ y, y ≠ 35 → I1 y = upI I 14 3 x y) → EV G 65 (d + 39) 0 0 30 [.ref 33, .int (nI 0), .ref 14, .int (nI (q 0).2.2.2), .int (nI (orN (mustP T rw' m z q 0) v)), .int (nI v)] [] (SH n, I1, J) Q := by
    intro k
    induction k with
    | zero =>
      intro v x I1 hvk b1
      have hvk : v = tC T := hvk
      have r6 : I1 6 3 = nI (tC T) := by rw [b1 6 (by decide), upI_oth (by decide)]; exact hC
      have hq := h (upI I1 14 3 (I 14 3)) (fun y hy => by rw [up_cg (b1 y hy), up_back])
      rw [← hvk] at hq
      refine EV.at ck65 (by decide) 300 [] ?_
      conv => whnf
      try dsimp only
      rw [r6]
      refine pk_le (tC T) v (fun _ => ?_) (fun h1 => absurd h1 (by omega))
      conv => whnf
      try dsimp only
      rw [← hm0.2.2.2]
      exact ⟨trivial, hq⟩
    | succ k ih =>
      intro v x I1 hvk b1
      have r6 : I1 6 3 = nI (tC T) := by rw [b1 6 (by decide), upI_oth (by decide)]; exact hC
      have hun : orN (mustP T rw' m z q 0) (v + 1) = orN (mustP T rw' m z q 0) v ||| (if mustP T rw' m z q 0 v then 2 ^ v else 0) := rfl
      have hbit := nu_bit (x := (q 0).2.2.2) (j := v) (by omega) (by omega)
      have hset : clrN (q 0).2.2.2 v < 4096 := clrN_lt (b := 12) hkn (by omega)
      have b2 : ∀ y, y ≠ 35 → upI I1 14 3 (nI (clrN (q 0).2.2.2 v)) y = upI I 14 3 (nI (clrN (q 0).2.2.2 v)) y := fun y hy => by rw [up_cg (b1 y hy), up_up]
      have next : ∀ (I2 : Nat → Nat → Int32), (∀ y, y ≠ 35 → I2 y = upI I 14 3 (nI (clrN (q 0).2.2.2 v)) y) → mustP T rw' m z q 0 v = false → EV G 65 (d + 39) 0 0 80 [.ref 33, .int (nI 0), .ref 14, .int (nI (q 0).2.2.2), .int (nI (orN (mustP T rw' m z q 0) v)), .int (nI v)] [.int (nI (orN (mustP T rw' m z q 0) v))] (SH n, I2, J) Q := by
        intro I2 c1 c2
        rw [c2] at hun
        have ihj := ih (v + 1) (nI (clrN (q 0).2.2.2 v)) I2 (by omega) c1
        have e5 : nI (orN (mustP T rw' m z q 0) v) ||| 0 = nI (orN (mustP T rw' m z q 0) (v + 1)) := by rw [hun]; exact fa_or _ 0
        rw [nI_succ v, ← e5] at ihj
        refine EV.at ck65 (by decide) 300 [] ?_
        conv => whnf
        try dsimp only
        exact ⟨trivial, ihj⟩
      refine EV.at ck65 (by decide) 300 [80] ?_
      conv => whnf
      try dsimp only
      rw [r6]
      refine pk_le (tC T) v (fun h1 => absurd h1 (by omega)) (fun _ => ?_)
      conv => whnf
      try dsimp only
      rw [nu_clr (show v < 31 by omega)]
      refine ⟨trivial, c_bit ?_⟩
      rw [hbit]
      cases hb : (q 0).2.2.2.testBit v
      · have hn := next _ b2 (by unfold mustP; rw [hb]; rfl)
        refine EV.at ck65 (by decide) 300 [80] ?_
        conv => whnf
        try dsimp only
        first | refine ⟨fun h1 => absurd h1 (by decide), fun _ => ?_⟩ | refine ⟨fun _ => ?_, fun h1 => absurd (by decide) h1⟩ | refine ⟨fun h1 => absurd (by decide) h1, fun _ => ?_⟩ | refine ⟨fun _ => ?_, fun h1 => absurd h1 (by decide)⟩
        conv => whnf
        try dsimp only
        exact ⟨trivial, hn⟩
      refine EV.at ck65 (by decide) 300 [80] ?_
      conv => whnf
      try dsimp only
      first | refine ⟨fun h1 => absurd h1 (by decide), fun _ => ?_⟩ | refine ⟨fun _ => ?_, fun h1 => absurd (by decide) h1⟩ | refine ⟨fun h1 => absurd (by decide) h1, fun _ => ?_⟩ | refine ⟨fun _ => ?_, fun h1 => absurd h1 (by decide)⟩
      conv => whnf
      try dsimp only
      have hlo : ∀ r, r ≠ 35 → r ≠ 14 → upI I1 14 3 (nI (clrN (q 0).2.2.2 v)) r = I r := fun r hr h2 => by rw [b2 r hr]; exact upI_oth h2
      refine ⟨trivial, c_countWays (q := setK q 0 (clrN (q 0).2.2.2 v)) (d := d + 9) hT hS (tMem_of (fun r hr => hlo r (by omega) (by omega)) hM) (EX_of (fun r hr => hlo r (by omega) (by omega)) hX) ⟨sMem_oth (fMem_setK0 hm).1 (b2 14 (by decide)), sMem_oth (fMem_setK0 hm).2 (b2 15 (by decide))⟩ (vQ_setK0 hv hset) (hs.of (hlo 33 (by decide) (by decide)) (hlo 34 (by decide) (by decide)) (hlo 12 (by decide) (by decide))) (fun I2 c1 _ => ?_)⟩
      have c3 : ∀ y, y ≠ 35 → I2 y = upI I 14 3 (nI (clrN (q 0).2.2.2 v)) y := fun y hy => (c1 y hy).trans (b2 y hy)
      by_cases h1 : shC T rw' m 0 (setK q 0 (clrN (q 0).2.2.2 v)) (z % 2) = 0
      · have hp : mustP T rw' m z q 0 v = true := by unfold mustP; rw [hb, decide_eq_true h1]; rfl
        rw [hp] at hun
        have ihj := ih (v + 1) (nI (clrN (q 0).2.2.2 v)) I2 (by omega) c3
        have e5 : nI (orN (mustP T rw' m z q 0) v) ||| jshl 1 (nI v) = nI (orN (mustP T rw' m z q 0) (v + 1)) := by rw [hun, nu_one (show v < 31 by omega)]; exact fa_or _ _
        rw [nI_succ v, ← e5] at ihj
        rw [h1]
        refine EV.at ck65 (by decide) 300 [80] ?_
        conv => whnf
        try dsimp only
        first | refine ⟨fun h1 => absurd h1 (by decide), fun _ => ?_⟩ | refine ⟨fun _ => ?_, fun h1 => absurd (by decide) h1⟩ | refine ⟨fun h1 => absurd (by decide) h1, fun _ => ?_⟩ | refine ⟨fun _ => ?_, fun h1 => absurd h1 (by decide)⟩
        conv => whnf
        try dsimp only
        exact ⟨trivial, ihj⟩
      · have hn := next I2 c3 (by unfold mustP; rw [hb, decide_eq_false h1]; rfl)
        have hb0 := hbd (setK q 0 (clrN (q 0).2.2.2 v))
        refine EV.at ck65 (by decide) 300 [80] ?_
        conv => whnf
        try dsimp only
        refine ⟨fun _ => ?_, fun z => absurd z (nI_ne0 (by omega) hb0)⟩
        conv => whnf
        try dsimp only
        exact ⟨trivial, hn⟩
  have hb0 := hbd q
  refine EV.at ck65 (by decide) 300 [30] ?_
  conv => whnf
  try dsimp only
  refine ⟨fun _ => ?_, fun z => absurd z (nI_ne0 (by omega) hb0)⟩
  conv => whnf
  try dsimp only
  refine ⟨by unfold vp_in; decide, ?_⟩
  conv => whnf
  try dsimp only
  have hl := loop (tC T) 0 (I 14 3) I0 (by omega) (fun y hy => by rw [up_self]; exact a1 y hy)
  rw [a1 14 (by decide), hm0.2.2.2]
  exact ⟨trivial, hl⟩
theorem c_inAll1 {rw' : Nat → Nat} {z m : Nat} (hT : tOK T) (hS : shOK T rw' m z) (hM : tMem T I) (hX : EX I) (hm : fMem q I) (hv : vQ T q) (hs : shM rw' m z I) (h : ∀ I', (∀ x, x ≠ 35 → I' x = I x) → Q (some (.int (nI (mustN T rw' m z q 1)))) (SH n, I', J)) : MT G (d + 40) 65 [.ref 33, .int (nI 1)] (SH n, I, J) Q := by
  have hm0 : sMem 15 (q 1) I := hm.2
  have t12 : tC T ≤ 12 := hT.2.2.1
  have S1 := hS.1
  have hC : I 6 3 = nI (tC T) := hM.2.2.1
  have hkn := hv.2.2.2.2
  have hbd : ∀ q', shC T rw' m 0 q' (z % 2) < 2 ^ 31 := fun q' => shC_lt t12 S1
  refine MT.by ck65 (by decide) rfl (Nat.le_of_ble_eq_true rfl) rfl 300 [30] ?_
  conv => whnf
  try dsimp only
  refine ⟨trivial, c_countWays (d := d + 9) hT hS hM hX hm hv hs (fun I0 a1 a2 => ?_)⟩
  by_cases h0 : shC T rw' m 0 q (z % 2) = 0
  · have hq := h I0 a1
    unfold mustN at hq
    rw [if_pos h0] at hq
    rw [h0]
    refine EV.at ck65 (by decide) 300 [30] ?_
    conv => whnf
    try dsimp only
    first | refine ⟨fun h1 => absurd h1 (by decide), fun _ => ?_⟩ | refine ⟨fun _ => ?_, fun h1 => absurd (by decide) h1⟩ | refine ⟨fun h1 => absurd (by decide) h1, fun _ => ?_⟩ | refine ⟨fun _ => ?_, fun h1 => absurd h1 (by decide)⟩
    conv => whnf
    try dsimp only
    exact ⟨trivial, hq⟩
  have hL : mustN T rw' m z q 1 = orN (mustP T rw' m z q 1) (tC T) := by unfold mustN; rw [if_neg h0]
  rw [hL] at h
  have loop : ∀ k v (x : Int32) (I1 : Nat → Nat → Int32), v + k = tC T → (∀ y, y ≠ 35 → I1 y = upI I 15 3 x y) → EV G 65 (d + 39) 0 0 30 [.ref 33, .int (nI 1), .ref 15, .int (nI (q 1).2.2.2), .int (nI (orN (mustP T rw' m z q 1) v)), .int (nI v)] [] (SH n, I1, J) Q := by
    intro k
    induction k with
    | zero =>
      intro v x I1 hvk b1
      have hvk : v = tC T := hvk
      have r6 : I1 6 3 = nI (tC T) := by rw [b1 6 (by decide), upI_oth (by decide)]; exact hC
      have hq := h (upI I1 15 3 (I 15 3)) (fun y hy => by rw [up_cg (b1 y hy), up_back])
      rw [← hvk] at hq
      refine EV.at ck65 (by decide) 300 [] ?_
      conv => whnf
      try dsimp only
      rw [r6]
      refine pk_le (tC T) v (fun _ => ?_) (fun h1 => absurd h1 (by omega))
      conv => whnf
      try dsimp only
      rw [← hm0.2.2.2]
      exact ⟨trivial, hq⟩
    | succ k ih =>
      intro v x I1 hvk b1
      have r6 : I1 6 3 = nI (tC T) := by rw [b1 6 (by decide), upI_oth (by decide)]; exact hC
      have hun : orN (mustP T rw' m z q 1) (v + 1) = orN (mustP T rw' m z q 1) v ||| (if mustP T rw' m z q 1 v then 2 ^ v else 0) := rfl
      have hbit := nu_bit (x := (q 1).2.2.2) (j := v) (by omega) (by omega)
      have hset : clrN (q 1).2.2.2 v < 4096 := clrN_lt (b := 12) hkn (by omega)
      have b2 : ∀ y, y ≠ 35 → upI I1 15 3 (nI (clrN (q 1).2.2.2 v)) y = upI I 15 3 (nI (clrN (q 1).2.2.2 v)) y := fun y hy => by rw [up_cg (b1 y hy), up_up]
      have next : ∀ (I2 : Nat → Nat → Int32), (∀ y, y ≠ 35 → I2 y = upI I 15 3 (nI (clrN (q 1).2.2.2 v)) y) → mustP T rw' m z q 1 v = false → EV G 65 (d + 39) 0 0 80 [.ref 33, .int (nI 1), .ref 15, .int (nI (q 1).2.2.2), .int (nI (orN (mustP T rw' m z q 1) v)), .int (nI v)] [.int (nI (orN (mustP T rw' m z q 1) v))] (SH n, I2, J) Q := by
        intro I2 c1 c2
        rw [c2] at hun
        have ihj := ih (v + 1) (nI (clrN (q 1).2.2.2 v)) I2 (by omega) c1
        have e5 : nI (orN (mustP T rw' m z q 1) v) ||| 0 = nI (orN (mustP T rw' m z q 1) (v + 1)) := by rw [hun]; exact fa_or _ 0
        rw [nI_succ v, ← e5] at ihj
        refine EV.at ck65 (by decide) 300 [] ?_
        conv => whnf
        try dsimp only
        exact ⟨trivial, ihj⟩
      refine EV.at ck65 (by decide) 300 [80] ?_
      conv => whnf
      try dsimp only
      rw [r6]
      refine pk_le (tC T) v (fun h1 => absurd h1 (by omega)) (fun _ => ?_)
      conv => whnf
      try dsimp only
      rw [nu_clr (show v < 31 by omega)]
      refine ⟨trivial, c_bit ?_⟩
      rw [hbit]
      cases hb : (q 1).2.2.2.testBit v
      · have hn := next _ b2 (by unfold mustP; rw [hb]; rfl)
        refine EV.at ck65 (by decide) 300 [80] ?_
        conv => whnf
        try dsimp only
        first | refine ⟨fun h1 => absurd h1 (by decide), fun _ => ?_⟩ | refine ⟨fun _ => ?_, fun h1 => absurd (by decide) h1⟩ | refine ⟨fun h1 => absurd (by decide) h1, fun _ => ?_⟩ | refine ⟨fun _ => ?_, fun h1 => absurd h1 (by decide)⟩
        conv => whnf
        try dsimp only
        exact ⟨trivial, hn⟩
      refine EV.at ck65 (by decide) 300 [80] ?_
      conv => whnf
      try dsimp only
      first | refine ⟨fun h1 => absurd h1 (by decide), fun _ => ?_⟩ | refine ⟨fun _ => ?_, fun h1 => absurd (by decide) h1⟩ | refine ⟨fun h1 => absurd (by decide) h1, fun _ => ?_⟩ | refine ⟨fun _ => ?_, fun h1 => absurd h1 (by decide)⟩
      conv => whnf
      try dsimp only
      have hlo : ∀ r, r ≠ 35 → r ≠ 15 → upI I1 15 3 (nI (clrN (q 1).2.2.2 v)) r = I r := fun r hr h2 => by rw [b2 r hr]; exact upI_oth h2
      refine ⟨trivial, c_countWays (q := setK q 1 (clrN (q 1).2.2.2 v)) (d := d + 9) hT hS (tMem_of (fun r hr => hlo r (by omega) (by omega)) hM) (EX_of (fun r hr => hlo r (by omega) (by omega)) hX) ⟨sMem_oth (fMem_setK1 hm).1 (b2 14 (by decide)), sMem_oth (fMem_setK1 hm).2 (b2 15 (by decide))⟩ (vQ_setK1 hv hset) (hs.of (hlo 33 (by decide) (by decide)) (hlo 34 (by decide) (by decide)) (hlo 12 (by decide) (by decide))) (fun I2 c1 _ => ?_)⟩
      have c3 : ∀ y, y ≠ 35 → I2 y = upI I 15 3 (nI (clrN (q 1).2.2.2 v)) y := fun y hy => (c1 y hy).trans (b2 y hy)
      by_cases h1 : shC T rw' m 0 (setK q 1 (clrN (q 1).2.2.2 v)) (z % 2) = 0
      · have hp : mustP T rw' m z q 1 v = true := by unfold mustP; rw [hb, decide_eq_true h1]; rfl
        rw [hp] at hun
        have ihj := ih (v + 1) (nI (clrN (q 1).2.2.2 v)) I2 (by omega) c3
        have e5 : nI (orN (mustP T rw' m z q 1) v) ||| jshl 1 (nI v) = nI (orN (mustP T rw' m z q 1) (v + 1)) := by rw [hun, nu_one (show v < 31 by omega)]; exact fa_or _ _
        rw [nI_succ v, ← e5] at ihj
        rw [h1]
        refine EV.at ck65 (by decide) 300 [80] ?_
        conv => whnf
        try dsimp only
        first | refine ⟨fun h1 => absurd h1 (by decide), fun _ => ?_⟩ | refine ⟨fun _ => ?_, fun h1 => absurd (by decide) h1⟩ | refine ⟨fun h1 => absurd (by decide) h1, fun _ => ?_⟩ | refine ⟨fun _ => ?_, fun h1 => absurd h1 (by decide)⟩
        conv => whnf
        try dsimp only
        exact ⟨trivial, ihj⟩
      · have hn := next I2 c3 (by unfold mustP; rw [hb, decide_eq_false h1]; rfl)
        have hb0 := hbd (setK q 1 (clrN (q 1).2.2.2 v))
        refine EV.at ck65 (by decide) 300 [80] ?_
        conv => whnf
        try dsimp only
        refine ⟨fun _ => ?_, fun z => absurd z (nI_ne0 (by omega) hb0)⟩
        conv => whnf
        try dsimp only
        exact ⟨trivial, hn⟩
  have hb0 := hbd q
  refine EV.at ck65 (by decide) 300 [30] ?_
  conv => whnf
  try dsimp only
  refine ⟨fun _ => ?_, fun z => absurd z (nI_ne0 (by omega) hb0)⟩
  conv => whnf
  try dsimp only
  refine ⟨by unfold vp_in; decide, ?_⟩
  conv => whnf
  try dsimp only
  have hl := loop (tC T) 0 (I 15 3) I0 (by omega) (fun y hy => by rw [up_self]; exact a1 y hy)
  rw [a1 15 (by decide), hm0.2.2.2]
  exact ⟨trivial, hl⟩
end
