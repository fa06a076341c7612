/-! the reference's search: scores -/
def scI (L : Nat) : Int32 := if L % 2 = 1 then nI (100 - L) else -(nI (100 - L))
def wnI (P : Nat → Bool) : Nat → Int32
  | 0 => -9
  | k + 1 => if P k = true ∧ wnI P k = -9 then nI k else wnI P k
def bbI (g : Nat → Nat) (can : Nat → Bool) : Nat → Int32
  | 0 => -9
  | k + 1 => if can k = true ∧ scI (eFold g can k) < scI (1 + g k) then nI k else bbI g can k
theorem sc_by : ∀ L, L < 11 → (if scI L < 0 then -(scI L) - 1 else -(scI L) + 1) = scI (1 + L) := by decide +kernel
theorem sc_bet : ∀ a, a < 12 → ∀ b, b < 12 → (if scI a < scI b then scI b else scI a) = scI (betN a b) := by decide +kernel
theorem sc_pos : ∀ L, L < 12 → (0 < scI L ↔ L % 2 = 1) := by decide +kernel
theorem sc_lt : ∀ a, a < 12 → ∀ b, b < 12 → (scI a < scI b → betN a b = b) ∧ (¬ scI a < scI b → betN a b = a) := by decide +kernel
theorem sc_tr : ∀ a, a < 12 → ∀ b, b < 12 → ∀ c, c < 12 → ¬ scI a < scI b → ¬ scI (betN a c) < scI b := by decide +kernel
theorem sc_nb : ∀ a, a < 12 → ∀ b, b < 12 → ¬ scI (betN a b) < scI b := by decide +kernel
theorem sc_ne : ∀ a, a < 12 → ∀ b, b < 12 → scI a < scI b → a ≠ b := by decide +kernel
theorem sc_0 : ∀ b, b < 12 → 1 ≤ b → scI 0 < scI b := by decide +kernel
theorem wn_stay {P : Nat → Bool} {k v : Nat} (hv : v < 2 ^ 31) (h : wnI P k = nI v) : ∀ x, wnI P (k + x) = nI v
  | 0 => h
  | x + 1 => by
    have ih := wn_stay hv h x
    rw [← Nat.add_assoc, wnI, if_neg, ih]
    intro z
    exact absurd (ih.symm.trans z.2) (ne_m9 hv)
theorem wn_first {P : Nat → Bool} : ∀ m v, v + m < 2 ^ 31 → wnI P v = -9 → wnI P (v + m) = firstI P m v
  | 0, v, _, h => h
  | m + 1, v, hb, h => by
    rw [firstI, show v + (m + 1) = v + 1 + m by omega]
    by_cases hp : P v = true
    · rw [if_pos hp]
      exact wn_stay (by omega) (by rw [wnI, if_pos ⟨hp, h⟩]) m
    · rw [if_neg hp]
      exact wn_first m (v + 1) (by omega) (by rw [wnI, if_neg (fun z => hp z.1)]; exact h)
theorem bb_spec {g : Nat → Nat} {can : Nat → Bool} (hg : ∀ k, g k ≤ 10) : ∀ c, (∀ j, j < c → can j = true → ¬ scI (eFold g can c) < scI (1 + g j)) ∧ (0 < eFold g can c → ∃ k, k < c ∧ bbI g can c = nI k ∧ can k = true ∧ 1 + g k = eFold g can c ∧ ∀ j, j < k → can j = true → 1 + g j ≠ eFold g can c)
  | 0 => ⟨fun j hj => absurd hj (Nat.not_lt_zero j), fun h => absurd h (Nat.lt_irrefl 0)⟩
  | c + 1 => by
    obtain ⟨h1, h2⟩ := bb_spec hg c
    have hle : eFold g can c < 12 := by have := eFold_le (can := can) hg c; omega
    have hgc := hg c
    cases hc : can c with
    | false =>
      have e1 : eFold g can (c + 1) = eFold g can c := by rw [eFold, hc]; rfl
      have e2 : bbI g can (c + 1) = bbI g can c := by rw [bbI, if_neg (fun z => by rw [hc] at z; exact Bool.noConfusion z.1)]
      rw [e1, e2]
      refine ⟨fun j hj hcj => ?_, fun h => ?_⟩
      · by_cases e : j = c
        · subst e; rw [hc] at hcj; exact Bool.noConfusion hcj
        · exact h1 j (by omega) hcj
      · obtain ⟨k, a1, a2, a3, a4, a5⟩ := h2 h
        exact ⟨k, by omega, a2, a3, a4, a5⟩
    | true =>
      have e1 : eFold g can (c + 1) = betN (eFold g can c) (1 + g c) := by rw [eFold, hc]; rfl
      rw [e1]
      by_cases hlt : scI (eFold g can c) < scI (1 + g c)
      · have e2 : bbI g can (c + 1) = nI c := by rw [bbI, if_pos ⟨hc, hlt⟩]
        have eb := (sc_lt _ hle (1 + g c) (by omega)).1 hlt
        refine ⟨fun j hj hcj => ?_, fun h => ⟨c, by omega, e2, hc, eb.symm, fun j hj hcj => ?_⟩⟩
        · have hgj := hg j
          by_cases e : j = c
          · subst e; exact sc_nb _ hle _ (by omega)
          · exact sc_tr _ hle _ (by omega) _ (by omega) (h1 j (by omega) hcj)
        · have hgj := hg j
          intro e
          rw [eb] at e
          rw [← e] at hlt
          exact h1 j hj hcj hlt
      · have e2 : bbI g can (c + 1) = bbI g can c := by rw [bbI, if_neg (fun z => hlt z.2)]
        have eb := (sc_lt _ hle (1 + g c) (by omega)).2 hlt
        rw [eb, e2]
        refine ⟨fun j hj hcj => ?_, fun h => ?_⟩
        · by_cases e : j = c
          · subst e; exact hlt
          · exact h1 j (by omega) hcj
        · obtain ⟨k, a1, a2, a3, a4, a5⟩ := h2 h
          exact ⟨k, by omega, a2, a3, a4, a5⟩
theorem fst_of {P : Nat → Bool} {k : Nat} : ∀ m v, v ≤ k → k < v + m → P k = true → (∀ j, v ≤ j → j < k → P j = false) → fstN P m v = k
  | 0, v, h1, h2, _, _ => by omega
  | m + 1, v, h1, h2, h3, h4 => by
    rw [fstN]
    by_cases e : v = k
    · subst e; rw [if_pos h3]
    · rw [h4 v (Nat.le_refl _) (by omega)]
      exact fst_of m (v + 1) (by omega) (by omega) h3 (fun j a b => h4 j (by omega) b)
/-- the change that a line takes is the one that the scores tell -/
theorem bb_line {T : TN} {q : Nat → SD} {w : Nat} (hw : w < 2) (hv : vQ T q) (h : 0 < ends T q w) : bbI (fun k => ends T (stepQ T q w k) (1 - w)) (fun k => canN T (q w) (q (1 - w)).1 k) (tC T) = nI (lineK T q w) := by
  have es := ends_step hw hv
  obtain ⟨h1, h2⟩ := bb_spec (g := fun k => ends T (stepQ T q w k) (1 - w)) (can := fun k => canN T (q w) (q (1 - w)).1 k) (fun k => endsF_le T 10 _ _) (tC T)
  rw [← es] at h2
  obtain ⟨k, a1, a2, a3, a4, a5⟩ := h2 h
  rw [a2]
  congr 1
  refine (fst_of _ _ (Nat.zero_le _) (by omega) ?_ (fun j _ hj => ?_)).symm
  · unfold restP
    rw [a3, decide_eq_true (by have : 1 + ends T (stepQ T q w k) (1 - w) = ends T q w := a4; omega)]
    rfl
  · unfold restP
    cases hc : canN T (q w) (q (1 - w)).1 j with
    | false => rfl
    | true =>
      have := a5 j hj hc
      have this : 1 + ends T (stepQ T q w j) (1 - w) ≠ ends T q w := this
      rw [decide_eq_false (by omega)]
      rfl
theorem eF_skip {g : Nat → Nat} {can : Nat → Bool} {j : Nat} : ∀ m, (∀ x, j ≤ x → x < j + m → can x = false) → eFold g can (j + m) = eFold g can j ∧ bbI g can (j + m) = bbI g can j
  | 0, _ => ⟨rfl, rfl⟩
  | m + 1, h => by
    obtain ⟨h1, h2⟩ := eF_skip (g := g) m (fun x a b => h x a (by omega))
    have hc := h (j + m) (by omega) (by omega)
    rw [← Nat.add_assoc]
    exact ⟨by rw [eFold, hc]; exact h1, by rw [bbI, if_neg (fun z => by rw [hc] at z; exact Bool.noConfusion z.1)]; exact h2⟩
theorem wn_skip {P : Nat → Bool} {j : Nat} : ∀ m, (∀ x, j ≤ x → x < j + m → P x = false) → wnI P (j + m) = wnI P j
  | 0, _ => rfl
  | m + 1, h => by
    rw [← Nat.add_assoc, wnI, if_neg (fun z => by rw [h (j + m) (by omega) (by omega)] at z; exact Bool.noConfusion z.1)]
    exact wn_skip m (fun x a b => h x a (by omega))
/-- what a search below a depth leaves as it was -/
def FD (d : Nat) (I I' : Nat → Nat → Int32) : Prop := (∀ r, r < 97 ∨ r = 99 ∨ 103 < r → I' r = I r) ∧ (∀ y, y < 6 * (d + 1) → I' 97 y = I 97 y) ∧ ∀ x, x < d → I' 98 x = I 98 x ∧ I' 100 x = I 100 x ∧ I' 101 x = I 101 x ∧ I' 102 x = I 102 x ∧ I' 103 x = I 103 x
theorem FD.rf (d : Nat) (I : Nat → Nat → Int32) : FD d I I := ⟨fun _ _ => rfl, fun _ _ => rfl, fun _ _ => ⟨rfl, rfl, rfl, rfl, rfl⟩⟩
theorem FD.tr {d : Nat} {I I' I'' : Nat → Nat → Int32} (h : FD d I I') (h' : FD d I' I'') : FD d I I'' := by
  obtain ⟨a1, a2, a3⟩ := h
  obtain ⟨b1, b2, b3⟩ := h'
  refine ⟨fun r hr => (b1 r hr).trans (a1 r hr), fun y hy => (b2 y hy).trans (a2 y hy), fun x hx => ?_⟩
  obtain ⟨c1, c2, c3, c4, c5⟩ := a3 x hx
  obtain ⟨d1, d2, d3, d4, d5⟩ := b3 x hx
  exact ⟨d1.trans c1, d2.trans c2, d3.trans c3, d4.trans c4, d5.trans c5⟩
theorem FD.up {d r k : Nat} {I I' : Nat → Nat → Int32} {x : Int32} (h : FD d I I') (hr : r = 98 ∨ r = 100 ∨ r = 101 ∨ r = 102 ∨ r = 103) (hk : d ≤ k) : FD d I (upI I' r k x) := by
  refine h.tr ⟨fun r' hr' => upI_oth (by omega), fun y hy => by rw [upI_oth (by omega)], fun y hy => ?_⟩
  have o : ∀ r', upI I' r k x r' y = I' r' y := fun r' => by
    unfold upI
    rw [if_neg (by omega)]
  exact ⟨o 98, o 100, o 101, o 102, o 103⟩
theorem FD.lo {d : Nat} {I I' : Nat → Nat → Int32} (h : FD (d + 1) I I') : FD d I I' := ⟨h.1, fun y hy => h.2.1 y (by omega), fun x hx => h.2.2 x (by omega)⟩
theorem FD.dv {d : Nat} {I I' : Nat → Nat → Int32} (h1 : ∀ r, r ≠ 97 → r ≠ 98 → I' r = I r) (h2 : ∀ x, x < 6 * (d + 1) → I' 97 x = I 97 x) (h3 : ∀ x, x ≠ d + 1 → I' 98 x = I 98 x) : FD d I I' := ⟨fun r hr => h1 r (by omega) (by omega), h2, fun x hx => ⟨h3 x (by omega), by rw [h1 100 (by decide) (by decide)], by rw [h1 101 (by decide) (by decide)], by rw [h1 102 (by decide) (by decide)], by rw [h1 103 (by decide) (by decide)]⟩⟩
/-- what the search rests on -/
def BM (T : TN) (f0 : Nat) (q : Nat → SD) (I : Nat → Nat → Int32) : Prop := mT T I ∧ I 77 34 = nI f0 ∧ kM q I
theorem BM.of {T : TN} {f0 : Nat} {q : Nat → SD} {I I' : Nat → Nat → Int32} (h : BM T f0 q I) (hf : ∀ r, r < 97 ∨ r = 99 ∨ 103 < r → I' r = I r) : BM T f0 q I' := ⟨h.1.of (fun r a b => hf r (by omega)) (by rw [hf 77 (by omega)]) (by rw [hf 77 (by omega)]), by rw [hf 77 (by omega)]; exact h.2.1, by rw [hf 99 (by omega)]; exact h.2.2.1, by rw [hf 99 (by omega)]; exact h.2.2.2⟩
theorem BM.st {T : TN} {f0 w k : Nat} {q : Nat → SD} {I : Nat → Nat → Int32} (h : BM T f0 q I) : BM T f0 (stepQ T q w k) I := ⟨h.1, h.2.1, by rw [knows_step]; exact h.2.2.1, by rw [knows_step]; exact h.2.2.2⟩
section
variable {G : GG} {D n : Nat} {J : Nat → Nat → Int64} {Q : Option Value → MH → Prop} {T : TN}
def ScD (G : GG) (n D : Nat) (J : Nat → Nat → Int64) (Q : Option Value → MH → Prop) (T : TN) (f0 r : Nat) : Prop := ∀ (d : Nat) (q : Nat → SD) (I : Nat → Nat → Int32) (v2 v3 : Value), d + r = 10 → fsum q ≤ r → vQ T q → BM T f0 q I → pM d q I → I 98 d = 0 → I 100 d = -100 → I 101 d = -9 → I 102 d = -9 →
  (∀ I' v3', FD d I I' → I' 100 d = scI (ends T q ((f0 + d) % 2)) → I' 101 d = firstI (winP T q ((f0 + d) % 2)) (tC T) 0 → I' 102 d = bbI (fun k => ends T (stepQ T q ((f0 + d) % 2) k) (1 - (f0 + d) % 2)) (fun k => canN T (q ((f0 + d) % 2)) (q (1 - (f0 + d) % 2)).1 k) (tC T) → EV G 210 (D + 4) 0 0 83 [.ref 77, .int (nI d), .int (-1), v3'] [] (SH n, I', J) Q) → EV G 210 (D + 4) 0 0 26 [.ref 77, .int (nI d), v2, v3] [] (SH n, I, J) Q
theorem ScD_all {f0 : Nat} (hf0 : f0 < 2) (hT : tOK T) : ∀ r, ScD G n D J Q T f0 r := by
  intro r
  induction r with
  | zero =>
    intro d q I v2 v3 hd hfs hv hB hp h98 h100 h101 h102 K
    have hd : d = 10 := hd
    subst hd
    have hf2 : (f0 + 10) % 2 < 2 := Nat.mod_lt _ (by decide)
    have hnc : ∀ x, canN T (q ((f0 + 10) % 2)) (q (1 - (f0 + 10) % 2)).1 x = false := fun x => by
      cases hc : canN T (q ((f0 + 10) % 2)) (q (1 - (f0 + 10) % 2)).1 x with
      | false => rfl
      | true => exact absurd (fsum_step hf2 hc) (by omega)
    refine EV.at ck210 (by decide) 300 [83] ?_
    conv => whnf
    try dsimp only
    refine ⟨fun z => absurd z (nI_pos (by decide)), fun _ => ?_⟩
    conv => whnf
    try dsimp only
    refine ⟨trivial, r_nextChange (j := 0) hf0 (by decide) hB.2.1 hT hB.1 hp hB.2.2 hv (Nat.zero_le _) h98 (fun _ => ?_) (fun k _ _ hc => ?_)⟩
    · have e0 : ends T q ((f0 + 10) % 2) = 0 := by
        rw [ends_step hf2 hv]
        exact eFold_none _ (fun k _ => hnc k)
      have h1 := (eF_skip (g := fun k => ends T (stepQ T q ((f0 + 10) % 2) k) (1 - (f0 + 10) % 2)) (can := fun k => canN T (q ((f0 + 10) % 2)) (q (1 - (f0 + 10) % 2)).1 k) (j := 0) (tC T) (fun x _ _ => hnc x)).2
      have h2 := wn_skip (P := winP T q ((f0 + 10) % 2)) (j := 0) (tC T) (fun x _ _ => by unfold winP; rw [hnc x]; rfl)
      have h12 : tC T ≤ 12 := hT.2.2.1
      have h3 := wn_first (P := winP T q ((f0 + 10) % 2)) (tC T) 0 (by omega) rfl
      rw [Nat.zero_add] at h1 h2 h3
      refine EV.at ck210 (by decide) 300 [83] ?_
      conv => whnf
      try dsimp only
      first | refine ⟨fun h1 => absurd h1 (by decide), fun _ => ?_⟩ | refine ⟨fun _ => ?_, fun h1 => absurd (by decide) h1⟩ | refine ⟨fun h1 => absurd (by decide) h1, fun _ => ?_⟩ | refine ⟨fun _ => ?_, fun h1 => absurd h1 (by decide)⟩
      conv => whnf
      try dsimp only
      exact ⟨trivial, K _ _ ((FD.rf 10 I).up (Or.inl rfl) (Nat.le_refl _)) (by rw [upI_oth (by decide), h100, e0]; decide) (by rw [upI_oth (by decide), h101, ← h3, h2]; rfl) (by rw [upI_oth (by decide), h102, h1]; rfl)⟩
    · rw [hnc k] at hc
      exact Bool.noConfusion hc
  | succ r ihr =>
    intro d q I v2 v3 hd hfs hv hB hp h98 h100 h101 h102 K
    have h12 : tC T ≤ 12 := hT.2.2.1
    generalize hf : (f0 + d) % 2 = f at K
    have hf2 : f < 2 := by rw [← hf]; exact Nat.mod_lt _ (by decide)
    have es := ends_step hf2 hv
    generalize hg : (fun k => ends T (stepQ T q f k) (1 - f)) = g at K es
    have hg10 : ∀ k, g k ≤ 10 := fun k => by rw [← hg]; exact endsF_le T 10 _ _
    generalize hcn : (fun k => canN T (q f) (q (1 - f)).1 k) = can at K es
    have hcan : ∀ k, can k = canN T (q f) (q (1 - f)).1 k := fun k => by rw [← hcn]
    have hwin : ∀ k, winP T q f k = (can k && decide (g k % 2 = 0)) := fun k => by rw [← hcn, ← hg]; rfl
    have cd : (nI d).toNatClampNeg = d := nI_clamp (by omega)
    have loop : ∀ m j (I1 : Nat → Nat → Int32) (v2 v3 : Value), j + m = tC T → FD d I I1 → I1 98 d = nI j → I1 100 d = scI (eFold g can j) → I1 101 d = wnI (winP T q f) j → I1 102 d = bbI g can j → EV G 210 (D + 4) 0 0 26 [.ref 77, .int (nI d), v2, v3] [] (SH n, I1, J) Q := by
      intro m
      induction m using Nat.strongRecOn with
      | _ m ih =>
        intro j I1 v2 v3 hj w0 w1 w2 w3 w4
        have hB1 := hB.of w0.1
        have hp1 : pM d q I1 := fun e he => by rw [w0.2.1 _ (by omega)]; exact hp e he
        refine EV.at ck210 (by decide) 300 [83] ?_
        conv => whnf
        try dsimp only
        refine ⟨fun z => absurd z (nI_pos (by omega)), fun _ => ?_⟩
        conv => whnf
        try dsimp only
        refine ⟨trivial, r_nextChange (j := j) hf0 (by omega) hB1.2.1 hT hB1.1 hp1 hB1.2.2 hv (by omega) w1 (fun hno => ?_) (fun k k1 k2 k3 k4 => ?_)⟩
        · rw [hf] at hno
          have s1 := eF_skip (g := g) (can := can) (j := j) m (fun x a b => by rw [hcan]; exact hno x a (by omega))
          have s2 := wn_skip (P := winP T q f) (j := j) m (fun x a b => by rw [hwin, hcan, hno x a (by omega)]; rfl)
          have s3 := wn_first (P := winP T q f) (tC T) 0 (by omega) rfl
          rw [Nat.zero_add] at s3
          rw [hj] at s1 s2
          refine EV.at ck210 (by decide) 300 [83] ?_
          conv => whnf
          try dsimp only
          first | refine ⟨fun h1 => absurd h1 (by decide), fun _ => ?_⟩ | refine ⟨fun _ => ?_, fun h1 => absurd (by decide) h1⟩ | refine ⟨fun h1 => absurd (by decide) h1, fun _ => ?_⟩ | refine ⟨fun _ => ?_, fun h1 => absurd h1 (by decide)⟩
          conv => whnf
          try dsimp only
          exact ⟨trivial, K _ _ (w0.up (Or.inl rfl) (Nat.le_refl _)) (by rw [upI_oth (by decide), w2, es, s1.1]) (by rw [upI_oth (by decide), w3, ← s3, s2]) (by rw [upI_oth (by decide), w4, s1.2])⟩
        · rw [hf] at k3 k4
          have ck : (nI k).toNatClampNeg = k := nI_clamp (by omega)
          have hcd : canN T (q ((f0 + d) % 2)) (q (1 - (f0 + d) % 2)).1 k = true := by rw [hf]; exact k3
          have hfk := fsum_step hf2 k3
          have o98 : ∀ r, r ≠ 98 → upI I1 98 d (nI (k + 1)) r = I1 r := fun r hr => upI_oth hr
          have w0b : FD d I (upI (upI I1 98 d (nI (k + 1))) 103 d (nI k)) := (w0.up (Or.inl rfl) (Nat.le_refl _)).up (Or.inr (Or.inr (Or.inr (Or.inr rfl)))) (Nat.le_refl _)
          have hB2 := hB.of w0b.1
          refine EV.at ck210 (by decide) 300 [83] ?_
          conv => whnf
          try dsimp only
          refine ⟨fun z => absurd z (nI_pos (by omega)), fun _ => ?_⟩
          conv => whnf
          try dsimp only
          refine ⟨in_nI (show d < 13 by omega) (by decide), ?_⟩
          conv => whnf
          try dsimp only
          rw [cd]
          refine ⟨trivial, r_dives (q := q) hf0 (by omega) hB2.2.1 hT hB2.1 (fun e he => by rw [w0b.2.1 _ (by omega)]; exact hp e he) hv k2 hcd (fun I3 c1 c2 c3 c4 c5 => ?_)⟩
          rw [hf] at c1
          have cd1 : (nI (d + 1)).toNatClampNeg = d + 1 := nI_clamp (by omega)
          refine EV.at ck210 (by decide) 300 [83] ?_
          conv => whnf
          try dsimp only
          rw [nI_1]
          refine ⟨in_nI (show d + 1 < 13 by omega) (by decide), ?_⟩
          conv => whnf
          try dsimp only
          refine ⟨in_nI (show d + 1 < 13 by omega) (by decide), ?_⟩
          conv => whnf
          try dsimp only
          refine ⟨in_nI (show d + 1 < 13 by omega) (by decide), ?_⟩
          conv => whnf
          try dsimp only
          rw [cd1]
          have f3 : FD d I I3 := w0b.tr (FD.dv c3 c4 c5)
          generalize hI4 : upI (upI (upI I3 100 (d + 1) (-100)) 101 (d + 1) (-9)) 102 (d + 1) (-9) = I4
          have o4 : ∀ r, r ≠ 100 → r ≠ 101 → r ≠ 102 → I4 r = I3 r := fun r h1 h2 h3 => by rw [← hI4, upI_oth h3, upI_oth h2, upI_oth h1]
          have f4 : FD d I I4 := by
            rw [← hI4]
            exact ((f3.up (Or.inr (Or.inl rfl)) (by omega)).up (Or.inr (Or.inr (Or.inl rfl))) (by omega)).up (Or.inr (Or.inr (Or.inr (Or.inl rfl)))) (by omega)
          have x0 : I4 100 d = scI (eFold g can j) := by rw [← hI4, upI_oth (by decide), upI_oth (by decide), up_ne (by omega), c3 100 (by decide) (by decide), upI_oth (by decide), upI_oth (by decide)]; exact w2
          have x1 : I4 101 d = wnI (winP T q f) j := by rw [← hI4, upI_oth (by decide), up_ne (by omega), upI_oth (by decide), c3 101 (by decide) (by decide), upI_oth (by decide), upI_oth (by decide)]; exact w3
          have x2 : I4 102 d = bbI g can j := by rw [← hI4, up_ne (by omega), upI_oth (by decide), upI_oth (by decide), c3 102 (by decide) (by decide), upI_oth (by decide), upI_oth (by decide)]; exact w4
          have x3 : I4 103 d = nI k := by rw [o4 103 (by decide) (by decide) (by decide), c3 103 (by decide) (by decide), up_same]
          have x4 : I4 98 d = nI (k + 1) := by rw [o4 98 (by decide) (by decide) (by decide), c5 d (by omega), upI_oth (by decide), up_same]
          refine ⟨trivial, ihr (d + 1) (stepQ T q f k) I4 _ _ (by omega) (by omega) (vQ_step hT hf2 k2 hv) ((hB.of f4.1).st) (fun e he => by rw [o4 97 (by decide) (by decide) (by decide)]; exact c1 e he) (by rw [o4 98 (by decide) (by decide) (by decide)]; exact c2) (by rw [← hI4, upI_oth (by decide), upI_oth (by decide), up_same]) (by rw [← hI4, upI_oth (by decide), up_same]) (by rw [← hI4, up_same]) (fun I5 v3' y0 y1 y2 y3 => ?_)⟩
          have ef : (f0 + (d + 1)) % 2 = 1 - f := by omega
          rw [ef] at y1
          have y1 : I5 100 (d + 1) = scI (g k) := by rw [y1, ← hg]
          obtain ⟨z1, z2, z3, z4, z5⟩ := y0.2.2 d (by omega)
          have f5 : FD d I I5 := f4.tr y0.lo
          have s1 := eF_skip (g := g) (can := can) (j := j) (k - j) (fun x a b => by rw [hcan]; exact k4 x a (by omega))
          have s2 := wn_skip (P := winP T q f) (j := j) (k - j) (fun x a b => by rw [hwin, hcan, k4 x a (by omega)]; rfl)
          rw [show j + (k - j) = k by omega] at s1 s2
          have a0 : I5 100 d = scI (eFold g can k) := by rw [z2, x0, s1.1]
          have a1 : I5 101 d = wnI (winP T q f) k := by rw [z3, x1, s2]
          have a2 : I5 102 d = bbI g can k := by rw [z4, x2, s1.2]
          have a3 : I5 103 d = nI k := by rw [z5, x3]
          have a4 : I5 98 d = nI (k + 1) := by rw [z1, x4]
          have ck' : can k = true := by rw [hcan]; exact k3
          have hgk := hg10 k
          have hek : eFold g can k < 12 := by have := eFold_le (can := can) hg10 k; omega
          have eF : eFold g can (k + 1) = betN (eFold g can k) (1 + g k) := by rw [eFold, ck']; rfl
          have esb := sc_by (g k) (by omega)
          have fin : ∀ (v2 v3 : Value), EV G 210 (D + 4) 0 0 127 [.ref 77, .int (nI d), v2, .int (scI (1 + g k))] [] (SH n, I5, J) Q := by
            intro v2 v3
            have t1 : ∀ (A B C : Int32) (v2 : Value), A = wnI (winP T q f) (k + 1) → B = bbI g can (k + 1) → C = scI (eFold g can (k + 1)) → EV G 210 (D + 4) 0 0 26 [.ref 77, .int (nI d), v2, .int (scI (1 + g k))] [] (SH n, upI (upI (upI I5 101 d A) 102 d B) 100 d C, J) Q := by
              intro A B C v2 hA hB' hC
              exact ih (m - (k + 1 - j)) (by omega) (k + 1) _ _ _ (by omega) (((f5.up (Or.inr (Or.inr (Or.inl rfl))) (Nat.le_refl _)).up (Or.inr (Or.inr (Or.inr (Or.inl rfl)))) (Nat.le_refl _)).up (Or.inr (Or.inl rfl)) (Nat.le_refl _)) (by rw [upI_oth (by decide), upI_oth (by decide), upI_oth (by decide)]; exact a4) (by rw [up_same, hC]) (by rw [upI_oth (by decide), upI_oth (by decide), up_same, hA]) (by rw [upI_oth (by decide), up_same, hB'])
            have k194 : ∀ (A B : Int32) (v2 : Value), A = wnI (winP T q f) (k + 1) → B = bbI g can (k + 1) → EV G 210 (D + 4) 0 0 194 [.ref 77, .int (nI d), v2, .int (scI (1 + g k))] [] (SH n, upI (upI I5 101 d A) 102 d B, J) Q := by
              intro A B v2 hA hB'
              have r0 : upI (upI I5 101 d A) 102 d B 100 d = scI (eFold g can k) := by rw [upI_oth (by decide), upI_oth (by decide)]; exact a0
              have sb := sc_bet _ hek (1 + g k) (by omega)
              refine EV.at ck210 (by decide) 300 [] ?_
              conv => whnf
              try dsimp only
              refine ⟨in_nI (show d < 13 by omega) (by decide), ?_⟩
              conv => whnf
              try dsimp only
              rw [cd, r0]
              refine ⟨fun z => ?_, fun z => ?_⟩
              · rw [if_neg (Int32.not_lt.mpr z)] at sb
                conv => whnf
                try dsimp only
                refine ⟨in_nI (show d < 13 by omega) (by decide), ?_⟩
                conv => whnf
                try dsimp only
                refine ⟨in_nI (show d < 13 by omega) (by decide), ?_⟩
                conv => whnf
                try dsimp only
                rw [cd, r0]
                exact ⟨trivial, t1 A B _ _ hA hB' (by rw [eF, sb])⟩
              · rw [if_pos (Int32.not_le.mp z)] at sb
                conv => whnf
                try dsimp only
                refine ⟨in_nI (show d < 13 by omega) (by decide), ?_⟩
                conv => whnf
                try dsimp only
                rw [cd]
                exact ⟨trivial, t1 A B _ _ hA hB' (by rw [eF, sb])⟩
            have k163 : ∀ (A : Int32) (v2 : Value), A = wnI (winP T q f) (k + 1) → EV G 210 (D + 4) 0 0 163 [.ref 77, .int (nI d), v2, .int (scI (1 + g k))] [] (SH n, upI I5 101 d A, J) Q := by
              intro A v2 hA
              have r0 : upI I5 101 d A 100 d = scI (eFold g can k) := by rw [upI_oth (by decide)]; exact a0
              have r2 : upI I5 101 d A 102 d = bbI g can k := by rw [upI_oth (by decide)]; exact a2
              have r3 : upI I5 101 d A 103 d = nI k := by rw [upI_oth (by decide)]; exact a3
              refine EV.at ck210 (by decide) 300 [194] ?_
              conv => whnf
              try dsimp only
              refine ⟨in_nI (show d < 13 by omega) (by decide), ?_⟩
              conv => whnf
              try dsimp only
              rw [cd, r0]
              refine ⟨fun z => ?_, fun z => ?_⟩
              · conv => whnf
                try dsimp only
                refine ⟨in_nI (show d < 13 by omega) (by decide), ?_⟩
                conv => whnf
                try dsimp only
                refine ⟨in_nI (show d < 13 by omega) (by decide), ?_⟩
                conv => whnf
                try dsimp only
                rw [cd, r2]
                exact ⟨trivial, k194 A _ _ hA (by rw [bbI, if_neg (fun y => Int32.not_lt.mpr z y.2)])⟩
              · conv => whnf
                try dsimp only
                refine ⟨in_nI (show d < 13 by omega) (by decide), ?_⟩
                conv => whnf
                try dsimp only
                refine ⟨in_nI (show d < 13 by omega) (by decide), ?_⟩
                conv => whnf
                try dsimp only
                rw [cd, r3]
                exact ⟨trivial, k194 A _ _ hA (by rw [bbI, if_pos ⟨ck', Int32.not_le.mp z⟩])⟩
            have hsp := sc_pos (1 + g k) (by omega)
            have nowin : ¬ (winP T q f k = true ∧ wnI (winP T q f) k = -9) → EV G 210 (D + 4) 0 0 156 [.ref 77, .int (nI d), v2, .int (scI (1 + g k))] [.int (nI d), .ref 101] (SH n, I5, J) Q := by
              intro hn
              refine EV.at ck210 (by decide) 300 [163] ?_
              conv => whnf
              try dsimp only
              refine ⟨in_nI (show d < 13 by omega) (by decide), ?_⟩
              conv => whnf
              try dsimp only
              refine ⟨in_nI (show d < 13 by omega) (by decide), ?_⟩
              conv => whnf
              try dsimp only
              rw [cd, a1]
              exact ⟨trivial, k163 _ _ (by rw [wnI, if_neg hn])⟩
            refine EV.at ck210 (by decide) 300 [156, 163] ?_
            conv => whnf
            try dsimp only
            refine ⟨fun z => ?_, fun z => ?_⟩
            · conv => whnf
              try dsimp only
              refine ⟨trivial, nowin (fun y => ?_)⟩
              have y1 := y.1
              rw [hwin, ck', Bool.true_and, decide_eq_true_eq] at y1
              exact Int32.not_lt.mpr z (hsp.mpr (by omega))
            have hw1 : winP T q f k = true := by
              have := hsp.mp (Int32.not_le.mp z)
              rw [hwin, ck', Bool.true_and, decide_eq_true_eq]
              omega
            conv => whnf
            try dsimp only
            refine ⟨in_nI (show d < 13 by omega) (by decide), ?_⟩
            conv => whnf
            try dsimp only
            rw [cd, a1]
            refine ⟨fun y => ?_, fun y => ?_⟩
            · conv => whnf
              try dsimp only
              exact ⟨trivial, nowin (fun u => y u.2)⟩
            · conv => whnf
              try dsimp only
              refine ⟨in_nI (show d < 13 by omega) (by decide), ?_⟩
              conv => whnf
              try dsimp only
              refine ⟨in_nI (show d < 13 by omega) (by decide), ?_⟩
              conv => whnf
              try dsimp only
              rw [cd, a3]
              exact ⟨trivial, k163 _ _ (by rw [wnI, if_pos ⟨hw1, y⟩])⟩
          refine EV.at ck210 (by decide) 300 [127] ?_
          conv => whnf
          try dsimp only
          rw [show nI (d + 1) + (-1) = nI d from pk_m1 d]
          refine ⟨fun z => absurd z (nI_pos (by omega)), fun _ => ?_⟩
          conv => whnf
          try dsimp only
          rw [nI_1]
          refine ⟨in_nI (show d + 1 < 13 by omega) (by decide), ?_⟩
          conv => whnf
          try dsimp only
          rw [cd1, y1]
          refine ⟨fun z => ?_, fun z => ?_⟩
          · rw [if_neg (Int32.not_lt.mpr z)] at esb
            conv => whnf
            try dsimp only
            rw [nI_1]
            refine ⟨in_nI (show d + 1 < 13 by omega) (by decide), ?_⟩
            conv => whnf
            try dsimp only
            rw [cd1, y1, esb]
            exact ⟨trivial, fin _ (.int 0)⟩
          · rw [if_pos (Int32.not_le.mp z)] at esb
            conv => whnf
            try dsimp only
            rw [nI_1]
            refine ⟨in_nI (show d + 1 < 13 by omega) (by decide), ?_⟩
            conv => whnf
            try dsimp only
            rw [cd1, y1, esb]
            exact ⟨trivial, fin _ (.int 0)⟩
    exact loop (tC T) 0 I v2 v3 (by omega) (FD.rf d I) h98 (by rw [h100]; show -100 = scI 0; decide) h101 h102
theorem r_score {f0 : Nat} {q : Nat → SD} {I : Nat → Nat → Int32} (hf0 : f0 < 2) (hT : tOK T) (hv : vQ T q) (hB : BM T f0 q I) (hp : pM 0 q I) (h98 : I 98 0 = 0) (h : ∀ I', FD 0 I I' → I' 101 0 = firstI (winP T q f0) (tC T) 0 → (0 < ends T q f0 → I' 102 0 = nI (lineK T q f0)) → Q (some (.int (scI (ends T q f0)))) (SH n, I', J)) : MT G (D + 5) 210 [.ref 77] (SH n, I, J) Q := by
  have ef : (f0 + 0) % 2 = f0 := by omega
  generalize hI1 : upI (upI (upI I 100 0 (-100)) 101 0 (-9)) 102 0 (-9) = I1
  have o : ∀ r, r ≠ 100 → r ≠ 101 → r ≠ 102 → I1 r = I r := fun r h1 h2 h3 => by rw [← hI1, upI_oth h3, upI_oth h2, upI_oth h1]
  have f1 : FD 0 I I1 := by
    rw [← hI1]
    exact (((FD.rf 0 I).up (Or.inr (Or.inl rfl)) (Nat.le_refl _)).up (Or.inr (Or.inr (Or.inl rfl))) (Nat.le_refl _)).up (Or.inr (Or.inr (Or.inr (Or.inl rfl)))) (Nat.le_refl _)
  have l0 := ScD_all (G := G) (n := n) (D := D) (J := J) (Q := Q) hf0 hT 10 0 q I1 dm dm (by omega) (fsum_le hv) hv (hB.of f1.1) (fun e he => by rw [o 97 (by decide) (by decide) (by decide)]; exact hp e he) (by rw [o 98 (by decide) (by decide) (by decide)]; exact h98) (by rw [← hI1, upI_oth (by decide), upI_oth (by decide), up_same]) (by rw [← hI1, upI_oth (by decide), up_same]) (by rw [← hI1, up_same]) (fun I' v3' y0 y1 y2 y3 => ?_)
  · refine MT.by ck210 (by decide) rfl (Nat.le_of_ble_eq_true rfl) rfl 300 [26] ?_
    conv => whnf
    try dsimp only
    refine ⟨by unfold vp_in; decide, ?_⟩
    conv => whnf
    try dsimp only
    refine ⟨by unfold vp_in; decide, ?_⟩
    conv => whnf
    try dsimp only
    refine ⟨by unfold vp_in; decide, ?_⟩
    conv => whnf
    try dsimp only
    have c0 : Int32.toNatClampNeg 0 = 0 := by decide
    rw [c0, hI1]
    exact ⟨trivial, l0⟩
  · rw [ef] at y1 y2 y3
    have hq := h I' (f1.tr y0) y2 (fun hpos => by rw [y3]; exact bb_line hf0 hv hpos)
    have c0 : Int32.toNatClampNeg 0 = 0 := by decide
    refine EV.at ck210 (by decide) 300 [26] ?_
    conv => whnf
    try dsimp only
    first | refine ⟨fun h1 => absurd h1 (by decide), fun _ => ?_⟩ | refine ⟨fun _ => ?_, fun h1 => absurd (by decide) h1⟩ | refine ⟨fun h1 => absurd (by decide) h1, fun _ => ?_⟩ | refine ⟨fun _ => ?_, fun h1 => absurd h1 (by decide)⟩
    conv => whnf
    try dsimp only
    refine ⟨trivial, ?_⟩
    refine EV.at ck210 (by decide) 300 [] ?_
    conv => whnf
    try dsimp only
    first | refine ⟨fun h1 => absurd h1 (by decide), fun _ => ?_⟩ | refine ⟨fun _ => ?_, fun h1 => absurd (by decide) h1⟩ | refine ⟨fun h1 => absurd (by decide) h1, fun _ => ?_⟩ | refine ⟨fun _ => ?_, fun h1 => absurd h1 (by decide)⟩
    conv => whnf
    try dsimp only
    refine ⟨by unfold vp_in; decide, ?_⟩
    conv => whnf
    try dsimp only
    rw [c0, y1]
    exact ⟨trivial, hq⟩
end
