/-! the reference's search for chances -/
def FE (d : Nat) (I I' : Nat → Nat → Int32) : Prop := (∀ r, r < 97 ∨ r = 99 → I' r = I r) ∧ (∀ y, y < 6 * (d + 1) → I' 97 y = I 97 y) ∧ ∀ x, x < d → I' 98 x = I 98 x ∧ I' 103 x = I 103 x ∧ I' 109 x = I 109 x
def FG2 (d : Nat) (J J' : Nat → Nat → Int64) : Prop := ∀ r x, (r ≠ 107 ∧ r ≠ 108) ∨ x < d → J' r x = J r x
theorem FE.rf (d : Nat) (I : Nat → Nat → Int32) : FE d I I := ⟨fun _ _ => rfl, fun _ _ => rfl, fun _ _ => ⟨rfl, rfl, rfl⟩⟩
theorem FE.tr {d : Nat} {I I' I'' : Nat → Nat → Int32} (h : FE d I I') (h' : FE d I' I'') : FE d I I'' := by
  obtain ⟨a1, a2, a3⟩ := h
  obtain ⟨b1, b2, b3⟩ := h'
  refine ⟨fun r hr => (b1 r hr).trans (a1 r hr), fun y hy => (b2 y hy).trans (a2 y hy), fun x hx => ?_⟩
  obtain ⟨c1, c2, c3⟩ := a3 x hx
  obtain ⟨d1, d2, d3⟩ := b3 x hx
  exact ⟨d1.trans c1, d2.trans c2, d3.trans c3⟩
theorem FE.up {d r k : Nat} {I I' : Nat → Nat → Int32} {x : Int32} (h : FE d I I') (hr : r = 98 ∨ r = 103 ∨ r = 109) (hk : d ≤ k) : FE d I (upI I' r k x) := by
  refine h.tr ⟨fun r' hr' => upI_oth (by omega), fun y hy => by rw [upI_oth (by omega)], fun y hy => ?_⟩
  have o : ∀ r', upI I' r k x r' y = I' r' y := fun r' => by
    unfold upI
    rw [if_neg (by omega)]
  exact ⟨o 98, o 103, o 109⟩
theorem FE.lo {d : Nat} {I I' : Nat → Nat → Int32} (h : FE (d + 1) I I') : FE d I I' := ⟨h.1, fun y hy => h.2.1 y (by omega), fun x hx => h.2.2 x (by omega)⟩
theorem FE.dv {d : Nat} {I I' : Nat → Nat → Int32} (h1 : ∀ r, r ≠ 97 → r ≠ 98 → I' r = I r) (h2 : ∀ x, x < 6 * (d + 1) → I' 97 x = I 97 x) (h3 : ∀ x, x ≠ d + 1 → I' 98 x = I 98 x) : FE d I I' := ⟨fun r hr => h1 r (by omega) (by omega), h2, fun x hx => ⟨h3 x (by omega), by rw [h1 103 (by decide) (by decide)], by rw [h1 109 (by decide) (by decide)]⟩⟩
theorem FE.sr {d : Nat} {I I' : Nat → Nat → Int32} (h : FE d I I') : SR I I' := by
  have h7 := h.1 77 (by omega)
  exact ⟨fun r h1 h2 => h.1 r (by omega), by rw [h7], by rw [h7], by rw [h7], by rw [h7], by rw [h7]⟩
theorem FG2.rf (d : Nat) (J : Nat → Nat → Int64) : FG2 d J J := fun _ _ _ => rfl
theorem FG2.tr {d : Nat} {J J' J'' : Nat → Nat → Int64} (h : FG2 d J J') (h' : FG2 d J' J'') : FG2 d J J'' := fun r x hx => (h' r x hx).trans (h r x hx)
theorem FG2.up {d r k : Nat} {J J' : Nat → Nat → Int64} {x : Int64} (h : FG2 d J J') (hr : r = 107 ∨ r = 108) (hk : d ≤ k) : FG2 d J (upL J' r k x) := h.tr (fun r' y hy => by
  unfold upL
  rw [if_neg (by omega)])
theorem FG2.lo {d : Nat} {J J' : Nat → Nat → Int64} (h : FG2 (d + 1) J J') : FG2 d J J' := fun r x hx => h r x (by omega)
theorem FG2.at {d : Nat} {J J' : Nat → Nat → Int64} (h : ∀ r x, (r ≠ 107 ∧ r ≠ 108) ∨ x ≠ d → J' r x = J r x) : FG2 d J J' := fun r x hx => h r x (by omega)
theorem BM.of2 {T : TN} {f0 : Nat} {q : Nat → SD} {I I' : Nat → Nat → Int32} (h : BM T f0 q I) (hf : ∀ r, r < 97 ∨ r = 99 → I' r = I r) : BM T f0 q I' := ⟨h.1.of (fun r a b => hf r (by omega)) (by rw [hf 77 (by omega)]) (by rw [hf 77 (by omega)]), by rw [hf 77 (by omega)]; exact h.2.1, by rw [hf 99 (by omega)]; exact h.2.2.1, by rw [hf 99 (by omega)]; exact h.2.2.2⟩
theorem cM.of {d S : Nat} {J J' : Nat → Nat → Int64} (h : cM d S J) (h1 : J' 107 d = J 107 d) (h2 : J' 108 d = J 108 d) : cM d S J' := ⟨h1.trans h.1, h2.trans h.2⟩
/-- who chooses: the FIGHTER to move at the root, or nobody -/
def chO (both : Bool) (f0 : Nat) : Nat := if both then 2 else f0
theorem chO_eq {both : Bool} {f0 d : Nat} (hf : f0 < 2) : (f0 + d) % 2 = chO both f0 ↔ (both = false ∧ d % 2 = 0) := by
  cases both
  · show (f0 + d) % 2 = f0 ↔ _
    constructor
    · intro h; exact ⟨rfl, by omega⟩
    · intro h; have := h.2; omega
  · show (f0 + d) % 2 = 2 ↔ _
    constructor
    · intro h; omega
    · intro h; exact absurd h.1 (by decide)
/-- the CHANGE kept beside the best chance at the root -/
def bK (o : Bool) (d : Nat) (b x : Int32) : Int32 := if d = 0 ∧ o = true then x else b
section
variable {G : GG} {D n : Nat} {Q : Option Value → MH → Prop} {T : TN}
def ChD (G : GG) (n D : Nat) (Q : Option Value → MH → Prop) (T : TN) (both : Bool) (f0 r : Nat) : Prop := ∀ (d : Nat) (q : Nat → SD) (I : Nat → Nat → Int32) (J : Nat → Nat → Int64) (b : Int32) (v4 v5 v6 : Value), d + r = 10 → fsum q ≤ r → vQ T q → BM T f0 q I → pM d q I → I 98 d = 0 → I 109 d = 0 → J 107 d = 0 → J 108 d = 1 → (d = 0 → b = -9) →
  (∀ I' J' (v4' : Int32) v5' v6', FE d I I' → FG2 d J J' → cM d (rt d (chance T (chO both f0) q ((f0 + d) % 2))) J' → EV G 239 (D + 4) 0 0 64 [.ref 77, .int (b2i both), .int (bK (decide (both = false ∧ d % 2 = 0)) d b (bcN (fun k => WH - chance T (chO both f0) (stepQ T q ((f0 + d) % 2) k) (1 - (f0 + d) % 2)) (fun k => canN T (q ((f0 + d) % 2)) (q (1 - (f0 + d) % 2)).1 k) (tC T)).2), .int (nI d), .int v4', v5', v6'] [] (SH n, I', J') Q) → EV G 239 (D + 4) 0 0 15 [.ref 77, .int (b2i both), .int b, .int (nI d), v4, v5, v6] [] (SH n, I, J) Q
theorem ChD_all {both : Bool} {f0 : Nat} (hf0 : f0 < 2) (hT : tOK T) (h4 : four T) : ∀ r, ChD G n D Q T both f0 r := by
  intro r
  have h12 : tC T ≤ 12 := hT.2.2.1
  have eW : WH = 61917364224 := rfl
  induction r with
  | zero =>
    intro d q I J b v4 v5 v6 hd hfs hv hB hp h98 h109 h107 h108 hb K
    have hd : d = 10 := hd
    subst hd
    have hf2 : (f0 + 10) % 2 < 2 := Nat.mod_lt _ (by decide)
    have hnc : ∀ x, canN T (q ((f0 + 10) % 2)) (q (1 - (f0 + 10) % 2)).1 x = false := fun x => by
      cases hc : canN T (q ((f0 + 10) % 2)) (q (1 - (f0 + 10) % 2)).1 x with
      | false => rfl
      | true => exact absurd (fsum_step hf2 hc) (by omega)
    have e0 : chance T (chO both f0) q ((f0 + 10) % 2) = 0 := by
      rw [chance_step hf2 hv]
      exact chV_zero (cFold_none _ (fun k _ => hnc k))
    rw [e0] at K
    refine EV.at ck239 (by decide) 300 [64] ?_
    conv => whnf
    try dsimp only
    refine ⟨fun z => absurd z (nI_pos (by decide)), fun _ => ?_⟩
    conv => whnf
    try dsimp only
    refine ⟨trivial, r_nextChange (j := 0) hf0 (by decide) hB.2.1 hT hB.1 hp hB.2.2 hv (Nat.zero_le _) h98 (fun _ => ?_) (fun k _ _ hc => ?_)⟩
    · refine EV.at ck239 (by decide) 300 [64] ?_
      conv => whnf
      try dsimp only
      first | refine ⟨fun h1 => absurd h1 (by decide), fun _ => ?_⟩ | refine ⟨fun _ => ?_, fun h1 => absurd (by decide) h1⟩ | refine ⟨fun h1 => absurd (by decide) h1, fun _ => ?_⟩ | refine ⟨fun _ => ?_, fun h1 => absurd h1 (by decide)⟩
      conv => whnf
      try dsimp only
      refine ⟨trivial, r_closes (d := 10) (N := 0) (S := 0) (P := rt 10 0) (by decide) (by decide) (by decide) (by rw [upI_oth (by decide)]; exact h109) ⟨h107, h108⟩ (fun _ => rfl) (fun z => absurd rfl z) (fun z => absurd rfl z) (fun J' c1 c2 => ?_)⟩
      exact K _ _ _ _ _ ((FE.rf 10 I).up (Or.inl rfl) (Nat.le_refl _)) (FG2.at c2) c1
    · rw [hnc k] at hc
      exact Bool.noConfusion hc
  | succ r ihr =>
    intro d q I J b v4 v5 v6 hd hfs hv hB hp h98 h109 h107 h108 hb K
    have hch := chO_eq (both := both) (d := d) hf0
    have hrt : ∀ k, rt (d + 1) (chance T (chO both f0) (stepQ T q ((f0 + d) % 2) k) ((f0 + (d + 1)) % 2)) = rt (d + 1) (chance T (chO both f0) (stepQ T q ((f0 + d) % 2) k) (1 - (f0 + d) % 2)) := fun k => by rw [show (f0 + (d + 1)) % 2 = 1 - (f0 + d) % 2 by omega]
    generalize hf : (f0 + d) % 2 = f at K hch hrt
    have hf2 : f < 2 := by rw [← hf]; exact Nat.mod_lt _ (by decide)
    generalize hcc : chO both f0 = ch at K hch hrt
    have es := chance_step (ch := ch) hf2 hv
    generalize hC : (fun k => chance T ch (stepQ T q f k) (1 - f)) = C at hrt
    have hCk : ∀ k, chance T ch (stepQ T q f k) (1 - f) = C k := fun k => by rw [← hC]
    have hC1 : ∀ k, C k ≤ WH := fun k => by rw [← hC]; exact chF_le T ch 10 _ _
    simp only [hCk] at es K hrt
    generalize hg : (fun k => WH - C k) = g at K es
    have hgk : ∀ k, g k = WH - C k := fun k => by rw [← hg]
    generalize hcn : (fun k => canN T (q f) (q (1 - f)).1 k) = can at K es
    have hcan : ∀ k, can k = canN T (q f) (q (1 - f)).1 k := fun k => by rw [← hcn]
    have hle : ∀ c, (cFold g can c).1 ≤ WH ∧ (cFold g can c).2.1 ≤ (cFold g can c).2.2 * WH ∧ (cFold g can c).2.2 ≤ c := fun c => cFold_le (fun k => by rw [hgk]; exact Nat.sub_le _ _) c
    have hN4 : ∀ c, c ≤ tC T → (cFold g can c).2.2 ≤ 4 := fun c hc => by rw [← hcn]; exact cF_four h4 c hc
    have hdv : ∀ c, c ≤ tC T → 12 ∣ (cFold g can c).2.1 := fun c hc => (cF_dvd (m := 12) c (fun k hk hck => by
      rw [hgk, ← hCk]
      rw [hcan] at hck
      have := fsum_step hf2 hck
      exact Nat.dvd_sub (by decide) (chance_d12 h4 (by omega) (by omega)))).2
    generalize ho : decide (both = false ∧ d % 2 = 0) = o at K
    have hof : o = true ↔ (both = false ∧ d % 2 = 0) := by rw [← ho]; exact decide_eq_true_iff
    have hacS : ∀ c, c ≤ tC T → ac o d (cFold g can c) ≤ 5 * WH := fun c hc => by
      have := ac_le (o := o) (d := d) (hle c).1 (hle c).2.1 (hN4 c hc) (by decide)
      omega
    have cd : (nI d).toNatClampNeg = d := nI_clamp (by omega)
    have cd1 : (nI (d + 1)).toNatClampNeg = d + 1 := nI_clamp (by omega)
    have loop : ∀ m j (I1 : Nat → Nat → Int32) (J1 : Nat → Nat → Int64) (v4 v5 v6 : Value), j + m = tC T → FE d I I1 → FG2 d J J1 → I1 98 d = nI j → I1 109 d = nI (cFold g can j).2.2 → cM d (ac o d (cFold g can j)) J1 → EV G 239 (D + 4) 0 0 15 [.ref 77, .int (b2i both), .int (bK o d b (bcN g can j).2), .int (nI d), v4, v5, v6] [] (SH n, I1, J1) Q := by
      intro m
      induction m using Nat.strongRecOn with
      | _ m ih =>
        intro j I1 J1 v4 v5 v6 hj w0 w00 w1 w2 w3
        have hB1 := hB.of2 w0.1
        have hp1 : pM d q I1 := fun e he => by rw [w0.2.1 _ (by omega)]; exact hp e he
        refine EV.at ck239 (by decide) 300 [64] ?_
        conv => whnf
        try dsimp only
        refine ⟨fun z => absurd z (nI_pos (by omega)), fun _ => ?_⟩
        conv => whnf
        try dsimp only
        refine ⟨trivial, r_nextChange (j := j) hf0 (by omega) hB1.2.1 hT hB1.1 hp1 hB1.2.2 hv (by omega) w1 (fun hno => ?_) (fun k k1 k2 k3 k4 => ?_)⟩
        · rw [hf] at hno
          obtain ⟨s1, s2⟩ := cF_skip (g := g) (can := can) (j := j) m (fun x a b => by rw [hcan]; exact hno x a (by omega))
          rw [hj] at s1 s2
          rw [← s1] at w2 w3
          rw [← s2]
          have hNt := hN4 (tC T) (Nat.le_refl _)
          have hdt := hdv (tC T) (Nat.le_refl _)
          refine EV.at ck239 (by decide) 300 [64] ?_
          conv => whnf
          try dsimp only
          first | refine ⟨fun h1 => absurd h1 (by decide), fun _ => ?_⟩ | refine ⟨fun _ => ?_, fun h1 => absurd (by decide) h1⟩ | refine ⟨fun h1 => absurd (by decide) h1, fun _ => ?_⟩ | refine ⟨fun _ => ?_, fun h1 => absurd h1 (by decide)⟩
          conv => whnf
          try dsimp only
          refine ⟨trivial, r_closes (d := d) (N := (cFold g can (tC T)).2.2) (S := ac o d (cFold g can (tC T))) (P := rt d (chance T ch q f)) (by omega) hNt (hacS _ (Nat.le_refl _)) (by rw [upI_oth (by decide)]; exact w2) w3 (fun y => ?_) (fun y y2 => ?_) (fun y y2 => ?_) (fun J' c1 c2 => ?_)⟩
          · rw [es, chV_zero (cF_zero _ y)]
          · rw [es]
            unfold chV ac rt
            rw [if_pos y2.2, if_pos (Or.inl (hch.mpr y2)), if_pos (hof.mpr y2)]
          · have y3 : ¬ f = ch := fun z => y2 (hch.mp z)
            have y4 : o = false := by
              cases hoo : o with
              | false => rfl
              | true => exact absurd (hof.mp hoo) y2
            rw [es, y4]
            unfold chV
            rw [if_neg (fun z => z.elim y3 y)]
            exact rt_close (N := 0) (Nat.dvd_trans (d12 y hNt) hdt)
          · exact K _ _ _ _ _ (w0.up (Or.inl rfl) (Nat.le_refl _)) (w00.tr (FG2.at c2)) c1
        · rw [hf] at k3 k4
          have ck : (nI k).toNatClampNeg = k := nI_clamp (by omega)
          have hcd : canN T (q ((f0 + d) % 2)) (q (1 - (f0 + d) % 2)).1 k = true := by rw [hf]; exact k3
          have hfk := fsum_step hf2 k3
          have w0b : FE d I (upI (upI I1 98 d (nI (k + 1))) 103 d (nI k)) := (w0.up (Or.inl rfl) (Nat.le_refl _)).up (Or.inr (Or.inl rfl)) (Nat.le_refl _)
          have hB2 := hB.of2 w0b.1
          refine EV.at ck239 (by decide) 300 [64] ?_
          conv => whnf
          try dsimp only
          refine ⟨fun z => absurd z (nI_pos (by omega)), fun _ => ?_⟩
          conv => whnf
          try dsimp only
          refine ⟨in_nI (show d < 13 by omega) (by decide), ?_⟩
          conv => whnf
          try dsimp only
          rw [cd]
          refine ⟨trivial, r_dives (q := q) hf0 (by omega) hB2.2.1 hT hB2.1 (fun e he => by rw [w0b.2.1 _ (by omega)]; exact hp e he) hv k2 hcd (fun I3 c1 c2 c3 c4 c5 => ?_)⟩
          rw [hf] at c1
          refine EV.at ck239 (by decide) 300 [64] ?_
          conv => whnf
          try dsimp only
          rw [nI_1]
          refine ⟨trivial, r_isChance (show d + 1 < 13 by omega) ?_⟩
          have f3 : FE d I I3 := w0b.tr (FE.dv c3 c4 c5)
          have f4 : FE d I (upI I3 109 (d + 1) 0) := f3.up (Or.inr (Or.inr rfl)) (by omega)
          have g4 : FG2 d J (upL (upL J1 107 (d + 1) 0) 108 (d + 1) 1) := (w00.up (Or.inl rfl) (by omega)).up (Or.inr rfl) (by omega)
          have x0 : upI I3 109 (d + 1) 0 109 d = nI (cFold g can j).2.2 := by rw [up_ne (by omega), c3 109 (by decide) (by decide), upI_oth (by decide), upI_oth (by decide)]; exact w2
          have x1 : cM d (ac o d (cFold g can j)) (upL (upL J1 107 (d + 1) 0) 108 (d + 1) 1) := w3.of (by rw [upL_oth (by decide), ul_ne (by omega)]) (by rw [ul_ne (by omega), upL_oth (by decide)])
          have x3 : upI I3 109 (d + 1) 0 103 d = nI k := by rw [upI_oth (by decide), c3 103 (by decide) (by decide), up_same]
          have x4 : upI I3 109 (d + 1) 0 98 d = nI (k + 1) := by rw [upI_oth (by decide), c5 d (by omega), upI_oth (by decide), up_same]
          refine EV.at ck239 (by decide) 300 [64] ?_
          conv => whnf
          try dsimp only
          refine ⟨trivial, ihr (d + 1) (stepQ T q f k) _ _ (bK o d b (bcN g can j).2) _ _ _ (by omega) (by omega) (vQ_step hT hf2 k2 hv) ((hB.of2 f4.1).st) (fun e he => by rw [upI_oth (by decide)]; exact c1 e he) (by rw [upI_oth (by decide)]; exact c2) up_same (by rw [upL_oth (by decide), ul_same]) ul_same (fun z => absurd z (by omega)) (fun I5 J5 v4' v5' v6' y0 y00 y1 => ?_)⟩
          rw [hcc, hrt] at y1
          rw [show ∀ (o' : Bool) (x' : Int32), bK o' (d + 1) (bK o d b (bcN g can j).2) x' = bK o d b (bcN g can j).2 from fun o' x' => by unfold bK; rw [if_neg (fun z => absurd z.1 (by omega))]]
          obtain ⟨s1, s2⟩ := cF_skip (g := g) (can := can) (j := j) (k - j) (fun x a b => by rw [hcan]; exact k4 x a (by omega))
          rw [show j + (k - j) = k by omega] at s1 s2
          rw [← s1] at x0 x1
          rw [← s2]
          obtain ⟨z1, z2, z3⟩ := y0.2.2 d (by omega)
          have f5 : FE d I I5 := f4.tr y0.lo
          have g5 : FG2 d J J5 := g4.tr y00.lo
          have a0 : I5 109 d = nI (cFold g can k).2.2 := by rw [z3, x0]
          have a1 : cM d (ac o d (cFold g can k)) J5 := x1.of (y00 107 d (by omega)) (y00 108 d (by omega))
          have a3 : I5 103 d = nI k := by rw [z2, x3]
          have a4 : I5 98 d = nI (k + 1) := by rw [z1, x4]
          have ck' : can k = true := by rw [hcan]; exact k3
          have eF : cFold g can (k + 1) = (max (cFold g can k).1 (g k), (cFold g can k).2.1 + g k, (cFold g can k).2.2 + 1) := by rw [cFold, if_pos ck']
          have hNk := hN4 k (by omega)
          have hlk := hle k
          have hXW : rt (d + 1) (C k) ≤ WH := rt_le (hC1 k)
          have hNext : ∀ (J6 : Nat → Nat → Int64) (bb : Int32) (v4 v5 v6 : Value), FG2 d J J6 → cM d (ac o d (cFold g can (k + 1))) J6 → bb = bK o d b (bcN g can (k + 1)).2 → EV G 239 (D + 4) 0 0 238 [.ref 77, .int (b2i both), .int bb, .int (nI d), v4, v5, v6] [] (SH n, I5, J6) Q := by
            intro J6 bb v4 v5 v6 hJ6 hc6 hbb
            subst hbb
            have l := ih (m - (k + 1 - j)) (by omega) (k + 1) (upI I5 109 d (nI ((cFold g can k).2.2 + 1))) J6 v4 v5 v6 (by omega) (f5.up (Or.inr (Or.inr rfl)) (Nat.le_refl _)) hJ6 (by rw [upI_oth (by decide)]; exact a4) (by rw [up_same, eF]) hc6
            refine EV.at ck239 (by decide) 300 [] ?_
            conv => whnf
            try dsimp only
            refine ⟨in_nI (show d < 13 by omega) (by decide), ?_⟩
            conv => whnf
            try dsimp only
            refine ⟨in_nI (show d < 13 by omega) (by decide), ?_⟩
            conv => whnf
            try dsimp only
            rw [cd, a0, nI_1]
            exact ⟨trivial, l⟩
          have e153 : ∀ (mo : Bool) (bb : Int32) (v4 : Value), (o = true → mo = decide ((cFold g can k).2.2 = 0 ∨ (cFold g can k).1 < g k)) → bb = bK o d b (bcN g can (k + 1)).2 → EV G 239 (D + 4) 0 0 153 [.ref 77, .int (b2i both), .int bb, .int (nI d), v4, .int (b2i o), .int (b2i mo)] [] (SH n, I5, J5) Q := by
            intro mo bb v4 hmo hbb
            cases hoo : o
            · have hnx := hNext
              rw [hoo] at hnx hbb a1
              have eA := ac_add (d := d) ck' (hC1 k) (hgk k) hlk.2.1
              have hS := hacS k (by omega)
              rw [hoo] at hS
              refine EV.at ck239 (by decide) 300 [238] ?_
              conv => whnf
              try dsimp only
              first | refine ⟨fun h1 => absurd h1 (by decide), fun _ => ?_⟩ | refine ⟨fun _ => ?_, fun h1 => absurd (by decide) h1⟩ | refine ⟨fun h1 => absurd (by decide) h1, fun _ => ?_⟩ | refine ⟨fun _ => ?_, fun h1 => absurd h1 (by decide)⟩
              conv => whnf
              try dsimp only
              rw [nI_1]
              refine ⟨in_nI (show d + 1 < 13 by omega) (by decide), ?_⟩
              conv => whnf
              try dsimp only
              rw [nI_1]
              refine ⟨in_nI (show d + 1 < 13 by omega) (by decide), ?_⟩
              conv => whnf
              try dsimp only
              rw [cd1, y1.1, y1.2]
              refine ⟨trivial, r_adds (show d < 13 by omega) hS hXW a1 (fun J6 u1 u2 => ?_)⟩
              exact hnx J6 _ _ _ _ (g5.tr (FG2.at u2)) (by rw [eA]; exact u1) hbb
            · have hnx := hNext
              rw [hoo] at hnx hbb a1
              have hev := (hof.mp hoo).2
              have erx : rt (d + 1) (C k) = g k := by unfold rt; rw [if_neg (by omega), hgk]
              have eac : ac true d (cFold g can k) = (cFold g can k).1 := rfl
              have eac1 : ac true d (cFold g can (k + 1)) = max (cFold g can k).1 (g k) := by rw [eF]; rfl
              have hmo' := hmo hoo
              rw [erx] at y1
              rw [eac] at a1
              cases mo
              · have hm' := of_decide_eq_false hmo'.symm
                rw [eac1, Nat.max_eq_left (by omega)] at hnx
                refine EV.at ck239 (by decide) 300 [238] ?_
                conv => whnf
                try dsimp only
                first | refine ⟨fun h1 => absurd h1 (by decide), fun _ => ?_⟩ | refine ⟨fun _ => ?_, fun h1 => absurd (by decide) h1⟩ | refine ⟨fun h1 => absurd (by decide) h1, fun _ => ?_⟩ | refine ⟨fun _ => ?_, fun h1 => absurd h1 (by decide)⟩
                conv => whnf
                try dsimp only
                first | refine ⟨fun h1 => absurd h1 (by decide), fun _ => ?_⟩ | refine ⟨fun _ => ?_, fun h1 => absurd (by decide) h1⟩ | refine ⟨fun h1 => absurd (by decide) h1, fun _ => ?_⟩ | refine ⟨fun _ => ?_, fun h1 => absurd h1 (by decide)⟩
                conv => whnf
                try dsimp only
                refine ⟨in_nI (show d < 13 by omega) (by decide), ?_⟩
                conv => whnf
                try dsimp only
                refine ⟨in_nI (show d < 13 by omega) (by decide), ?_⟩
                conv => whnf
                try dsimp only
                first | refine ⟨fun h1 => absurd h1 (by decide), fun _ => ?_⟩ | refine ⟨fun _ => ?_, fun h1 => absurd (by decide) h1⟩ | refine ⟨fun h1 => absurd (by decide) h1, fun _ => ?_⟩ | refine ⟨fun _ => ?_, fun h1 => absurd h1 (by decide)⟩
                conv => whnf
                try dsimp only
                refine ⟨in_nI (show d < 13 by omega) (by decide), ?_⟩
                conv => whnf
                try dsimp only
                refine ⟨in_nI (show d < 13 by omega) (by decide), ?_⟩
                conv => whnf
                try dsimp only
                rw [cd]
                refine ⟨trivial, hnx _ _ _ _ _ ((g5.up (Or.inl rfl) (Nat.le_refl _)).up (Or.inr rfl) (Nat.le_refl _)) ⟨?_, ?_⟩ hbb⟩
                · rw [upL_oth (by decide), ul_same]
                  exact a1.1
                · rw [ul_same, upL_oth (by decide)]
                  exact a1.2
              · have hm' := of_decide_eq_true hmo'.symm
                have emx : max (cFold g can k).1 (g k) = g k := by
                  rcases hm' with z | z
                  · rw [cF_zero k z]; exact Nat.max_eq_right (Nat.zero_le _)
                  · exact Nat.max_eq_right (by omega)
                rw [eac1, emx] at hnx
                refine EV.at ck239 (by decide) 300 [238] ?_
                conv => whnf
                try dsimp only
                first | refine ⟨fun h1 => absurd h1 (by decide), fun _ => ?_⟩ | refine ⟨fun _ => ?_, fun h1 => absurd (by decide) h1⟩ | refine ⟨fun h1 => absurd (by decide) h1, fun _ => ?_⟩ | refine ⟨fun _ => ?_, fun h1 => absurd h1 (by decide)⟩
                conv => whnf
                try dsimp only
                first | refine ⟨fun h1 => absurd h1 (by decide), fun _ => ?_⟩ | refine ⟨fun _ => ?_, fun h1 => absurd (by decide) h1⟩ | refine ⟨fun h1 => absurd (by decide) h1, fun _ => ?_⟩ | refine ⟨fun _ => ?_, fun h1 => absurd h1 (by decide)⟩
                conv => whnf
                try dsimp only
                rw [nI_1]
                refine ⟨in_nI (show d + 1 < 13 by omega) (by decide), ?_⟩
                conv => whnf
                try dsimp only
                refine ⟨in_nI (show d < 13 by omega) (by decide), ?_⟩
                conv => whnf
                try dsimp only
                first | refine ⟨fun h1 => absurd h1 (by decide), fun _ => ?_⟩ | refine ⟨fun _ => ?_, fun h1 => absurd (by decide) h1⟩ | refine ⟨fun h1 => absurd (by decide) h1, fun _ => ?_⟩ | refine ⟨fun _ => ?_, fun h1 => absurd h1 (by decide)⟩
                conv => whnf
                try dsimp only
                rw [nI_1]
                refine ⟨in_nI (show d + 1 < 13 by omega) (by decide), ?_⟩
                conv => whnf
                try dsimp only
                refine ⟨in_nI (show d < 13 by omega) (by decide), ?_⟩
                conv => whnf
                try dsimp only
                rw [cd, cd1]
                refine ⟨trivial, hnx _ _ _ _ _ ((g5.up (Or.inl rfl) (Nat.le_refl _)).up (Or.inr rfl) (Nat.le_refl _)) ⟨?_, ?_⟩ hbb⟩
                · rw [upL_oth (by decide), ul_same]
                  exact y1.1
                · rw [ul_same, upL_oth (by decide)]
                  exact y1.2
          have e128 : ∀ (mo : Bool) (v4 : Value), (o = true → mo = decide ((cFold g can k).2.2 = 0 ∨ (cFold g can k).1 < g k)) → EV G 239 (D + 4) 0 0 128 [.ref 77, .int (b2i both), .int (bK o d b (bcN g can k).2), .int (nI d), v4, .int (b2i o), .int (b2i mo)] [] (SH n, I5, J5) Q := by
            intro mo v4 hmo
            have e := e153 mo
            have eb := bc_of (g := g) (can := can) k (by omega)
            refine EV.at ck239 (by decide) 300 [153] ?_
            conv => whnf
            try dsimp only
            refine ⟨fun z => ?_, fun z => ?_⟩
            · have z' : ¬ d = 0 := fun y => z (by rw [y]; rfl)
              conv => whnf
              try dsimp only
              exact ⟨trivial, e _ _ hmo (by unfold bK; rw [if_neg (fun y => z' y.1), if_neg (fun y => z' y.1)])⟩
            · have z' : d = 0 := (nu_eq (by omega) (by decide)).mp z
              conv => whnf
              try dsimp only
              cases hoo : o
              · rw [hoo] at e hmo
                first | refine ⟨fun h1 => absurd h1 (by decide), fun _ => ?_⟩ | refine ⟨fun _ => ?_, fun h1 => absurd (by decide) h1⟩ | refine ⟨fun h1 => absurd (by decide) h1, fun _ => ?_⟩ | refine ⟨fun _ => ?_, fun h1 => absurd h1 (by decide)⟩
                conv => whnf
                try dsimp only
                exact ⟨trivial, e _ _ hmo (by unfold bK; rw [if_neg (fun y => Bool.noConfusion y.2), if_neg (fun y => Bool.noConfusion y.2)])⟩
              · have hmo' := hmo hoo
                rw [hoo] at e hmo
                first | refine ⟨fun h1 => absurd h1 (by decide), fun _ => ?_⟩ | refine ⟨fun _ => ?_, fun h1 => absurd (by decide) h1⟩ | refine ⟨fun h1 => absurd (by decide) h1, fun _ => ?_⟩ | refine ⟨fun _ => ?_, fun h1 => absurd h1 (by decide)⟩
                conv => whnf
                try dsimp only
                cases mo
                · have hm' := of_decide_eq_false hmo'.symm
                  first | refine ⟨fun h1 => absurd h1 (by decide), fun _ => ?_⟩ | refine ⟨fun _ => ?_, fun h1 => absurd (by decide) h1⟩ | refine ⟨fun h1 => absurd (by decide) h1, fun _ => ?_⟩ | refine ⟨fun _ => ?_, fun h1 => absurd h1 (by decide)⟩
                  conv => whnf
                  try dsimp only
                  refine ⟨trivial, e _ _ hmo ?_⟩
                  unfold bK
                  rw [if_pos ⟨z', rfl⟩, if_pos ⟨z', rfl⟩, bcN, if_neg (fun y => hm' (y.2.elim (fun t => Or.inl (eb.2.mp t)) (fun t => Or.inr (by rw [← eb.1]; exact t))))]
                · have hm' := of_decide_eq_true hmo'.symm
                  first | refine ⟨fun h1 => absurd h1 (by decide), fun _ => ?_⟩ | refine ⟨fun _ => ?_, fun h1 => absurd (by decide) h1⟩ | refine ⟨fun h1 => absurd (by decide) h1, fun _ => ?_⟩ | refine ⟨fun _ => ?_, fun h1 => absurd h1 (by decide)⟩
                  conv => whnf
                  try dsimp only
                  refine ⟨by unfold vp_in; decide, ?_⟩
                  conv => whnf
                  try dsimp only
                  refine ⟨trivial, e _ _ hmo ?_⟩
                  unfold bK
                  rw [if_pos ⟨z', rfl⟩, bcN, if_pos ⟨ck', hm'.elim (fun t => Or.inl (eb.2.mpr t)) (fun t => Or.inr (by rw [eb.1]; exact t))⟩, ← a3, z']
                  rfl
          have e88 : ∀ (v4 v6 : Value), EV G 239 (D + 4) 0 0 88 [.ref 77, .int (b2i both), .int (bK o d b (bcN g can k).2), .int (nI d), v4, .int (b2i o), v6] [] (SH n, I5, J5) Q := by
            intro v4 v6
            have hS := hacS k (by omega)
            refine EV.at ck239 (by decide) 300 [128] ?_
            conv => whnf
            try dsimp only
            refine ⟨in_nI (show d < 13 by omega) (by decide), ?_⟩
            conv => whnf
            try dsimp only
            rw [cd, a0]
            refine ⟨fun z => ?_, fun z => ?_⟩
            · have z' : (cFold g can k).2.2 = 0 := (nu_eq (by omega) (by decide)).mp z
              conv => whnf
              try dsimp only
              exact ⟨trivial, e128 true _ (fun _ => (decide_eq_true (Or.inl z')).symm)⟩
            · have z' : ¬ (cFold g can k).2.2 = 0 := fun y => z (by rw [y]; rfl)
              conv => whnf
              try dsimp only
              rw [nI_1]
              refine ⟨in_nI (show d + 1 < 13 by omega) (by decide), ?_⟩
              conv => whnf
              try dsimp only
              rw [nI_1]
              refine ⟨in_nI (show d + 1 < 13 by omega) (by decide), ?_⟩
              conv => whnf
              try dsimp only
              rw [cd1, y1.1, y1.2]
              refine ⟨trivial, r_isMore (show d < 13 by omega) hS hXW a1 ?_⟩
              have em : o = true → decide (ac o d (cFold g can k) < rt (d + 1) (C k)) = decide ((cFold g can k).2.2 = 0 ∨ (cFold g can k).1 < g k) := fun hoo => by
                have hev := (hof.mp hoo).2
                rw [show rt (d + 1) (C k) = g k by unfold rt; rw [if_neg (by omega), hgk], hoo]
                show decide ((cFold g can k).1 < g k) = _
                apply decide_eq_decide.mpr
                exact ⟨Or.inr, fun t => t.elim (fun t => absurd t z') id⟩
              have e := e128 (decide (ac o d (cFold g can k) < rt (d + 1) (C k)))
              generalize decide (ac o d (cFold g can k) < rt (d + 1) (C k)) = mo at em e
              refine EV.at ck239 (by decide) 300 [128] ?_
              conv => whnf
              try dsimp only
              cases mo
              · first | refine ⟨fun h1 => absurd h1 (by decide), fun _ => ?_⟩ | refine ⟨fun _ => ?_, fun h1 => absurd (by decide) h1⟩ | refine ⟨fun h1 => absurd (by decide) h1, fun _ => ?_⟩ | refine ⟨fun _ => ?_, fun h1 => absurd h1 (by decide)⟩
                conv => whnf
                try dsimp only
                exact ⟨trivial, e _ em⟩
              · first | refine ⟨fun h1 => absurd h1 (by decide), fun _ => ?_⟩ | refine ⟨fun _ => ?_, fun h1 => absurd (by decide) h1⟩ | refine ⟨fun h1 => absurd (by decide) h1, fun _ => ?_⟩ | refine ⟨fun _ => ?_, fun h1 => absurd h1 (by decide)⟩
                conv => whnf
                try dsimp only
                exact ⟨trivial, e _ em⟩
          refine EV.at ck239 (by decide) 300 [88] ?_
          conv => whnf
          try dsimp only
          rw [show nI (d + 1) + (-1) = nI d from pk_m1 d]
          refine ⟨fun z => absurd z (nI_pos (by omega)), fun _ => ?_⟩
          conv => whnf
          try dsimp only
          cases hbo : both
          · have e := e88
            rw [hbo] at e hof
            first | refine ⟨fun h1 => absurd h1 (by decide), fun _ => ?_⟩ | refine ⟨fun _ => ?_, fun h1 => absurd (by decide) h1⟩ | refine ⟨fun h1 => absurd (by decide) h1, fun _ => ?_⟩ | refine ⟨fun _ => ?_, fun h1 => absurd h1 (by decide)⟩
            conv => whnf
            try dsimp only
            refine ⟨by decide, ?_⟩
            conv => whnf
            try dsimp only
            rw [rem2 (show d < 65536 by omega)]
            refine ⟨fun z => ?_, fun z => ?_⟩
            · have z' : ¬ d % 2 = 0 := fun y => z (by rw [y]; rfl)
              have ho' : o = false := by
                cases hoo : o with
                | false => rfl
                | true => exact absurd (hof.mp hoo).2 z'
              rw [ho'] at e ⊢
              conv => whnf
              try dsimp only
              exact ⟨trivial, e _ _⟩
            · have z' : d % 2 = 0 := (nu_eq (by omega) (by decide)).mp z
              have ho' : o = true := hof.mpr ⟨rfl, z'⟩
              rw [ho'] at e ⊢
              conv => whnf
              try dsimp only
              exact ⟨trivial, e _ _⟩
          · have e := e88
            rw [hbo] at e hof
            have ho' : o = false := by
              cases hoo : o with
              | false => rfl
              | true => exact absurd (hof.mp hoo).1 (by decide)
            rw [ho'] at e ⊢
            first | refine ⟨fun h1 => absurd h1 (by decide), fun _ => ?_⟩ | refine ⟨fun _ => ?_, fun h1 => absurd (by decide) h1⟩ | refine ⟨fun h1 => absurd (by decide) h1, fun _ => ?_⟩ | refine ⟨fun _ => ?_, fun h1 => absurd h1 (by decide)⟩
            conv => whnf
            try dsimp only
            exact ⟨trivial, e _ _⟩
    have hb0 : bK o d b (bcN g can 0).2 = b := by
      unfold bK
      split
      · rename_i z; exact (hb z.1).symm
      · rfl
    have l0 := loop (tC T) 0 I J v4 v5 v6 (by omega) (FE.rf d I) (FG2.rf d J) h98 h109 (by
      have e : ac o d (cFold g can 0) = 0 := by
        unfold ac cFold
        split
        · rfl
        · split <;> rfl
      rw [e]
      exact ⟨h107, h108⟩)
    rw [hb0] at l0
    exact l0
end
