/-! the reference's reader: changes, fighters, the whole TEXT -/
section
variable {G : GG} {d n : Nat} {σ : MH} {I : Nat → Nat → Int32} {J : Nat → Nat → Int64} {Q : Option Value → MH → Prop}
theorem r_inF {sz p lo hi : Nat} {tx : Nat → Int32} {x y : Int64} (hx : x = (nI lo).toInt64) (hy : y = (nI hi).toInt64) (hl : lo < 65536) (hno : fgN sz tx p lo hi = none → Q (some (.int 0)) σ) (hok : ∀ v, fgN sz tx p lo hi = some v → Q (some (.int 1)) σ) : MT G (d + 1) 158 [.long (bytI sz tx p - 48).toInt64, .long x, .long y] σ Q := by
  refine r_in ?_
  rw [hx, hy]
  have e : decide ((nI lo).toInt64 ≤ (bytI sz tx p - 48).toInt64 ∧ (bytI sz tx p - 48).toInt64 ≤ (nI hi).toInt64) = decide (p < sz ∧ nI lo ≤ tx p - 48 ∧ tx p - 48 ≤ nI hi) := by
    apply decide_eq_decide.mpr
    rw [le64, le64]
    unfold bytI
    by_cases hps : p < sz
    · rw [if_pos hps]
      exact ⟨fun q => ⟨hps, q⟩, fun q => q.2⟩
    · rw [if_neg hps]
      refine ⟨fun q => ?_, fun q => absurd q.1 hps⟩
      have h1 : nI lo < 0 := Int32.lt_of_le_of_lt q.1 (by decide)
      exact absurd h1 (nI_pos (by omega))
  rw [e]
  by_cases hc : p < sz ∧ nI lo ≤ tx p - 48 ∧ tx p - 48 ≤ nI hi
  · rw [decide_eq_true hc]
    exact hok _ (by unfold fgN; rw [if_pos hc])
  · rw [decide_eq_false hc]
    exact hno (by unfold fgN; rw [if_neg hc])
theorem byt_v {sz p lo hi v : Nat} {tx : Nat → Int32} (hl : lo < 65536) (hh : hi < 65536) (h : fgN sz tx p lo hi = some v) : bytI sz tx p - 48 = nI v := by
  obtain ⟨a1, a2, a3, a4⟩ := fg_ok hl hh h
  unfold bytI
  rw [if_pos a1]
  exact a4
theorem r_takesChange {t sz : Nat} {tx : Nat → Int32} {P : PS} (hx : xM t sz tx I) (hP : pOK P) (hM : qM P I) (hp : P.1 < sz) (hf : (rdC sz tx P).1 = false → ∀ I', I' 77 29 = nI (rdC sz tx P).2.1 → SQ I I' → Q (some (.int 0)) (SH n, I', J)) (ht : (rdC sz tx P).1 = true → ∀ I', qM (rdC sz tx P).2 I' → SQ I I' → Q (some (.int 1)) (SH n, I', J)) : MT G (d + 3) 180 [.ref 77] (SH n, I, J) Q := by
  have s80 : sz ≤ 80 := hx.2.1
  have h5 : tS P.2.1 ≤ 5 := hP.1.1
  have h12 : tC P.2.1 ≤ 12 := hP.1.2.2.1
  have h2 : P.2.2.1 ≤ 2 := hP.2.1
  obtain ⟨m1, m2, m3, m4, m5, m6, m7⟩ := id hM
  have ct : (nI (tC P.2.1)).toNatClampNeg = tC P.2.1 := nI_clamp (by omega)
  have no : (tS P.2.1 = 0 ∨ 0 < P.2.2.1 ∨ tC P.2.1 = 12) → Q (some (.int 0)) (SH n, I, J) := fun hn => by
    have e : rdC sz tx P = (false, P) := by unfold rdC; rw [if_pos hn]
    rw [e] at hf
    exact hf rfl I m4 (SQ.rf I)
  have sq : ∀ p, SQ I (upI I 77 29 (nI p)) := fun p => (SQ.rf I).up (Or.inr ⟨rfl, by decide, by decide⟩)
  have pl : ∀ p, rdC sz tx P = (false, (p, P.2)) → Q (some (.int 0)) (SH n, upI I 77 29 (nI p), J) := fun p hn => by
    rw [hn] at hf
    exact hf rfl _ up_same (sq p)
  have r20 : ∀ x, upI I 77 29 x 77 20 = nI (tS P.2.1) := fun x => by rw [up_ne (by decide)]; exact m1
  have r21 : ∀ x, upI I 77 29 x 77 21 = nI (tC P.2.1) := fun x => by rw [up_ne (by decide)]; exact m2
  have st : ∀ p, xM t sz tx (upI I 77 29 (nI p)) := fun p => hx.of (sq p)
  refine MT.by ck180 (by decide) rfl (Nat.le_of_ble_eq_true rfl) rfl 300 [] ?_
  conv => whnf
  try dsimp only
  rw [m1]
  refine pk_eq (tS P.2.1) 0 (fun z1 => ?_) (fun z1 => ?_)
  · conv => whnf
    try dsimp only
    exact ⟨Or.inl rfl, no (Or.inl z1)⟩
  conv => whnf
  try dsimp only
  rw [m3]
  refine pk_lt 0 P.2.2.1 (fun z2 => ?_) (fun z2 => ?_)
  · conv => whnf
    try dsimp only
    exact ⟨Or.inl rfl, no (Or.inr (Or.inl z2))⟩
  conv => whnf
  try dsimp only
  rw [m2]
  refine ⟨fun z3 => ?_, fun z3 => ?_⟩
  case refine_2 =>
    conv => whnf
    try dsimp only
    exact ⟨Or.inl rfl, no (Or.inr (Or.inr ((nu_eq (b := 12) (by omega) (by decide)).mp z3)))⟩
  have z3' : tC P.2.1 ≠ 12 := fun y => z3 (by rw [y]; rfl)
  have hun : rdC sz tx P = rdC1 sz tx P := by unfold rdC; rw [if_neg (by omega)]
  have es : (nI (tS P.2.1) - 1).toInt64 = (nI (tS P.2.1 - 1)).toInt64 := congrArg _ (pk_sub (b := 1) (by omega))
  conv => whnf
  try dsimp only
  rw [m4, nI_1]
  refine ⟨trivial, r_byteAt (st _) up_same (show P.1 + 1 < 65536 by omega) ?_⟩
  unfold rdC1 at hun
  refine EV.at ck180 (by decide) 300 [] ?_
  conv => whnf
  try dsimp only
  rw [r20]
  refine ⟨trivial, r_inF (lo := 0) (hi := tS P.2.1 - 1) (by decide) es (by decide) (fun hf1 => ?_) (fun x hf1 => ?_)⟩
  · rw [hf1] at hun
    refine EV.at ck180 (by decide) 300 [] ?_
    conv => whnf
    try dsimp only
    first | refine ⟨fun h1 => absurd h1 (by decide), fun _ => ?_⟩ | refine ⟨fun _ => ?_, fun h1 => absurd (by decide) h1⟩ | refine ⟨fun h1 => absurd (by decide) h1, fun _ => ?_⟩ | refine ⟨fun _ => ?_, fun h1 => absurd h1 (by decide)⟩
    conv => whnf
    try dsimp only
    exact ⟨Or.inl rfl, pl _ hun⟩
  obtain ⟨x1, x2, x3, x4⟩ := fg_ok (by omega) (by omega) hf1
  rw [hf1] at hun
  dsimp only at hun
  have bx := byt_v (by omega) (by omega) hf1
  refine EV.at ck180 (by decide) 300 [] ?_
  conv => whnf
  try dsimp only
  first | refine ⟨fun h1 => absurd h1 (by decide), fun _ => ?_⟩ | refine ⟨fun _ => ?_, fun h1 => absurd (by decide) h1⟩ | refine ⟨fun h1 => absurd (by decide) h1, fun _ => ?_⟩ | refine ⟨fun _ => ?_, fun h1 => absurd h1 (by decide)⟩
  conv => whnf
  try dsimp only
  rw [bx]
  refine ⟨trivial, r_fromMany h12 (r21 _) ?_⟩
  have ec : cntI (fun k => decide (upI I 77 29 (nI (P.1 + 1)) 93 k = nI x)) (tC P.2.1) = nI (cntN (fun k => tF P.2.1 k == x) (tC P.2.1)) := cntI_N _ (fun k hk => by
    rw [upI_oth (by decide), (m6 k hk).1]
    have := (hP.1.2.2.2 k hk).1
    by_cases hx : tF P.2.1 k = x
    · rw [hx, beq_self_eq_true, decide_eq_true rfl]
    · rw [beq_false_of_ne hx, decide_eq_false (fun z => hx ((nu_eq (by omega) (by omega)).mp z))])
  rw [ec]
  have hcl := cntN_le (f := fun k => tF P.2.1 k == x) (tC P.2.1)
  refine EV.at ck180 (by decide) 300 [] ?_
  conv => whnf
  try dsimp only
  refine ⟨fun z4 => ?_, fun z4 => ?_⟩
  case refine_2 =>
    have z4' : cntN (fun k => tF P.2.1 k == x) (tC P.2.1) = 4 := (nu_eq (b := 4) (by omega) (by decide)).mp z4
    rw [if_pos z4'] at hun
    conv => whnf
    try dsimp only
    exact ⟨Or.inl rfl, pl _ hun⟩
  have z4' : cntN (fun k => tF P.2.1 k == x) (tC P.2.1) ≠ 4 := fun y => z4 (by rw [y]; rfl)
  rw [if_neg z4'] at hun
  conv => whnf
  try dsimp only
  rw [up_same, up_up, nI_1]
  refine ⟨trivial, r_byteAt (st _) up_same (show P.1 + 1 + 1 < 65536 by omega) ?_⟩
  unfold rdC2 at hun
  refine EV.at ck180 (by decide) 300 [] ?_
  conv => whnf
  try dsimp only
  rw [r20]
  refine ⟨trivial, r_inF (lo := 0) (hi := tS P.2.1 - 1) (by decide) es (by decide) (fun hf2 => ?_) (fun y hf2 => ?_)⟩
  · have hf2 : fgN sz tx (P.1 + 2) 0 (tS P.2.1 - 1) = none := hf2
    rw [hf2] at hun
    refine EV.at ck180 (by decide) 300 [] ?_
    conv => whnf
    try dsimp only
    first | refine ⟨fun h1 => absurd h1 (by decide), fun _ => ?_⟩ | refine ⟨fun _ => ?_, fun h1 => absurd (by decide) h1⟩ | refine ⟨fun h1 => absurd (by decide) h1, fun _ => ?_⟩ | refine ⟨fun _ => ?_, fun h1 => absurd h1 (by decide)⟩
    conv => whnf
    try dsimp only
    exact ⟨Or.inl rfl, pl _ hun⟩
  have hf2 : fgN sz tx (P.1 + 2) 0 (tS P.2.1 - 1) = some y := hf2
  obtain ⟨y1, y2, y3, y4⟩ := fg_ok (by omega) (by omega) hf2
  rw [hf2] at hun
  dsimp only at hun
  have b_y : bytI sz tx (P.1 + 1 + 1) - 48 = nI y := byt_v (by omega) (by omega) hf2
  refine EV.at ck180 (by decide) 300 [] ?_
  conv => whnf
  try dsimp only
  first | refine ⟨fun h1 => absurd h1 (by decide), fun _ => ?_⟩ | refine ⟨fun _ => ?_, fun h1 => absurd (by decide) h1⟩ | refine ⟨fun h1 => absurd (by decide) h1, fun _ => ?_⟩ | refine ⟨fun _ => ?_, fun h1 => absurd h1 (by decide)⟩
  conv => whnf
  try dsimp only
  rw [b_y]
  refine ⟨fun z5 => ?_, fun z5 => ?_⟩
  case refine_2 =>
    rw [if_pos ((nu_eq (by omega) (by omega)).mp z5).symm] at hun
    conv => whnf
    try dsimp only
    exact ⟨Or.inl rfl, pl _ hun⟩
  rw [if_neg (fun e => z5 (by rw [e]))] at hun
  conv => whnf
  try dsimp only
  rw [up_same, up_up, nI_1]
  unfold rdC3 at hun
  refine ⟨trivial, r_figure (lo := 1) (hi := 5) (st _) up_same (show P.1 + 1 + 1 + 1 < 65536 by omega) (by decide) (by decide) (fun hf3 => ?_) (fun v hf3 => ?_)⟩
  · have hf3 : fgN sz tx (P.1 + 3) 1 5 = none := hf3
    rw [hf3] at hun
    refine EV.at ck180 (by decide) 300 [] ?_
    conv => whnf
    try dsimp only
    rw [r21]
    refine ⟨in_nI (show tC P.2.1 < 12 by omega) (by decide), ?_⟩
    conv => whnf
    try dsimp only
    have q1 : ∀ x y, upI (upI I 77 29 x) 93 (tC P.2.1) y 77 21 = nI (tC P.2.1) := fun x y => by rw [upI_oth (by decide)]; exact r21 x
    have q2 : ∀ x y z, upI (upI (upI I 77 29 x) 93 (tC P.2.1) y) 94 (tC P.2.1) z 77 21 = nI (tC P.2.1) := fun x y z => by rw [upI_oth (by decide)]; exact q1 x y
    rw [ct, q1]
    refine ⟨in_nI (show tC P.2.1 < 12 by omega) (by decide), ?_⟩
    conv => whnf
    try dsimp only
    rw [ct, q2]
    refine ⟨in_nI (show tC P.2.1 < 12 by omega) (by decide), ?_⟩
    conv => whnf
    try dsimp only
    first | refine ⟨fun h1 => absurd h1 (by decide), fun _ => ?_⟩ | refine ⟨fun _ => ?_, fun h1 => absurd (by decide) h1⟩ | refine ⟨fun h1 => absurd (by decide) h1, fun _ => ?_⟩ | refine ⟨fun _ => ?_, fun h1 => absurd h1 (by decide)⟩
    conv => whnf
    try dsimp only
    refine ⟨Or.inl rfl, ?_⟩
    rw [hun] at hf
    refine hf rfl _ ?_ (((((sq _).up (Or.inl (by decide))).up (Or.inl (by decide))).up (Or.inl (by decide))).up (Or.inr ⟨rfl, by decide, by decide⟩))
    rw [up_ne (by decide), upI_oth (by decide), upI_oth (by decide), upI_oth (by decide), up_same]
  · have hf3 : fgN sz tx (P.1 + 3) 1 5 = some v := hf3
    obtain ⟨v1, v2, v3, v4⟩ := fg_ok (by omega) (by omega) hf3
    rw [hf3] at hun
    dsimp only at hun
    have q1 : ∀ x y, upI (upI I 77 29 x) 93 (tC P.2.1) y 77 21 = nI (tC P.2.1) := fun x y => by rw [upI_oth (by decide)]; exact r21 x
    have q2 : ∀ x y z, upI (upI (upI I 77 29 x) 93 (tC P.2.1) y) 94 (tC P.2.1) z 77 21 = nI (tC P.2.1) := fun x y z => by rw [upI_oth (by decide)]; exact q1 x y
    have q3 : ∀ x y z u, upI (upI (upI (upI I 77 29 x) 93 (tC P.2.1) y) 94 (tC P.2.1) z) 95 (tC P.2.1) u 77 21 = nI (tC P.2.1) := fun x y z u => by rw [upI_oth (by decide)]; exact q2 x y z
    rw [up_up]
    refine EV.at ck180 (by decide) 300 [] ?_
    conv => whnf
    try dsimp only
    rw [r21]
    refine ⟨in_nI (show tC P.2.1 < 12 by omega) (by decide), ?_⟩
    conv => whnf
    try dsimp only
    rw [ct, q1]
    refine ⟨in_nI (show tC P.2.1 < 12 by omega) (by decide), ?_⟩
    conv => whnf
    try dsimp only
    rw [ct, q2]
    refine ⟨in_nI (show tC P.2.1 < 12 by omega) (by decide), ?_⟩
    conv => whnf
    try dsimp only
    rw [ct, q3, nI_1 (tC P.2.1)]
    refine ⟨fun z => absurd z (nI_nle (by omega) (by omega)), fun _ => ?_⟩
    conv => whnf
    try dsimp only
    refine ⟨Or.inr rfl, ?_⟩
    rw [hun] at ht
    refine ht rfl _ ?_ (((((sq _).up (Or.inl (by decide))).up (Or.inl (by decide))).up (Or.inl (by decide))).up (Or.inr ⟨rfl, by decide, by decide⟩))
    refine ⟨?_, up_same, ?_, ?_, fun i hi => ?_, fun k hk => ?_, fun i hi => ?_⟩
    · rw [up_ne (by decide), upI_oth (by decide), upI_oth (by decide), upI_oth (by decide)]; exact r20 _
    · rw [up_ne (by decide), upI_oth (by decide), upI_oth (by decide), upI_oth (by decide), up_ne (by decide)]; exact m3
    · rw [up_ne (by decide), upI_oth (by decide), upI_oth (by decide), upI_oth (by decide), up_same]
    · rw [upI_oth (r' := 91) (by decide), upI_oth (r' := 91) (by decide), upI_oth (r' := 91) (by decide), upI_oth (r' := 91) (by decide), upI_oth (r' := 91) (by decide), upI_oth (r' := 92) (by decide), upI_oth (r' := 92) (by decide), upI_oth (r' := 92) (by decide), upI_oth (r' := 92) (by decide), upI_oth (r' := 92) (by decide)]
      exact m5 i hi
    · rw [upI_oth (r' := 93) (by decide), upI_oth (r' := 93) (by decide), upI_oth (r' := 93) (by decide), upI_oth (r' := 94) (by decide), upI_oth (r' := 94) (by decide), upI_oth (r' := 95) (by decide)]
      by_cases hk2 : k = tC P.2.1
      · subst hk2
        rw [up_same, up_same, up_same]
        exact ⟨by rw [addC_F, if_pos rfl], by rw [addC_I, if_pos rfl], by rw [addC_W, if_pos rfl]⟩
      · have hk : k < tC P.2.1 + 1 := hk
        rw [up_ne hk2, up_ne hk2, up_ne hk2, upI_oth (by decide), upI_oth (r' := 94) (by decide), upI_oth (r' := 94) (by decide), upI_oth (r' := 95) (by decide), upI_oth (r' := 95) (by decide), upI_oth (r' := 95) (by decide), addC_F, addC_I, addC_W, if_neg hk2, if_neg hk2, if_neg hk2]
        exact m6 k (by omega)
    · rw [upI_oth (r' := 96) (by decide), upI_oth (r' := 96) (by decide), upI_oth (r' := 96) (by decide), upI_oth (r' := 96) (by decide), upI_oth (r' := 96) (by decide)]
      exact m7 i hi
theorem r_takesFighter {t sz : Nat} {tx : Nat → Int32} {P : PS} (hx : xM t sz tx I) (hP : pOK P) (hM : qM P I) (hp : P.1 < sz) (hf : (rdF sz tx P).1 = false → ∀ I', I' 77 29 = nI (rdF sz tx P).2.1 → SQ I I' → Q (some (.int 0)) (SH n, I', J)) (ht : (rdF sz tx P).1 = true → ∀ I', qM (rdF sz tx P).2 I' → SQ I I' → Q (some (.int 1)) (SH n, I', J)) : MT G (d + 3) 181 [.ref 77] (SH n, I, J) Q := by
  have s80 : sz ≤ 80 := hx.2.1
  have h5 : tS P.2.1 ≤ 5 := hP.1.1
  have h2 : P.2.2.1 ≤ 2 := hP.2.1
  obtain ⟨m1, m2, m3, m4, m5, m6, m7⟩ := id hM
  have no : (tS P.2.1 = 0 ∨ P.2.2.1 = 2) → Q (some (.int 0)) (SH n, I, J) := fun hn => by
    have e : rdF sz tx P = (false, P) := by unfold rdF; rw [if_pos hn]
    rw [e] at hf
    exact hf rfl I m4 (SQ.rf I)
  have sq : ∀ p, SQ I (upI I 77 29 (nI p)) := fun p => (SQ.rf I).up (Or.inr ⟨rfl, by decide, by decide⟩)
  have pl : ∀ p, rdF sz tx P = (false, (p, P.2)) → Q (some (.int 0)) (SH n, upI I 77 29 (nI p), J) := fun p hn => by
    rw [hn] at hf
    exact hf rfl _ up_same (sq p)
  have r20 : ∀ x, upI I 77 29 x 77 20 = nI (tS P.2.1) := fun x => by rw [up_ne (by decide)]; exact m1
  have r22 : ∀ x, upI I 77 29 x 77 22 = nI P.2.2.1 := fun x => by rw [up_ne (by decide)]; exact m3
  have st : ∀ p, xM t sz tx (upI I 77 29 (nI p)) := fun p => hx.of (sq p)
  have e2 : (2 : Int32) * nI P.2.2.1 = nI (2 * P.2.2.1) := pk_mul 2 _
  have c2 : (nI (2 * P.2.2.1)).toNatClampNeg = 2 * P.2.2.1 := nI_clamp (by omega)
  have c3 : (nI (2 * P.2.2.1 + 1)).toNatClampNeg = 2 * P.2.2.1 + 1 := nI_clamp (by omega)
  refine MT.by ck181 (by decide) rfl (Nat.le_of_ble_eq_true rfl) rfl 300 [] ?_
  conv => whnf
  try dsimp only
  rw [m1]
  refine pk_eq (tS P.2.1) 0 (fun z1 => ?_) (fun z1 => ?_)
  · conv => whnf
    try dsimp only
    exact ⟨Or.inl rfl, no (Or.inl z1)⟩
  conv => whnf
  try dsimp only
  rw [m3]
  refine ⟨fun z3 => ?_, fun z3 => ?_⟩
  case refine_2 =>
    conv => whnf
    try dsimp only
    exact ⟨Or.inl rfl, no (Or.inr ((nu_eq (b := 2) (by omega) (by decide)).mp z3))⟩
  have z3' : P.2.2.1 ≠ 2 := fun y => z3 (by rw [y]; rfl)
  have hun : rdF sz tx P = rdF1 sz tx P := by unfold rdF; rw [if_neg (by omega)]
  have es : nI (tS P.2.1) - 1 = nI (tS P.2.1 - 1) := pk_sub (b := 1) (by omega)
  conv => whnf
  try dsimp only
  rw [m4, nI_1, r20, es]
  unfold rdF1 at hun
  refine ⟨trivial, r_figure (lo := 0) (st _) up_same (show P.1 + 1 < 65536 by omega) (by decide) (by omega) (fun hf1 => ?_) (fun x hf1 => ?_)⟩
  · rw [hf1] at hun
    refine EV.at ck181 (by decide) 300 [] ?_
    conv => whnf
    try dsimp only
    first | refine ⟨fun h1 => absurd h1 (by decide), fun _ => ?_⟩ | refine ⟨fun _ => ?_, fun h1 => absurd (by decide) h1⟩ | refine ⟨fun h1 => absurd (by decide) h1, fun _ => ?_⟩ | refine ⟨fun _ => ?_, fun h1 => absurd h1 (by decide)⟩
    conv => whnf
    try dsimp only
    exact ⟨Or.inl rfl, pl _ hun⟩
  obtain ⟨x1, x2, x3, x4⟩ := fg_ok (by omega) (by omega) hf1
  rw [hf1] at hun
  dsimp only at hun
  rw [up_up]
  refine EV.at ck181 (by decide) 300 [] ?_
  conv => whnf
  try dsimp only
  refine ⟨fun _ => ?_, fun z => absurd (nI_pos' (show x < 2 ^ 31 by omega)) z⟩
  conv => whnf
  try dsimp only
  unfold rdF2 at hun
  have q1 : ∀ x y, upI (upI I 77 29 x) 96 (2 * P.2.2.1) y 77 22 = nI P.2.2.1 := fun x y => by rw [upI_oth (by decide)]; exact r22 x
  have q2 : ∀ x y z, upI (upI (upI I 77 29 x) 96 (2 * P.2.2.1) y) 96 (2 * P.2.2.1 + 1) z 77 22 = nI P.2.2.1 := fun x y z => by rw [upI_oth (by decide)]; exact q1 x y
  refine ⟨trivial, r_figure (lo := 0) (hi := 5) (st _) up_same (show P.1 + 1 + 1 < 65536 by omega) (by decide) (by decide) (fun hf2 => ?_) (fun y hf2 => ?_)⟩
  · have hf2 : fgN sz tx (P.1 + 2) 0 5 = none := hf2
    rw [hf2] at hun
    refine EV.at ck181 (by decide) 300 [] ?_
    conv => whnf
    try dsimp only
    rw [r22, e2]
    refine ⟨in_nI (show 2 * P.2.2.1 < 4 by omega) (by decide), ?_⟩
    conv => whnf
    try dsimp only
    rw [c2, q1, e2, nI_1]
    refine ⟨in_nI (show 2 * P.2.2.1 + 1 < 4 by omega) (by decide), ?_⟩
    conv => whnf
    try dsimp only
    first | refine ⟨fun h1 => absurd h1 (by decide), fun _ => ?_⟩ | refine ⟨fun _ => ?_, fun h1 => absurd (by decide) h1⟩ | refine ⟨fun h1 => absurd (by decide) h1, fun _ => ?_⟩ | refine ⟨fun _ => ?_, fun h1 => absurd h1 (by decide)⟩
    conv => whnf
    try dsimp only
    refine ⟨Or.inl rfl, ?_⟩
    rw [hun] at hf
    refine hf rfl _ ?_ ((((sq _).up (Or.inl (by decide))).up (Or.inl (by decide))).up (Or.inr ⟨rfl, by decide, by decide⟩))
    rw [up_ne (by decide), upI_oth (by decide), upI_oth (by decide), up_same]
  · have hf2 : fgN sz tx (P.1 + 2) 0 5 = some y := hf2
    obtain ⟨y1, y2, y3, y4⟩ := fg_ok (by omega) (by omega) hf2
    rw [hf2] at hun
    dsimp only at hun
    rw [up_up]
    refine EV.at ck181 (by decide) 300 [] ?_
    conv => whnf
    try dsimp only
    rw [r22, e2]
    refine ⟨in_nI (show 2 * P.2.2.1 < 4 by omega) (by decide), ?_⟩
    conv => whnf
    try dsimp only
    rw [c2, q1, e2, nI_1]
    refine ⟨in_nI (show 2 * P.2.2.1 + 1 < 4 by omega) (by decide), ?_⟩
    conv => whnf
    try dsimp only
    rw [c3, q2, nI_1 P.2.2.1]
    refine ⟨fun z => absurd z (nI_pos (by omega)), fun _ => ?_⟩
    conv => whnf
    try dsimp only
    refine ⟨Or.inr rfl, ?_⟩
    rw [hun] at ht
    refine ht rfl _ ?_ ((((sq _).up (Or.inl (by decide))).up (Or.inl (by decide))).up (Or.inr ⟨rfl, by decide, by decide⟩))
    have o : ∀ r, r ≠ 77 → r ≠ 96 → upI (upI (upI (upI I 77 29 (nI (P.1 + 1 + 1 + 1))) 96 (2 * P.2.2.1) (nI x)) 96 (2 * P.2.2.1 + 1) (nI y)) 77 22 (nI (P.2.2.1 + 1)) r = I r := fun r h1 h2 => by rw [upI_oth h1, upI_oth h2, upI_oth h2, upI_oth h1]
    refine ⟨?_, ?_, up_same, ?_, fun i hi => ?_, fun k hk => ?_, fun i hi => ?_⟩
    · rw [up_ne (by decide), upI_oth (by decide), upI_oth (by decide)]; exact r20 _
    · rw [up_ne (by decide), upI_oth (by decide), upI_oth (by decide), up_ne (by decide)]; exact m2
    · rw [up_ne (by decide), upI_oth (by decide), upI_oth (by decide), up_same]
    · rw [o 91 (by decide) (by decide), o 92 (by decide) (by decide)]
      exact m5 i hi
    · rw [o 93 (by decide) (by decide), o 94 (by decide) (by decide), o 95 (by decide) (by decide)]
      exact m6 k hk
    · rw [upI_oth (r' := 96) (by decide)]
      by_cases hi2 : i = P.2.2.1
      · subst hi2
        rw [up_ne (by omega), up_same, up_same]
        exact ⟨by simp, by simp⟩
      · have hi : i < P.2.2.1 + 1 := hi
        rw [up_ne (by omega), up_ne (by omega), up_ne (by omega), up_ne (by omega), upI_oth (by decide)]
        simp only [if_neg hi2]
        exact m7 i (by omega)
end
