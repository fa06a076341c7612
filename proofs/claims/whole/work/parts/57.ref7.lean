/-! the reference's pile of positions -/
def pM (d : Nat) (q : Nat → SD) (I : Nat → Nat → Int32) : Prop := ∀ e, e < 6 → I 97 (6 * d + e) = nI (pl q e)
def kM (q : Nat → SD) (I : Nat → Nat → Int32) : Prop := I 99 0 = nI (q 0).2.2.2 ∧ I 99 1 = nI (q 1).2.2.2
theorem pl_S {q : Nat → SD} {f : Nat} (hf : f < 2) : pl q f = (q f).1 := by rcases (show f = 0 ∨ f = 1 by omega) with rfl | rfl <;> rfl
theorem pl_F {q : Nat → SD} {f : Nat} (hf : f < 2) : pl q (2 + f) = (q f).2.1 := by rcases (show f = 0 ∨ f = 1 by omega) with rfl | rfl <;> rfl
theorem pl_U {q : Nat → SD} {f : Nat} (hf : f < 2) : pl q (4 + f) = (q f).2.2.1 := by rcases (show f = 0 ∨ f = 1 by omega) with rfl | rfl <;> rfl
theorem i6 (d : Nat) : (6 : Int32) * nI d = nI (6 * d) := pk_mul 6 d
theorem x6 (d e : Nat) : (6 : Int32) * nI d + nI e = nI (6 * d + e) := by rw [i6, nI_add]
theorem x60 (d f : Nat) : (6 : Int32) * nI d + 0 + nI f = nI (6 * d + f) := by rw [Int32.add_zero, i6, nI_add]
theorem x62 (d f : Nat) : (6 : Int32) * nI d + 2 + nI f = nI (6 * d + (2 + f)) := by rw [i6, show nI (6 * d) + 2 = nI (6 * d + 2) from nI_add _ 2, nI_add, Nat.add_assoc]
theorem x64 (d f : Nat) : (6 : Int32) * nI d + 4 + nI f = nI (6 * d + (4 + f)) := by rw [i6, show nI (6 * d) + 4 = nI (6 * d + 4) from nI_add _ 4, nI_add, Nat.add_assoc]
theorem x61 (d : Nat) {f : Nat} (hf : f < 2) : (6 : Int32) * nI d + 0 + 1 - nI f = nI (6 * d + (1 - f)) := by rw [Int32.add_zero, i6, show nI (6 * d) + 1 = nI (6 * d + 1) from nI_add _ 1, pk_sub (by omega)]; congr 1; omega
theorem x66 (d e : Nat) : (6 : Int32) * nI d + 6 + nI e = nI (6 * (d + 1) + e) := by rw [i6, show nI (6 * d) + 6 = nI (6 * d + 6) from nI_add _ 6, nI_add]; congr 1
theorem x660 (d f : Nat) : (6 : Int32) * nI d + 6 + 0 + nI f = nI (6 * (d + 1) + f) := by rw [Int32.add_zero]; exact x66 d f
theorem x662 (d f : Nat) : (6 : Int32) * nI d + 6 + 2 + nI f = nI (6 * (d + 1) + (2 + f)) := by rw [i6, show nI (6 * d) + 6 = nI (6 * d + 6) from nI_add _ 6, show nI (6 * d + 6) + 2 = nI (6 * d + 6 + 2) from nI_add _ 2, nI_add]; congr 1; omega
theorem x664 (d f : Nat) : (6 : Int32) * nI d + 6 + 4 + nI f = nI (6 * (d + 1) + (4 + f)) := by rw [i6, show nI (6 * d) + 6 = nI (6 * d + 6) from nI_add _ 6, show nI (6 * d + 6) + 4 = nI (6 * d + 6 + 4) from nI_add _ 4, nI_add]; congr 1; omega
theorem isB1 : ∀ q, q < 6 → isB q 1 = decide (nI q = 1 ∨ nI q = 5) := by decide +kernel
theorem isB2 : ∀ q, q < 6 → isB q 2 = decide (nI q = 2 ∨ nI q = 4) := by decide +kernel
theorem rem2 {x : Nat} (hx : x < 65536) : jrem (nI x) 2 = nI (x % 2) := pk_rem (d := 2) (by omega) (by decide) (by decide)
section
variable {G : GG} {D n : Nat} {I : Nat → Nat → Int32} {J : Nat → Nat → Int64} {Q : Option Value → MH → Prop} {T : TN} {q : Nat → SD}
theorem r_layRoot {F : FG} (hF : wM 0 F I) (hz : F.2.1 ≤ 40) (h : ∀ I', pM 0 F.1 I' → kM F.1 I' → I' 77 34 = nI (F.2.1 % 2) → I' 98 0 = 0 → (∀ r, r ≠ 77 → r ≠ 97 → r ≠ 98 → r ≠ 99 → I' r = I r) → (∀ k, k ≠ 34 → I' 77 k = I 77 k) → Q none (SH n, I', J)) : MT G (D + 1) 203 [.ref 77] (SH n, I, J) Q := by
  obtain ⟨g1, g2, g3, g4, g5⟩ := hF
  have loop : ∀ m k, k + m = 6 → EV G 203 D 0 0 2 [.ref 77, .int (nI k)] [] (SH n, cpI I 78 97 0 0 k, J) Q := by
    intro m
    induction m with
    | zero =>
      intro k hk
      have hk : k = 6 := hk
      subst hk
      have o : ∀ r, r ≠ 97 → cpI I 78 97 0 0 6 r = I r := fun r hr => cp_oth hr
      have c6 : Int32.toNatClampNeg 6 = 6 := by decide
      have c7 : Int32.toNatClampNeg 7 = 7 := by decide
      have c8 : Int32.toNatClampNeg 8 = 8 := by decide
      have r1 : upI (cpI I 78 97 0 0 6) 98 0 0 78 6 = nI (F.1 0).2.2.2 := by rw [upI_oth (by decide), o 78 (by decide)]; exact g2
      have r2 : ∀ x, upI (upI (cpI I 78 97 0 0 6) 98 0 0) 99 0 x 78 7 = nI (F.1 1).2.2.2 := fun x => by rw [upI_oth (by decide), upI_oth (by decide), o 78 (by decide)]; exact g3
      have r3 : ∀ x y, upI (upI (upI (cpI I 78 97 0 0 6) 98 0 0) 99 0 x) 99 1 y 78 8 = nI F.2.1 := fun x y => by rw [upI_oth (by decide), upI_oth (by decide), upI_oth (by decide), o 78 (by decide)]; exact g4
      refine EV.at ck203 (by decide) 300 [] ?_
      conv => whnf
      try dsimp only
      first | refine ⟨fun h1 => absurd h1 (by decide), fun _ => ?_⟩ | refine ⟨fun _ => ?_, fun h1 => absurd (by decide) h1⟩ | refine ⟨fun h1 => absurd (by decide) h1, fun _ => ?_⟩ | refine ⟨fun _ => ?_, fun h1 => absurd h1 (by decide)⟩
      conv => whnf
      try dsimp only
      refine ⟨by unfold vp_in; decide, ?_⟩
      conv => whnf
      try dsimp only
      refine ⟨by unfold vp_in; decide, ?_⟩
      conv => whnf
      try dsimp only
      refine ⟨by unfold vp_in; decide, ?_⟩
      conv => whnf
      try dsimp only
      refine ⟨by unfold vp_in; decide, ?_⟩
      conv => whnf
      try dsimp only
      refine ⟨by unfold vp_in; decide, ?_⟩
      conv => whnf
      try dsimp only
      refine ⟨by unfold vp_in; decide, ?_⟩
      conv => whnf
      try dsimp only
      show (¬ (2 : Int32) = 0) ∧ _
      refine ⟨by decide, ?_⟩
      conv => whnf
      try dsimp only
      have e0 : Int32.toNatClampNeg 0 = 0 := by decide
      have e1 : Int32.toNatClampNeg 1 = 1 := by decide
      rw [e0, e1, c6, c7, c8, r1, r2, r3, rem2 (by omega)]
      refine ⟨trivial, h _ (fun e he => ?_) ⟨?_, ?_⟩ up_same ?_ (fun r h1 h2 h3 h4 => ?_) (fun k hk => ?_)⟩
      · rw [upI_oth (by decide), upI_oth (by decide), upI_oth (by decide), upI_oth (by decide)]
        show cpI I 78 97 0 0 6 97 (6 * 0 + e) = _
        rw [show 6 * 0 + e = e by omega, cp_in he]
        have := g1 e he
        rw [Nat.zero_add] at this
        exact this
      · rw [upI_oth (by decide), up_ne (by decide), up_same]
      · rw [upI_oth (by decide), up_same]
      · rw [upI_oth (by decide), upI_oth (by decide), upI_oth (by decide), up_same]
      · rw [upI_oth h1, upI_oth h4, upI_oth h4, upI_oth h3, o r h2]
      · rw [up_ne hk, upI_oth (by decide), upI_oth (by decide), upI_oth (by decide), o 77 (by decide)]
    | succ m ih =>
      intro k hk
      have ihj := ih (k + 1) (by omega)
      have ck : (nI k).toNatClampNeg = k := nI_clamp (by omega)
      rw [← cp_s, nI_succ k, Nat.zero_add] at ihj
      refine EV.at ck203 (by decide) 300 [] ?_
      conv => whnf
      try dsimp only
      refine ⟨fun z => absurd z (nI_ge (b := 6) (show k < 6 by omega) (by decide)), fun _ => ?_⟩
      conv => whnf
      try dsimp only
      refine ⟨in_nI (show k < 1156 by omega) (by decide), ?_⟩
      conv => whnf
      try dsimp only
      refine ⟨in_nI (show k < 78 by omega) (by decide), ?_⟩
      conv => whnf
      try dsimp only
      rw [ck, cp_oth (r := 78) (by decide)]
      exact ⟨trivial, ihj⟩
  have l0 := loop 6 0 (by omega)
  rw [cp_0] at l0
  refine MT.by ck203 (by decide) rfl (Nat.le_of_ble_eq_true rfl) rfl 300 [2] ?_
  conv => whnf
  try dsimp only
  exact ⟨trivial, l0⟩
theorem r_takes {d f k : Nat} (hd : d ≤ 12) (hf : f < 2) (hT : tOK T) (hM : mT T I) (hp : pM d q I) (hv : vQ T q) (hk : k < tC T) (h : Q (some (.int (nI (priceN T k (q (1 - f)).1)))) (SH n, I, J)) : MT G (D + 1) 204 [.ref 77, .int (nI d), .int (nI f), .int (nI k)] (SH n, I, J) Q := by
  have h5 : tS T ≤ 5 := hT.1
  have h12 : tC T ≤ 12 := hT.2.2.1
  obtain ⟨b1, b2, b3, b4⟩ := hT.2.2.2 k hk
  obtain ⟨m1, m2, m3⟩ := hM.2.2.2 k hk
  have k1 := (hT.2.1 _ b1).1
  have k2 := (hT.2.1 _ b2).1
  have ck : (nI k).toNatClampNeg = k := nI_clamp (by omega)
  have ci : (nI (tI T k)).toNatClampNeg = tI T k := nI_clamp (by omega)
  have cf : (nI (tF T k)).toNatClampNeg = tF T k := nI_clamp (by omega)
  have ho : (q (1 - f)).1 < tS T := (vQ_at hv (show 1 - f < 2 by omega)).1
  have co : (nI (q (1 - f)).1).toNatClampNeg = (q (1 - f)).1 := nI_clamp (by omega)
  have c6 : (nI (6 * d + (1 - f))).toNatClampNeg = 6 * d + (1 - f) := nI_clamp (by omega)
  have e6 : I 97 (6 * d + (1 - f)) = nI (q (1 - f)).1 := by rw [hp (1 - f) (by omega), pl_S (by omega)]
  have mi := (hM.2.1 _ b2).1
  have mf := (hM.2.1 _ b1).1
  have mo := (hM.2.1 _ ho).1
  rw [← price_eq hT hk ho] at h
  unfold priceI at h
  have k90 : ∀ x1 x2 x3 : Bool, x1 = isK (tK T (tI T k)) 1 → x2 = decide (nI (tK T (tF T k)) = 3) → x3 = decide (nI (tK T (q (1 - f)).1) = 4) → EV G 204 D 0 0 90 [.ref 77, .int (nI d), .int (nI f), .int (nI k), .int (b2i x1), .int (b2i x2), .int (b2i x3), dm] [] (SH n, I, J) Q := by
    intro x1 x2 x3 y1 y2 y3
    rw [← y1, ← y2, ← y3] at h
    refine EV.at ck204 (by decide) 300 [] ?_
    conv => whnf
    try dsimp only
    refine ⟨in_nI (show k < 12 by omega) (by decide), ?_⟩
    conv => whnf
    try dsimp only
    rw [ck, m3]
    unfold jmax at h
    refine ⟨fun z => ?_, fun z => ?_⟩
    · rw [if_neg (Int32.not_lt.mpr z)] at h
      conv => whnf
      try dsimp only
      exact ⟨trivial, h⟩
    · rw [if_pos (Int32.not_le.mp z)] at h
      conv => whnf
      try dsimp only
      exact ⟨trivial, h⟩
  have k59 : ∀ x1 x2 : Bool, x1 = isK (tK T (tI T k)) 1 → x2 = decide (nI (tK T (tF T k)) = 3) → EV G 204 D 0 0 59 [.ref 77, .int (nI d), .int (nI f), .int (nI k), .int (b2i x1), .int (b2i x2), dm, dm] [] (SH n, I, J) Q := by
    intro x1 x2 y1 y2
    refine EV.at ck204 (by decide) 300 [90] ?_
    conv => whnf
    try dsimp only
    rw [x61 d hf]
    refine ⟨in_nI (show 6 * d + (1 - f) < 78 by omega) (by decide), ?_⟩
    conv => whnf
    try dsimp only
    rw [c6, e6]
    refine ⟨in_nI (show (q (1 - f)).1 < 5 by omega) (by decide), ?_⟩
    conv => whnf
    try dsimp only
    rw [co, mo]
    refine ⟨fun z => ?_, fun z => ?_⟩
    · conv => whnf
      try dsimp only
      exact ⟨trivial, k90 x1 x2 false y1 y2 (decide_eq_false z).symm⟩
    · conv => whnf
      try dsimp only
      exact ⟨trivial, k90 x1 x2 true y1 y2 (decide_eq_true z).symm⟩
  have k37 : ∀ x1 : Bool, x1 = isK (tK T (tI T k)) 1 → EV G 204 D 0 0 37 [.ref 77, .int (nI d), .int (nI f), .int (nI k), .int (b2i x1), dm, dm, dm] [] (SH n, I, J) Q := by
    intro x1 y1
    refine EV.at ck204 (by decide) 300 [59] ?_
    conv => whnf
    try dsimp only
    refine ⟨in_nI (show k < 12 by omega) (by decide), ?_⟩
    conv => whnf
    try dsimp only
    rw [ck, m1]
    refine ⟨in_nI (show tF T k < 5 by omega) (by decide), ?_⟩
    conv => whnf
    try dsimp only
    rw [cf, mf]
    refine ⟨fun z => ?_, fun z => ?_⟩
    · conv => whnf
      try dsimp only
      exact ⟨trivial, k59 x1 false y1 (decide_eq_false z).symm⟩
    · conv => whnf
      try dsimp only
      exact ⟨trivial, k59 x1 true y1 (decide_eq_true z).symm⟩
  have eB : isK (tK T (tI T k)) 1 = decide (nI (tK T (tI T k)) = 1 ∨ nI (tK T (tI T k)) = 5) := (isB_isK _ k2 1 (by decide) (by decide)).trans (isB1 _ k2)
  refine MT.by ck204 (by decide) rfl (Nat.le_of_ble_eq_true rfl) rfl 300 [37] ?_
  conv => whnf
  try dsimp only
  refine ⟨in_nI (show k < 12 by omega) (by decide), ?_⟩
  conv => whnf
  try dsimp only
  rw [ck, m2]
  refine ⟨in_nI (show tI T k < 5 by omega) (by decide), ?_⟩
  conv => whnf
  try dsimp only
  rw [ci, mi]
  refine ⟨fun z1 => ?_, fun z1 => ?_⟩
  · conv => whnf
    try dsimp only
    exact ⟨trivial, k37 true (by rw [eB, decide_eq_true (Or.inl z1)])⟩
  conv => whnf
  try dsimp only
  refine ⟨in_nI (show k < 12 by omega) (by decide), ?_⟩
  conv => whnf
  try dsimp only
  rw [ck, m2]
  refine ⟨in_nI (show tI T k < 5 by omega) (by decide), ?_⟩
  conv => whnf
  try dsimp only
  rw [ci, mi]
  refine ⟨fun z2 => ?_, fun z2 => ?_⟩
  · conv => whnf
    try dsimp only
    exact ⟨trivial, k37 false (by rw [eB, decide_eq_false (fun y => y.elim z1 z2)])⟩
  · conv => whnf
    try dsimp only
    exact ⟨trivial, k37 true (by rw [eB, decide_eq_true (Or.inr z2)])⟩
theorem r_canBe {d f k : Nat} (hd : d ≤ 12) (hf : f < 2) (hT : tOK T) (hM : mT T I) (hp : pM d q I) (hkn : kM q I) (hv : vQ T q) (hk : k < tC T) (h : Q (some (.int (b2i (canN T (q f) (q (1 - f)).1 k)))) (SH n, I, J)) : MT G (D + 3) 205 [.ref 77, .int (nI d), .int (nI f), .int (nI k)] (SH n, I, J) Q := by
  have h5 : tS T ≤ 5 := hT.1
  have h12 : tC T ≤ 12 := hT.2.2.1
  obtain ⟨b1, b2, b3, b4⟩ := hT.2.2.2 k hk
  obtain ⟨m1, m2, m3⟩ := hM.2.2.2 k hk
  have k2 := (hT.2.1 _ b2).1
  have ck : (nI k).toNatClampNeg = k := nI_clamp (by omega)
  have ci : (nI (tI T k)).toNatClampNeg = tI T k := nI_clamp (by omega)
  have cf : (nI f).toNatClampNeg = f := nI_clamp (by omega)
  have hq := vQ_at hv hf
  have ho : (q (1 - f)).1 < tS T := (vQ_at hv (show 1 - f < 2 by omega)).1
  have c0 : (nI (6 * d + f)).toNatClampNeg = 6 * d + f := nI_clamp (by omega)
  have c1 : (nI (6 * d + (1 - f))).toNatClampNeg = 6 * d + (1 - f) := nI_clamp (by omega)
  have c2 : (nI (6 * d + (2 + f))).toNatClampNeg = 6 * d + (2 + f) := nI_clamp (by omega)
  have c4 : (nI (6 * d + (4 + f))).toNatClampNeg = 6 * d + (4 + f) := nI_clamp (by omega)
  have e0 : I 97 (6 * d + f) = nI (q f).1 := by rw [hp f (by omega), pl_S hf]
  have e1 : I 97 (6 * d + (1 - f)) = nI (q (1 - f)).1 := by rw [hp (1 - f) (by omega), pl_S (by omega)]
  have e2 : I 97 (6 * d + (2 + f)) = nI (q f).2.1 := by rw [hp (2 + f) (by omega), pl_F hf]
  have e4 : I 97 (6 * d + (4 + f)) = nI (q f).2.2.1 := by rw [hp (4 + f) (by omega), pl_U hf]
  have ek : I 99 f = nI (q f).2.2.2 := by
    rcases (show f = 0 ∨ f = 1 by omega) with rfl | rfl
    · exact hkn.1
    · exact hkn.2
  have hf1 := hq.2.1
  have hf2 := hq.2.2.1
  have hf3 := hq.2.2.2
  have mi := (hM.2.1 _ b2).1
  have zero : canN T (q f) (q (1 - f)).1 k = false → Q (some (.int 0)) (SH n, I, J) := fun hc => by
    rw [hc] at h
    exact h
  have k74 : ∀ (x : Value) (fr : Bool), fr = (!((q f).2.2.1.testBit (tI T k)) || isB (tK T (tI T k)) 2) → EV G 205 (D + 2) 0 0 74 [.ref 77, .int (nI d), .int (nI f), .int (nI k), x, .int (b2i fr)] [] (SH n, I, J) Q := by
    intro x fr hfr
    refine EV.at ck205 (by decide) 300 [] ?_
    conv => whnf
    try dsimp only
    refine ⟨in_nI (show f < 2 by omega) (by decide), ?_⟩
    conv => whnf
    try dsimp only
    rw [cf, ek]
    refine ⟨trivial, r_has (by omega) (by omega) ?_⟩
    cases hb1 : (q f).2.2.2.testBit k
    · refine EV.at ck205 (by decide) 300 [] ?_
      conv => whnf
      try dsimp only
      first | refine ⟨fun h1 => absurd h1 (by decide), fun _ => ?_⟩ | refine ⟨fun _ => ?_, fun h1 => absurd (by decide) h1⟩ | refine ⟨fun h1 => absurd (by decide) h1, fun _ => ?_⟩ | refine ⟨fun _ => ?_, fun h1 => absurd h1 (by decide)⟩
      conv => whnf
      try dsimp only
      exact ⟨Or.inl rfl, zero (by unfold canN; rw [hb1]; rfl)⟩
    refine EV.at ck205 (by decide) 300 [] ?_
    conv => whnf
    try dsimp only
    first | refine ⟨fun h1 => absurd h1 (by decide), fun _ => ?_⟩ | refine ⟨fun _ => ?_, fun h1 => absurd (by decide) h1⟩ | refine ⟨fun h1 => absurd (by decide) h1, fun _ => ?_⟩ | refine ⟨fun _ => ?_, fun h1 => absurd h1 (by decide)⟩
    conv => whnf
    try dsimp only
    refine ⟨in_nI (show k < 12 by omega) (by decide), ?_⟩
    conv => whnf
    try dsimp only
    rw [x60]
    refine ⟨in_nI (show 6 * d + f < 78 by omega) (by decide), ?_⟩
    conv => whnf
    try dsimp only
    rw [ck, m1, c0, e0]
    refine ⟨fun z => ?_, fun z => ?_⟩
    · have z' : ¬ tF T k = (q f).1 := fun y => z (by rw [y])
      conv => whnf
      try dsimp only
      exact ⟨Or.inl rfl, zero (by unfold canN; rw [beq_false_of_ne z']; simp)⟩
    have z' : tF T k = (q f).1 := (nu_eq (by omega) (by have := hq.1; omega)).mp z
    conv => whnf
    try dsimp only
    cases hb2 : fr
    · rw [hb2] at hfr
      first | refine ⟨fun h1 => absurd h1 (by decide), fun _ => ?_⟩ | refine ⟨fun _ => ?_, fun h1 => absurd (by decide) h1⟩ | refine ⟨fun h1 => absurd (by decide) h1, fun _ => ?_⟩ | refine ⟨fun _ => ?_, fun h1 => absurd h1 (by decide)⟩
      conv => whnf
      try dsimp only
      exact ⟨Or.inl rfl, zero (by unfold canN; rw [← hfr]; simp)⟩
    rw [hb2] at hfr
    first | refine ⟨fun h1 => absurd h1 (by decide), fun _ => ?_⟩ | refine ⟨fun _ => ?_, fun h1 => absurd (by decide) h1⟩ | refine ⟨fun h1 => absurd (by decide) h1, fun _ => ?_⟩ | refine ⟨fun _ => ?_, fun h1 => absurd h1 (by decide)⟩
    conv => whnf
    try dsimp only
    refine ⟨in_nI (show k < 12 by omega) (by decide), ?_⟩
    conv => whnf
    try dsimp only
    rw [x61 d hf]
    refine ⟨in_nI (show 6 * d + (1 - f) < 78 by omega) (by decide), ?_⟩
    conv => whnf
    try dsimp only
    rw [ck, m2, c1, e1]
    refine ⟨trivial, r_beats hT hM b2 ho ?_⟩
    cases hb3 : btT T (tI T k) (q (1 - f)).1
    · refine EV.at ck205 (by decide) 300 [] ?_
      conv => whnf
      try dsimp only
      first | refine ⟨fun h1 => absurd h1 (by decide), fun _ => ?_⟩ | refine ⟨fun _ => ?_, fun h1 => absurd (by decide) h1⟩ | refine ⟨fun h1 => absurd (by decide) h1, fun _ => ?_⟩ | refine ⟨fun _ => ?_, fun h1 => absurd h1 (by decide)⟩
      conv => whnf
      try dsimp only
      exact ⟨Or.inl rfl, zero (by unfold canN; rw [hb3]; simp)⟩
    refine EV.at ck205 (by decide) 300 [] ?_
    conv => whnf
    try dsimp only
    first | refine ⟨fun h1 => absurd h1 (by decide), fun _ => ?_⟩ | refine ⟨fun _ => ?_, fun h1 => absurd (by decide) h1⟩ | refine ⟨fun h1 => absurd (by decide) h1, fun _ => ?_⟩ | refine ⟨fun _ => ?_, fun h1 => absurd h1 (by decide)⟩
    conv => whnf
    try dsimp only
    refine ⟨trivial, r_takes hd hf hT hM hp hv hk ?_⟩
    have pl9 : priceN T k (q (1 - f)).1 < 65536 := by unfold priceN; split <;> split <;> split <;> omega
    refine EV.at ck205 (by decide) 300 [] ?_
    conv => whnf
    try dsimp only
    rw [x62]
    refine ⟨in_nI (show 6 * d + (2 + f) < 78 by omega) (by decide), ?_⟩
    conv => whnf
    try dsimp only
    rw [c2, e2]
    refine pk_lt (q f).2.1 (priceN T k (q (1 - f)).1) (fun y => ?_) (fun y => ?_)
    · conv => whnf
      try dsimp only
      exact ⟨Or.inl rfl, zero (by unfold canN; rw [decide_eq_false (show ¬ priceN T k (q (1 - f)).1 ≤ (q f).2.1 by omega)]; simp)⟩
    · have hc : canN T (q f) (q (1 - f)).1 k = true := by
        unfold canN
        rw [hb1, z', ← hfr, hb3, decide_eq_true y]
        simp
      rw [hc] at h
      conv => whnf
      try dsimp only
      exact ⟨Or.inr rfl, h⟩
  have eB := isB2 _ k2
  have k37 : ∀ ag : Bool, ag = isB (tK T (tI T k)) 2 → EV G 205 (D + 2) 0 0 37 [.ref 77, .int (nI d), .int (nI f), .int (nI k), .int (b2i ag), dm] [] (SH n, I, J) Q := by
    intro ag hag
    cases hc : ag
    · rw [hc] at hag
      refine EV.at ck205 (by decide) 300 [74] ?_
      conv => whnf
      try dsimp only
      first | refine ⟨fun h1 => absurd h1 (by decide), fun _ => ?_⟩ | refine ⟨fun _ => ?_, fun h1 => absurd (by decide) h1⟩ | refine ⟨fun h1 => absurd (by decide) h1, fun _ => ?_⟩ | refine ⟨fun _ => ?_, fun h1 => absurd h1 (by decide)⟩
      conv => whnf
      try dsimp only
      rw [x64]
      refine ⟨in_nI (show 6 * d + (4 + f) < 78 by omega) (by decide), ?_⟩
      conv => whnf
      try dsimp only
      refine ⟨in_nI (show k < 12 by omega) (by decide), ?_⟩
      conv => whnf
      try dsimp only
      rw [ck, m2, c4, e4]
      refine ⟨trivial, r_has (by omega) (by omega) ?_⟩
      cases hb : (q f).2.2.1.testBit (tI T k)
      · refine EV.at ck205 (by decide) 300 [74] ?_
        conv => whnf
        try dsimp only
        first | refine ⟨fun h1 => absurd h1 (by decide), fun _ => ?_⟩ | refine ⟨fun _ => ?_, fun h1 => absurd (by decide) h1⟩ | refine ⟨fun h1 => absurd (by decide) h1, fun _ => ?_⟩ | refine ⟨fun _ => ?_, fun h1 => absurd h1 (by decide)⟩
        conv => whnf
        try dsimp only
        exact ⟨trivial, k74 _ true (by rw [hb]; rfl)⟩
      · refine EV.at ck205 (by decide) 300 [74] ?_
        conv => whnf
        try dsimp only
        first | refine ⟨fun h1 => absurd h1 (by decide), fun _ => ?_⟩ | refine ⟨fun _ => ?_, fun h1 => absurd (by decide) h1⟩ | refine ⟨fun h1 => absurd (by decide) h1, fun _ => ?_⟩ | refine ⟨fun _ => ?_, fun h1 => absurd h1 (by decide)⟩
        conv => whnf
        try dsimp only
        exact ⟨trivial, k74 _ false (by rw [hb, ← hag]; rfl)⟩
    · rw [hc] at hag
      refine EV.at ck205 (by decide) 300 [74] ?_
      conv => whnf
      try dsimp only
      first | refine ⟨fun h1 => absurd h1 (by decide), fun _ => ?_⟩ | refine ⟨fun _ => ?_, fun h1 => absurd (by decide) h1⟩ | refine ⟨fun h1 => absurd (by decide) h1, fun _ => ?_⟩ | refine ⟨fun _ => ?_, fun h1 => absurd h1 (by decide)⟩
      conv => whnf
      try dsimp only
      exact ⟨trivial, k74 _ true (by rw [← hag]; simp)⟩
  refine MT.by ck205 (by decide) rfl (Nat.le_of_ble_eq_true rfl) rfl 300 [37] ?_
  conv => whnf
  try dsimp only
  refine ⟨in_nI (show k < 12 by omega) (by decide), ?_⟩
  conv => whnf
  try dsimp only
  rw [ck, m2]
  refine ⟨in_nI (show tI T k < 5 by omega) (by decide), ?_⟩
  conv => whnf
  try dsimp only
  rw [ci, mi]
  refine ⟨fun z1 => ?_, fun z1 => ?_⟩
  · conv => whnf
    try dsimp only
    exact ⟨trivial, k37 true (by rw [eB, decide_eq_true (Or.inl z1)])⟩
  conv => whnf
  try dsimp only
  refine ⟨in_nI (show k < 12 by omega) (by decide), ?_⟩
  conv => whnf
  try dsimp only
  rw [ck, m2]
  refine ⟨in_nI (show tI T k < 5 by omega) (by decide), ?_⟩
  conv => whnf
  try dsimp only
  rw [ci, mi]
  refine ⟨fun z2 => ?_, fun z2 => ?_⟩
  · conv => whnf
    try dsimp only
    exact ⟨trivial, k37 false (by rw [eB, decide_eq_false (fun y => y.elim z1 z2)])⟩
  · conv => whnf
    try dsimp only
    exact ⟨trivial, k37 true (by rw [eB, decide_eq_true (Or.inr z2)])⟩
theorem r_canOf {d f : Nat} (hd : d ≤ 12) (hf : f < 2) (hT : tOK T) (hM : mT T I) (hp : pM d q I) (hkn : kM q I) (hv : vQ T q) (h : Q (some (.int (nI (optN T (q f) (q (1 - f)).1 (tC T))))) (SH n, I, J)) : MT G (D + 4) 206 [.ref 77, .int (nI d), .int (nI f)] (SH n, I, J) Q := by
  have h12 : tC T ≤ 12 := hT.2.2.1
  have loop : ∀ m j, j + m = tC T → EV G 206 (D + 3) 0 0 5 [.ref 77, .int (nI d), .int (nI f), .int (nI (optN T (q f) (q (1 - f)).1 j)), .int (nI j)] [] (SH n, I, J) Q := by
    intro m
    induction m with
    | zero =>
      intro j hj
      have hj : j = tC T := hj
      rw [← hj] at h
      refine EV.at ck206 (by decide) 300 [] ?_
      conv => whnf
      try dsimp only
      rw [hM.2.2.1]
      refine pk_le (tC T) j (fun _ => ?_) (fun z => absurd z (by omega))
      conv => whnf
      try dsimp only
      exact ⟨trivial, h⟩
    | succ m ih =>
      intro j hj
      have ihj := ih (j + 1) (by omega)
      have e : optN T (q f) (q (1 - f)).1 (j + 1) = optN T (q f) (q (1 - f)).1 j ||| (if canN T (q f) (q (1 - f)).1 j then 2 ^ j else 0) := rfl
      rw [e, nI_succ j, ← fa_or] at ihj
      refine EV.at ck206 (by decide) 300 [] ?_
      conv => whnf
      try dsimp only
      rw [hM.2.2.1]
      refine pk_le (tC T) j (fun z => absurd z (by omega)) (fun _ => ?_)
      conv => whnf
      try dsimp only
      refine ⟨trivial, r_canBe hd hf hT hM hp hkn hv (by omega) ?_⟩
      cases hb : canN T (q f) (q (1 - f)).1 j
      · rw [hb] at ihj
        refine EV.at ck206 (by decide) 300 [] ?_
        conv => whnf
        try dsimp only
        first | refine ⟨fun h1 => absurd h1 (by decide), fun _ => ?_⟩ | refine ⟨fun _ => ?_, fun h1 => absurd (by decide) h1⟩ | refine ⟨fun h1 => absurd (by decide) h1, fun _ => ?_⟩ | refine ⟨fun _ => ?_, fun h1 => absurd h1 (by decide)⟩
        conv => whnf
        try dsimp only
        exact ⟨trivial, ihj⟩
      · rw [hb, if_pos rfl, ← nu_one (show j < 31 by omega)] at ihj
        refine EV.at ck206 (by decide) 300 [] ?_
        conv => whnf
        try dsimp only
        first | refine ⟨fun h1 => absurd h1 (by decide), fun _ => ?_⟩ | refine ⟨fun _ => ?_, fun h1 => absurd (by decide) h1⟩ | refine ⟨fun h1 => absurd (by decide) h1, fun _ => ?_⟩ | refine ⟨fun _ => ?_, fun h1 => absurd h1 (by decide)⟩
        conv => whnf
        try dsimp only
        exact ⟨trivial, ihj⟩
  refine MT.by ck206 (by decide) rfl (Nat.le_of_ble_eq_true rfl) rfl 300 [5] ?_
  conv => whnf
  try dsimp only
  exact ⟨trivial, loop (tC T) 0 (by omega)⟩
theorem r_moverAt {f0 d : Nat} (hf : f0 < 2) (hd : d ≤ 100) (hI : I 77 34 = nI f0) (h : Q (some (.int (nI ((f0 + d) % 2)))) (SH n, I, J)) : MT G (D + 1) 207 [.ref 77, .int (nI d)] (SH n, I, J) Q := by
  refine MT.by ck207 (by decide) rfl (Nat.le_of_ble_eq_true rfl) rfl 300 [] ?_
  conv => whnf
  try dsimp only
  refine ⟨by decide, ?_⟩
  conv => whnf
  try dsimp only
  rw [hI, nI_add, rem2 (by omega)]
  exact ⟨trivial, h⟩
theorem pl_step {f k e : Nat} (hf : f < 2) (he : e < 6) (hc : canN T (q f) (q (1 - f)).1 k = true) : pl (stepQ T q f k) e = if e = f then tI T k else if e = 2 + f then (q f).2.1 - priceN T k (q (1 - f)).1 else if e = 4 + f then (q f).2.2.1 ||| 2 ^ tI T k else pl q e := by
  have ht : takesN T (q f) (q (1 - f)).1 k = priceN T k (q (1 - f)).1 := by unfold takesN; rw [if_pos hc]
  rcases (show f = 0 ∨ f = 1 by omega) with rfl | rfl <;> rcases (show e = 0 ∨ e = 1 ∨ e = 2 ∨ e = 3 ∨ e = 4 ∨ e = 5 by omega) with rfl | rfl | rfl | rfl | rfl | rfl <;> simp [pl, stepQ, stepS] <;> rw [ht]
theorem r_dives {f0 d k : Nat} (hf0 : f0 < 2) (hd : d ≤ 11) (hI : I 77 34 = nI f0) (hT : tOK T) (hM : mT T I) (hp : pM d q I) (hv : vQ T q) (hk : k < tC T) (hc : canN T (q ((f0 + d) % 2)) (q (1 - (f0 + d) % 2)).1 k = true) (h : ∀ I', pM (d + 1) (stepQ T q ((f0 + d) % 2) k) I' → I' 98 (d + 1) = 0 → (∀ r, r ≠ 97 → r ≠ 98 → I' r = I r) → (∀ x, x < 6 * (d + 1) → I' 97 x = I 97 x) → (∀ x, x ≠ d + 1 → I' 98 x = I 98 x) → Q none (SH n, I', J)) : MT G (D + 2) 208 [.ref 77, .int (nI d), .int (nI k)] (SH n, I, J) Q := by
  have h5 : tS T ≤ 5 := hT.1
  have h12 : tC T ≤ 12 := hT.2.2.1
  generalize hf : (f0 + d) % 2 = f at hc h
  have hf2 : f < 2 := by rw [← hf]; exact Nat.mod_lt _ (by decide)
  obtain ⟨b1, b2, b3, b4⟩ := hT.2.2.2 k hk
  obtain ⟨m1, m2, m3⟩ := hM.2.2.2 k hk
  have ck : (nI k).toNatClampNeg = k := nI_clamp (by omega)
  have hq := vQ_at hv hf2
  have ht : priceN T k (q (1 - f)).1 ≤ (q f).2.1 := by
    have := (can_price hc).1
    unfold takesN at this
    rw [if_pos hc] at this
    exact this
  have c0 : (nI (6 * (d + 1) + f)).toNatClampNeg = 6 * (d + 1) + f := nI_clamp (by omega)
  have c2 : (nI (6 * (d + 1) + (2 + f))).toNatClampNeg = 6 * (d + 1) + (2 + f) := nI_clamp (by omega)
  have c4 : (nI (6 * (d + 1) + (4 + f))).toNatClampNeg = 6 * (d + 1) + (4 + f) := nI_clamp (by omega)
  have cd : (nI (d + 1)).toNatClampNeg = d + 1 := nI_clamp (by omega)
  have loop : ∀ m e, e + m = 6 → EV G 208 (D + 1) 0 0 18 [.ref 77, .int (nI d), .int (nI k), .int (nI f), .int (nI (priceN T k (q (1 - f)).1)), .int (nI e)] [] (SH n, cpI I 97 97 (6 * d) (6 * (d + 1)) e, J) Q := by
    intro m
    induction m with
    | zero =>
      intro e he
      have he : e = 6 := he
      subst he
      generalize hI1 : cpI I 97 97 (6 * d) (6 * (d + 1)) 6 = I1
      have o : ∀ r, r ≠ 97 → I1 r = I r := fun r hr => by rw [← hI1]; exact cp_oth hr
      have o7 : ∀ x, x < 6 * (d + 1) → I1 97 x = I 97 x := fun x hx => by
        rw [← hI1]
        unfold cpI
        rw [if_neg (by omega)]
      have n7 : ∀ e, e < 6 → I1 97 (6 * (d + 1) + e) = nI (pl q e) := fun e he => by
        rw [← hI1, ← hp e he]
        unfold cpI
        rw [if_pos ⟨rfl, by omega, by omega⟩]
        congr 1
        omega
      have r1 : I1 83 k = nI (tI T k) := by rw [o 83 (by decide)]; exact m2
      have r2 : ∀ x, upI I1 97 (6 * (d + 1) + f) x 97 (6 * (d + 1) + (2 + f)) = nI (q f).2.1 := fun x => by rw [up_ne (by omega), n7 _ (by omega), pl_F hf2]
      have r3 : ∀ x y, upI (upI I1 97 (6 * (d + 1) + f) x) 97 (6 * (d + 1) + (2 + f)) y 97 (6 * (d + 1) + (4 + f)) = nI (q f).2.2.1 := fun x y => by rw [up_ne (by omega), up_ne (by omega), n7 _ (by omega), pl_U hf2]
      have r4 : ∀ x y, upI (upI I1 97 (6 * (d + 1) + f) x) 97 (6 * (d + 1) + (2 + f)) y 83 k = nI (tI T k) := fun x y => by rw [upI_oth (by decide), upI_oth (by decide)]; exact r1
      refine EV.at ck208 (by decide) 300 [] ?_
      conv => whnf
      try dsimp only
      first | refine ⟨fun h1 => absurd h1 (by decide), fun _ => ?_⟩ | refine ⟨fun _ => ?_, fun h1 => absurd (by decide) h1⟩ | refine ⟨fun h1 => absurd (by decide) h1, fun _ => ?_⟩ | refine ⟨fun _ => ?_, fun h1 => absurd h1 (by decide)⟩
      conv => whnf
      try dsimp only
      refine ⟨in_nI (show k < 12 by omega) (by decide), ?_⟩
      conv => whnf
      try dsimp only
      rw [ck, r1, x660]
      refine ⟨in_nI (show 6 * (d + 1) + f < 78 by omega) (by decide), ?_⟩
      conv => whnf
      try dsimp only
      rw [c0, x662]
      refine ⟨in_nI (show 6 * (d + 1) + (2 + f) < 78 by omega) (by decide), ?_⟩
      conv => whnf
      try dsimp only
      refine ⟨in_nI (show 6 * (d + 1) + (2 + f) < 78 by omega) (by decide), ?_⟩
      conv => whnf
      try dsimp only
      rw [c2, r2, x664]
      refine ⟨in_nI (show 6 * (d + 1) + (4 + f) < 78 by omega) (by decide), ?_⟩
      conv => whnf
      try dsimp only
      refine ⟨in_nI (show k < 12 by omega) (by decide), ?_⟩
      conv => whnf
      try dsimp only
      rw [ck, r4]
      refine ⟨in_nI (show 6 * (d + 1) + (4 + f) < 78 by omega) (by decide), ?_⟩
      conv => whnf
      try dsimp only
      rw [c4, r3, nu_one (show tI T k < 31 by omega), fa_or, pk_sub ht, nI_1]
      refine ⟨in_nI (show d + 1 < 13 by omega) (by decide), ?_⟩
      conv => whnf
      try dsimp only
      rw [cd]
      refine ⟨trivial, h _ (fun e he => ?_) up_same (fun r h1 h2 => ?_) (fun x hx => ?_) (fun x hx => ?_)⟩
      · rw [upI_oth (by decide), pl_step hf2 he hc]
        by_cases e1 : e = 4 + f
        · subst e1
          rw [up_same, if_neg (by omega), if_neg (by omega), if_pos rfl]
        · rw [up_ne (by omega)]
          by_cases e2 : e = 2 + f
          · subst e2
            rw [up_same, if_neg (by omega), if_pos rfl]
          · rw [up_ne (by omega)]
            by_cases e3 : e = f
            · subst e3
              rw [up_same, if_pos rfl]
            · rw [up_ne (by omega), if_neg e3, if_neg e2, if_neg e1]
              exact n7 e he
      · rw [upI_oth h2, upI_oth h1, upI_oth h1, upI_oth h1, o r h1]
      · rw [upI_oth (by decide), up_ne (by omega), up_ne (by omega), up_ne (by omega)]
        exact o7 x hx
      · rw [up_ne hx, upI_oth (by decide), upI_oth (by decide), upI_oth (by decide), o 98 (by decide)]
    | succ m ih =>
      intro e he
      have ihj := ih (e + 1) (by omega)
      have ce : (nI (6 * d + e)).toNatClampNeg = 6 * d + e := nI_clamp (by omega)
      have ce2 : (nI (6 * (d + 1) + e)).toNatClampNeg = 6 * (d + 1) + e := nI_clamp (by omega)
      have rd : cpI I 97 97 (6 * d) (6 * (d + 1)) e 97 (6 * d + e) = I 97 (6 * d + e) := by
        unfold cpI
        rw [if_neg (by omega)]
      rw [← cp_s, nI_succ e] at ihj
      refine EV.at ck208 (by decide) 300 [] ?_
      conv => whnf
      try dsimp only
      refine ⟨fun z => absurd z (nI_ge (b := 6) (show e < 6 by omega) (by decide)), fun _ => ?_⟩
      conv => whnf
      try dsimp only
      rw [x6]
      refine ⟨in_nI (show 6 * d + e < 78 by omega) (by decide), ?_⟩
      conv => whnf
      try dsimp only
      rw [ce, rd, x66]
      refine ⟨in_nI (show 6 * (d + 1) + e < 78 by omega) (by decide), ?_⟩
      conv => whnf
      try dsimp only
      rw [ce2]
      exact ⟨trivial, ihj⟩
  have l0 := loop 6 0 (by omega)
  rw [cp_0] at l0
  refine MT.by ck208 (by decide) rfl (Nat.le_of_ble_eq_true rfl) rfl 300 [18] ?_
  conv => whnf
  try dsimp only
  refine ⟨trivial, r_moverAt hf0 (by omega) hI ?_⟩
  rw [hf]
  refine EV.at ck208 (by decide) 300 [18] ?_
  conv => whnf
  try dsimp only
  refine ⟨trivial, r_takes (by omega) hf2 hT hM hp hv hk ?_⟩
  refine EV.at ck208 (by decide) 300 [18] ?_
  conv => whnf
  try dsimp only
  exact ⟨trivial, l0⟩
theorem r_nextChange {f0 d j : Nat} (hf0 : f0 < 2) (hd : d ≤ 12) (hI : I 77 34 = nI f0) (hT : tOK T) (hM : mT T I) (hp : pM d q I) (hkn : kM q I) (hv : vQ T q) (hj : j ≤ tC T) (hn : I 98 d = nI j) (hno : (∀ x, j ≤ x → x < tC T → canN T (q ((f0 + d) % 2)) (q (1 - (f0 + d) % 2)).1 x = false) → Q (some (.int (-1))) (SH n, upI I 98 d (nI (tC T)), J)) (hok : ∀ k, j ≤ k → k < tC T → canN T (q ((f0 + d) % 2)) (q (1 - (f0 + d) % 2)).1 k = true → (∀ x, j ≤ x → x < k → canN T (q ((f0 + d) % 2)) (q (1 - (f0 + d) % 2)).1 x = false) → Q (some (.int (nI k))) (SH n, upI I 98 d (nI (k + 1)), J)) : MT G (D + 4) 209 [.ref 77, .int (nI d)] (SH n, I, J) Q := by
  have h12 : tC T ≤ 12 := hT.2.2.1
  generalize hf : (f0 + d) % 2 = f at hno hok
  have hf2 : f < 2 := by rw [← hf]; exact Nat.mod_lt _ (by decide)
  have cd : (nI d).toNatClampNeg = d := nI_clamp (by omega)
  have loop : ∀ m k v3, k + m = tC T → j ≤ k → (∀ x, j ≤ x → x < k → canN T (q f) (q (1 - f)).1 x = false) → EV G 209 (D + 3) 0 0 6 [.ref 77, .int (nI d), .int (nI f), v3] [] (SH n, upI I 98 d (nI k), J) Q := by
    intro m
    induction m with
    | zero =>
      intro k v3 hk hjk hx
      have hk : k = tC T := hk
      have hq := hno (fun x h1 h2 => hx x h1 (by omega))
      rw [← hk] at hq
      refine EV.at ck209 (by decide) 300 [] ?_
      conv => whnf
      try dsimp only
      refine ⟨in_nI (show d < 13 by omega) (by decide), ?_⟩
      conv => whnf
      try dsimp only
      rw [cd, up_same, upI_oth (r' := 77) (by decide), hM.2.2.1]
      refine pk_le (tC T) k (fun _ => ?_) (fun z => absurd z (by omega))
      conv => whnf
      try dsimp only
      exact ⟨trivial, hq⟩
    | succ m ih =>
      intro k v3 hk hjk hx
      have o : ∀ r, r ≠ 98 → ∀ x, upI I 98 d x r = I r := fun r hr x => upI_oth hr
      have hM1 : mT T (upI I 98 d (nI (k + 1))) := hM.of (fun r h1 h2 => o r (by omega) _) (by rw [o 77 (by decide)]) (by rw [o 77 (by decide)])
      refine EV.at ck209 (by decide) 300 [] ?_
      conv => whnf
      try dsimp only
      refine ⟨in_nI (show d < 13 by omega) (by decide), ?_⟩
      conv => whnf
      try dsimp only
      rw [cd, up_same, upI_oth (r' := 77) (by decide), hM.2.2.1]
      refine pk_le (tC T) k (fun z => absurd z (by omega)) (fun _ => ?_)
      conv => whnf
      try dsimp only
      refine ⟨in_nI (show d < 13 by omega) (by decide), ?_⟩
      conv => whnf
      try dsimp only
      refine ⟨in_nI (show d < 13 by omega) (by decide), ?_⟩
      conv => whnf
      try dsimp only
      refine ⟨in_nI (show d < 13 by omega) (by decide), ?_⟩
      conv => whnf
      try dsimp only
      rw [cd, up_same, up_up, nI_1]
      refine ⟨trivial, r_canBe hd hf2 hT hM1 (fun e he => by rw [o 97 (by decide)]; exact hp e he) ⟨by rw [o 99 (by decide)]; exact hkn.1, by rw [o 99 (by decide)]; exact hkn.2⟩ hv (by omega) ?_⟩
      cases hb : canN T (q f) (q (1 - f)).1 k
      · refine EV.at ck209 (by decide) 300 [] ?_
        conv => whnf
        try dsimp only
        first | refine ⟨fun h1 => absurd h1 (by decide), fun _ => ?_⟩ | refine ⟨fun _ => ?_, fun h1 => absurd (by decide) h1⟩ | refine ⟨fun h1 => absurd (by decide) h1, fun _ => ?_⟩ | refine ⟨fun _ => ?_, fun h1 => absurd h1 (by decide)⟩
        conv => whnf
        try dsimp only
        exact ⟨trivial, ih (k + 1) _ (by omega) (by omega) (fun x h1 h2 => by
          by_cases e : x = k
          · subst e; exact hb
          · exact hx x h1 (by omega))⟩
      · refine EV.at ck209 (by decide) 300 [] ?_
        conv => whnf
        try dsimp only
        first | refine ⟨fun h1 => absurd h1 (by decide), fun _ => ?_⟩ | refine ⟨fun _ => ?_, fun h1 => absurd (by decide) h1⟩ | refine ⟨fun h1 => absurd (by decide) h1, fun _ => ?_⟩ | refine ⟨fun _ => ?_, fun h1 => absurd h1 (by decide)⟩
        conv => whnf
        try dsimp only
        exact ⟨trivial, hok k hjk (by omega) hb hx⟩
  have l0 := loop (tC T - j) j dm (by omega) (Nat.le_refl _) (fun x h1 h2 => absurd h1 (by omega))
  rw [← hn, up_self] at l0
  refine MT.by ck209 (by decide) rfl (Nat.le_of_ble_eq_true rfl) rfl 300 [6] ?_
  conv => whnf
  try dsimp only
  refine ⟨trivial, r_moverAt hf0 (by omega) hI ?_⟩
  rw [hf]
  refine EV.at ck209 (by decide) 300 [6] ?_
  conv => whnf
  try dsimp only
  exact ⟨trivial, l0⟩
end
