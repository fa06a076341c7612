/-! the reference's search for rows that show SHAPES -/
theorem must_0 {T : TN} {rw' : Nat → Nat} {z w : Nat} {q : Nat → SD} : mustN T rw' 0 z q w = 0 := by
  unfold mustN
  rw [if_neg (by show ¬ 1 = 0; decide)]
  have h : ∀ c, orN (mustP T rw' 0 z q w) c = 0 := by
    intro c
    induction c with
    | zero => rfl
    | succ c ih =>
      rw [orN, ih]
      have : mustP T rw' 0 z q w c = false := by
        unfold mustP
        rw [decide_eq_false (show ¬ shC T rw' 0 0 (setK q w (clrN (q w).2.2.2 c)) (z % 2) = 0 by show ¬ 1 = 0; decide), Bool.and_false]
      rw [this]
      show 0 ||| 0 = 0
      exact Nat.or_zero 0
  exact h _
/-- what the search for rows leaves as it was -/
def FS (d : Nat) (I I' : Nat → Nat → Int32) : Prop := (∀ r, r < 97 → r ≠ 77 → I' r = I r) ∧ (∀ k, k ≠ 39 → I' 77 k = I 77 k) ∧ I' 99 = I 99 ∧ (∀ y, y < 6 * (d + 1) → I' 97 y = I 97 y) ∧ ∀ x, x < d → I' 98 x = I 98 x ∧ I' 106 x = I 106 x
theorem FS.rf (d : Nat) (I : Nat → Nat → Int32) : FS d I I := ⟨fun _ _ _ => rfl, fun _ _ => rfl, rfl, fun _ _ => rfl, fun _ _ => ⟨rfl, rfl⟩⟩
theorem FS.tr {d : Nat} {I I' I'' : Nat → Nat → Int32} (h : FS d I I') (h' : FS d I' I'') : FS d I I'' := by
  obtain ⟨a1, a2, a3, a4, a5⟩ := h
  obtain ⟨b1, b2, b3, b4, b5⟩ := h'
  exact ⟨fun r x y => (b1 r x y).trans (a1 r x y), fun k hk => (b2 k hk).trans (a2 k hk), b3.trans a3, fun y hy => (b4 y hy).trans (a4 y hy), fun x hx => ⟨(b5 x hx).1.trans (a5 x hx).1, (b5 x hx).2.trans (a5 x hx).2⟩⟩
theorem FS.lo {d : Nat} {I I' : Nat → Nat → Int32} (h : FS (d + 1) I I') : FS d I I' := ⟨h.1, h.2.1, h.2.2.1, fun y hy => h.2.2.2.1 y (by omega), fun x hx => h.2.2.2.2 x (by omega)⟩
theorem FS.up {d r k : Nat} {I I' : Nat → Nat → Int32} {x : Int32} (h : FS d I I') (hr : r = 98 ∨ r = 106) (hk : d ≤ k) : FS d I (upI I' r k x) := by
  refine h.tr ⟨fun r' h1 h2 => upI_oth (by omega), fun k' _ => by rw [upI_oth (by omega)], upI_oth (by omega), fun y hy => by rw [upI_oth (by omega)], fun y hy => ?_⟩
  have o : ∀ r', upI I' r k x r' y = I' r' y := fun r' => by
    unfold upI
    rw [if_neg (by omega)]
  exact ⟨o 98, o 106⟩
theorem FS.dv {d : Nat} {I I' : Nat → Nat → Int32} (h1 : ∀ r, r ≠ 97 → r ≠ 98 → I' r = I r) (h2 : ∀ x, x < 6 * (d + 1) → I' 97 x = I 97 x) (h3 : ∀ x, x ≠ d + 1 → I' 98 x = I 98 x) : FS d I I' := ⟨fun r a _ => h1 r (by omega) (by omega), fun k _ => by rw [h1 77 (by decide) (by decide)], h1 99 (by decide) (by decide), h2, fun x hx => ⟨h3 x (by omega), by rw [h1 106 (by decide) (by decide)]⟩⟩
theorem BM.fs {T : TN} {f0 d : Nat} {q : Nat → SD} {I I' : Nat → Nat → Int32} (h : BM T f0 q I) (hf : FS d I I') : BM T f0 q I' := ⟨h.1.of (fun r a b => hf.1 r (by omega) (by omega)) (hf.2.1 3 (by decide)) (hf.2.1 6 (by decide)), by rw [hf.2.1 34 (by decide)]; exact h.2.1, by unfold kM; rw [hf.2.2.1]; exact h.2.2⟩
theorem FS.sr {d : Nat} {I I' : Nat → Nat → Int32} (h : FS d I I') : SR I I' := ⟨fun r h1 h2 => h.1 r (by omega) h2, h.2.1 2 (by decide), h.2.1 3 (by decide), h.2.1 6 (by decide), h.2.1 10 (by decide), h.2.1 12 (by decide)⟩
section
variable {G : GG} {D n : Nat} {I : Nat → Nat → Int32} {J : Nat → Nat → Int64} {Q : Option Value → MH → Prop} {T : TN} {q : Nat → SD}
theorem r_notes {f0 N M A0 A1 : Nat} {pth : Nat → Nat} (hf0 : f0 < 2) (hN : N ≤ 8) (hM : M < 2 ^ 31) (h34 : I 77 34 = nI f0) (h39 : I 77 39 = nI M) (ha0 : I 105 0 = nI A0) (ha1 : I 105 1 = nI A1) (hp : ∀ e, e < N → pth e < 12 ∧ I 106 e = nI (pth e)) (h : ∀ I', (∀ r, r ≠ 77 → r ≠ 104 → r ≠ 105 → I' r = I r) → (∀ k, k ≠ 39 → I' 77 k = I 77 k) → I' 77 39 = nI (M + 1) → I' 105 0 = nI (A0 &&& orP f0 0 pth N) → I' 105 1 = nI (A1 &&& orP f0 1 pth N) → (M = 0 → ∀ x, x < N → I' 104 x = nI (pth x)) → (M ≠ 0 → I' 104 = I 104) → Q none (SH n, I', J)) : MT G (D + 2) 231 [.ref 77, .int (nI N)] (SH n, I, J) Q := by
  have c0 : Int32.toNatClampNeg 0 = 0 := by decide
  have c1 : Int32.toNatClampNeg 1 = 1 := by decide
  have loop : ∀ m e (I1 : Nat → Nat → Int32), e + m = N → (∀ r, r ≠ 104 → I1 r = I r) → (M = 0 → ∀ x, x < e → I1 104 x = nI (pth x)) → (M ≠ 0 → I1 104 = I 104) → EV G 231 (D + 1) 0 0 7 [.ref 77, .int (nI N), .int (nI (orP f0 0 pth e)), .int (nI (orP f0 1 pth e)), .int (nI e)] [] (SH n, I1, J) Q := by
    intro m
    induction m with
    | zero =>
      intro e I1 he w0 w1 w2
      have he : e = N := he
      subst he
      have r0 : I1 105 0 = nI A0 := by rw [w0 105 (by decide)]; exact ha0
      have r1 : ∀ x, upI I1 105 0 x 105 1 = nI A1 := fun x => by rw [up_ne (by decide), w0 105 (by decide)]; exact ha1
      have r9 : ∀ x y, upI (upI I1 105 0 x) 105 1 y 77 39 = nI M := fun x y => by rw [upI_oth (by decide), upI_oth (by decide), w0 77 (by decide)]; exact h39
      refine EV.at ck231 (by decide) 300 [] ?_
      conv => whnf
      try dsimp only
      refine pk_le e e (fun _ => ?_) (fun z => absurd z (by omega))
      conv => whnf
      try dsimp only
      refine ⟨by unfold vp_in; decide, ?_⟩
      conv => whnf
      try dsimp only
      refine ⟨by unfold vp_in; decide, ?_⟩
      conv => whnf
      try dsimp only
      refine ⟨by unfold vp_in; decide, ?_⟩
      conv => whnf
      try dsimp only
      refine ⟨by unfold vp_in; decide, ?_⟩
      conv => whnf
      try dsimp only
      rw [c0, c1, r0, r1, r9, fa_and, fa_and, nI_1]
      have o : ∀ r, r ≠ 77 → r ≠ 105 → upI (upI (upI I1 105 0 (nI (A0 &&& orP f0 0 pth e))) 105 1 (nI (A1 &&& orP f0 1 pth e))) 77 39 (nI (M + 1)) r = I1 r := fun r h1 h2 => by rw [upI_oth h1, upI_oth h2, upI_oth h2]
      refine ⟨trivial, h _ (fun r h1 h2 h3 => by rw [o r h1 h3]; exact w0 r h2) (fun k hk => by rw [up_ne hk, upI_oth (by decide), upI_oth (by decide), w0 77 (by decide)]) up_same (by rw [upI_oth (by decide), up_ne (by decide), up_same]) (by rw [upI_oth (by decide), up_same]) (fun hm x hx => by rw [o 104 (by decide) (by decide)]; exact w1 hm x hx) (fun hm => by rw [o 104 (by decide) (by decide)]; exact w2 hm)⟩
    | succ m ih =>
      intro e I1 he w0 w1 w2
      obtain ⟨p1, p2⟩ := hp e (by omega)
      have ce : (nI e).toNatClampNeg = e := nI_clamp (by omega)
      have r6 : I1 106 e = nI (pth e) := by rw [w0 106 (by decide)]; exact p2
      have r4 : I1 77 34 = nI f0 := by rw [w0 77 (by decide)]; exact h34
      have r9 : I1 77 39 = nI M := by rw [w0 77 (by decide)]; exact h39
      have k64 : EV G 231 (D + 1) 0 0 64 [.ref 77, .int (nI N), .int (nI (orP f0 0 pth (e + 1))), .int (nI (orP f0 1 pth (e + 1))), .int (nI e)] [] (SH n, I1, J) Q := by
        refine EV.at ck231 (by decide) 300 [] ?_
        conv => whnf
        try dsimp only
        rw [r9]
        by_cases hM0 : M = 0
        · have ihj := ih (e + 1) (upI I1 104 e (nI (pth e))) (by omega) (fun r hr => by rw [upI_oth hr]; exact w0 r hr) (fun _ x hx => ?_) (fun z => absurd hM0 z)
          · rw [nI_succ e] at ihj
            rw [hM0]
            first | refine ⟨fun h1 => absurd h1 (by decide), fun _ => ?_⟩ | refine ⟨fun _ => ?_, fun h1 => absurd (by decide) h1⟩ | refine ⟨fun h1 => absurd (by decide) h1, fun _ => ?_⟩ | refine ⟨fun _ => ?_, fun h1 => absurd h1 (by decide)⟩
            conv => whnf
            try dsimp only
            refine ⟨in_nI (show e < 8 by omega) (by decide), ?_⟩
            conv => whnf
            try dsimp only
            refine ⟨in_nI (show e < 8 by omega) (by decide), ?_⟩
            conv => whnf
            try dsimp only
            rw [ce, r6]
            exact ⟨trivial, ihj⟩
          · by_cases hx2 : x = e
            · subst hx2; exact up_same
            · rw [up_ne hx2]; exact w1 hM0 x (by omega)
        · have ihj := ih (e + 1) (upI I1 104 e (I1 104 e)) (by omega) (fun r hr => by rw [upI_oth hr]; exact w0 r hr) (fun z => absurd z hM0) (fun z => by rw [up_self]; exact w2 z)
          rw [nI_succ e] at ihj
          refine ⟨fun _ => ?_, fun z => absurd z (nI_ne0 (by omega) hM)⟩
          conv => whnf
          try dsimp only
          refine ⟨in_nI (show e < 8 by omega) (by decide), ?_⟩
          conv => whnf
          try dsimp only
          refine ⟨in_nI (show e < 8 by omega) (by decide), ?_⟩
          conv => whnf
          try dsimp only
          rw [ce]
          exact ⟨trivial, ihj⟩
      have k38 : EV G 231 (D + 1) 0 0 38 [.ref 77, .int (nI N), .int (nI (orP f0 0 pth (e + 1))), .int (nI (orP f0 1 pth e)), .int (nI e)] [] (SH n, I1, J) Q := by
        have un : orP f0 1 pth (e + 1) = orP f0 1 pth e ||| (if (f0 + e) % 2 = 1 then 2 ^ pth e else 0) := rfl
        rw [un, ← fa_or] at k64
        refine EV.at ck231 (by decide) 300 [64] ?_
        conv => whnf
        try dsimp only
        refine ⟨trivial, r_moverAt hf0 (by omega) r4 ?_⟩
        rcases (show (f0 + e) % 2 = 0 ∨ (f0 + e) % 2 = 1 by omega) with hm0 | hm0
        · rw [hm0] at k64 ⊢
          refine EV.at ck231 (by decide) 300 [64] ?_
          conv => whnf
          try dsimp only
          first | refine ⟨fun h1 => absurd h1 (by decide), fun _ => ?_⟩ | refine ⟨fun _ => ?_, fun h1 => absurd (by decide) h1⟩ | refine ⟨fun h1 => absurd (by decide) h1, fun _ => ?_⟩ | refine ⟨fun _ => ?_, fun h1 => absurd h1 (by decide)⟩
          conv => whnf
          try dsimp only
          exact ⟨trivial, k64⟩
        · rw [hm0, if_pos rfl, ← nu_one (show pth e < 31 by omega)] at k64
          rw [hm0]
          refine EV.at ck231 (by decide) 300 [64] ?_
          conv => whnf
          try dsimp only
          first | refine ⟨fun h1 => absurd h1 (by decide), fun _ => ?_⟩ | refine ⟨fun _ => ?_, fun h1 => absurd (by decide) h1⟩ | refine ⟨fun h1 => absurd (by decide) h1, fun _ => ?_⟩ | refine ⟨fun _ => ?_, fun h1 => absurd h1 (by decide)⟩
          conv => whnf
          try dsimp only
          refine ⟨in_nI (show e < 8 by omega) (by decide), ?_⟩
          conv => whnf
          try dsimp only
          rw [ce, r6]
          exact ⟨trivial, k64⟩
      have un : orP f0 0 pth (e + 1) = orP f0 0 pth e ||| (if (f0 + e) % 2 = 0 then 2 ^ pth e else 0) := rfl
      rw [un, ← fa_or] at k38
      refine EV.at ck231 (by decide) 300 [38] ?_
      conv => whnf
      try dsimp only
      refine pk_le N e (fun z => absurd z (by omega)) (fun _ => ?_)
      conv => whnf
      try dsimp only
      refine ⟨trivial, r_moverAt hf0 (by omega) r4 ?_⟩
      rcases (show (f0 + e) % 2 = 0 ∨ (f0 + e) % 2 = 1 by omega) with hm0 | hm0
      · rw [hm0, if_pos rfl, ← nu_one (show pth e < 31 by omega)] at k38
        rw [hm0]
        refine EV.at ck231 (by decide) 300 [38] ?_
        conv => whnf
        try dsimp only
        first | refine ⟨fun h1 => absurd h1 (by decide), fun _ => ?_⟩ | refine ⟨fun _ => ?_, fun h1 => absurd (by decide) h1⟩ | refine ⟨fun h1 => absurd (by decide) h1, fun _ => ?_⟩ | refine ⟨fun _ => ?_, fun h1 => absurd h1 (by decide)⟩
        conv => whnf
        try dsimp only
        refine ⟨in_nI (show e < 8 by omega) (by decide), ?_⟩
        conv => whnf
        try dsimp only
        rw [ce, r6]
        exact ⟨trivial, k38⟩
      · rw [hm0] at k38 ⊢
        refine EV.at ck231 (by decide) 300 [38] ?_
        conv => whnf
        try dsimp only
        first | refine ⟨fun h1 => absurd h1 (by decide), fun _ => ?_⟩ | refine ⟨fun _ => ?_, fun h1 => absurd (by decide) h1⟩ | refine ⟨fun h1 => absurd (by decide) h1, fun _ => ?_⟩ | refine ⟨fun _ => ?_, fun h1 => absurd h1 (by decide)⟩
        conv => whnf
        try dsimp only
        exact ⟨trivial, k38⟩
  refine MT.by ck231 (by decide) rfl (Nat.le_of_ble_eq_true rfl) rfl 300 [7] ?_
  conv => whnf
  try dsimp only
  exact ⟨trivial, loop N 0 I (by omega) (fun _ _ => rfl) (fun _ x hx => absurd hx (Nat.not_lt_zero x)) (fun _ => rfl)⟩
def ShF (G : GG) (n D : Nat) (J : Nat → Nat → Int64) (Q : Option Value → MH → Prop) (T : TN) (rw' : Nat → Nat) (z N row r : Nat) : Prop := ∀ (d : Nat) (q : Nat → SD) (pth : Nat → Nat) (I : Nat → Nat → Int32) (M A0 A1 : Nat) (v4 : Value), d + r = N → vQ T q → BM T (z % 2) q I → pM d q I → I 98 d = 0 → I 77 39 = nI M → M + shC T rw' r d q ((z % 2 + d) % 2) < 2 ^ 31 → I 105 0 = nI A0 → I 105 1 = nI A1 → A0 < 4096 → A1 < 4096 → (∀ e, e < d → pth e < 12 ∧ I 106 e = nI (pth e)) → (∀ i, i < N → rw' i < 5 ∧ I 87 (40 * row + i) = nI (rw' i)) →
  (∀ I', FS d I I' → I' 77 39 = nI (M + shC T rw' r d q ((z % 2 + d) % 2)) → I' 105 0 = nI (A0 &&& anS T rw' (z % 2) 0 r d q pth) → I' 105 1 = nI (A1 &&& anS T rw' (z % 2) 1 r d q pth) → (M = 0 → 0 < shC T rw' r d q ((z % 2 + d) % 2) → ∀ x, x < N → I' 104 x = nI (fpt T rw' N z d q pth x)) → (¬ (M = 0 ∧ 0 < shC T rw' r d q ((z % 2 + d) % 2)) → I' 104 = I 104) → EV G 230 (D + 6) 0 0 113 [.ref 77, .int (nI row), .int (nI N), .int (nI d), .int (-1)] [] (SH n, I', J) Q) → EV G 230 (D + 6) 0 0 36 [.ref 77, .int (nI row), .int (nI N), .int (nI d), v4] [] (SH n, I, J) Q
theorem and_full {A : Nat} (h : A < 4096) : A &&& 4095 = A := by rw [show 4095 = 2 ^ 12 - 1 from rfl, Nat.and_two_pow_sub_one_eq_mod, Nat.mod_eq_of_lt h]
theorem ShF_all {rw' : Nat → Nat} {z N row : Nat} (hN : N ≤ 8) (hrow : row < 6) (hT : tOK T) : ∀ r, ShF G n D J Q T rw' z N row r := by
  intro r
  have hf0 : z % 2 < 2 := Nat.mod_lt _ (by decide)
  have h12 : tC T ≤ 12 := hT.2.2.1
  have h5 : tS T ≤ 5 := hT.1
  induction r with
  | zero =>
    intro d q pth I M A0 A1 v4 hd hv hB hp h98 h39 hM h0 h1 l0 l1 h106 h87 K
    have hd : d = N := hd
    subst hd
    have e1 : shC T rw' 0 d q ((z % 2 + d) % 2) = 1 := rfl
    rw [e1] at hM K
    refine EV.at ck230 (by decide) 300 [113] ?_
    conv => whnf
    try dsimp only
    refine ⟨fun y => absurd y (nI_pos (by omega)), fun _ => ?_⟩
    conv => whnf
    try dsimp only
    refine ⟨fun y => absurd rfl y, fun _ => ?_⟩
    conv => whnf
    try dsimp only
    refine ⟨fun y => absurd rfl y, fun _ => ?_⟩
    conv => whnf
    try dsimp only
    refine ⟨trivial, r_notes hf0 hN (by omega) hB.2.1 h39 h0 h1 h106 (fun I' a1 a2 a3 a4 a5 a6 a7 => ?_)⟩
    refine EV.at ck230 (by decide) 300 [113] ?_
    conv => whnf
    try dsimp only
    first | refine ⟨fun h1 => absurd h1 (by decide), fun _ => ?_⟩ | refine ⟨fun _ => ?_, fun h1 => absurd (by decide) h1⟩ | refine ⟨fun h1 => absurd (by decide) h1, fun _ => ?_⟩ | refine ⟨fun _ => ?_, fun h1 => absurd h1 (by decide)⟩
    conv => whnf
    try dsimp only
    refine ⟨trivial, K I' ⟨fun r x y => a1 r y (by omega) (by omega), a2, a1 99 (by decide) (by decide) (by decide), fun y _ => by rw [a1 97 (by decide) (by decide) (by decide)], fun x _ => ⟨by rw [a1 98 (by decide) (by decide) (by decide)], by rw [a1 106 (by decide) (by decide) (by decide)]⟩⟩ a3 a4 a5 (fun hm _ x hx => ?_) (fun hn => a7 (fun y => hn ⟨y, by omega⟩))⟩
    rw [a6 hm x hx]
    unfold fpt
    rw [if_pos hx]
  | succ r ihr =>
    intro d q pth I M A0 A1 v4 hd hv hB hp h98 h39 hM h0 h1 l0 l1 h106 h87 K
    have ezd : (z % 2 + d) % 2 = (z + d) % 2 := by omega
    generalize hf : (z % 2 + d) % 2 = f at K hM
    have hf2 : f < 2 := by rw [← hf]; exact Nat.mod_lt _ (by decide)
    have es : shC T rw' (r + 1) d q f = sFold (fun k => shC T rw' r (d + 1) (stepQ T q f k) (1 - f)) (fun k => tI T k == rw' d && canN T (q f) (q (1 - f)).1 k) (tC T) := rfl
    have ea : ∀ w, anS T rw' (z % 2) w (r + 1) d q pth = anF (fun k => anS T rw' (z % 2) w r (d + 1) (stepQ T q f k) (setG pth d k)) (selS T rw' d q f) (tC T) := fun w => by rw [anS, hf]
    have ecs : (fun k => tI T k == rw' d && canN T (q f) (q (1 - f)).1 k) = selS T rw' d q f := rfl
    rw [ecs] at es
    rw [es] at K hM
    rw [ea 0, ea 1] at K
    have hsK : shK T rw' N z d q = fstN (fun k => decide (0 < shV T rw' r d q f k)) (tC T) 0 := by unfold shK; rw [← ezd, hf, show N - d - 1 = r by omega]
    have hsV : ∀ k, shV T rw' r d q f k = if selS T rw' d q f k then shC T rw' r (d + 1) (stepQ T q f k) (1 - f) else 0 := fun k => rfl
    generalize hg : (fun k => shC T rw' r (d + 1) (stepQ T q f k) (1 - f)) = g at K hM
    generalize hA : (fun k => anS T rw' (z % 2) 0 r (d + 1) (stepQ T q f k) (setG pth d k)) = gA at K
    generalize hB' : (fun k => anS T rw' (z % 2) 1 r (d + 1) (stepQ T q f k) (setG pth d k)) = gB at K
    generalize hcn : selS T rw' d q f = sel at K hM hsV
    have hsel : ∀ k, sel k = (tI T k == rw' d && canN T (q f) (q (1 - f)).1 k) := fun k => by rw [← hcn]; rfl
    have hgk : ∀ k, g k = shC T rw' r (d + 1) (stepQ T q f k) (1 - f) := fun k => by rw [← hg]
    have hdN : ¬ nI d = nI N := fun y => by have := (nu_eq (by omega) (by omega)).mp y; omega
    have cd : (nI d).toNatClampNeg = d := nI_clamp (by omega)
    have mono : ∀ x y, x ≤ y → sFold g sel x ≤ sFold g sel y := fun x y hxy => by
      obtain ⟨u, rfl⟩ : ∃ u, y = x + u := ⟨y - x, by omega⟩
      clear hxy
      induction u with
      | zero => exact Nat.le_refl _
      | succ u ihu => rw [← Nat.add_assoc, sFold]; omega
    have loop : ∀ m j (I1 : Nat → Nat → Int32) (v4 : Value), j + m = tC T → FS d I I1 → I1 98 d = nI j → I1 77 39 = nI (M + sFold g sel j) → I1 105 0 = nI (A0 &&& anF gA sel j) → I1 105 1 = nI (A1 &&& anF gB sel j) → (M = 0 → 0 < sFold g sel j → ∀ x, x < N → I1 104 x = nI (fpt T rw' N z d q pth x)) → (¬ (M = 0 ∧ 0 < sFold g sel j) → I1 104 = I 104) → EV G 230 (D + 6) 0 0 36 [.ref 77, .int (nI row), .int (nI N), .int (nI d), v4] [] (SH n, I1, J) Q := by
      intro m
      induction m using Nat.strongRecOn with
      | _ m ih =>
        intro j I1 v4 hj w0 w1 w2 w3 w4 w5 w6
        have hB1 := hB.fs w0
        have hp1 : pM d q I1 := fun e he => by rw [w0.2.2.2.1 _ (by omega)]; exact hp e he
        refine EV.at ck230 (by decide) 300 [113] ?_
        conv => whnf
        try dsimp only
        refine ⟨fun y => absurd y (nI_pos (by omega)), fun _ => ?_⟩
        conv => whnf
        try dsimp only
        refine ⟨fun _ => ?_, fun y => absurd y hdN⟩
        conv => whnf
        try dsimp only
        refine ⟨trivial, r_nextChange (j := j) hf0 (by omega) hB1.2.1 hT hB1.1 hp1 hB1.2.2 hv (by omega) w1 (fun hno => ?_) (fun k k1 k2 k3 k4 => ?_)⟩
        · rw [hf] at hno
          have hns : ∀ x, j ≤ x → x < j + m → sel x = false := fun x a b => by rw [hsel, hno x a (by omega), Bool.and_false]
          have s1 := sF_skip (g := g) (c := sel) (j := j) m hns
          have s2 := aF_skip (h := gA) (c := sel) (j := j) m hns
          have s3 := aF_skip (h := gB) (c := sel) (j := j) m hns
          rw [hj] at s1 s2 s3
          have o : ∀ r, r ≠ 98 → upI I1 98 d (nI (tC T)) r = I1 r := fun r hr => upI_oth hr
          have K := K (upI I1 98 d (nI (tC T))) (w0.up (Or.inl rfl) (Nat.le_refl _)) (by rw [o 77 (by decide), s1]; exact w2) (by rw [o 105 (by decide), s2]; exact w3) (by rw [o 105 (by decide), s3]; exact w4) (fun a b x hx => by rw [o 104 (by decide)]; exact w5 a (by rw [← s1]; exact b) x hx) (fun a => by rw [o 104 (by decide)]; exact w6 (by rw [← s1]; exact a))
          refine EV.at ck230 (by decide) 300 [113] ?_
          conv => whnf
          try dsimp only
          refine ⟨fun _ => ?_, fun y => absurd y hdN⟩
          conv => whnf
          try dsimp only
          first | refine ⟨fun h1 => absurd h1 (by decide), fun _ => ?_⟩ | refine ⟨fun _ => ?_, fun h1 => absurd (by decide) h1⟩ | refine ⟨fun h1 => absurd (by decide) h1, fun _ => ?_⟩ | refine ⟨fun _ => ?_, fun h1 => absurd h1 (by decide)⟩
          conv => whnf
          try dsimp only
          exact ⟨trivial, K⟩
        · rw [hf] at k3 k4
          have ck : (nI k).toNatClampNeg = k := nI_clamp (by omega)
          have hns : ∀ x, j ≤ x → x < j + (k - j) → sel x = false := fun x a b => by rw [hsel, k4 x a (by omega), Bool.and_false]
          have s1 := sF_skip (g := g) (c := sel) (j := j) (k - j) hns
          have s2 := aF_skip (h := gA) (c := sel) (j := j) (k - j) hns
          have s3 := aF_skip (h := gB) (c := sel) (j := j) (k - j) hns
          rw [show j + (k - j) = k by omega] at s1 s2 s3
          have w0b : FS d I (upI I1 98 d (nI (k + 1))) := w0.up (Or.inl rfl) (Nat.le_refl _)
          have o : ∀ r, r ≠ 98 → upI I1 98 d (nI (k + 1)) r = I1 r := fun r hr => upI_oth hr
          have hB2 := hB.fs w0b
          have hik := (hT.2.2.2 k k2).2.1
          obtain ⟨rd1, rd2⟩ := h87 d (by omega)
          have c4 : (nI (40 * row + d)).toNatClampNeg = 40 * row + d := nI_clamp (by omega)
          have m83 := (hB2.1.2.2.2 k k2).2.1
          have m87 : upI I1 98 d (nI (k + 1)) 87 (40 * row + d) = nI (rw' d) := by rw [w0b.1 87 (by decide) (by decide)]; exact rd2
          have unS : sFold g sel (k + 1) = sFold g sel k + (if sel k then g k else 0) := rfl
          have unA : anF gA sel (k + 1) = anF gA sel k &&& (if sel k then gA k else 4095) := rfl
          have unB : anF gB sel (k + 1) = anF gB sel k &&& (if sel k then gB k else 4095) := rfl
          refine EV.at ck230 (by decide) 300 [113] ?_
          conv => whnf
          try dsimp only
          refine ⟨fun _ => ?_, fun y => absurd y hdN⟩
          conv => whnf
          try dsimp only
          refine ⟨fun y => absurd y (nI_pos (by omega)), fun _ => ?_⟩
          conv => whnf
          try dsimp only
          refine ⟨in_nI (show k < 12 by omega) (by decide), ?_⟩
          conv => whnf
          try dsimp only
          rw [i40]
          refine ⟨in_nI (show 40 * row + d < 240 by omega) (by decide), ?_⟩
          conv => whnf
          try dsimp only
          rw [ck, c4, m83, m87]
          refine ⟨fun y => ?_, fun y => ?_⟩
          · have hsk : sel k = false := by rw [hsel, beq_false_of_ne (fun u => y (by rw [u])), Bool.false_and]
            rw [hsk] at unS unA unB
            have unS : sFold g sel (k + 1) = sFold g sel k := unS
            have unA : anF gA sel (k + 1) = anF gA sel k := unA.trans (and_full (anF_lt _))
            have unB : anF gB sel (k + 1) = anF gB sel k := unB.trans (and_full (anF_lt _))
            conv => whnf
            try dsimp only
            refine ⟨trivial, ih (m - (k + 1 - j)) (by omega) (k + 1) _ _ (by omega) w0b up_same (by rw [o 77 (by decide), w2, unS, s1]) (by rw [o 105 (by decide), w3, unA, s2]) (by rw [o 105 (by decide), w4, unB, s3]) (fun a b x hx => by rw [o 104 (by decide)]; exact w5 a (by rw [unS, s1] at b; exact b) x hx) (fun a => by rw [o 104 (by decide)]; exact w6 (by rw [unS, s1] at a; exact a))⟩
          have y' : tI T k = rw' d := (nu_eq (by omega) (by omega)).mp y
          have hsk : sel k = true := by rw [hsel, y', beq_self_eq_true, k3]; rfl
          rw [hsk, if_pos rfl] at unS unA unB
          have hcd : canN T (q ((z % 2 + d) % 2)) (q (1 - (z % 2 + d) % 2)).1 k = true := by rw [hf]; exact k3
          have w0c : FS d I (upI (upI I1 98 d (nI (k + 1))) 106 d (nI k)) := w0b.up (Or.inr rfl) (Nat.le_refl _)
          have hB3 := hB.fs w0c
          conv => whnf
          try dsimp only
          refine ⟨in_nI (show d < 8 by omega) (by decide), ?_⟩
          conv => whnf
          try dsimp only
          rw [cd]
          refine ⟨trivial, r_dives (q := q) hf0 (by omega) hB3.2.1 hT hB3.1 (fun e he => by rw [w0c.2.2.2.1 _ (by omega)]; exact hp e he) hv k2 hcd (fun I3 c1 c2 c3 c4 c5 => ?_)⟩
          rw [hf] at c1
          have f3 : FS d I I3 := w0c.tr (FS.dv c3 c4 c5)
          have t3 : ∀ r, r ≠ 97 → r ≠ 98 → r ≠ 106 → I3 r = I1 r := fun r a b c => by rw [c3 r a b, upI_oth c, upI_oth b]
          have x4 : I3 98 d = nI (k + 1) := by rw [c5 d (by omega), upI_oth (by decide), up_same]
          have ef : (z % 2 + (d + 1)) % 2 = 1 - f := by omega
          have hmk := mono (k + 1) (tC T) (by omega)
          refine EV.at ck230 (by decide) 300 [] ?_
          conv => whnf
          try dsimp only
          rw [nI_1]
          refine ⟨trivial, ihr (d + 1) (stepQ T q f k) (setG pth d k) I3 (M + sFold g sel k) (A0 &&& anF gA sel k) (A1 &&& anF gB sel k) _ (by omega) (vQ_step hT hf2 k2 hv) ((hB.fs f3).st) c1 c2 (by rw [t3 77 (by decide) (by decide) (by decide), w2, s1]) (by rw [ef, ← hgk]; omega) (by rw [t3 105 (by decide) (by decide) (by decide), w3, s2]) (by rw [t3 105 (by decide) (by decide) (by decide), w4, s3]) (Nat.lt_of_le_of_lt Nat.and_le_left l0) (Nat.lt_of_le_of_lt Nat.and_le_left l1) (fun e he => ?_) (fun i hi => ⟨(h87 i hi).1, by rw [f3.1 87 (by decide) (by decide)]; exact (h87 i hi).2⟩) (fun I5 y0 y1 y2 y3 y4 y5 => ?_)⟩
          · unfold setG
            by_cases hed : e = d
            · subst hed
              rw [if_pos rfl]
              exact ⟨by omega, by rw [c3 106 (by decide) (by decide), up_same]⟩
            · rw [if_neg hed, c3 106 (by decide) (by decide), up_ne hed, upI_oth (by decide)]
              exact ⟨(h106 e (by omega)).1, by rw [(w0.2.2.2.2 e (by omega)).2]; exact (h106 e (by omega)).2⟩
          · rw [ef] at y1 y4 y5
            have gk := (hgk k).symm
            rw [gk] at y1 y4 y5
            have f5 : FS d I I5 := f3.tr y0.lo
            have ihj := ih (m - (k + 1 - j)) (by omega) (k + 1) I5 (.int (-1)) (by omega) f5 (by rw [(y0.2.2.2.2 d (by omega)).1, x4]) (by rw [y1, unS, Nat.add_assoc]) (by rw [y2, unA, Nat.and_assoc, ← hA]) (by rw [y3, unB, Nat.and_assoc, ← hB']) ?_ ?_
            · refine EV.at ck230 (by decide) 300 [] ?_
              conv => whnf
              try dsimp only
              rw [show nI (d + 1) + (-1) = nI d from pk_m1 d]
              exact ⟨trivial, ihj⟩
            · intro a b x hx
              by_cases hz0 : sFold g sel k = 0
              · have hpos : 0 < g k := by rw [unS, hz0, Nat.zero_add] at b; exact b
                have e5 := y4 (by omega) hpos x hx
                rw [e5]
                have hks : shK T rw' N z d q = k := by
                  rw [hsK]
                  refine fst_of _ _ (Nat.zero_le _) (by omega) ?_ (fun u _ hu => ?_)
                  · rw [decide_eq_true_eq, hsV, hsk, if_pos rfl, ← hgk]
                    exact hpos
                  · refine decide_eq_false (fun pos => ?_)
                    rw [hsV] at pos
                    have := (sF_zero (g := g) (c := sel) k).mp hz0 u hu
                    split at pos
                    · rename_i hsu
                      rw [← hgk, this hsu] at pos
                      omega
                    · omega
                have hs := fpt_step (T := T) (rw' := rw') (m := N) (z := z) (d := d) (x := x) (q := q) (pth := pth)
                rw [hks, ← ezd, hf] at hs
                rw [hs]
              · have : ¬ (M + sFold g sel k = 0 ∧ 0 < g k) := by omega
                rw [y5 this, t3 104 (by decide) (by decide) (by decide)]
                exact w5 a (by rw [← s1]; omega) x hx
            · intro a
              rw [unS] at a
              rw [y5 (by omega), t3 104 (by decide) (by decide) (by decide)]
              exact w6 (by rw [← s1]; omega)
    have hM0 : M + sFold g sel 0 = M := rfl
    exact loop (tC T) 0 I v4 (by omega) (FS.rf d I) h98 (by rw [hM0]; exact h39) (by rw [show anF gA sel 0 = 4095 from rfl, and_full l0]; exact h0) (by rw [show anF gB sel 0 = 4095 from rfl, and_full l1]; exact h1) (fun _ b => absurd b (Nat.lt_irrefl 0)) (fun _ => rfl)
theorem r_findShown {rw' : Nat → Nat} {F : FG} {N row : Nat} (hN : N ≤ 8) (hrow : row < 6) (hT : tOK T) (hM : mT T I) (hF : wM 0 F I) (hz : F.2.1 ≤ 40) (hv : vQ T F.1) (h86 : I 86 row = nI N) (h87 : ∀ i, i < N → rw' i < 5 ∧ I 87 (40 * row + i) = nI (rw' i)) (h : ∀ I', SR I I' → I' 77 39 = nI (shC T rw' N 0 F.1 (F.2.1 % 2)) → (0 < shC T rw' N 0 F.1 (F.2.1 % 2) → I' 105 0 = nI (mustN T rw' N F.2.1 F.1 0) ∧ I' 105 1 = nI (mustN T rw' N F.2.1 F.1 1) ∧ ∀ x, x < N → I' 104 x = nI (shK T rw' N F.2.1 x (shQ T rw' N F.2.1 F.1 x))) → Q none (SH n, I', J)) : MT G (D + 7) 230 [.ref 77, .int (nI row)] (SH n, I, J) Q := by
  have h12 : tC T ≤ 12 := hT.2.2.1
  have c0 : Int32.toNatClampNeg 0 = 0 := by decide
  have c1 : Int32.toNatClampNeg 1 = 1 := by decide
  have cr : (nI row).toNatClampNeg = row := nI_clamp (by omega)
  have ef : (F.2.1 % 2 + 0) % 2 = F.2.1 % 2 := by omega
  refine MT.by ck230 (by decide) rfl (Nat.le_of_ble_eq_true rfl) rfl 300 [] ?_
  conv => whnf
  try dsimp only
  refine ⟨trivial, r_layRoot hF hz (fun I1 b1 b2 b3 b4 b5 b6 => ?_)⟩
  generalize hI2 : upI (upI (upI I1 77 39 0) 105 0 4095) 105 1 4095 = I2
  have o : ∀ r, r ≠ 77 → r ≠ 105 → I2 r = I1 r := fun r x y => by rw [← hI2, upI_oth y, upI_oth y, upI_oth x]
  have o7 : ∀ k, k ≠ 39 → I2 77 k = I1 77 k := fun k hk => by rw [← hI2, upI_oth (by decide), upI_oth (by decide), up_ne hk]
  have sr2 : SR I I2 := ⟨fun r x y => by rw [o r y (by omega)]; exact b5 r y (by omega) (by omega) (by omega), by rw [o7 2 (by decide)]; exact b6 2 (by decide), by rw [o7 3 (by decide)]; exact b6 3 (by decide), by rw [o7 6 (by decide)]; exact b6 6 (by decide), by rw [o7 10 (by decide)]; exact b6 10 (by decide), by rw [o7 12 (by decide)]; exact b6 12 (by decide)⟩
  have hM2 : mT T I2 := hM.of (fun r x y => sr2.1 r (by omega) (by omega)) sr2.2.2.1 sr2.2.2.2.1
  have l0 := ShF_all (G := G) (n := n) (D := D) (J := J) (Q := Q) (rw' := rw') (z := F.2.1) hN hrow hT N 0 F.1 (fun _ => 0) I2 0 4095 4095 dm (by omega) hv ⟨hM2, by rw [o7 34 (by decide)]; exact b3, by unfold kM; rw [o 99 (by decide) (by decide)]; exact b2⟩ (fun e he => by rw [o 97 (by decide) (by decide)]; exact b1 e he) (by rw [o 98 (by decide) (by decide)]; exact b4) (by rw [← hI2, upI_oth (by decide), upI_oth (by decide), up_same]; exact nI_0.symm) (by rw [Nat.zero_add]; exact shC_lt h12 hN) (by rw [← hI2, up_ne (by decide), up_same]; rfl) (by rw [← hI2, up_same]; rfl) (by decide) (by decide) (fun e he => absurd he (Nat.not_lt_zero e)) (fun i hi => ⟨(h87 i hi).1, by rw [sr2.1 87 (by decide) (by decide)]; exact (h87 i hi).2⟩) (fun I3 f3 y1 y2 y3 y4 y5 => ?_)
  · refine EV.at ck230 (by decide) 300 [36] ?_
    conv => whnf
    try dsimp only
    refine ⟨in_nI hrow (by decide), ?_⟩
    conv => whnf
    try dsimp only
    rw [cr, b5 86 (by decide) (by decide) (by decide) (by decide), h86]
    refine ⟨by unfold vp_in; decide, ?_⟩
    conv => whnf
    try dsimp only
    refine ⟨by unfold vp_in; decide, ?_⟩
    conv => whnf
    try dsimp only
    rw [c0, c1, hI2]
    exact ⟨trivial, l0⟩
  · rw [ef] at y1 y4
    rw [Nat.zero_add] at y1
    have hq := h I3 (sr2.tr f3.sr) y1 (fun hpos => ?_)
    · refine EV.at ck230 (by decide) 300 [36] ?_
      conv => whnf
      try dsimp only
      refine ⟨trivial, ?_⟩
      refine EV.at ck230 (by decide) 300 [] ?_
      conv => whnf
      try dsimp only
      first | refine ⟨fun h1 => absurd h1 (by decide), fun _ => ?_⟩ | refine ⟨fun _ => ?_, fun h1 => absurd (by decide) h1⟩ | refine ⟨fun h1 => absurd (by decide) h1, fun _ => ?_⟩ | refine ⟨fun _ => ?_, fun h1 => absurd h1 (by decide)⟩
      conv => whnf
      try dsimp only
      exact ⟨trivial, hq⟩
    · have em : ∀ w, w < 2 → 4095 &&& anS T rw' (F.2.1 % 2) w N 0 F.1 (fun _ => 0) = mustN T rw' N F.2.1 F.1 w := fun w hw => by
        rcases Nat.eq_zero_or_pos N with rfl | hN0
        · rw [must_0]
          show 4095 &&& 0 = 0
          exact Nat.and_zero _
        · rw [must_eq h12 hw hv (by omega) hN0]
          rw [Nat.and_comm]
          refine and_full ?_
          unfold mustN
          rw [if_neg (by omega)]
          exact Nat.lt_of_lt_of_le (orN_lt _) (Nat.pow_le_pow_right (n := 2) (by decide) h12)
      refine ⟨by rw [y2, em 0 (by decide)], by rw [y3, em 1 (by decide)], fun x hx => ?_⟩
      rw [y4 rfl hpos x hx]
      unfold fpt
      rw [if_neg (Nat.not_lt_zero x), Nat.sub_zero, shD_Q]
end
