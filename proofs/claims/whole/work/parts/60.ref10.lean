/-! the reference's calls: the fight solved -/
theorem FD.sr {d : Nat} {I I' : Nat → Nat → Int32} (h : FD d I I') : SR I I' := by
  have h7 := h.1 77 (by omega)
  exact ⟨fun r h1 h2 => h.1 r (by omega), by rw [h7], by rw [h7], by rw [h7], by rw [h7], by rw [h7]⟩
theorem bet_odd {a b : Nat} : betN a b % 2 = 1 ↔ a % 2 = 1 ∨ b % 2 = 1 := by
  unfold betN
  split
  · split <;> omega
  · split <;> omega
theorem eF_odd {g : Nat → Nat} {can : Nat → Bool} : ∀ c, (eFold g can c % 2 = 1 ↔ ∃ k, k < c ∧ can k = true ∧ g k % 2 = 0)
  | 0 => ⟨fun h => absurd (show 0 % 2 = 1 from h) (by decide), fun ⟨k, hk, _⟩ => absurd hk (Nat.not_lt_zero k)⟩
  | c + 1 => by
    have ih := eF_odd (g := g) (can := can) c
    rw [eFold]
    by_cases hc : can c = true
    · rw [if_pos hc, bet_odd, ih]
      constructor
      · rintro (⟨k, a, b, d⟩ | h)
        · exact ⟨k, by omega, b, d⟩
        · exact ⟨c, by omega, hc, by omega⟩
      · rintro ⟨k, a, b, d⟩
        by_cases e : k = c
        · subst e; right; omega
        · left; exact ⟨k, by omega, b, d⟩
    · rw [if_neg hc, ih]
      constructor
      · rintro ⟨k, a, b, d⟩
        exact ⟨k, by omega, b, d⟩
      · rintro ⟨k, a, b, d⟩
        by_cases e : k = c
        · subst e; exact absurd b hc
        · exact ⟨k, by omega, b, d⟩
theorem first_m9 {P : Nat → Bool} : ∀ m v, v + m < 2 ^ 31 → (firstI P m v = -9 ↔ ∀ k, v ≤ k → k < v + m → P k = false)
  | 0, v, _ => ⟨fun _ k a b => by omega, fun _ => rfl⟩
  | m + 1, v, hb => by
    rw [firstI]
    by_cases hp : P v = true
    · rw [if_pos hp]
      refine ⟨fun h => absurd h (ne_m9 (by omega)), fun h => ?_⟩
      have := h v (Nat.le_refl _) (by omega)
      rw [hp] at this
      exact Bool.noConfusion this
    · rw [if_neg hp, first_m9 m (v + 1) (by omega)]
      constructor
      · intro h k a b
        by_cases e : k = v
        · subst e
          cases hq : P k with
          | false => rfl
          | true => exact absurd hq hp
        · exact h k (by omega) (by omega)
      · exact fun h k a b => h k (by omega) (by omega)
theorem win_iff {T : TN} {q : Nat → SD} {w : Nat} (h12 : tC T ≤ 12) (hw : w < 2) (hv : vQ T q) : firstI (winP T q w) (tC T) 0 = -9 ↔ ¬ ends T q w % 2 = 1 := by
  rw [first_m9 _ _ (by omega), ends_step hw hv, eF_odd]
  constructor
  · rintro h ⟨k, a, b, c⟩
    have := h k (Nat.zero_le _) (by omega)
    unfold winP at this
    rw [show canN T (q w) (q (1 - w)).1 k = true from b, decide_eq_true c] at this
    exact Bool.noConfusion this
  · intro h k _ hk
    cases hc : winP T q w k with
    | false => rfl
    | true =>
      unfold winP at hc
      rw [Bool.and_eq_true, decide_eq_true_eq] at hc
      exact absurd ⟨k, by omega, hc.1, hc.2⟩ h
theorem sc_len : ∀ L, L < 11 → (if 0 < scI L then 100 - scI L else 100 + scI L) = nI L := by decide +kernel
theorem sc_nz : ∀ L, L < 11 → ¬ scI L = 0 := by decide +kernel
section
variable {G : GG} {D n : Nat} {I : Nat → Nat → Int32} {J : Nat → Nat → Int64} {Q : Option Value → MH → Prop} {T : TN} {q : Nat → SD}
theorem r_lengthOf {σ : MH} {L : Nat} (hL : L < 11) (h : Q (some (.int (nI L))) σ) : MT G (D + 1) 220 [.int (scI L)] σ Q := by
  have e := sc_len L hL
  refine MT.by ck220 (by decide) rfl (Nat.le_of_ble_eq_true rfl) rfl 300 [] ?_
  conv => whnf
  try dsimp only
  refine ⟨fun z => ?_, fun z => ?_⟩
  · rw [if_neg (Int32.not_lt.mpr z)] at e
    conv => whnf
    try dsimp only
    rw [e]
    exact ⟨trivial, h⟩
  · rw [if_pos (Int32.not_le.mp z)] at e
    conv => whnf
    try dsimp only
    rw [e]
    exact ⟨trivial, h⟩
theorem r_doesWin {f0 w : Nat} (hf0 : f0 < 2) (hw : w < 2) (hT : tOK T) (hv : vQ T q) (hB : BM T f0 q I) (hp : pM 0 q I) (h98 : I 98 0 = 0) (h : ∀ I', FD 0 I I' → Q (some (.int (b2i (wonN T q f0 w)))) (SH n, I', J)) : MT G (D + 6) 223 [.ref 77, .int (nI w)] (SH n, I, J) Q := by
  have hL : ends T q f0 ≤ 10 := endsF_le T 10 _ _
  have hs := sc_pos (ends T q f0) (by omega)
  refine MT.by ck223 (by decide) rfl (Nat.le_of_ble_eq_true rfl) rfl 300 [] ?_
  conv => whnf
  try dsimp only
  refine ⟨trivial, r_score hf0 hT hv hB hp h98 (fun I' f1 _ _ => ?_)⟩
  have hq := h I' f1
  unfold wonN at hq
  have r34 : I' 77 34 = nI f0 := by rw [f1.1 77 (by omega)]; exact hB.2.1
  refine EV.at ck223 (by decide) 300 [] ?_
  conv => whnf
  try dsimp only
  rw [r34]
  refine ⟨fun z1 => ?_, fun z1 => ?_⟩
  · have y1 : ¬ w = f0 := fun y => z1 (by rw [y])
    conv => whnf
    try dsimp only
    refine ⟨fun z2 => ?_, fun z2 => ?_⟩
    · have y2 : ¬ ends T q f0 % 2 = 1 := fun y => Int32.not_lt.mpr z2 (hs.mpr y)
      rw [decide_eq_true (by simp only [y1, y2])] at hq
      conv => whnf
      try dsimp only
      first | refine ⟨fun h1 => absurd h1 (by decide), fun _ => ?_⟩ | refine ⟨fun _ => ?_, fun h1 => absurd (by decide) h1⟩ | refine ⟨fun h1 => absurd (by decide) h1, fun _ => ?_⟩ | refine ⟨fun _ => ?_, fun h1 => absurd h1 (by decide)⟩
      conv => whnf
      try dsimp only
      exact ⟨Or.inr rfl, hq⟩
    · have y2 : ends T q f0 % 2 = 1 := hs.mp (Int32.not_le.mp z2)
      rw [decide_eq_false (by simp only [y1, y2]; decide)] at hq
      conv => whnf
      try dsimp only
      first | refine ⟨fun h1 => absurd h1 (by decide), fun _ => ?_⟩ | refine ⟨fun _ => ?_, fun h1 => absurd (by decide) h1⟩ | refine ⟨fun h1 => absurd (by decide) h1, fun _ => ?_⟩ | refine ⟨fun _ => ?_, fun h1 => absurd h1 (by decide)⟩
      conv => whnf
      try dsimp only
      exact ⟨Or.inl rfl, hq⟩
  · have y1 : w = f0 := (nu_eq (by omega) (by omega)).mp z1
    conv => whnf
    try dsimp only
    refine ⟨fun z2 => ?_, fun z2 => ?_⟩
    · have y2 : ¬ ends T q f0 % 2 = 1 := fun y => Int32.not_lt.mpr z2 (hs.mpr y)
      rw [decide_eq_false (by simp only [y1, y2]; decide)] at hq
      conv => whnf
      try dsimp only
      first | refine ⟨fun h1 => absurd h1 (by decide), fun _ => ?_⟩ | refine ⟨fun _ => ?_, fun h1 => absurd (by decide) h1⟩ | refine ⟨fun h1 => absurd (by decide) h1, fun _ => ?_⟩ | refine ⟨fun _ => ?_, fun h1 => absurd h1 (by decide)⟩
      conv => whnf
      try dsimp only
      exact ⟨Or.inl rfl, hq⟩
    · have y2 : ends T q f0 % 2 = 1 := hs.mp (Int32.not_le.mp z2)
      rw [decide_eq_true (by simp only [y1, y2])] at hq
      conv => whnf
      try dsimp only
      first | refine ⟨fun h1 => absurd h1 (by decide), fun _ => ?_⟩ | refine ⟨fun _ => ?_, fun h1 => absurd (by decide) h1⟩ | refine ⟨fun h1 => absurd (by decide) h1, fun _ => ?_⟩ | refine ⟨fun _ => ?_, fun h1 => absurd h1 (by decide)⟩
      conv => whnf
      try dsimp only
      exact ⟨Or.inr rfl, hq⟩
theorem m_wins : RS G n 219 [] sp_wins := by
  intro D I J Q a hO hC h
  try dsimp only at h
  obtain ⟨hcT, hcF, hcK, hcR, hcX, hcN, hcA, hcU⟩ := id hC
  obtain ⟨oT, oF, oN, oK, oR, oX⟩ := id hO
  unfold sp_wins at h
  cases hh : aH a
  · rw [hh] at h
    refine MT.by ck219 (by decide) rfl (Nat.le_of_ble_eq_true rfl) rfl 300 [] ?_
    conv => whnf
    try dsimp only
    rw [hcF.1, hh]
    first | refine ⟨fun h1 => absurd h1 (by decide), fun _ => ?_⟩ | refine ⟨fun _ => ?_, fun h1 => absurd (by decide) h1⟩ | refine ⟨fun h1 => absurd (by decide) h1, fun _ => ?_⟩ | refine ⟨fun _ => ?_, fun h1 => absurd h1 (by decide)⟩
    conv => whnf
    try dsimp only
    exact ⟨trivial, rfin rfl hC (FM.rf I) (FMJ.rf J) h⟩
  rw [hh, if_pos rfl] at h
  have hv := (oF hh).1
  have hw : aw a < 2 := Nat.mod_lt _ (by decide)
  have hL : aEn a ≤ 10 := endsF_le (aT a) 10 _ _
  have hwi : firstI (winP (aT a) (aq a) (aw a)) (tC (aT a)) 0 = -9 ↔ ¬ aEn a % 2 = 1 := win_iff oT.1.2.2.1 hw hv
  have hs := sc_pos (aEn a) (by omega)
  have c0 : Int32.toNatClampNeg 0 = 0 := by decide
  refine MT.by ck219 (by decide) rfl (Nat.le_of_ble_eq_true rfl) rfl 300 [] ?_
  conv => whnf
  try dsimp only
  rw [hcF.1, hh]
  first | refine ⟨fun h1 => absurd h1 (by decide), fun _ => ?_⟩ | refine ⟨fun _ => ?_, fun h1 => absurd (by decide) h1⟩ | refine ⟨fun h1 => absurd (by decide) h1, fun _ => ?_⟩ | refine ⟨fun _ => ?_, fun h1 => absurd h1 (by decide)⟩
  conv => whnf
  try dsimp only
  refine ⟨trivial, r_layRoot hcF.2 (oF hh).2.1 (fun I1 b1 b2 b3 b4 b5 b6 => ?_)⟩
  obtain ⟨hC1, hfm⟩ := hC.wm b5 b6
  refine EV.at ck219 (by decide) 300 [] ?_
  conv => whnf
  try dsimp only
  refine ⟨trivial, r_score hw oT.1 hv ⟨hC1.1, b3, b2⟩ b1 b4 (fun I2 f2 w2 _ => ?_)⟩
  have hC2 := hC1.scr f2.sr rfl rfl
  have hfm2 := hfm.tr f2.sr.fm
  show EV G 219 _ 0 0 _ _ ((some (Value.int (scI (aEn a)))).toList ++ _) _ _
  refine EV.at ck219 (by decide) 300 [] ?_
  conv => whnf
  try dsimp only
  refine ⟨fun z => ?_, fun z => ?_⟩
  · have y : ¬ aEn a % 2 = 1 := fun y => Int32.not_lt.mpr z (hs.mpr y)
    conv => whnf
    try dsimp only
    refine ⟨by unfold vp_in; decide, ?_⟩
    conv => whnf
    try dsimp only
    rw [c0, w2]
    refine ⟨trivial, r_says ?_⟩
    refine EV.at ck219 (by decide) 300 [] ?_
    conv => whnf
    try dsimp only
    exact ⟨trivial, rfin (by rw [if_pos (hwi.mpr y)]) hC2.ask (hfm2.up (by decide)) (FMJ.rf J) h⟩
  · have y : aEn a % 2 = 1 := hs.mp (Int32.not_le.mp z)
    conv => whnf
    try dsimp only
    refine ⟨by unfold vp_in; decide, ?_⟩
    conv => whnf
    try dsimp only
    rw [c0, w2]
    refine ⟨trivial, r_says ?_⟩
    refine EV.at ck219 (by decide) 300 [] ?_
    conv => whnf
    try dsimp only
    exact ⟨trivial, rfin (by rw [if_neg (fun u => hwi.mp u y)]) hC2.ask (hfm2.up (by decide)) (FMJ.rf J) h⟩
theorem m_ends : RS G n 221 [] sp_ends := by
  intro D I J Q a hO hC h
  try dsimp only at h
  obtain ⟨hcT, hcF, hcK, hcR, hcX, hcN, hcA, hcU⟩ := id hC
  obtain ⟨oT, oF, oN, oK, oR, oX⟩ := id hO
  unfold sp_ends at h
  cases hh : aH a
  · rw [hh] at h
    refine MT.by ck221 (by decide) rfl (Nat.le_of_ble_eq_true rfl) rfl 300 [] ?_
    conv => whnf
    try dsimp only
    rw [hcF.1, hh]
    first | refine ⟨fun h1 => absurd h1 (by decide), fun _ => ?_⟩ | refine ⟨fun _ => ?_, fun h1 => absurd (by decide) h1⟩ | refine ⟨fun h1 => absurd (by decide) h1, fun _ => ?_⟩ | refine ⟨fun _ => ?_, fun h1 => absurd h1 (by decide)⟩
    conv => whnf
    try dsimp only
    exact ⟨trivial, rfin rfl hC (FM.rf I) (FMJ.rf J) h⟩
  rw [hh, if_pos rfl] at h
  have hv := (oF hh).1
  have hw : aw a < 2 := Nat.mod_lt _ (by decide)
  have hL : aEn a ≤ 10 := endsF_le (aT a) 10 _ _
  have hs := sc_pos (aEn a) (by omega)
  refine MT.by ck221 (by decide) rfl (Nat.le_of_ble_eq_true rfl) rfl 300 [] ?_
  conv => whnf
  try dsimp only
  rw [hcF.1, hh]
  first | refine ⟨fun h1 => absurd h1 (by decide), fun _ => ?_⟩ | refine ⟨fun _ => ?_, fun h1 => absurd (by decide) h1⟩ | refine ⟨fun h1 => absurd (by decide) h1, fun _ => ?_⟩ | refine ⟨fun _ => ?_, fun h1 => absurd h1 (by decide)⟩
  conv => whnf
  try dsimp only
  refine ⟨trivial, r_layRoot hcF.2 (oF hh).2.1 (fun I1 b1 b2 b3 b4 b5 b6 => ?_)⟩
  obtain ⟨hC1, hfm⟩ := hC.wm b5 b6
  refine EV.at ck221 (by decide) 300 [] ?_
  conv => whnf
  try dsimp only
  refine ⟨trivial, r_score hw oT.1 hv ⟨hC1.1, b3, b2⟩ b1 b4 (fun I2 f2 _ _ => ?_)⟩
  have hC2 := hC1.scr f2.sr rfl rfl
  have hfm2 := hfm.tr f2.sr.fm
  have r34 : I2 77 34 = nI (aw a) := by rw [f2.1 77 (by omega)]; exact b3
  show EV G 221 _ 0 0 _ _ ((some (Value.int (scI (aEn a)))).toList ++ _) _ _
  refine EV.at ck221 (by decide) 300 [] ?_
  conv => whnf
  try dsimp only
  refine ⟨trivial, r_lengthOf (by omega) ?_⟩
  refine EV.at ck221 (by decide) 300 [] ?_
  conv => whnf
  try dsimp only
  refine ⟨fun z => ?_, fun z => ?_⟩
  · have y : ¬ aEn a % 2 = 1 := fun y => Int32.not_lt.mpr z (hs.mpr y)
    rw [show (aw a + aEn a) % 2 = aw a by omega] at h
    conv => whnf
    try dsimp only
    rw [r34]
    refine ⟨trivial, r_says ?_⟩
    refine EV.at ck221 (by decide) 300 [] ?_
    conv => whnf
    try dsimp only
    exact ⟨trivial, rfin rfl hC2.ask (hfm2.up (by decide)) (FMJ.rf J) h⟩
  · have y : aEn a % 2 = 1 := hs.mp (Int32.not_le.mp z)
    rw [show (aw a + aEn a) % 2 = 1 - aw a by omega] at h
    conv => whnf
    try dsimp only
    rw [r34, one_sub hw]
    refine ⟨trivial, r_says ?_⟩
    refine EV.at ck221 (by decide) 300 [] ?_
    conv => whnf
    try dsimp only
    exact ⟨trivial, rfin rfl hC2.ask (hfm2.up (by decide)) (FMJ.rf J) h⟩
theorem m_least {r : Int32} : RS G n 224 [.int r] (fun a => sp_least a r) := by
  intro D I J Q a hO hC h
  try dsimp only at h
  obtain ⟨hcT, hcF, hcK, hcR, hcX, hcN, hcA, hcU⟩ := id hC
  obtain ⟨oT, oF, oN, oK, oR, oX⟩ := id hO
  unfold sp_least at h
  refine MT.by ck224 (by decide) rfl (Nat.le_of_ble_eq_true rfl) rfl 300 [] ?_
  conv => whnf
  try dsimp only
  refine ⟨trivial, r_fi hcF.1 (fun e1 => ?_) (fun j hj hr hh e1 => ?_)⟩
  · rw [e1] at h
    refine EV.at ck224 (by decide) 300 [] ?_
    conv => whnf
    try dsimp only
    first | refine ⟨fun h1 => absurd h1 (by decide), fun _ => ?_⟩ | refine ⟨fun _ => ?_, fun h1 => absurd (by decide) h1⟩ | refine ⟨fun h1 => absurd (by decide) h1, fun _ => ?_⟩ | refine ⟨fun _ => ?_, fun h1 => absurd h1 (by decide)⟩
    conv => whnf
    try dsimp only
    exact ⟨trivial, rfin rfl hC (FM.rf I) (FMJ.rf J) h⟩
  rw [e1] at h
  dsimp only at h
  subst hr
  have hv := (oF hh).1
  have hw : aw a < 2 := Nat.mod_lt _ (by decide)
  have a2 : (2 : Int32) + nI j = nI (2 + j) := nI_add 2 j
  have c2 : (nI (2 + j)).toNatClampNeg = 2 + j := nI_clamp (by omega)
  have loop : ∀ m v (I1 : Nat → Nat → Int32), v + m = 6 → MA a I1 J → FM I I1 → leastI (aT a) (aq a) (aw a) j 6 0 = leastI (aT a) (aq a) (aw a) j m v → EV G 224 (D + 59) 0 0 12 [.ref 77, .int (nI j), .int (nI v)] [] (SH n, I1, J) Q := by
    intro m
    induction m with
    | zero =>
      intro v I1 hv' hA hfm he
      have hv' : v = 6 := hv'
      subst hv'
      rw [he] at h
      refine EV.at ck224 (by decide) 300 [] ?_
      conv => whnf
      try dsimp only
      first | refine ⟨fun h1 => absurd h1 (by decide), fun _ => ?_⟩ | refine ⟨fun _ => ?_, fun h1 => absurd (by decide) h1⟩ | refine ⟨fun h1 => absurd (by decide) h1, fun _ => ?_⟩ | refine ⟨fun _ => ?_, fun h1 => absurd h1 (by decide)⟩
      conv => whnf
      try dsimp only
      exact ⟨trivial, rfin rfl hA hfm (FMJ.rf J) h⟩
    | succ m ih =>
      intro v I1 hvm hA hfm he
      have un : leastI (aT a) (aq a) (aw a) j (m + 1) v = if wonN (aT a) (setF (aq a) j v) (aw a) j then nI v else leastI (aT a) (aq a) (aw a) j m (v + 1) := rfl
      refine EV.at ck224 (by decide) 300 [] ?_
      conv => whnf
      try dsimp only
      refine ⟨fun z => absurd z (nI_ge (b := 6) (show v < 6 by omega) (by decide)), fun _ => ?_⟩
      conv => whnf
      try dsimp only
      refine ⟨trivial, r_layRoot hA.2.1.2 (oF hh).2.1 (fun I2 b1 b2 b3 b4 b5 b6 => ?_)⟩
      obtain ⟨hC2, hfm2⟩ := hA.wm b5 b6
      have o : ∀ r, r ≠ 97 → upI I2 97 (2 + j) (nI v) r = I2 r := fun r hr => upI_oth hr
      have hsr : SR I2 (upI I2 97 (2 + j) (nI v)) := SR.hi (by decide)
      refine EV.at ck224 (by decide) 300 [] ?_
      conv => whnf
      try dsimp only
      rw [a2]
      refine ⟨in_nI (show 2 + j < 78 by omega) (by decide), ?_⟩
      conv => whnf
      try dsimp only
      rw [c2]
      have hvF : vQ (aT a) (setF (aq a) j v) := by
        rcases (show j = 0 ∨ j = 1 by omega) with rfl | rfl
        · exact vQ_setF0 hv (by omega)
        · exact vQ_setF1 hv (by omega)
      refine ⟨trivial, r_doesWin (q := setF (aq a) j v) hw hj oT.1 hvF ⟨(hC2.scr hsr rfl rfl).1, by rw [o 77 (by decide)]; exact b3, ?_⟩ ?_ (by rw [o 98 (by decide)]; exact b4) (fun I3 f3 => ?_)⟩
      · unfold kM
        rw [o 99 (by decide)]
        rcases (show j = 0 ∨ j = 1 by omega) with rfl | rfl
        · exact b2
        · exact b2
      · intro e he6
        have hb := b1 e he6
        rw [Nat.mul_zero, Nat.zero_add] at hb ⊢
        by_cases ee : e = 2 + j
        · subst ee
          rw [up_same, pl_F hj]
          rcases (show j = 0 ∨ j = 1 by omega) with rfl | rfl <;> rfl
        · rw [up_ne ee, hb]
          rcases (show j = 0 ∨ j = 1 by omega) with rfl | rfl
          · rcases (show e = 0 ∨ e = 1 ∨ e = 3 ∨ e = 4 ∨ e = 5 by omega) with rfl | rfl | rfl | rfl | rfl <;> rfl
          · rcases (show e = 0 ∨ e = 1 ∨ e = 2 ∨ e = 4 ∨ e = 5 by omega) with rfl | rfl | rfl | rfl | rfl <;> rfl
      · have hC3 := (hC2.scr hsr rfl rfl).scr f3.sr rfl rfl
        have hfm3 := (hfm.tr hfm2).tr (hsr.fm.tr f3.sr.fm)
        cases hb : wonN (aT a) (setF (aq a) j v) (aw a) j
        · rw [hb] at un
          have ihj := ih (v + 1) I3 (by omega) hC3 hfm3 (he.trans un)
          rw [nI_succ v] at ihj
          refine EV.at ck224 (by decide) 300 [] ?_
          conv => whnf
          try dsimp only
          first | refine ⟨fun h1 => absurd h1 (by decide), fun _ => ?_⟩ | refine ⟨fun _ => ?_, fun h1 => absurd (by decide) h1⟩ | refine ⟨fun h1 => absurd (by decide) h1, fun _ => ?_⟩ | refine ⟨fun _ => ?_, fun h1 => absurd h1 (by decide)⟩
          conv => whnf
          try dsimp only
          exact ⟨trivial, ihj⟩
        · rw [hb, if_pos rfl] at un
          rw [he, un] at h
          refine EV.at ck224 (by decide) 300 [] ?_
          conv => whnf
          try dsimp only
          first | refine ⟨fun h1 => absurd h1 (by decide), fun _ => ?_⟩ | refine ⟨fun _ => ?_, fun h1 => absurd (by decide) h1⟩ | refine ⟨fun h1 => absurd (by decide) h1, fun _ => ?_⟩ | refine ⟨fun _ => ?_, fun h1 => absurd h1 (by decide)⟩
          conv => whnf
          try dsimp only
          exact ⟨trivial, rfin rfl hC3 hfm3 (FMJ.rf J) h⟩
  refine EV.at ck224 (by decide) 300 [12] ?_
  conv => whnf
  try dsimp only
  first | refine ⟨fun h1 => absurd h1 (by decide), fun _ => ?_⟩ | refine ⟨fun _ => ?_, fun h1 => absurd (by decide) h1⟩ | refine ⟨fun h1 => absurd (by decide) h1, fun _ => ?_⟩ | refine ⟨fun _ => ?_, fun h1 => absurd h1 (by decide)⟩
  conv => whnf
  try dsimp only
  exact ⟨trivial, loop 6 0 I (by omega) hC (FM.rf I) rfl⟩
theorem kM_set {I : Nat → Nat → Int32} {q : Nat → SD} {j v : Nat} (hj : j < 2) (h : kM q I) : kM (setK q j v) (upI I 99 j (nI v)) := by
  rcases (show j = 0 ∨ j = 1 by omega) with rfl | rfl
  · exact ⟨up_same, by rw [up_ne (by decide)]; exact h.2⟩
  · exact ⟨by rw [up_ne (by decide)]; exact h.1, up_same⟩
theorem pl_K {q : Nat → SD} {j v e : Nat} : pl (setK q j v) e = pl q e := by
  have h : ∀ w, (setK q j v w).1 = (q w).1 ∧ (setK q j v w).2.1 = (q w).2.1 ∧ (setK q j v w).2.2.1 = (q w).2.2.1 := fun w => by
    unfold setK
    split
    · rename_i hw; rw [hw]; exact ⟨rfl, rfl, rfl⟩
    · exact ⟨rfl, rfl, rfl⟩
  unfold pl
  rw [(h 0).1, (h 0).2.1, (h 0).2.2, (h 1).1, (h 1).2.1, (h 1).2.2]
theorem kM_at {I : Nat → Nat → Int32} {q : Nat → SD} {j : Nat} (hj : j < 2) (h : kM q I) : I 99 j = nI (q j).2.2.2 := by
  rcases (show j = 0 ∨ j = 1 by omega) with rfl | rfl
  · exact h.1
  · exact h.2
theorem vQ_setK {T : TN} {q : Nat → SD} {j v : Nat} (hj : j < 2) (h : vQ T q) (hv : v < 4096) : vQ T (setK q j v) := by
  rcases (show j = 0 ∨ j = 1 by omega) with rfl | rfl
  · exact vQ_setK0 h hv
  · exact vQ_setK1 h hv
theorem m_learn {r : Int32} : RS G n 225 [.int r] (fun a => sp_learn a r) := by
  intro D I J Q a hO hC h
  try dsimp only at h
  obtain ⟨hcT, hcF, hcK, hcR, hcX, hcN, hcA, hcU⟩ := id hC
  obtain ⟨oT, oF, oN, oK, oR, oX⟩ := id hO
  unfold sp_learn at h
  refine MT.by ck225 (by decide) rfl (Nat.le_of_ble_eq_true rfl) rfl 300 [] ?_
  conv => whnf
  try dsimp only
  refine ⟨trivial, r_fi hcF.1 (fun e1 => ?_) (fun j hj hr hh e1 => ?_)⟩
  · rw [e1] at h
    refine EV.at ck225 (by decide) 300 [] ?_
    conv => whnf
    try dsimp only
    first | refine ⟨fun h1 => absurd h1 (by decide), fun _ => ?_⟩ | refine ⟨fun _ => ?_, fun h1 => absurd (by decide) h1⟩ | refine ⟨fun h1 => absurd (by decide) h1, fun _ => ?_⟩ | refine ⟨fun _ => ?_, fun h1 => absurd h1 (by decide)⟩
    conv => whnf
    try dsimp only
    exact ⟨trivial, rfin rfl hC (FM.rf I) (FMJ.rf J) h⟩
  rw [e1] at h
  dsimp only at h
  subst hr
  have h12 : tC (aT a) ≤ 12 := oT.1.2.2.1
  have hv := (oF hh).1
  have hw : aw a < 2 := Nat.mod_lt _ (by decide)
  have cj : (nI j).toNatClampNeg = j := nI_clamp (by omega)
  have hkn : (aq a j).2.2.2 < 4096 := (vQ_at hv hj).2.2.2
  unfold learnI at h
  refine EV.at ck225 (by decide) 300 [] ?_
  conv => whnf
  try dsimp only
  first | refine ⟨fun h1 => absurd h1 (by decide), fun _ => ?_⟩ | refine ⟨fun _ => ?_, fun h1 => absurd (by decide) h1⟩ | refine ⟨fun h1 => absurd (by decide) h1, fun _ => ?_⟩ | refine ⟨fun _ => ?_, fun h1 => absurd h1 (by decide)⟩
  conv => whnf
  try dsimp only
  refine ⟨trivial, r_layRoot hcF.2 (oF hh).2.1 (fun I1 b1 b2 b3 b4 b5 b6 => ?_)⟩
  obtain ⟨hC1, hfm⟩ := hC.wm b5 b6
  refine EV.at ck225 (by decide) 300 [] ?_
  conv => whnf
  try dsimp only
  refine ⟨trivial, r_doesWin hw hj oT.1 hv ⟨hC1.1, b3, b2⟩ b1 b4 (fun I2 f2 => ?_)⟩
  have hC2 := hC1.scr f2.sr rfl rfl
  have hfm2 := hfm.tr f2.sr.fm
  show EV G 225 _ 0 0 _ _ ((some (Value.int (b2i (wonN (aT a) (aq a) (aw a) j)))).toList ++ _) _ _
  cases hwon : wonN (aT a) (aq a) (aw a) j
  case true =>
    rw [hwon, if_pos rfl] at h
    refine EV.at ck225 (by decide) 300 [] ?_
    conv => whnf
    try dsimp only
    first | refine ⟨fun h1 => absurd h1 (by decide), fun _ => ?_⟩ | refine ⟨fun _ => ?_, fun h1 => absurd (by decide) h1⟩ | refine ⟨fun h1 => absurd (by decide) h1, fun _ => ?_⟩ | refine ⟨fun _ => ?_, fun h1 => absurd h1 (by decide)⟩
    conv => whnf
    try dsimp only
    exact ⟨trivial, rfin rfl hC2 hfm2 (FMJ.rf J) h⟩
  rw [hwon] at h
  have h : ∀ I' J', MA a I' J' → FM I I' → FMJ J J' → Q (some (.int (firstI (learnP (aT a) (aq a) (aw a) j) (tC (aT a)) 0))) (SH n, I', J') := h
  have loop : ∀ m v (I1 : Nat → Nat → Int32), v + m = tC (aT a) → MA a I1 J → FM I I1 → firstI (learnP (aT a) (aq a) (aw a) j) (tC (aT a)) 0 = firstI (learnP (aT a) (aq a) (aw a) j) m v → EV G 225 (D + 59) 0 0 27 [.ref 77, .int (nI j), .int (nI v)] [] (SH n, I1, J) Q := by
    intro m
    induction m with
    | zero =>
      intro v I1 hv' hA hfm he
      have hv' : v = tC (aT a) := hv'
      rw [he] at h
      refine EV.at ck225 (by decide) 300 [] ?_
      conv => whnf
      try dsimp only
      rw [hA.1.2.2.1]
      refine pk_le (tC (aT a)) v (fun _ => ?_) (fun z => absurd z (by omega))
      conv => whnf
      try dsimp only
      exact ⟨trivial, h I1 J hA hfm (FMJ.rf J)⟩
    | succ m ih =>
      intro v I1 hvm hA hfm he
      have un : firstI (learnP (aT a) (aq a) (aw a) j) (m + 1) v = if learnP (aT a) (aq a) (aw a) j v then nI v else firstI (learnP (aT a) (aq a) (aw a) j) m (v + 1) := rfl
      have next : ∀ (I3 : Nat → Nat → Int32), MA a I3 J → FM I I3 → learnP (aT a) (aq a) (aw a) j v = false → EV G 225 (D + 59) 0 0 74 [.ref 77, .int (nI j), .int (nI v)] [] (SH n, I3, J) Q := by
        intro I3 hA3 hfm3 hn
        rw [hn] at un
        have ihj := ih (v + 1) I3 (by omega) hA3 hfm3 (he.trans un)
        rw [nI_succ v] at ihj
        refine EV.at ck225 (by decide) 300 [] ?_
        conv => whnf
        try dsimp only
        exact ⟨trivial, ihj⟩
      refine EV.at ck225 (by decide) 300 [] ?_
      conv => whnf
      try dsimp only
      rw [hA.1.2.2.1]
      refine pk_le (tC (aT a)) v (fun z => absurd z (by omega)) (fun _ => ?_)
      conv => whnf
      try dsimp only
      refine ⟨trivial, r_layRoot hA.2.1.2 (oF hh).2.1 (fun I2 b1 b2 b3 b4 b5 b6 => ?_)⟩
      obtain ⟨hC2, hfm2⟩ := hA.wm b5 b6
      have b2 : kM (aq a) I2 := b2
      have k9 := kM_at hj b2
      refine EV.at ck225 (by decide) 300 [74] ?_
      conv => whnf
      try dsimp only
      refine ⟨in_nI (show j < 2 by omega) (by decide), ?_⟩
      conv => whnf
      try dsimp only
      rw [cj, k9]
      refine ⟨trivial, r_has (by omega) (by omega) ?_⟩
      cases hb : (aq a j).2.2.2.testBit v
      case true =>
        refine EV.at ck225 (by decide) 300 [74] ?_
        conv => whnf
        try dsimp only
        first | refine ⟨fun h1 => absurd h1 (by decide), fun _ => ?_⟩ | refine ⟨fun _ => ?_, fun h1 => absurd (by decide) h1⟩ | refine ⟨fun h1 => absurd (by decide) h1, fun _ => ?_⟩ | refine ⟨fun _ => ?_, fun h1 => absurd h1 (by decide)⟩
        conv => whnf
        try dsimp only
        exact ⟨trivial, next I2 hC2 (hfm.tr hfm2) (by unfold learnP; rw [hb]; rfl)⟩
      have hset : (aq a j).2.2.2 ||| 2 ^ v < 4096 := Nat.or_lt_two_pow (n := 12) hkn (Nat.pow_lt_pow_right (by decide) (by omega))
      have hsr : SR I2 (upI I2 99 j (nI ((aq a j).2.2.2 ||| 2 ^ v))) := SR.hi (by decide)
      have o : ∀ r, r ≠ 99 → upI I2 99 j (nI ((aq a j).2.2.2 ||| 2 ^ v)) r = I2 r := fun r hr => upI_oth hr
      refine EV.at ck225 (by decide) 300 [74] ?_
      conv => whnf
      try dsimp only
      first | refine ⟨fun h1 => absurd h1 (by decide), fun _ => ?_⟩ | refine ⟨fun _ => ?_, fun h1 => absurd (by decide) h1⟩ | refine ⟨fun h1 => absurd (by decide) h1, fun _ => ?_⟩ | refine ⟨fun _ => ?_, fun h1 => absurd h1 (by decide)⟩
      conv => whnf
      try dsimp only
      refine ⟨in_nI (show j < 2 by omega) (by decide), ?_⟩
      conv => whnf
      try dsimp only
      rw [cj, k9, nu_one (show v < 31 by omega), fa_or]
      refine ⟨in_nI (show j < 2 by omega) (by decide), ?_⟩
      conv => whnf
      try dsimp only
      try rw [cj]
      refine ⟨trivial, r_doesWin (q := setK (aq a) j ((aq a j).2.2.2 ||| 2 ^ v)) hw hj oT.1 (vQ_setK hj hv hset) ⟨(hC2.scr hsr rfl rfl).1, by rw [o 77 (by decide)]; exact b3, kM_set hj b2⟩ (fun e he6 => by rw [o 97 (by decide), pl_K]; exact b1 e he6) (by rw [o 98 (by decide)]; exact b4) (fun I3 f3 => ?_)⟩
      have hC3 := (hC2.scr hsr rfl rfl).scr f3.sr rfl rfl
      have hfm3 := (hfm.tr hfm2).tr (hsr.fm.tr f3.sr.fm)
      cases hb2 : wonN (aT a) (setK (aq a) j ((aq a j).2.2.2 ||| 2 ^ v)) (aw a) j
      · refine EV.at ck225 (by decide) 300 [74] ?_
        conv => whnf
        try dsimp only
        first | refine ⟨fun h1 => absurd h1 (by decide), fun _ => ?_⟩ | refine ⟨fun _ => ?_, fun h1 => absurd (by decide) h1⟩ | refine ⟨fun h1 => absurd (by decide) h1, fun _ => ?_⟩ | refine ⟨fun _ => ?_, fun h1 => absurd h1 (by decide)⟩
        conv => whnf
        try dsimp only
        exact ⟨trivial, next I3 hC3 hfm3 (by unfold learnP; rw [hb, hb2]; rfl)⟩
      · have hp : learnP (aT a) (aq a) (aw a) j v = true := by unfold learnP; rw [hb, hb2]; rfl
        rw [hp, if_pos rfl] at un
        rw [he, un] at h
        refine EV.at ck225 (by decide) 300 [74] ?_
        conv => whnf
        try dsimp only
        first | refine ⟨fun h1 => absurd h1 (by decide), fun _ => ?_⟩ | refine ⟨fun _ => ?_, fun h1 => absurd (by decide) h1⟩ | refine ⟨fun h1 => absurd (by decide) h1, fun _ => ?_⟩ | refine ⟨fun _ => ?_, fun h1 => absurd h1 (by decide)⟩
        conv => whnf
        try dsimp only
        exact ⟨trivial, h I3 J hC3 hfm3 (FMJ.rf J)⟩
  refine EV.at ck225 (by decide) 300 [27] ?_
  conv => whnf
  try dsimp only
  first | refine ⟨fun h1 => absurd h1 (by decide), fun _ => ?_⟩ | refine ⟨fun _ => ?_, fun h1 => absurd (by decide) h1⟩ | refine ⟨fun h1 => absurd (by decide) h1, fun _ => ?_⟩ | refine ⟨fun _ => ?_, fun h1 => absurd h1 (by decide)⟩
  conv => whnf
  try dsimp only
  exact ⟨trivial, loop (tC (aT a)) 0 I2 (by omega) hC2 hfm2 rfl⟩
theorem m_needs {r : Int32} : RS G n 226 [.int r] (fun a => sp_needs a r) := by
  intro D I J Q a hO hC h
  try dsimp only at h
  obtain ⟨hcT, hcF, hcK, hcR, hcX, hcN, hcA, hcU⟩ := id hC
  obtain ⟨oT, oF, oN, oK, oR, oX⟩ := id hO
  unfold sp_needs at h
  refine MT.by ck226 (by decide) rfl (Nat.le_of_ble_eq_true rfl) rfl 300 [] ?_
  conv => whnf
  try dsimp only
  refine ⟨trivial, r_fi hcF.1 (fun e1 => ?_) (fun j hj hr hh e1 => ?_)⟩
  · rw [e1] at h
    refine EV.at ck226 (by decide) 300 [] ?_
    conv => whnf
    try dsimp only
    first | refine ⟨fun h1 => absurd h1 (by decide), fun _ => ?_⟩ | refine ⟨fun _ => ?_, fun h1 => absurd (by decide) h1⟩ | refine ⟨fun h1 => absurd (by decide) h1, fun _ => ?_⟩ | refine ⟨fun _ => ?_, fun h1 => absurd h1 (by decide)⟩
    conv => whnf
    try dsimp only
    exact ⟨trivial, rfin rfl hC (FM.rf I) (FMJ.rf J) h⟩
  rw [e1] at h
  dsimp only at h
  subst hr
  have h12 : tC (aT a) ≤ 12 := oT.1.2.2.1
  have hv := (oF hh).1
  have hw : aw a < 2 := Nat.mod_lt _ (by decide)
  have cj : (nI j).toNatClampNeg = j := nI_clamp (by omega)
  have hkn : (aq a j).2.2.2 < 4096 := (vQ_at hv hj).2.2.2
  unfold needN at h
  refine EV.at ck226 (by decide) 300 [] ?_
  conv => whnf
  try dsimp only
  first | refine ⟨fun h1 => absurd h1 (by decide), fun _ => ?_⟩ | refine ⟨fun _ => ?_, fun h1 => absurd (by decide) h1⟩ | refine ⟨fun h1 => absurd (by decide) h1, fun _ => ?_⟩ | refine ⟨fun _ => ?_, fun h1 => absurd h1 (by decide)⟩
  conv => whnf
  try dsimp only
  refine ⟨trivial, r_layRoot hcF.2 (oF hh).2.1 (fun I1 b1 b2 b3 b4 b5 b6 => ?_)⟩
  obtain ⟨hC1, hfm⟩ := hC.wm b5 b6
  refine EV.at ck226 (by decide) 300 [] ?_
  conv => whnf
  try dsimp only
  refine ⟨trivial, r_doesWin hw hj oT.1 hv ⟨hC1.1, b3, b2⟩ b1 b4 (fun I2 f2 => ?_)⟩
  have hC2 := hC1.scr f2.sr rfl rfl
  have hfm2 := hfm.tr f2.sr.fm
  show EV G 226 _ 0 0 _ _ ((some (Value.int (b2i (wonN (aT a) (aq a) (aw a) j)))).toList ++ _) _ _
  cases hwon : wonN (aT a) (aq a) (aw a) j
  · rw [hwon] at h
    refine EV.at ck226 (by decide) 300 [] ?_
    conv => whnf
    try dsimp only
    first | refine ⟨fun h1 => absurd h1 (by decide), fun _ => ?_⟩ | refine ⟨fun _ => ?_, fun h1 => absurd (by decide) h1⟩ | refine ⟨fun h1 => absurd (by decide) h1, fun _ => ?_⟩ | refine ⟨fun _ => ?_, fun h1 => absurd h1 (by decide)⟩
    conv => whnf
    try dsimp only
    exact ⟨trivial, rfin rfl hC2 hfm2 (FMJ.rf J) h⟩
  rw [hwon, if_pos rfl] at h
  have loop : ∀ m v (I1 : Nat → Nat → Int32), v + m = tC (aT a) → MA a I1 J → FM I I1 → EV G 226 (D + 59) 0 0 28 [.ref 77, .int (nI j), .int (nI (orN (needP (aT a) (aq a) (aw a) j) v)), .int (nI v)] [] (SH n, I1, J) Q := by
    intro m
    induction m with
    | zero =>
      intro v I1 hv' hA hfm
      have hv' : v = tC (aT a) := hv'
      refine EV.at ck226 (by decide) 300 [] ?_
      conv => whnf
      try dsimp only
      rw [hA.1.2.2.1]
      refine pk_le (tC (aT a)) v (fun _ => ?_) (fun z => absurd z (by omega))
      conv => whnf
      try dsimp only
      rw [hv']
      exact ⟨trivial, rfin rfl hA hfm (FMJ.rf J) h⟩
    | succ m ih =>
      intro v I1 hvm hA hfm
      have un : orN (needP (aT a) (aq a) (aw a) j) (v + 1) = orN (needP (aT a) (aq a) (aw a) j) v ||| (if needP (aT a) (aq a) (aw a) j v then 2 ^ v else 0) := rfl
      have next : ∀ (I3 : Nat → Nat → Int32) (y : Int32), MA a I3 J → FM I I3 → y = nI (orN (needP (aT a) (aq a) (aw a) j) (v + 1)) → EV G 226 (D + 59) 0 0 85 [.ref 77, .int (nI j), .int y, .int (nI v)] [] (SH n, I3, J) Q := by
        intro I3 y hA3 hfm3 hn
        have ihj := ih (v + 1) I3 (by omega) hA3 hfm3
        rw [nI_succ v, ← hn] at ihj
        refine EV.at ck226 (by decide) 300 [] ?_
        conv => whnf
        try dsimp only
        exact ⟨trivial, ihj⟩
      refine EV.at ck226 (by decide) 300 [] ?_
      conv => whnf
      try dsimp only
      rw [hA.1.2.2.1]
      refine pk_le (tC (aT a)) v (fun z => absurd z (by omega)) (fun _ => ?_)
      conv => whnf
      try dsimp only
      refine ⟨trivial, r_layRoot hA.2.1.2 (oF hh).2.1 (fun I2 b1 b2 b3 b4 b5 b6 => ?_)⟩
      obtain ⟨hC2, hfm2⟩ := hA.wm b5 b6
      have b2 : kM (aq a) I2 := b2
      have k9 := kM_at hj b2
      refine EV.at ck226 (by decide) 300 [85] ?_
      conv => whnf
      try dsimp only
      refine ⟨in_nI (show j < 2 by omega) (by decide), ?_⟩
      conv => whnf
      try dsimp only
      rw [cj, k9]
      refine ⟨trivial, r_has (by omega) (by omega) ?_⟩
      cases hb : (aq a j).2.2.2.testBit v
      · have hp : needP (aT a) (aq a) (aw a) j v = false := by unfold needP; rw [hb]; rfl
        refine EV.at ck226 (by decide) 300 [85] ?_
        conv => whnf
        try dsimp only
        first | refine ⟨fun h1 => absurd h1 (by decide), fun _ => ?_⟩ | refine ⟨fun _ => ?_, fun h1 => absurd (by decide) h1⟩ | refine ⟨fun h1 => absurd (by decide) h1, fun _ => ?_⟩ | refine ⟨fun _ => ?_, fun h1 => absurd h1 (by decide)⟩
        conv => whnf
        try dsimp only
        exact ⟨trivial, next I2 _ hC2 (hfm.tr hfm2) (by rw [un, hp]; show _ = nI (_ ||| 0); rw [Nat.or_zero])⟩
      have hset : clrN (aq a j).2.2.2 v < 4096 := clrN_lt (b := 12) hkn (by omega)
      have hsr : SR I2 (upI I2 99 j (nI (clrN (aq a j).2.2.2 v))) := SR.hi (by decide)
      have o : ∀ r, r ≠ 99 → upI I2 99 j (nI (clrN (aq a j).2.2.2 v)) r = I2 r := fun r hr => upI_oth hr
      refine EV.at ck226 (by decide) 300 [85] ?_
      conv => whnf
      try dsimp only
      first | refine ⟨fun h1 => absurd h1 (by decide), fun _ => ?_⟩ | refine ⟨fun _ => ?_, fun h1 => absurd (by decide) h1⟩ | refine ⟨fun h1 => absurd (by decide) h1, fun _ => ?_⟩ | refine ⟨fun _ => ?_, fun h1 => absurd h1 (by decide)⟩
      conv => whnf
      try dsimp only
      refine ⟨in_nI (show j < 2 by omega) (by decide), ?_⟩
      conv => whnf
      try dsimp only
      rw [cj, k9, nu_clr (show v < 31 by omega)]
      refine ⟨in_nI (show j < 2 by omega) (by decide), ?_⟩
      conv => whnf
      try dsimp only
      try rw [cj]
      refine ⟨trivial, r_doesWin (q := setK (aq a) j (clrN (aq a j).2.2.2 v)) hw hj oT.1 (vQ_setK hj hv hset) ⟨(hC2.scr hsr rfl rfl).1, by rw [o 77 (by decide)]; exact b3, kM_set hj b2⟩ (fun e he6 => by rw [o 97 (by decide), pl_K]; exact b1 e he6) (by rw [o 98 (by decide)]; exact b4) (fun I3 f3 => ?_)⟩
      have hC3 := (hC2.scr hsr rfl rfl).scr f3.sr rfl rfl
      have hfm3 := (hfm.tr hfm2).tr (hsr.fm.tr f3.sr.fm)
      cases hb2 : wonN (aT a) (setK (aq a) j (clrN (aq a j).2.2.2 v)) (aw a) j
      · have hp : needP (aT a) (aq a) (aw a) j v = true := by unfold needP; rw [hb, hb2]; rfl
        refine EV.at ck226 (by decide) 300 [85] ?_
        conv => whnf
        try dsimp only
        first | refine ⟨fun h1 => absurd h1 (by decide), fun _ => ?_⟩ | refine ⟨fun _ => ?_, fun h1 => absurd (by decide) h1⟩ | refine ⟨fun h1 => absurd (by decide) h1, fun _ => ?_⟩ | refine ⟨fun _ => ?_, fun h1 => absurd h1 (by decide)⟩
        conv => whnf
        try dsimp only
        exact ⟨trivial, next I3 _ hC3 hfm3 (by rw [un, hp, if_pos rfl, nu_one (show v < 31 by omega), fa_or])⟩
      · have hp : needP (aT a) (aq a) (aw a) j v = false := by unfold needP; rw [hb, hb2]; rfl
        refine EV.at ck226 (by decide) 300 [85] ?_
        conv => whnf
        try dsimp only
        first | refine ⟨fun h1 => absurd h1 (by decide), fun _ => ?_⟩ | refine ⟨fun _ => ?_, fun h1 => absurd (by decide) h1⟩ | refine ⟨fun h1 => absurd (by decide) h1, fun _ => ?_⟩ | refine ⟨fun _ => ?_, fun h1 => absurd h1 (by decide)⟩
        conv => whnf
        try dsimp only
        exact ⟨trivial, next I3 _ hC3 hfm3 (by rw [un, hp]; show _ ||| 0 = nI (_ ||| 0); rw [← fa_or, nI_0])⟩
  refine EV.at ck226 (by decide) 300 [28] ?_
  conv => whnf
  try dsimp only
  first | refine ⟨fun h1 => absurd h1 (by decide), fun _ => ?_⟩ | refine ⟨fun _ => ?_, fun h1 => absurd (by decide) h1⟩ | refine ⟨fun h1 => absurd (by decide) h1, fun _ => ?_⟩ | refine ⟨fun _ => ?_, fun h1 => absurd h1 (by decide)⟩
  conv => whnf
  try dsimp only
  exact ⟨trivial, loop (tC (aT a)) 0 I2 (by omega) hC2 hfm2⟩
end
