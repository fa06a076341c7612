/-! the reference's reader -/
def qM (P : PS) (I : Nat → Nat → Int32) : Prop := I 77 20 = nI (tS P.2.1) ∧ I 77 21 = nI (tC P.2.1) ∧ I 77 22 = nI P.2.2.1 ∧ I 77 29 = nI P.1 ∧ (∀ i, i < tS P.2.1 → I 91 i = nI (tK P.2.1 i) ∧ I 92 i = nI (tT P.2.1 i)) ∧ (∀ k, k < tC P.2.1 → I 93 k = nI (tF P.2.1 k) ∧ I 94 k = nI (tI P.2.1 k) ∧ I 95 k = nI (tW P.2.1 k)) ∧ ∀ i, i < P.2.2.1 → I 96 (2 * i) = nI (P.2.2.2.1 i) ∧ I 96 (2 * i + 1) = nI (P.2.2.2.2 i)
def SQ (I I' : Nat → Nat → Int32) : Prop := SR I I' ∧ I' 77 30 = I 77 30
theorem SQ.rf (I : Nat → Nat → Int32) : SQ I I := ⟨SR.rf I, rfl⟩
theorem SQ.tr {I I' I'' : Nat → Nat → Int32} (h : SQ I I') (h' : SQ I' I'') : SQ I I'' := ⟨h.1.tr h'.1, h'.2.trans h.2⟩
theorem SQ.up {I I' : Nat → Nat → Int32} {r k : Nat} {x : Int32} (h : SQ I I') (hr : 90 ≤ r ∨ (r = 77 ∧ 13 ≤ k ∧ k ≠ 30)) : SQ I (upI I' r k x) := by
  rcases hr with hr | ⟨rfl, h1, h2⟩
  · exact ⟨h.1.tr (SR.hi hr), by rw [upI_oth (by omega)]; exact h.2⟩
  · exact ⟨h.1.tr (SR.fl h1), by rw [up_ne (by omega)]; exact h.2⟩
/-- the TEXT that is read -/
def xM (t sz : Nat) (tx : Nat → Int32) (I : Nat → Nat → Int32) : Prop := t < 4 ∧ sz ≤ 80 ∧ I 77 30 = nI t ∧ I 88 t = nI sz ∧ ∀ i, i < sz → I 89 (80 * t + i) = tx i
theorem xM.of {t sz : Nat} {tx : Nat → Int32} {I I' : Nat → Nat → Int32} (h : xM t sz tx I) (hS : SQ I I') : xM t sz tx I' := by
  obtain ⟨h1, h2, h3, h4, h5⟩ := h
  exact ⟨h1, h2, by rw [hS.2]; exact h3, by rw [hS.1.1 88 (by decide) (by decide)]; exact h4, fun i hi => by rw [hS.1.1 89 (by decide) (by decide)]; exact h5 i hi⟩
theorem qM_pl {P : PS} {I : Nat → Nat → Int32} {p : Nat} (h : qM P I) : qM (p, P.2) (upI I 77 29 (nI p)) := by
  obtain ⟨h1, h2, h3, h4, h5, h6, h7⟩ := h
  have o : ∀ r, r ≠ 77 → upI I 77 29 (nI p) r = I r := fun r hr => upI_oth hr
  refine ⟨by rw [up_ne (by decide)]; exact h1, by rw [up_ne (by decide)]; exact h2, by rw [up_ne (by decide)]; exact h3, up_same, fun i hi => ?_, fun k hk => ?_, fun i hi => ?_⟩
  · rw [o 91 (by decide), o 92 (by decide)]; exact h5 i hi
  · rw [o 93 (by decide), o 94 (by decide), o 95 (by decide)]; exact h6 k hk
  · rw [o 96 (by decide)]; exact h7 i hi
def bytI (sz : Nat) (tx : Nat → Int32) (p : Nat) : Int32 := if p < sz then tx p else -1000
abbrev dig (sz : Nat) (tx : Nat → Int32) (p : Nat) : Prop := p < sz ∧ 48 ≤ tx p ∧ tx p ≤ 57
theorem le64 (x y : Int32) : x.toInt64 ≤ y.toInt64 ↔ x ≤ y := by
  rw [Int64.le_iff_toInt_le, Int32.le_iff_toInt_le, Int32.toInt_toInt64, Int32.toInt_toInt64]
theorem fgs_stop {sz : Nat} {tx : Nat → Int32} : ∀ m g p b, (∀ k, g ≤ k → k < g + m → fgN sz tx p k k = none) → fgs sz tx m g p b = (p, b)
  | 0, _, _, _, _ => rfl
  | m + 1, g, p, b, h => by
    rw [fgs, if_pos (h g (by omega) (by omega))]
    exact fgs_stop m (g + 1) p b (fun k h1 h2 => h k (by omega) (by omega))
theorem fgs_take {sz : Nat} {tx : Nat → Int32} {v p : Nat} (hp : p < sz) (e : tx p - 48 = nI v) : ∀ m g b, g + m = 5 → g ≤ v → v ≤ 4 → fgs sz tx m g p b = fgs sz tx (4 - v) (v + 1) (p + 1) (b ||| 2 ^ v)
  | 0, g, b, h1, h2, h3 => by omega
  | m + 1, g, b, h1, h2, h3 => by
    by_cases hg : g = v
    · subst hg
      rw [fgs, fg_some (by omega) hp (Nat.le_refl _) (Nat.le_refl _) e, if_neg (fun z => by cases z), show m = 4 - g by omega]
    · rw [fgs, if_pos ?_]
      · exact fgs_take hp e m (g + 1) b (by omega) (by omega) h3
      · cases hf : fgN sz tx p g g with
        | none => rfl
        | some w =>
          obtain ⟨a1, a2, a3, a4⟩ := fg_ok (by omega) (by omega) hf
          have := (nu_eq (a := v) (b := w) (by omega) (by omega)).mp (e.symm.trans a4)
          omega
section
variable {G : GG} {d n : Nat} {I : Nat → Nat → Int32} {J : Nat → Nat → Int64} {Q : Option Value → MH → Prop}
theorem r_byteAt {t sz p : Nat} {tx : Nat → Int32} (hx : xM t sz tx I) (hp : I 77 29 = nI p) (hp2 : p < 65536) (h : Q (some (.int (bytI sz tx p))) (SH n, I, J)) : MT G (d + 1) 175 [.ref 77] (SH n, I, J) Q := by
  obtain ⟨h1, h2, h3, h4, h5⟩ := hx
  have ct : (nI t).toNatClampNeg = t := nI_clamp (by omega)
  unfold bytI at h
  refine MT.by ck175 (by decide) rfl (Nat.le_of_ble_eq_true rfl) rfl 300 [] ?_
  conv => whnf
  try dsimp only
  rw [h3]
  refine ⟨in_nI h1 (by decide), ?_⟩
  conv => whnf
  try dsimp only
  rw [ct, hp, h4]
  refine pk_le sz p (fun z => ?_) (fun z => ?_)
  · rw [if_neg (by omega)] at h
    conv => whnf
    try dsimp only
    exact ⟨trivial, h⟩
  · have ca : (nI (80 * t + p)).toNatClampNeg = 80 * t + p := nI_clamp (by omega)
    rw [if_pos z] at h
    conv => whnf
    try dsimp only
    rw [h3, hp, i80]
    refine ⟨in_nI (show 80 * t + p < 320 by omega) (by decide), ?_⟩
    conv => whnf
    try dsimp only
    rw [ca, h5 p z]
    exact ⟨trivial, h⟩
theorem r_figure {t sz p lo hi : Nat} {tx : Nat → Int32} (hx : xM t sz tx I) (hp : I 77 29 = nI p) (hp2 : p < 65536) (hl : lo < 65536) (hh : hi < 65536) (hno : fgN sz tx p lo hi = none → Q (some (.int (-1))) (SH n, I, J)) (hok : ∀ v, fgN sz tx p lo hi = some v → Q (some (.int (nI v))) (SH n, upI I 77 29 (nI (p + 1)), J)) : MT G (d + 2) 176 [.ref 77, .int (nI lo), .int (nI hi)] (SH n, I, J) Q := by
  refine MT.by ck176 (by decide) rfl (Nat.le_of_ble_eq_true rfl) rfl 300 [] ?_
  conv => whnf
  try dsimp only
  refine ⟨trivial, r_byteAt hx hp hp2 ?_⟩
  refine EV.at ck176 (by decide) 300 [] ?_
  conv => whnf
  try dsimp only
  refine ⟨trivial, r_in ?_⟩
  have e : decide ((nI lo).toInt64 ≤ (bytI sz tx p - 48).toInt64 ∧ (bytI sz tx p - 48).toInt64 ≤ (nI hi).toInt64) = decide (p < sz ∧ nI lo ≤ tx p - 48 ∧ tx p - 48 ≤ nI hi) := by
    apply decide_eq_decide.mpr
    rw [le64, le64]
    unfold bytI
    by_cases hps : p < sz
    · rw [if_pos hps]
      exact ⟨fun q => ⟨hps, q⟩, fun q => q.2⟩
    · rw [if_neg hps]
      refine ⟨fun q => ?_, fun q => absurd q.1 hps⟩
      have h1 : nI lo < 0 := Int32.lt_of_le_of_lt q.1 (by decide)
      exact absurd h1 (nI_pos (by omega))
  rw [e]
  by_cases hc : p < sz ∧ nI lo ≤ tx p - 48 ∧ tx p - 48 ≤ nI hi
  · have hf : fgN sz tx p lo hi = some (tx p - 48).toNatClampNeg := by unfold fgN; rw [if_pos hc]
    obtain ⟨f1, f2, f3, f4⟩ := fg_ok hl hh hf
    have hq := hok _ hf
    rw [← f4] at hq
    have eb : bytI sz tx p = tx p := by unfold bytI; rw [if_pos hc.1]
    rw [decide_eq_true hc, eb]
    refine EV.at ck176 (by decide) 300 [] ?_
    conv => whnf
    try dsimp only
    first | refine ⟨fun h1 => absurd h1 (by decide), fun _ => ?_⟩ | refine ⟨fun _ => ?_, fun h1 => absurd (by decide) h1⟩ | refine ⟨fun h1 => absurd (by decide) h1, fun _ => ?_⟩ | refine ⟨fun _ => ?_, fun h1 => absurd h1 (by decide)⟩
    conv => whnf
    try dsimp only
    rw [hp, nI_1]
    exact ⟨trivial, hq⟩
  · have hf : fgN sz tx p lo hi = none := by unfold fgN; rw [if_neg hc]
    rw [decide_eq_false hc]
    refine EV.at ck176 (by decide) 300 [] ?_
    conv => whnf
    try dsimp only
    first | refine ⟨fun h1 => absurd h1 (by decide), fun _ => ?_⟩ | refine ⟨fun _ => ?_, fun h1 => absurd (by decide) h1⟩ | refine ⟨fun h1 => absurd (by decide) h1, fun _ => ?_⟩ | refine ⟨fun _ => ?_, fun h1 => absurd h1 (by decide)⟩
    conv => whnf
    try dsimp only
    exact ⟨trivial, hno hf⟩
theorem r_kindOf {σ : MH} {x : Int32} (h : Q (some (.int (fgI (kindN x)))) σ) : MT G (d + 1) 177 [.int x] σ Q := by
  unfold kindN at h
  refine MT.by ck177 (by decide) rfl (Nat.le_of_ble_eq_true rfl) rfl 300 [] ?_
  conv => whnf
  try dsimp only
  refine ⟨fun z => ?_, fun z1 => ⟨fun z => ?_, fun z2 => ⟨fun z => ?_, fun z3 => ⟨fun z => ?_, fun z4 => ⟨fun z => ?_, fun z5 => ⟨fun z => ?_, fun z6 => ?_⟩⟩⟩⟩⟩⟩
  · subst z
    conv => whnf
    try dsimp only
    exact ⟨trivial, h⟩
  · subst z
    conv => whnf
    try dsimp only
    exact ⟨trivial, h⟩
  · subst z
    conv => whnf
    try dsimp only
    exact ⟨trivial, h⟩
  · subst z
    conv => whnf
    try dsimp only
    exact ⟨trivial, h⟩
  · subst z
    conv => whnf
    try dsimp only
    exact ⟨trivial, h⟩
  · subst z
    conv => whnf
    try dsimp only
    exact ⟨trivial, h⟩
  · rw [if_neg z5, if_neg z3, if_neg z2, if_neg z1, if_neg z6, if_neg z4] at h
    conv => whnf
    try dsimp only
    exact ⟨trivial, h⟩
theorem r_fromMany {c : Nat} {x : Int32} (hc : c ≤ 12) (hI : I 77 21 = nI c) (h : Q (some (.int (cntI (fun k => decide (I 93 k = x)) c))) (SH n, I, J)) : MT G (d + 1) 179 [.ref 77, .int x] (SH n, I, J) Q := by
  have loop : ∀ m j, j + m = c → EV G 179 d 0 0 4 [.ref 77, .int x, .int (cntI (fun k => decide (I 93 k = x)) j), .int (nI j)] [] (SH n, I, J) Q := by
    intro m
    induction m with
    | zero =>
      intro j hj
      have hj : j = c := hj
      subst hj
      refine EV.at ck179 (by decide) 300 [] ?_
      conv => whnf
      try dsimp only
      rw [hI]
      refine ⟨fun _ => ?_, fun h1 => absurd (nI_le (Nat.le_refl j) (by omega)) h1⟩
      conv => whnf
      try dsimp only
      exact ⟨trivial, h⟩
    | succ m ih =>
      intro j hj
      have ihj := ih (j + 1) (by omega)
      have cj : (nI j).toNatClampNeg = j := nI_clamp (by omega)
      refine EV.at ck179 (by decide) 300 [] ?_
      conv => whnf
      try dsimp only
      rw [hI]
      refine ⟨fun h1 => absurd h1 (nI_ge (show j < c by omega) (by omega)), fun _ => ?_⟩
      conv => whnf
      try dsimp only
      refine ⟨in_nI (show j < 12 by omega) (by decide), ?_⟩
      conv => whnf
      try dsimp only
      rw [cj]
      refine ⟨fun h1 => ?_, fun h1 => ?_⟩
      · have e : cntI (fun k => decide (I 93 k = x)) (j + 1) = cntI (fun k => decide (I 93 k = x)) j + 0 := by simp only [cntI, decide_eq_false h1, b2i]
        rw [e, nI_succ] at ihj
        conv => whnf
        try dsimp only
        exact ⟨trivial, ihj⟩
      · have e : cntI (fun k => decide (I 93 k = x)) (j + 1) = cntI (fun k => decide (I 93 k = x)) j + 1 := by simp only [cntI, decide_eq_true h1, b2i]
        rw [e, nI_succ] at ihj
        conv => whnf
        try dsimp only
        exact ⟨trivial, ihj⟩
  refine MT.by ck179 (by decide) rfl (Nat.le_of_ble_eq_true rfl) rfl 300 [4] ?_
  conv => whnf
  try dsimp only
  exact ⟨trivial, loop c 0 (by omega)⟩
theorem r_takesShape {t sz kd : Nat} {tx : Nat → Int32} {P : PS} (hx : xM t sz tx I) (hP : pOK P) (hM : qM P I) (hp : P.1 < sz) (hf : (rdS sz tx kd P).1 = false → ∀ I', I' 77 29 = nI (rdS sz tx kd P).2.1 → SQ I I' → Q (some (.int 0)) (SH n, I', J)) (ht : (rdS sz tx kd P).1 = true → ∀ I', qM (rdS sz tx kd P).2 I' → SQ I I' → Q (some (.int 1)) (SH n, I', J)) (hd : (rdS sz tx kd P).1 = true → dig sz tx (rdS sz tx kd P).2.1 → ∀ I', I' 77 29 = nI (rdS sz tx kd P).2.1 → SQ I I' → Q (some (.int 0)) (SH n, I', J)) : MT G (d + 3) 178 [.ref 77, .int (nI kd)] (SH n, I, J) Q := by
  have s80 : sz ≤ 80 := hx.2.1
  have h5 : tS P.2.1 ≤ 5 := hP.1.1
  have h12 : tC P.2.1 ≤ 12 := hP.1.2.2.1
  have h2 : P.2.2.1 ≤ 2 := hP.2.1
  obtain ⟨m1, m2, m3, m4, m5, m6, m7⟩ := id hM
  have no : (0 < tC P.2.1 ∨ 0 < P.2.2.1 ∨ tS P.2.1 = 5) → Q (some (.int 0)) (SH n, I, J) := fun hn => by
    have e : rdS sz tx kd P = (false, P) := by unfold rdS; rw [if_pos hn]
    rw [e] at hf
    exact hf rfl I m4 (SQ.rf I)
  refine MT.by ck178 (by decide) rfl (Nat.le_of_ble_eq_true rfl) rfl 300 [56] ?_
  conv => whnf
  try dsimp only
  rw [m1]
  refine ⟨fun z3 => ?_, fun z3 => ?_⟩
  · conv => whnf
    try dsimp only
    exact ⟨Or.inl rfl, no (Or.inr (Or.inr ((nu_eq (b := 5) (by omega) (by decide)).mp z3)))⟩
  have z3' : tS P.2.1 ≠ 5 := fun y => z3 (by rw [y]; rfl)
  conv => whnf
  try dsimp only
  rw [m2]
  refine pk_lt 0 (tC P.2.1) (fun z1 => ?_) (fun z1 => ?_)
  · conv => whnf
    try dsimp only
    exact ⟨Or.inl rfl, no (Or.inl z1)⟩
  conv => whnf
  try dsimp only
  rw [m3]
  refine pk_le P.2.2.1 0 (fun z2 => ?_) (fun z2 => ?_)
  case refine_2 =>
    conv => whnf
    try dsimp only
    exact ⟨Or.inl rfl, no (Or.inr (Or.inl z2))⟩
  have e0 : rdS sz tx kd P = (true, ((fgs sz tx 5 0 (P.1 + 1) 0).1, addS P.2.1 kd (fgs sz tx 5 0 (P.1 + 1) 0).2, P.2.2)) := by unfold rdS; rw [if_neg (by omega)]
  rw [e0] at hf ht hd
  dsimp only at hf ht hd
  generalize hR : fgs sz tx 5 0 (P.1 + 1) 0 = R at hf ht hd
  have ct : (nI (tS P.2.1)).toNatClampNeg = tS P.2.1 := nI_clamp (by omega)
  have loop : ∀ m g p b (I1 : Nat → Nat → Int32) (v3 : Value), g + m = 5 → p ≤ P.1 + 1 + g → fgs sz tx m g p b = R → SQ I I1 → I1 77 20 = nI (tS P.2.1) → I1 77 21 = nI (tC P.2.1) → I1 77 22 = nI P.2.2.1 → I1 77 29 = nI p → (∀ i, i < tS P.2.1 → I1 91 i = nI (tK P.2.1 i) ∧ I1 92 i = nI (tT P.2.1 i)) → I1 91 (tS P.2.1) = nI kd → I1 92 (tS P.2.1) = nI b → EV G 178 (d + 2) 0 0 56 [.ref 77, .int (nI kd), .int (nI g), v3] [] (SH n, I1, J) Q := by
    intro m
    induction m using Nat.strongRecOn with
    | _ m ih =>
      intro g p b I1 v3 hg hpp hr hS n1 n2 n3 n4 n5 n6 n7
      have hx1 := hx.of hS
      have fin : fgs sz tx m g p b = (p, b) → EV G 178 (d + 2) 0 0 108 [.ref 77, .int (nI kd), .int (nI g), v3] [] (SH n, I1, J) Q := fun he => by
        have hRpb : R = (p, b) := hr.symm.trans he
        have hq := ht rfl (upI I1 77 20 (nI (tS P.2.1 + 1))) ?_ (hS.up (Or.inr ⟨rfl, by decide, by decide⟩))
        · refine EV.at ck178 (by decide) 300 [] ?_
          conv => whnf
          try dsimp only
          rw [n1, nI_1]
          exact ⟨Or.inr rfl, hq⟩
        · rw [hRpb]
          have o : ∀ r, r ≠ 77 → upI I1 77 20 (nI (tS P.2.1 + 1)) r = I1 r := fun r hr => upI_oth hr
          refine ⟨up_same, by rw [up_ne (by decide)]; exact n2, by rw [up_ne (by decide)]; exact n3, by rw [up_ne (by decide)]; exact n4, fun i hi => ?_, fun k hk => ?_, fun i hi => ?_⟩
          · rw [o 91 (by decide), o 92 (by decide)]
            by_cases hi2 : i = tS P.2.1
            · subst hi2
              exact ⟨by rw [addS_K, if_pos rfl]; exact n6, by rw [addS_T, if_pos rfl]; exact n7⟩
            · have hi : i < tS P.2.1 + 1 := hi
              rw [addS_K, addS_T, if_neg hi2, if_neg hi2]
              exact n5 i (by omega)
          · have hk : k < tC P.2.1 := hk
            omega
          · have hi : i < P.2.2.1 := hi
            omega
      refine EV.at ck178 (by decide) 300 [108] ?_
      conv => whnf
      try dsimp only
      refine ⟨trivial, r_byteAt hx1 n4 (by omega) ?_⟩
      refine EV.at ck178 (by decide) 300 [108] ?_
      conv => whnf
      try dsimp only
      refine ⟨trivial, r_in ?_⟩
      have e : decide ((48 : Int64) ≤ (bytI sz tx p).toInt64 ∧ (bytI sz tx p).toInt64 ≤ 57) = decide (dig sz tx p) := by
        apply decide_eq_decide.mpr
        rw [show (48 : Int64) = (48 : Int32).toInt64 from by decide, show (57 : Int64) = (57 : Int32).toInt64 from by decide, le64, le64]
        unfold bytI dig
        by_cases hps : p < sz
        · rw [if_pos hps]
          exact ⟨fun q => ⟨hps, q⟩, fun q => q.2⟩
        · rw [if_neg hps]
          exact ⟨fun q => absurd q.1 (by decide), fun q => absurd q.1 hps⟩
      rw [e]
      by_cases hdg : dig sz tx p
      · rw [decide_eq_true hdg]
        refine EV.at ck178 (by decide) 300 [108] ?_
        conv => whnf
        try dsimp only
        first | refine ⟨fun h1 => absurd h1 (by decide), fun _ => ?_⟩ | refine ⟨fun _ => ?_, fun h1 => absurd (by decide) h1⟩ | refine ⟨fun h1 => absurd (by decide) h1, fun _ => ?_⟩ | refine ⟨fun _ => ?_, fun h1 => absurd h1 (by decide)⟩
        conv => whnf
        try dsimp only
        refine ⟨trivial, r_figure (hi := 4) hx1 n4 (by omega) (show g < 65536 by omega) (by decide) (fun hn => ?_) (fun v hv => ?_)⟩
        · have he : fgs sz tx m g p b = (p, b) := fgs_stop m g p b (fun k h1 h2 => by
            cases hk : fgN sz tx p k k with
            | none => rfl
            | some w =>
              obtain ⟨a1, a2, a3, a4⟩ := fg_ok (by omega) (by omega) hk
              have hw : w = k := by omega
              have := fg_some (lo := g) (hi := 4) (by decide) a1 (show g ≤ w by omega) (by omega) a4
              rw [this] at hn
              cases hn)
          have hRpb : R = (p, b) := hr.symm.trans he
          rw [hRpb] at hd
          refine EV.at ck178 (by decide) 300 [] ?_
          conv => whnf
          try dsimp only
          first | refine ⟨fun h1 => absurd h1 (by decide), fun _ => ?_⟩ | refine ⟨fun _ => ?_, fun h1 => absurd (by decide) h1⟩ | refine ⟨fun h1 => absurd (by decide) h1, fun _ => ?_⟩ | refine ⟨fun _ => ?_, fun h1 => absurd h1 (by decide)⟩
          conv => whnf
          try dsimp only
          exact ⟨Or.inl rfl, hd rfl hdg I1 n4 hS⟩
        · obtain ⟨a1, a2, a3, a4⟩ := fg_ok (by omega) (by omega) hv
          have he := fgs_take a1 a4 m g b hg a2 a3
          have r20 : upI I1 77 29 (nI (p + 1)) 77 20 = nI (tS P.2.1) := by rw [up_ne (by decide)]; exact n1
          have r92 : upI I1 77 29 (nI (p + 1)) 92 (tS P.2.1) = nI b := by rw [upI_oth (by decide)]; exact n7
          refine EV.at ck178 (by decide) 300 [] ?_
          conv => whnf
          try dsimp only
          refine ⟨fun _ => ?_, fun z => absurd (nI_pos' (show v < 2 ^ 31 by omega)) z⟩
          conv => whnf
          try dsimp only
          rw [r20]
          refine ⟨in_nI (show tS P.2.1 < 5 by omega) (by decide), ?_⟩
          conv => whnf
          try dsimp only
          refine ⟨in_nI (show tS P.2.1 < 5 by omega) (by decide), ?_⟩
          conv => whnf
          try dsimp only
          rw [ct, r92, nu_one (show v < 31 by omega), fa_or, nI_1]
          have o : ∀ r, r ≠ 77 → r ≠ 92 → upI (upI I1 77 29 (nI (p + 1))) 92 (tS P.2.1) (nI (b ||| 2 ^ v)) r = I1 r := fun r h1 h2 => by rw [upI_oth h2, upI_oth h1]
          have o7 : ∀ k, k ≠ 29 → upI (upI I1 77 29 (nI (p + 1))) 92 (tS P.2.1) (nI (b ||| 2 ^ v)) 77 k = I1 77 k := fun k hk => by rw [upI_oth (by decide), up_ne hk]
          refine ⟨trivial, ih (4 - v) (by omega) (v + 1) (p + 1) (b ||| 2 ^ v) _ _ (by omega) (by omega) (he.symm.trans hr) ((hS.up (Or.inr ⟨rfl, by decide, by decide⟩)).up (Or.inl (by decide))) (by rw [o7 20 (by decide)]; exact n1) (by rw [o7 21 (by decide)]; exact n2) (by rw [o7 22 (by decide)]; exact n3) (by rw [upI_oth (by decide), up_same]) (fun i hi => ?_) (by rw [o 91 (by decide) (by decide)]; exact n6) up_same⟩
          rw [o 91 (by decide) (by decide), up_ne (by omega), upI_oth (by decide)]
          exact n5 i hi
      · rw [decide_eq_false hdg]
        have he : fgs sz tx m g p b = (p, b) := fgs_stop m g p b (fun k h1 h2 => by
          cases hk : fgN sz tx p k k with
          | none => rfl
          | some w =>
            obtain ⟨a1, a2, a3, a4⟩ := fg_ok (by omega) (by omega) hk
            have ex : tx p = nI w + 48 := by rw [← a4, Int32.sub_add_cancel]
            have hw : w < 10 := by omega
            have all : ∀ w, w < 10 → (48 : Int32) ≤ nI w + 48 ∧ nI w + 48 ≤ 57 := by decide +kernel
            exact absurd ⟨a1, by rw [ex]; exact (all w hw).1, by rw [ex]; exact (all w hw).2⟩ hdg)
        refine EV.at ck178 (by decide) 300 [108] ?_
        conv => whnf
        try dsimp only
        first | refine ⟨fun h1 => absurd h1 (by decide), fun _ => ?_⟩ | refine ⟨fun _ => ?_, fun h1 => absurd (by decide) h1⟩ | refine ⟨fun h1 => absurd (by decide) h1, fun _ => ?_⟩ | refine ⟨fun _ => ?_, fun h1 => absurd h1 (by decide)⟩
        conv => whnf
        try dsimp only
        exact ⟨trivial, fin he⟩
  conv => whnf
  try dsimp only
  rw [m4, nI_1, show upI I 77 29 (nI (P.1 + 1)) 77 20 = nI (tS P.2.1) by rw [up_ne (by decide)]; exact m1]
  refine ⟨in_nI (show tS P.2.1 < 5 by omega) (by decide), ?_⟩
  conv => whnf
  try dsimp only
  rw [ct, show upI (upI I 77 29 (nI (P.1 + 1))) 91 (tS P.2.1) (nI kd) 77 20 = nI (tS P.2.1) by rw [upI_oth (by decide), up_ne (by decide)]; exact m1]
  refine ⟨in_nI (show tS P.2.1 < 5 by omega) (by decide), ?_⟩
  conv => whnf
  try dsimp only
  rw [ct]
  have o : ∀ r, r ≠ 77 → r ≠ 91 → r ≠ 92 → upI (upI (upI I 77 29 (nI (P.1 + 1))) 91 (tS P.2.1) (nI kd)) 92 (tS P.2.1) 0 r = I r := fun r h1 h2 h3 => by rw [upI_oth h3, upI_oth h2, upI_oth h1]
  have o7 : ∀ k, k ≠ 29 → upI (upI (upI I 77 29 (nI (P.1 + 1))) 91 (tS P.2.1) (nI kd)) 92 (tS P.2.1) 0 77 k = I 77 k := fun k hk => by rw [upI_oth (by decide), upI_oth (by decide), up_ne hk]
  refine ⟨trivial, loop 5 0 (P.1 + 1) 0 _ _ (by omega) (by omega) hR ((((SQ.rf I).up (Or.inr ⟨rfl, by decide, by decide⟩)).up (Or.inl (by decide))).up (Or.inl (by decide))) (by rw [o7 20 (by decide)]; exact m1) (by rw [o7 21 (by decide)]; exact m2) (by rw [o7 22 (by decide)]; exact m3) (by rw [upI_oth (by decide), upI_oth (by decide), up_same]) (fun i hi => ?_) (by rw [upI_oth (by decide), up_same]) up_same⟩
  rw [upI_oth (r' := 91) (by decide), up_ne (by omega), upI_oth (by decide), up_ne (by omega), upI_oth (r' := 92) (by decide), upI_oth (r' := 92) (by decide)]
  exact m5 i hi
end
