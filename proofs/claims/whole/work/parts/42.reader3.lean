/-! the class's Reader: an item by its letter, the whole TEXT -/
theorem b2i_or (b : Bool) : b2i b = 0 ∨ b2i b = 1 := by cases b <;> simp [b2i]
theorem kind_ltr : ∀ k, k < 6 → kindN (ltr k) = some k ∧ ltr k ≠ 120 ∧ ltr k ≠ 102 := by decide +kernel
theorem kind_none {x : Int32} (h : ∀ j, j < 6 → ¬ ltr j = x) : kindN x = none := by
  cases hk : kindN x with
  | none => rfl
  | some k => exact absurd (kind_lt hk).2 (h k (kind_lt hk).1)
def P00 : PS := (0, (0, (fun _ => 0), (fun _ => 0), 0, (fun _ => 0), (fun _ => 0), (fun _ => 0)), 0, (fun _ => 0), (fun _ => 0))
theorem P00_ok : pOK P00 := ⟨⟨by decide, fun i hi => absurd hi (Nat.not_lt_zero i), by decide, fun k hk => absurd hk (Nat.not_lt_zero k)⟩, by decide, fun _ => ⟨rfl, rfl⟩, fun i hi => absurd hi (Nat.not_lt_zero i), fun i => by show 0 ≤ 4; omega⟩
section
variable {G : GG} {d n : Nat} {I : Nat → Nat → Int32} {J : Nat → Nat → Int64} {Q : Option Value → MH → Prop}
theorem c_readItem {sz c a : Nat} {tx : Nat → Int32} {P : PS} (hX : EX I) (hs : stM n c a sz tx I) (hP : pOK P) (hM : rM P I) (hp : P.1 < sz) (h : ∀ I', rM (rdI sz tx P).2 I' → (∀ r, r < 19 ∨ 27 < r → I' r = I r) → Q (some (.int (b2i (rdI sz tx P).1))) (SH n, I', J)) : MT G (d + 3) 38 [.ref 19, .ref c, .int (tx P.1)] (SH n, I, J) Q := by
  unfold rdI at h
  have loop : ¬ tx P.1 = 120 → ¬ tx P.1 = 102 → ∀ m k, k + m = 6 → (∀ j, j < k → ¬ ltr j = tx P.1) → EV G 38 (d + 2) 0 0 26 [.ref 19, .ref c, .int (tx P.1), .int (nI k)] [] (SH n, I, J) Q := by
    intro y1 y2 m
    rw [if_neg y1, if_neg y2] at h
    induction m with
    | zero =>
      intro k hk hj
      have hk : k = 6 := hk
      subst hk
      rw [kind_none hj] at h
      refine EV.at ck38 (by decide) 300 [] ?_
      conv => whnf
      try dsimp only
      first | refine ⟨fun h1 => absurd h1 (by decide), fun _ => ?_⟩ | refine ⟨fun _ => ?_, fun h1 => absurd (by decide) h1⟩ | refine ⟨fun h1 => absurd (by decide) h1, fun _ => ?_⟩ | refine ⟨fun _ => ?_, fun h1 => absurd h1 (by decide)⟩
      conv => whnf
      try dsimp only
      exact ⟨Or.inl rfl, h I hM (fun _ _ => rfl)⟩
    | succ m ih =>
      intro k hk hj
      have ck : (nI k).toNatClampNeg = k := nI_clamp (by omega)
      refine EV.at ck38 (by decide) 300 [] ?_
      conv => whnf
      try dsimp only
      refine ⟨fun z => absurd z (nI_ge (b := 6) (show k < 6 by omega) (by decide)), fun _ => ?_⟩
      conv => whnf
      try dsimp only
      refine ⟨in_nI (show k < 6 by omega) (by decide), ?_⟩
      conv => whnf
      try dsimp only
      rw [ck, (hX k (by omega)).1]
      refine ⟨fun z => ?_, fun z => ?_⟩
      · have ihj := ih (k + 1) (by omega) (fun j hj2 => by
          by_cases e : j = k
          · subst e; exact z
          · exact hj j (by omega))
        rw [nI_succ k] at ihj
        conv => whnf
        try dsimp only
        exact ⟨trivial, ihj⟩
      · rw [← z, (kind_ltr k (by omega)).1] at h
        conv => whnf
        try dsimp only
        refine ⟨trivial, c_readShape hs hP hM hp (fun I' a1 a2 => ?_)⟩
        refine EV.at ck38 (by decide) 300 [] ?_
        conv => whnf
        try dsimp only
        exact ⟨b2i_or _, h I' a1 a2⟩
  refine MT.by ck38 (by decide) rfl (Nat.le_of_ble_eq_true rfl) rfl 300 [26] ?_
  conv => whnf
  try dsimp only
  refine ⟨fun z1 => ?_, fun z1 => ?_⟩
  case refine_2 =>
    rw [if_pos z1] at h
    conv => whnf
    try dsimp only
    refine ⟨trivial, c_readChange hs hP hM hp (fun I' a1 a2 => ?_)⟩
    refine EV.at ck38 (by decide) 300 [] ?_
    conv => whnf
    try dsimp only
    exact ⟨b2i_or _, h I' a1 a2⟩
  conv => whnf
  try dsimp only
  refine ⟨fun z2 => ?_, fun z2 => ?_⟩
  case refine_2 =>
    rw [if_neg z1, if_pos z2] at h
    conv => whnf
    try dsimp only
    refine ⟨trivial, c_readFighter hs hP hM hp (fun I' a1 a2 => ?_)⟩
    refine EV.at ck38 (by decide) 300 [] ?_
    conv => whnf
    try dsimp only
    exact ⟨b2i_or _, h I' a1 a2⟩
  conv => whnf
  try dsimp only
  exact ⟨trivial, loop z1 z2 6 0 (by omega) (fun j hj => absurd hj (Nat.not_lt_zero j))⟩
theorem c_read {sz c a : Nat} {tx : Nat → Int32} (hX : EX I) (hs : stM n c a sz tx I) (h : ∀ I', rM (rdN sz tx 80 P00).2 I' → (∀ r, r < 19 ∨ 27 < r → I' r = I r) → Q (some (.int (rdN sz tx 80 P00).1)) (SH n, I', J)) : MT G (d + 4) 37 [.ref 19, .ref c] (SH n, I, J) Q := by
  generalize hR : rdN sz tx 80 P00 = R at h
  obtain ⟨hc, ha, c27, a27, s80, hsz, htx⟩ := id hs
  have ex : ∀ (P : PS) (I1 : Nat → Nat → Int32) (s : Int32), pOK P → rM P I1 → (∀ r, r < 19 ∨ 27 < r → I1 r = I r) → (endI sz P, P) = R → EV G 37 (d + 3) 0 0 100 [.ref 19, .ref c, .int s] [] (SH n, I1, J) Q := by
    intro P I1 s hP hM hf he
    have hq := h I1 (by rw [← he]; exact hM) hf
    rw [← he] at hq
    have h2 := hP.2.1
    unfold endI at hq
    refine EV.at ck37 (by decide) 300 [] ?_
    conv => whnf
    try dsimp only
    rw [hM.2.1]
    refine ⟨fun z => ?_, fun z => ?_⟩
    · rw [if_neg (fun y => z (by rw [y]; rfl))] at hq
      conv => whnf
      try dsimp only
      rw [hc]
      conv => whnf
      try dsimp only
      rw [hf c (by omega), hsz]
      exact ⟨trivial, hq⟩
    · rw [if_pos ((nu_eq (b := 2) (by omega) (by decide)).mp z)] at hq
      conv => whnf
      try dsimp only
      exact ⟨trivial, hq⟩
  have loop : ∀ m st (P : PS) (I1 : Nat → Nat → Int32), st + m = 80 → pOK P → P.1 ≤ sz → rM P I1 → (∀ r, r < 19 ∨ 27 < r → I1 r = I r) → rdN sz tx m P = R → EV G 37 (d + 3) 0 0 28 [.ref 19, .ref c, .int (nI st)] [] (SH n, I1, J) Q := by
    intro m
    induction m with
    | zero =>
      intro st P I1 hst hP hp hM hf he
      have hst : st = 80 := hst
      subst hst
      refine EV.at ck37 (by decide) 300 [100] ?_
      conv => whnf
      try dsimp only
      first | refine ⟨fun h1 => absurd h1 (by decide), fun _ => ?_⟩ | refine ⟨fun _ => ?_, fun h1 => absurd (by decide) h1⟩ | refine ⟨fun h1 => absurd (by decide) h1, fun _ => ?_⟩ | refine ⟨fun _ => ?_, fun h1 => absurd h1 (by decide)⟩
      conv => whnf
      try dsimp only
      exact ⟨trivial, ex P I1 _ hP hM hf he⟩
    | succ m ih =>
      intro st P I1 hst hP hp hM hf he
      have cp : (nI P.1).toNatClampNeg = P.1 := nI_clamp (by omega)
      have un : rdN sz tx (m + 1) P = if P.1 < sz then (if tx P.1 = 32 then rdN sz tx m (P.1 + 1, P.2) else (if (rdI sz tx P).1 then rdN sz tx m (rdI sz tx P).2 else (nI (rdI sz tx P).2.1, (rdI sz tx P).2))) else (endI sz P, P) := rfl
      have hs1 : stM n c a sz tx I1 := hs.of (fun r hr => hf r (Or.inr hr))
      have k94 : ∀ (P' : PS) (I2 : Nat → Nat → Int32), pOK P' → P'.1 ≤ sz → rM P' I2 → (∀ r, r < 19 ∨ 27 < r → I2 r = I r) → rdN sz tx m P' = R → EV G 37 (d + 3) 0 0 94 [.ref 19, .ref c, .int (nI st)] [] (SH n, I2, J) Q := by
        intro P' I2 b1 b2 b3 b4 b5
        have ihj := ih (st + 1) P' I2 (by omega) b1 b2 b3 b4 b5
        rw [nI_succ st] at ihj
        refine EV.at ck37 (by decide) 300 [] ?_
        conv => whnf
        try dsimp only
        exact ⟨trivial, ihj⟩
      refine EV.at ck37 (by decide) 300 [94, 100] ?_
      conv => whnf
      try dsimp only
      refine ⟨fun z => absurd z (nI_ge (b := 80) (show st < 80 by omega) (by decide)), fun _ => ?_⟩
      conv => whnf
      try dsimp only
      rw [hc]
      conv => whnf
      try dsimp only
      rw [hM.2.2.1, hf c (by omega), hsz]
      refine pk_le sz P.1 (fun z => ?_) (fun z => ?_)
      · rw [if_neg (by omega)] at un
        conv => whnf
        try dsimp only
        exact ⟨trivial, ex P I1 _ hP hM hf (un.symm.trans he)⟩
      rw [if_pos z] at un
      conv => whnf
      try dsimp only
      rw [hc]
      conv => whnf
      try dsimp only
      rw [ha]
      conv => whnf
      try dsimp only
      rw [hM.2.2.1]
      refine ⟨in_nI (show P.1 < 80 by omega) (by decide), ?_⟩
      conv => whnf
      try dsimp only
      rw [cp, hf a (by omega), htx P.1 z]
      refine ⟨fun z2 => ?_, fun z2 => ?_⟩
      case refine_2 =>
        rw [if_pos z2] at un
        conv => whnf
        try dsimp only
        rw [hM.2.2.1, nI_1]
        exact ⟨trivial, k94 (P.1 + 1, P.2) _ hP z (rM_pl hM) (fun r hr => by rw [upI_oth (by omega)]; exact hf r hr) (un.symm.trans he)⟩
      rw [if_neg z2] at un
      conv => whnf
      try dsimp only
      rw [hc]
      conv => whnf
      try dsimp only
      rw [ha]
      conv => whnf
      try dsimp only
      rw [hM.2.2.1]
      refine ⟨in_nI (show P.1 < 80 by omega) (by decide), ?_⟩
      conv => whnf
      try dsimp only
      rw [cp, hf a (by omega), htx P.1 z]
      obtain ⟨o1, o2, o3⟩ := rdI_ok (tx := tx) hP z
      refine ⟨trivial, c_readItem (P := P) (by unfold EX; rw [hf 1 (by omega), hf 2 (by omega)]; exact hX) hs1 hP hM z (fun I2 b1 b2 => ?_)⟩
      have b3 : ∀ r, r < 19 ∨ 27 < r → I2 r = I r := fun r hr => (b2 r hr).trans (hf r hr)
      cases hok : (rdI sz tx P).1
      · rw [hok] at un
        have un : rdN sz tx (m + 1) P = (nI (rdI sz tx P).2.1, (rdI sz tx P).2) := un
        have hR2 := un.symm.trans he
        have hq := h I2 (by rw [← hR2]; exact b1) b3
        rw [← hR2] at hq
        refine EV.at ck37 (by decide) 300 [94, 100] ?_
        conv => whnf
        try dsimp only
        first | refine ⟨fun h1 => absurd h1 (by decide), fun _ => ?_⟩ | refine ⟨fun _ => ?_, fun h1 => absurd (by decide) h1⟩ | refine ⟨fun h1 => absurd (by decide) h1, fun _ => ?_⟩ | refine ⟨fun _ => ?_, fun h1 => absurd h1 (by decide)⟩
        conv => whnf
        try dsimp only
        rw [b1.2.2.1]
        exact ⟨trivial, hq⟩
      · rw [hok] at un
        refine EV.at ck37 (by decide) 300 [94, 100] ?_
        conv => whnf
        try dsimp only
        first | refine ⟨fun h1 => absurd h1 (by decide), fun _ => ?_⟩ | refine ⟨fun _ => ?_, fun h1 => absurd (by decide) h1⟩ | refine ⟨fun h1 => absurd (by decide) h1, fun _ => ?_⟩ | refine ⟨fun _ => ?_, fun h1 => absurd h1 (by decide)⟩
        conv => whnf
        try dsimp only
        exact ⟨trivial, k94 _ I2 o1 o2 b1 b3 (un.symm.trans he)⟩
  refine MT.by ck37 (by decide) rfl (Nat.le_of_ble_eq_true rfl) rfl 300 [28] ?_
  conv => whnf
  try dsimp only
  refine ⟨trivial, loop 80 0 P00 _ (by omega) P00_ok (Nat.zero_le _) ?_ (fun r hr => by rw [upI_oth (by omega), upI_oth (by omega), upI_oth (by omega), upI_oth (by omega)]) hR⟩
  exact ⟨⟨rfl, fun i hi => absurd hi (Nat.not_lt_zero i), rfl, fun k hk => absurd hk (Nat.not_lt_zero k)⟩, rfl, rfl, fun i hi => absurd hi (Nat.not_lt_zero i)⟩
end
