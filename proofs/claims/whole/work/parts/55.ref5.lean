/-! the reference: a TEXT's FAULT, a NIGHT -/
theorem rdN_end {sz : Nat} {tx : Nat → Int32} {P : PS} (h : sz ≤ P.1) : ∀ m, rdN sz tx m P = (endI sz P, P)
  | 0 => rfl
  | m + 1 => by rw [rdN, if_neg (by omega)]
theorem rdI_dig {sz : Nat} {tx : Nat → Int32} {P : PS} (h : dig sz tx P.1) : rdI sz tx P = (false, P) ∧ ¬ tx P.1 = 32 := by
  obtain ⟨h1, h2, h3⟩ := h
  have ne : ∀ x : Int32, x < 48 ∨ 57 < x → ¬ tx P.1 = x := fun x hx e => by
    rw [e] at h2 h3
    rcases hx with hx | hx
    · exact absurd hx (Int32.not_lt.mpr h2)
    · exact absurd hx (Int32.not_lt.mpr h3)
  have hk : kindN (tx P.1) = none := by
    unfold kindN
    rw [if_neg (ne 115 (Or.inr (by decide))), if_neg (ne 103 (Or.inr (by decide))), if_neg (ne 98 (Or.inr (by decide))), if_neg (ne 97 (Or.inr (by decide))), if_neg (ne 119 (Or.inr (by decide))), if_neg (ne 109 (Or.inr (by decide)))]
  refine ⟨?_, ne 32 (Or.inl (by decide))⟩
  unfold rdI
  rw [if_neg (ne 120 (Or.inr (by decide))), if_neg (ne 102 (Or.inr (by decide))), hk]
  rfl
/-- what stands behind a NIGHT, kept ones aside -/
def NG (a : AB) (P : PS) (I : Nat → Nat → Int32) : Prop := mT (ownT P.2.1) I ∧ mF true (begF P) I ∧ mR (aRs a) (aRc a) I ∧ mX (aTs a) (aTc a) I ∧ mN (aL a) (aM a) I ∧ I 77 12 = aA a
theorem NG.of {a : AB} {P : PS} {I I' : Nat → Nat → Int32} (h : NG a P I) (hf : ∀ r, r ≠ 79 → I' r = I r) : NG a P I' := by
  obtain ⟨h1, h2, h4, h5, h6, h7⟩ := h
  have e7 := hf 77 (by decide)
  exact ⟨h1.of (fun r _ _ => hf r (by omega)) (by rw [e7]) (by rw [e7]), h2.of (hf 78 (by decide)) (by rw [e7]), h4.of (hf 86 (by decide)) (hf 87 (by decide)), h5.of (hf 88 (by decide)) (hf 89 (by decide)), h6.of (by rw [e7]) (hf 85 (by decide)), by rw [e7]; exact h7⟩
section
variable {G : GG} {d n : Nat} {I : Nat → Nat → Int32} {J : Nat → Nat → Int64} {Q : Option Value → MH → Prop}
theorem r_takesItem {t sz : Nat} {tx : Nat → Int32} {P : PS} (hx : xM t sz tx I) (hP : pOK P) (hM : qM P I) (hp : P.1 < sz) (hf : (rdI sz tx P).1 = false → ∀ I', I' 77 29 = nI (rdI sz tx P).2.1 → SQ I I' → Q (some (.int 0)) (SH n, I', J)) (ht : (rdI sz tx P).1 = true → ∀ I', qM (rdI sz tx P).2 I' → SQ I I' → Q (some (.int 1)) (SH n, I', J)) (hd : (rdI sz tx P).1 = true → dig sz tx (rdI sz tx P).2.1 → ∀ I', I' 77 29 = nI (rdI sz tx P).2.1 → SQ I I' → Q (some (.int 0)) (SH n, I', J)) : MT G (d + 4) 182 [.ref 77] (SH n, I, J) Q := by
  have s80 : sz ≤ 80 := hx.2.1
  have eb : bytI sz tx P.1 = tx P.1 := by unfold bytI; rw [if_pos hp]
  unfold rdI at hf ht hd
  refine MT.by ck182 (by decide) rfl (Nat.le_of_ble_eq_true rfl) rfl 300 [] ?_
  conv => whnf
  try dsimp only
  refine ⟨trivial, r_byteAt hx hM.2.2.2.1 (by omega) ?_⟩
  rw [eb]
  refine EV.at ck182 (by decide) 300 [] ?_
  conv => whnf
  try dsimp only
  refine ⟨fun z1 => ?_, fun z1 => ?_⟩
  case refine_2 =>
    rw [if_pos z1] at hf ht
    conv => whnf
    try dsimp only
    refine ⟨trivial, r_takesChange hx hP hM hp (fun e I' a1 a2 => ?_) (fun e I' a1 a2 => ?_)⟩
    · refine EV.at ck182 (by decide) 300 [] ?_
      conv => whnf
      try dsimp only
      exact ⟨Or.inl rfl, hf e I' a1 a2⟩
    · refine EV.at ck182 (by decide) 300 [] ?_
      conv => whnf
      try dsimp only
      exact ⟨Or.inr rfl, ht e I' a1 a2⟩
  rw [if_neg z1] at hf ht hd
  conv => whnf
  try dsimp only
  refine ⟨fun z2 => ?_, fun z2 => ?_⟩
  case refine_2 =>
    rw [if_pos z2] at hf ht
    conv => whnf
    try dsimp only
    refine ⟨trivial, r_takesFighter hx hP hM hp (fun e I' a1 a2 => ?_) (fun e I' a1 a2 => ?_)⟩
    · refine EV.at ck182 (by decide) 300 [] ?_
      conv => whnf
      try dsimp only
      exact ⟨Or.inl rfl, hf e I' a1 a2⟩
    · refine EV.at ck182 (by decide) 300 [] ?_
      conv => whnf
      try dsimp only
      exact ⟨Or.inr rfl, ht e I' a1 a2⟩
  rw [if_neg z2] at hf ht hd
  conv => whnf
  try dsimp only
  refine ⟨trivial, r_kindOf ?_⟩
  cases hk : kindN (tx P.1) with
  | none =>
    rw [hk] at hf
    refine EV.at ck182 (by decide) 300 [] ?_
    conv => whnf
    try dsimp only
    first | refine ⟨fun h1 => absurd h1 (by decide), fun _ => ?_⟩ | refine ⟨fun _ => ?_, fun h1 => absurd (by decide) h1⟩ | refine ⟨fun h1 => absurd (by decide) h1, fun _ => ?_⟩ | refine ⟨fun _ => ?_, fun h1 => absurd h1 (by decide)⟩
    conv => whnf
    try dsimp only
    exact ⟨Or.inl rfl, hf rfl I hM.2.2.2.1 (SQ.rf I)⟩
  | some k =>
    rw [hk] at hf ht hd
    have hk6 := (kind_lt hk).1
    rw [show fgI (some k) = nI k from rfl]
    refine EV.at ck182 (by decide) 300 [] ?_
    conv => whnf
    try dsimp only
    refine ⟨fun z => absurd z (nI_pos (by omega)), fun _ => ?_⟩
    conv => whnf
    try dsimp only
    refine ⟨trivial, r_kindOf ?_⟩
    rw [hk, show fgI (some k) = nI k from rfl]
    refine EV.at ck182 (by decide) 300 [] ?_
    conv => whnf
    try dsimp only
    refine ⟨trivial, r_takesShape hx hP hM hp (fun e I' a1 a2 => ?_) (fun e I' a1 a2 => ?_) (fun e e2 I' a1 a2 => ?_)⟩
    · refine EV.at ck182 (by decide) 300 [] ?_
      conv => whnf
      try dsimp only
      first | refine ⟨fun h1 => absurd h1 (by decide), fun _ => ?_⟩ | refine ⟨fun _ => ?_, fun h1 => absurd (by decide) h1⟩ | refine ⟨fun h1 => absurd (by decide) h1, fun _ => ?_⟩ | refine ⟨fun _ => ?_, fun h1 => absurd h1 (by decide)⟩
      conv => whnf
      try dsimp only
      exact ⟨Or.inl rfl, hf e I' a1 a2⟩
    · refine EV.at ck182 (by decide) 300 [] ?_
      conv => whnf
      try dsimp only
      first | refine ⟨fun h1 => absurd h1 (by decide), fun _ => ?_⟩ | refine ⟨fun _ => ?_, fun h1 => absurd (by decide) h1⟩ | refine ⟨fun h1 => absurd (by decide) h1, fun _ => ?_⟩ | refine ⟨fun _ => ?_, fun h1 => absurd h1 (by decide)⟩
      conv => whnf
      try dsimp only
      exact ⟨Or.inr rfl, ht e I' a1 a2⟩
    · refine EV.at ck182 (by decide) 300 [] ?_
      conv => whnf
      try dsimp only
      first | refine ⟨fun h1 => absurd h1 (by decide), fun _ => ?_⟩ | refine ⟨fun _ => ?_, fun h1 => absurd (by decide) h1⟩ | refine ⟨fun h1 => absurd (by decide) h1, fun _ => ?_⟩ | refine ⟨fun _ => ?_, fun h1 => absurd h1 (by decide)⟩
      conv => whnf
      try dsimp only
      exact ⟨Or.inl rfl, hd e e2 I' a1 a2⟩
theorem r_faultOf {t sz : Nat} {tx : Nat → Int32} (ht4 : t < 4) (s80 : sz ≤ 80) (h88 : I 88 t = nI sz) (h89 : ∀ i, i < sz → I 89 (80 * t + i) = tx i) (h : ∀ I', ((rdN sz tx 80 P00).1 = -9 → qM (rdN sz tx 80 P00).2 I') → SR I I' → Q (some (.int (rdN sz tx 80 P00).1)) (SH n, I', J)) : MT G (d + 5) 183 [.ref 77, .int (nI t)] (SH n, I, J) Q := by
  generalize hR : rdN sz tx 80 P00 = R at h
  have ct : (nI t).toNatClampNeg = t := nI_clamp (by omega)
  have loop : ∀ m (P : PS) (I1 : Nat → Nat → Int32), pOK P → P.1 ≤ sz → sz ≤ P.1 + m → qM P I1 → xM t sz tx I1 → SR I I1 → rdN sz tx m P = R → EV G 183 (d + 4) 0 0 25 [.ref 77, .int (nI t)] [] (SH n, I1, J) Q := by
    intro m
    induction m with
    | zero =>
      intro P I1 hP hp hm hM hx hS he
      have he2 := (rdN_end (tx := tx) (show sz ≤ P.1 by omega) 0).symm.trans he
      have hq := h I1 (fun _ => by rw [← he2]; exact hM) hS
      rw [← he2] at hq
      have h2 := hP.2.1
      unfold endI at hq
      refine EV.at ck183 (by decide) 300 [] ?_
      conv => whnf
      try dsimp only
      rw [hM.2.2.2.1]
      refine ⟨in_nI ht4 (by decide), ?_⟩
      conv => whnf
      try dsimp only
      rw [ct, hx.2.2.2.1]
      refine pk_le sz P.1 (fun _ => ?_) (fun z => absurd z (by omega))
      conv => whnf
      try dsimp only
      rw [hM.2.2.1]
      refine ⟨fun z => ?_, fun z => ?_⟩
      · rw [if_neg (fun y => z (by rw [y]; rfl)), show sz = P.1 by omega] at hq
        conv => whnf
        try dsimp only
        rw [hM.2.2.2.1]
        exact ⟨trivial, hq⟩
      · rw [if_pos ((nu_eq (b := 2) (by omega) (by decide)).mp z)] at hq
        conv => whnf
        try dsimp only
        exact ⟨trivial, hq⟩
    | succ m ih =>
      intro P I1 hP hp hm hM hx hS he
      by_cases hps : P.1 < sz
      case neg =>
        have he2 := (rdN_end (tx := tx) (show sz ≤ P.1 by omega) (m + 1)).symm.trans he
        have hq := h I1 (fun _ => by rw [← he2]; exact hM) hS
        rw [← he2] at hq
        have h2 := hP.2.1
        unfold endI at hq
        refine EV.at ck183 (by decide) 300 [] ?_
        conv => whnf
        try dsimp only
        rw [hM.2.2.2.1]
        refine ⟨in_nI ht4 (by decide), ?_⟩
        conv => whnf
        try dsimp only
        rw [ct, hx.2.2.2.1]
        refine pk_le sz P.1 (fun _ => ?_) (fun z => absurd z (by omega))
        conv => whnf
        try dsimp only
        rw [hM.2.2.1]
        refine ⟨fun z => ?_, fun z => ?_⟩
        · rw [if_neg (fun y => z (by rw [y]; rfl)), show sz = P.1 by omega] at hq
          conv => whnf
          try dsimp only
          rw [hM.2.2.2.1]
          exact ⟨trivial, hq⟩
        · rw [if_pos ((nu_eq (b := 2) (by omega) (by decide)).mp z)] at hq
          conv => whnf
          try dsimp only
          exact ⟨trivial, hq⟩
      have un : rdN sz tx (m + 1) P = if P.1 < sz then (if tx P.1 = 32 then rdN sz tx m (P.1 + 1, P.2) else (if (rdI sz tx P).1 then rdN sz tx m (rdI sz tx P).2 else (nI (rdI sz tx P).2.1, (rdI sz tx P).2))) else (endI sz P, P) := rfl
      rw [if_pos hps] at un
      have eb : bytI sz tx P.1 = tx P.1 := by unfold bytI; rw [if_pos hps]
      obtain ⟨o1, o2, o3⟩ := rdI_ok (tx := tx) hP hps
      refine EV.at ck183 (by decide) 300 [] ?_
      conv => whnf
      try dsimp only
      rw [hM.2.2.2.1]
      refine ⟨in_nI ht4 (by decide), ?_⟩
      conv => whnf
      try dsimp only
      rw [ct, hx.2.2.2.1]
      refine pk_le sz P.1 (fun z => absurd z (by omega)) (fun _ => ?_)
      conv => whnf
      try dsimp only
      refine ⟨trivial, r_byteAt hx hM.2.2.2.1 (by omega) ?_⟩
      rw [eb]
      refine EV.at ck183 (by decide) 300 [] ?_
      conv => whnf
      try dsimp only
      refine ⟨fun z2 => ?_, fun z2 => ?_⟩
      case refine_2 =>
        rw [if_pos z2] at un
        conv => whnf
        try dsimp only
        rw [hM.2.2.2.1, nI_1]
        exact ⟨trivial, ih (P.1 + 1, P.2) _ hP hps (by show sz ≤ P.1 + 1 + m; omega) (qM_pl hM) (hx.of ((SQ.rf I1).up (Or.inr ⟨rfl, by decide, by decide⟩))) (hS.tr (SR.fl (by decide))) (un.symm.trans he)⟩
      rw [if_neg z2] at un
      conv => whnf
      try dsimp only
      refine ⟨trivial, r_takesItem hx hP hM hps (fun e I2 a1 a2 => ?_) (fun e I2 a1 a2 => ?_) (fun e e2 I2 a1 a2 => ?_)⟩
      · rw [e] at un
        have un : rdN sz tx (m + 1) P = (nI (rdI sz tx P).2.1, (rdI sz tx P).2) := un
        have hR2 := un.symm.trans he
        have hq := h I2 (fun z => by rw [← hR2] at z; exact absurd z (ne_m9 (by show (rdI sz tx P).2.1 < 2 ^ 31; omega))) (hS.tr a2.1)
        rw [← hR2] at hq
        refine EV.at ck183 (by decide) 300 [] ?_
        conv => whnf
        try dsimp only
        first | refine ⟨fun h1 => absurd h1 (by decide), fun _ => ?_⟩ | refine ⟨fun _ => ?_, fun h1 => absurd (by decide) h1⟩ | refine ⟨fun h1 => absurd (by decide) h1, fun _ => ?_⟩ | refine ⟨fun _ => ?_, fun h1 => absurd h1 (by decide)⟩
        conv => whnf
        try dsimp only
        rw [a1]
        exact ⟨trivial, hq⟩
      · rw [e, if_pos rfl] at un
        have := o3 e
        refine EV.at ck183 (by decide) 300 [] ?_
        conv => whnf
        try dsimp only
        first | refine ⟨fun h1 => absurd h1 (by decide), fun _ => ?_⟩ | refine ⟨fun _ => ?_, fun h1 => absurd (by decide) h1⟩ | refine ⟨fun h1 => absurd (by decide) h1, fun _ => ?_⟩ | refine ⟨fun _ => ?_, fun h1 => absurd h1 (by decide)⟩
        conv => whnf
        try dsimp only
        exact ⟨trivial, ih _ I2 o1 o2 (by omega) a1 (hx.of a2) (hS.tr a2.1) (un.symm.trans he)⟩
      · rw [e, if_pos rfl] at un
        have := o3 e
        have hlt := e2.1
        obtain ⟨m', rfl⟩ : ∃ m', m = m' + 1 := ⟨m - 1, by omega⟩
        obtain ⟨d1, d2⟩ := rdI_dig e2
        have un2 : rdN sz tx (m' + 1) (rdI sz tx P).2 = (nI (rdI sz tx P).2.1, (rdI sz tx P).2) := by
          rw [rdN, if_pos hlt, if_neg d2, d1]
          rfl
        have hR2 := un2.symm.trans (un.symm.trans he)
        have hq := h I2 (fun z => by rw [← hR2] at z; exact absurd z (ne_m9 (by show (rdI sz tx P).2.1 < 2 ^ 31; omega))) (hS.tr a2.1)
        rw [← hR2] at hq
        refine EV.at ck183 (by decide) 300 [] ?_
        conv => whnf
        try dsimp only
        first | refine ⟨fun h1 => absurd h1 (by decide), fun _ => ?_⟩ | refine ⟨fun _ => ?_, fun h1 => absurd (by decide) h1⟩ | refine ⟨fun h1 => absurd (by decide) h1, fun _ => ?_⟩ | refine ⟨fun _ => ?_, fun h1 => absurd h1 (by decide)⟩
        conv => whnf
        try dsimp only
        rw [a1]
        exact ⟨trivial, hq⟩
  refine MT.by ck183 (by decide) rfl (Nat.le_of_ble_eq_true rfl) rfl 300 [25] ?_
  conv => whnf
  try dsimp only
  have o : ∀ r, r ≠ 77 → upI (upI (upI (upI (upI I 77 30 (nI t)) 77 29 0) 77 20 0) 77 21 0) 77 22 0 r = I r := fun r hr => by rw [upI_oth hr, upI_oth hr, upI_oth hr, upI_oth hr, upI_oth hr]
  refine ⟨trivial, loop 80 P00 _ P00_ok (Nat.zero_le _) (by omega) ⟨rfl, rfl, rfl, rfl, fun i hi => absurd hi (Nat.not_lt_zero i), fun k hk => absurd hk (Nat.not_lt_zero k), fun i hi => absurd hi (Nat.not_lt_zero i)⟩ ⟨ht4, s80, rfl, by rw [o 88 (by decide)]; exact h88, fun i hi => by rw [o 89 (by decide)]; exact h89 i hi⟩ (((((SR.fl (by decide)).tr (SR.fl (by decide))).tr (SR.fl (by decide))).tr (SR.fl (by decide))).tr (SR.fl (by decide))) hR⟩
theorem m_fault {r : Int32} : RS G n 184 [.int r] (fun a => sp_fault a r) := by
  intro D I J Q a hO hC h
  try dsimp only at h
  obtain ⟨hcT, hcF, hcK, hcR, hcX, hcN, hcA, hcU⟩ := id hC
  obtain ⟨oT, oF, oN, oK, oR, oX⟩ := id hO
  unfold sp_fault at h
  refine MT.by ck184 (by decide) rfl (Nat.le_of_ble_eq_true rfl) rfl 300 [] ?_
  conv => whnf
  try dsimp only
  refine ⟨trivial, r_isText (fun e1 => ?_) (fun j hj hr e1 => ?_)⟩
  · rw [e1] at h
    refine EV.at ck184 (by decide) 300 [] ?_
    conv => whnf
    try dsimp only
    first | refine ⟨fun h1 => absurd h1 (by decide), fun _ => ?_⟩ | refine ⟨fun _ => ?_, fun h1 => absurd (by decide) h1⟩ | refine ⟨fun h1 => absurd (by decide) h1, fun _ => ?_⟩ | refine ⟨fun _ => ?_, fun h1 => absurd h1 (by decide)⟩
    conv => whnf
    try dsimp only
    exact ⟨trivial, rfin rfl hC (FM.rf I) (FMJ.rf J) h⟩
  rw [e1] at h
  dsimp only at h
  subst hr
  have cj : (nI j).toNatClampNeg = j := nI_clamp (by omega)
  have o81 := oX j hj
  obtain ⟨r1, r2⟩ := hcX j hj
  refine EV.at ck184 (by decide) 300 [] ?_
  conv => whnf
  try dsimp only
  first | refine ⟨fun h1 => absurd h1 (by decide), fun _ => ?_⟩ | refine ⟨fun _ => ?_, fun h1 => absurd (by decide) h1⟩ | refine ⟨fun h1 => absurd (by decide) h1, fun _ => ?_⟩ | refine ⟨fun _ => ?_, fun h1 => absurd h1 (by decide)⟩
  conv => whnf
  try dsimp only
  refine ⟨in_nI hj (by decide), ?_⟩
  conv => whnf
  try dsimp only
  rw [cj, r1]
  by_cases hz : aTs a j = 0
  · rw [if_pos hz] at h
    rw [hz]
    first | refine ⟨fun h1 => absurd h1 (by decide), fun _ => ?_⟩ | refine ⟨fun _ => ?_, fun h1 => absurd (by decide) h1⟩ | refine ⟨fun h1 => absurd (by decide) h1, fun _ => ?_⟩ | refine ⟨fun _ => ?_, fun h1 => absurd h1 (by decide)⟩
    conv => whnf
    try dsimp only
    refine ⟨trivial, r_found (f := 1) (by decide) ?_⟩
    refine EV.at ck184 (by decide) 300 [] ?_
    conv => whnf
    try dsimp only
    exact ⟨trivial, rfin rfl (hC.fnd (by decide)) FM.fnd (FMJ.rf J) h⟩
  rw [if_neg hz] at h
  refine ⟨fun _ => ?_, fun z => absurd ((szI_neg (by omega)).mp (Int32.not_le.mp z)) hz⟩
  conv => whnf
  try dsimp only
  refine ⟨trivial, r_faultOf (tx := aTc a j) hj (show aTs a j - 1 ≤ 80 by omega) (by rw [r1]; exact sz_nI hz) (fun i hi => r2 i (by omega)) (fun I' b1 b2 => ?_)⟩
  refine EV.at ck184 (by decide) 300 [] ?_
  conv => whnf
  try dsimp only
  exact ⟨trivial, rfin rfl (hC.scr b2 rfl rfl) b2.fm (FMJ.rf J) h⟩
theorem m_night {r : Int32} : RS G n 185 [.int r] (fun a => sp_night a r) := by
  intro D I J Q a hO hC h
  try dsimp only at h
  obtain ⟨hcT, hcF, hcK, hcR, hcX, hcN, hcA, hcU⟩ := id hC
  obtain ⟨oT, oF, oN, oK, oR, oX⟩ := id hO
  unfold sp_night at h
  refine MT.by ck185 (by decide) rfl (Nat.le_of_ble_eq_true rfl) rfl 300 [] ?_
  conv => whnf
  try dsimp only
  refine ⟨trivial, r_isText (fun e1 => ?_) (fun j hj hr e1 => ?_)⟩
  · rw [e1] at h
    refine EV.at ck185 (by decide) 300 [] ?_
    conv => whnf
    try dsimp only
    first | refine ⟨fun h1 => absurd h1 (by decide), fun _ => ?_⟩ | refine ⟨fun _ => ?_, fun h1 => absurd (by decide) h1⟩ | refine ⟨fun h1 => absurd (by decide) h1, fun _ => ?_⟩ | refine ⟨fun _ => ?_, fun h1 => absurd h1 (by decide)⟩
    conv => whnf
    try dsimp only
    exact ⟨trivial, rfin rfl hC (FM.rf I) (FMJ.rf J) h⟩
  rw [e1] at h
  dsimp only at h
  subst hr
  have cj : (nI j).toNatClampNeg = j := nI_clamp (by omega)
  have o81 := oX j hj
  obtain ⟨r1, r2⟩ := hcX j hj
  refine EV.at ck185 (by decide) 300 [] ?_
  conv => whnf
  try dsimp only
  first | refine ⟨fun h1 => absurd h1 (by decide), fun _ => ?_⟩ | refine ⟨fun _ => ?_, fun h1 => absurd (by decide) h1⟩ | refine ⟨fun h1 => absurd (by decide) h1, fun _ => ?_⟩ | refine ⟨fun _ => ?_, fun h1 => absurd h1 (by decide)⟩
  conv => whnf
  try dsimp only
  refine ⟨in_nI hj (by decide), ?_⟩
  conv => whnf
  try dsimp only
  rw [cj, r1]
  by_cases hz : aTs a j = 0
  · rw [if_pos hz] at h
    rw [hz]
    first | refine ⟨fun h1 => absurd h1 (by decide), fun _ => ?_⟩ | refine ⟨fun _ => ?_, fun h1 => absurd (by decide) h1⟩ | refine ⟨fun h1 => absurd (by decide) h1, fun _ => ?_⟩ | refine ⟨fun _ => ?_, fun h1 => absurd h1 (by decide)⟩
    conv => whnf
    try dsimp only
    refine ⟨trivial, r_found (f := 1) (by decide) ?_⟩
    refine EV.at ck185 (by decide) 300 [] ?_
    conv => whnf
    try dsimp only
    exact ⟨trivial, rfin rfl (hC.fnd (by decide)) FM.fnd (FMJ.rf J) h⟩
  rw [if_neg hz] at h
  have hfin := rdN_fin (sz := aTs a j - 1) (tx := aTc a j) (by omega) 80 P00 P00_ok (Nat.zero_le _)
  have hPok := rdN_ok (sz := aTs a j - 1) (tx := aTc a j) 80 P00 P00_ok
  refine ⟨fun _ => ?_, fun z => absurd ((szI_neg (by omega)).mp (Int32.not_le.mp z)) hz⟩
  conv => whnf
  try dsimp only
  refine ⟨trivial, r_faultOf (tx := aTc a j) hj (show aTs a j - 1 ≤ 80 by omega) (by rw [r1]; exact sz_nI hz) (fun i hi => r2 i (by omega)) (fun I1 b1 b2 => ?_)⟩
  have hR : rdN (aTs a j - 1) (aTc a j) 80 P00 = aRd a j := rfl
  rw [hR] at b1 hfin hPok ⊢
  generalize aRd a j = R at b1 hfin hPok h ⊢
  refine EV.at ck185 (by decide) 300 [55] ?_
  conv => whnf
  try dsimp only
  refine ⟨fun z => ?_, fun z => ?_⟩
  case refine_2 =>
    rw [if_neg z] at h
    conv => whnf
    try dsimp only
    exact ⟨trivial, rfin rfl (hC.scr b2 rfl rfl) b2.fm (FMJ.rf J) h⟩
  rw [if_pos z] at h
  have f2 := hfin z
  obtain ⟨q1, q2, q3, q4, q5, q6, q7⟩ := b1 z
  obtain ⟨p1, p2, p3, p4, p5⟩ := hPok
  have h5 : tS R.2.2.1 ≤ 5 := p1.1
  have h12 : tC R.2.2.1 ≤ 12 := p1.2.2.1
  have s0 := p4 0 (by omega)
  have s1 := p4 1 (by omega)
  obtain ⟨P, rfl⟩ : ∃ P, R = (-9, P) := ⟨R.2, Prod.ext z rfl⟩
  dsimp only at *
  have l4 : ∀ m k (I2 : Nat → Nat → Int32), k + m = 3 → NG a P I2 → (∀ x, x < k → I2 79 x = 0) → FM I I2 → EV G 185 (D + 59) 0 0 257 [.ref 77, .int (nI j), .int (nI k)] [] (SH n, I2, J) Q := by
    intro m
    induction m with
    | zero =>
      intro k I2 hk hA h79 hfm
      have hk : k = 3 := hk
      subst hk
      obtain ⟨g1, g2, g4, g5, g6, g7⟩ := hA
      refine EV.at ck185 (by decide) 300 [] ?_
      conv => whnf
      try dsimp only
      first | refine ⟨fun h1 => absurd h1 (by decide), fun _ => ?_⟩ | refine ⟨fun _ => ?_, fun h1 => absurd (by decide) h1⟩ | refine ⟨fun h1 => absurd (by decide) h1, fun _ => ?_⟩ | refine ⟨fun _ => ?_, fun h1 => absurd h1 (by decide)⟩
      conv => whnf
      try dsimp only
      rw [g1.1]
      exact ⟨trivial, rfin (a' := ngt a P) rfl ⟨g1, g2, fun k hk => ⟨h79 k hk, fun hb => Bool.noConfusion hb⟩, g4, g5, g6, g7, hcU⟩ hfm (FMJ.rf J) h⟩
    | succ m ih =>
      intro k I2 hk hA h79 hfm
      have ck : (nI k).toNatClampNeg = k := nI_clamp (by omega)
      have ihj := ih (k + 1) (upI I2 79 k 0) (by omega) (hA.of (fun r hr => upI_oth hr)) (fun x hx => ?_) (hfm.up (by decide))
      · rw [nI_succ k] at ihj
        refine EV.at ck185 (by decide) 300 [] ?_
        conv => whnf
        try dsimp only
        refine ⟨fun y => absurd y (nI_ge (b := 3) (show k < 3 by omega) (by decide)), fun _ => ?_⟩
        conv => whnf
        try dsimp only
        refine ⟨⟨in_nI (show k < 3 by omega) (by decide), Or.inl rfl⟩, ?_⟩
        conv => whnf
        try dsimp only
        rw [ck]
        exact ⟨trivial, ihj⟩
      · by_cases hxk : x = k
        · subst hxk; exact up_same
        · rw [up_ne hxk]; exact h79 x (by omega)
  have l3 : ∀ m f (I2 : Nat → Nat → Int32), f + m = 2 → (∀ r, r < 90 → r ≠ 77 → r ≠ 78 → r < 80 ∨ 84 < r → I2 r = I r) → (∀ k, k = 10 ∨ k = 12 → I2 77 k = I 77 k) → mT (ownT P.2.1) I2 → (∀ i, i < 2 → I2 96 (2 * i) = nI (P.2.2.2.1 i) ∧ I2 96 (2 * i + 1) = nI (P.2.2.2.2 i)) → (∀ g, g < f → I2 78 g = nI (P.2.2.2.1 g) ∧ I2 78 (2 + g) = nI (P.2.2.2.2 g) ∧ I2 78 (4 + g) = nI (2 ^ P.2.2.2.1 g) ∧ I2 78 (6 + g) = nI (2 ^ tC P.2.1 - 1)) → EV G 185 (D + 59) 0 0 162 [.ref 77, .int (nI j), .int (nI f)] [] (SH n, I2, J) Q := by
    intro m
    induction m with
    | zero =>
      intro f I2 hf v0 v1 v2 v3 v4
      have hf : f = 2 := hf
      subst hf
      have o : ∀ r, r ≠ 77 → r ≠ 78 → upI (upI I2 78 8 0) 77 2 1 r = I2 r := fun r h1 h2 => by rw [upI_oth h1, upI_oth h2]
      have l0 := l4 3 0 (upI (upI I2 78 8 0) 77 2 1) (by omega) ?_ (fun x hx => absurd hx (Nat.not_lt_zero x)) ?_
      · refine EV.at ck185 (by decide) 300 [257] ?_
        conv => whnf
        try dsimp only
        first | refine ⟨fun h1 => absurd h1 (by decide), fun _ => ?_⟩ | refine ⟨fun _ => ?_, fun h1 => absurd (by decide) h1⟩ | refine ⟨fun h1 => absurd (by decide) h1, fun _ => ?_⟩ | refine ⟨fun _ => ?_, fun h1 => absurd h1 (by decide)⟩
        conv => whnf
        try dsimp only
        refine ⟨by unfold vp_in; decide, ?_⟩
        conv => whnf
        try dsimp only
        refine ⟨Or.inr rfl, ?_⟩
        conv => whnf
        try dsimp only
        exact ⟨trivial, l0⟩
      · have g0 := v4 0 (by decide)
        have g1 := v4 1 (by decide)
        have w8 : ∀ x, x ≠ 8 → upI (upI I2 78 8 0) 77 2 1 78 x = I2 78 x := fun x hx => by rw [upI_oth (by decide), up_ne hx]
        have w7 : ∀ x, x ≠ 2 → upI (upI I2 78 8 0) 77 2 1 77 x = I2 77 x := fun x hx => by rw [up_ne hx, upI_oth (by decide)]
        refine ⟨v2.of (fun r x y => o r (by omega) (by omega)) (w7 3 (by decide)) (w7 6 (by decide)), ⟨rfl, ?_, ?_, ?_, rfl, fun i hi => absurd hi (Nat.not_lt_zero i)⟩, ?_, ?_, ?_, ?_⟩
        · intro e he
          rw [Nat.zero_add]
          rcases (show e = 0 ∨ e = 1 ∨ e = 2 ∨ e = 3 ∨ e = 4 ∨ e = 5 by omega) with rfl | rfl | rfl | rfl | rfl | rfl
          · rw [w8 _ (by decide)]; exact g0.1
          · rw [w8 _ (by decide)]; exact g1.1
          · rw [w8 _ (by decide)]; exact g0.2.1
          · rw [w8 _ (by decide)]; exact g1.2.1
          · rw [w8 _ (by decide)]; exact g0.2.2.1
          · rw [w8 _ (by decide)]; exact g1.2.2.1
        · rw [w8 _ (by decide)]
          exact g0.2.2.2
        · rw [w8 _ (by decide)]
          exact g1.2.2.2
        · exact hcR.of (by rw [o 86 (by decide) (by decide), v0 86 (by decide) (by decide) (by decide) (by omega)]) (by rw [o 87 (by decide) (by decide), v0 87 (by decide) (by decide) (by decide) (by omega)])
        · exact hcX.of (by rw [o 88 (by decide) (by decide), v0 88 (by decide) (by decide) (by decide) (by omega)]) (by rw [o 89 (by decide) (by decide), v0 89 (by decide) (by decide) (by decide) (by omega)])
        · exact hcN.of (by rw [w7 10 (by decide), v1 10 (by decide)]) (by rw [o 85 (by decide) (by decide), v0 85 (by decide) (by decide) (by decide) (by omega)])
        · rw [w7 12 (by decide), v1 12 (by decide)]
          exact hcA
      · intro r hr
        rw [o r (by omega) (by omega), v0 r (by omega) (by omega) (by omega) (by omega)]
    | succ m ih =>
      intro f I2 hf v0 v1 v2 v3 v4
      obtain ⟨w1, w2⟩ := v3 f (by omega)
      have hsf : P.2.2.2.1 f < 5 := by have := (p4 f (by omega)).1; omega
      have e2f : (2 : Int32) * nI f = nI (2 * f) := pk_mul 2 f
      have c0 : (nI f).toNatClampNeg = f := nI_clamp (by omega)
      have c2 : (nI (2 * f)).toNatClampNeg = 2 * f := nI_clamp (by omega)
      have c3 : (nI (2 * f + 1)).toNatClampNeg = 2 * f + 1 := nI_clamp (by omega)
      have d2 : (nI (2 + f)).toNatClampNeg = 2 + f := nI_clamp (by omega)
      have d4 : (nI (4 + f)).toNatClampNeg = 4 + f := nI_clamp (by omega)
      have d6 : (nI (6 + f)).toNatClampNeg = 6 + f := nI_clamp (by omega)
      have a0 : (0 : Int32) + nI f = nI f := Int32.zero_add _
      have a2 : (2 : Int32) + nI f = nI (2 + f) := nI_add 2 f
      have a4 : (4 : Int32) + nI f = nI (4 + f) := nI_add 4 f
      have a6 : (6 : Int32) + nI f = nI (6 + f) := nI_add 6 f
      have ek : jshl 1 (nI (tC P.2.1)) - 1 = nI (2 ^ tC P.2.1 - 1) := by rw [nu_one (by omega), show (1 : Int32) = nI 1 from rfl, pk_sub (Nat.two_pow_pos _)]
      have o : ∀ (x y z u : Int32) r, r ≠ 78 → upI (upI (upI (upI I2 78 f x) 78 (2 + f) y) 78 (4 + f) z) 78 (6 + f) u r = I2 r := fun x y z u r hr => by rw [upI_oth hr, upI_oth hr, upI_oth hr, upI_oth hr]
      have ihj := ih (f + 1) (upI (upI (upI (upI I2 78 f (nI (P.2.2.2.1 f))) 78 (2 + f) (nI (P.2.2.2.2 f))) 78 (4 + f) (nI (2 ^ P.2.2.2.1 f))) 78 (6 + f) (nI (2 ^ tC P.2.1 - 1))) (by omega) (fun r h1 h2 h3 h4 => by rw [o _ _ _ _ r h3]; exact v0 r h1 h2 h3 h4) (fun k h1 => by rw [o _ _ _ _ 77 (by decide)]; exact v1 k h1) (v2.of (fun r x y => o _ _ _ _ r (by omega)) (by rw [o _ _ _ _ 77 (by decide)]) (by rw [o _ _ _ _ 77 (by decide)])) (fun i hi => by rw [o _ _ _ _ 96 (by decide)]; exact v3 i hi) (fun g hg => ?_)
      · rw [nI_succ f] at ihj
        refine EV.at ck185 (by decide) 300 [] ?_
        conv => whnf
        try dsimp only
        refine ⟨fun y => absurd y (nI_ge (b := 2) (show f < 2 by omega) (by decide)), fun _ => ?_⟩
        conv => whnf
        try dsimp only
        rw [e2f]
        refine ⟨in_nI (show 2 * f < 4 by omega) (by decide), ?_⟩
        conv => whnf
        try dsimp only
        rw [a0, c2, w1]
        refine ⟨in_nI (show f < 1156 by omega) (by decide), ?_⟩
        conv => whnf
        try dsimp only
        rw [e2f, nI_1]
        refine ⟨in_nI (show 2 * f + 1 < 4 by omega) (by decide), ?_⟩
        conv => whnf
        try dsimp only
        rw [c0, c3, upI_oth (r' := 96) (by decide), w2, a2]
        refine ⟨in_nI (show 2 + f < 1156 by omega) (by decide), ?_⟩
        conv => whnf
        try dsimp only
        rw [e2f]
        refine ⟨in_nI (show 2 * f < 4 by omega) (by decide), ?_⟩
        conv => whnf
        try dsimp only
        rw [d2, c2, upI_oth (r' := 96) (by decide), upI_oth (r' := 96) (by decide), w1, a4, nu_one (show P.2.2.2.1 f < 31 by omega)]
        refine ⟨in_nI (show 4 + f < 1156 by omega) (by decide), ?_⟩
        conv => whnf
        try dsimp only
        rw [d4, upI_oth (r' := 77) (by decide), upI_oth (r' := 77) (by decide), upI_oth (r' := 77) (by decide), v2.2.2.1, a6]
        refine ⟨in_nI (show 6 + f < 1156 by omega) (by decide), ?_⟩
        conv => whnf
        try dsimp only
        rw [d6, show jshl 1 (nI (tC (ownT P.2.1))) - 1 = nI (2 ^ tC P.2.1 - 1) from ek]
        exact ⟨trivial, ihj⟩
      · by_cases hgf : g = f
        · subst hgf
          refine ⟨?_, ?_, ?_, up_same⟩
          · rw [up_ne (by omega), up_ne (by omega), up_ne (by omega), up_same]
          · rw [up_ne (by omega), up_ne (by omega), up_same]
          · rw [up_ne (by omega), up_same]
        · rw [up_ne (k' := g) (by omega), up_ne (k' := g) (by omega), up_ne (k' := g) (by omega), up_ne (k' := g) (by omega), up_ne (k' := 2 + g) (by omega), up_ne (k' := 2 + g) (by omega), up_ne (k' := 2 + g) (by omega), up_ne (k' := 2 + g) (by omega), up_ne (k' := 4 + g) (by omega), up_ne (k' := 4 + g) (by omega), up_ne (k' := 4 + g) (by omega), up_ne (k' := 4 + g) (by omega), up_ne (k' := 6 + g) (by omega), up_ne (k' := 6 + g) (by omega), up_ne (k' := 6 + g) (by omega), up_ne (k' := 6 + g) (by omega)]
          exact v4 g (by omega)
  have l2 : ∀ m k (I2 : Nat → Nat → Int32), k + m = tC P.2.1 → (∀ r, r < 90 → r ≠ 77 → r < 80 ∨ 84 < r → I2 r = I r) → (∀ k, k = 10 ∨ k = 12 → I2 77 k = I 77 k) → I2 77 3 = nI (tS P.2.1) → I2 77 6 = nI (tC P.2.1) → (∀ r, 93 ≤ r → r ≤ 96 → I2 r = I1 r) → (∀ i, i < tS P.2.1 → I2 80 i = nI (tK P.2.1 i) ∧ I2 81 i = nI (clrN (tT P.2.1 i % 2 ^ tS P.2.1) i)) → (∀ x, x < k → I2 82 x = nI (tF P.2.1 x) ∧ I2 83 x = nI (tI P.2.1 x) ∧ I2 84 x = nI (tW P.2.1 x)) → EV G 185 (D + 59) 0 0 110 [.ref 77, .int (nI j), .int (nI k)] [] (SH n, I2, J) Q := by
    intro m
    induction m with
    | zero =>
      intro k I2 hk v0 v1 v2 v3 v4 v5 v6
      have hk : k = tC P.2.1 := hk
      have l0 := l3 2 0 I2 (by omega) (fun r h1 h2 _ h4 => v0 r h1 h2 h4) v1 ⟨v2, v5, v3, fun x hx => v6 x (by rw [hk]; exact hx)⟩ (fun i hi => by rw [v4 96 (by decide) (by decide)]; exact q7 i (by omega)) (fun g hg => absurd hg (Nat.not_lt_zero g))
      refine EV.at ck185 (by decide) 300 [162] ?_
      conv => whnf
      try dsimp only
      rw [v3]
      refine pk_le (tC P.2.1) k (fun _ => ?_) (fun y => absurd y (by omega))
      conv => whnf
      try dsimp only
      exact ⟨trivial, l0⟩
    | succ m ih =>
      intro k I2 hk v0 v1 v2 v3 v4 v5 v6
      have ck : (nI k).toNatClampNeg = k := nI_clamp (by omega)
      obtain ⟨u1, u2, u3⟩ := q6 k (by omega)
      have o : ∀ (x y z : Int32) r, r ≠ 82 → r ≠ 83 → r ≠ 84 → upI (upI (upI I2 82 k x) 83 k y) 84 k z r = I2 r := fun x y z r h1 h2 h3 => by rw [upI_oth h3, upI_oth h2, upI_oth h1]
      have ihj := ih (k + 1) (upI (upI (upI I2 82 k (nI (tF P.2.1 k))) 83 k (nI (tI P.2.1 k))) 84 k (nI (tW P.2.1 k))) (by omega) (fun r h1 h2 h3 => by rw [o _ _ _ r (by omega) (by omega) (by omega)]; exact v0 r h1 h2 h3) (fun x h1 => by rw [o _ _ _ 77 (by decide) (by decide) (by decide)]; exact v1 x h1) (by rw [o _ _ _ 77 (by decide) (by decide) (by decide)]; exact v2) (by rw [o _ _ _ 77 (by decide) (by decide) (by decide)]; exact v3) (fun r h1 h2 => by rw [o _ _ _ r (by omega) (by omega) (by omega)]; exact v4 r h1 h2) (fun i hi => by rw [o _ _ _ 80 (by decide) (by decide) (by decide), o _ _ _ 81 (by decide) (by decide) (by decide)]; exact v5 i hi) (fun x hx => ?_)
      · rw [nI_succ k] at ihj
        refine EV.at ck185 (by decide) 300 [] ?_
        conv => whnf
        try dsimp only
        rw [v3]
        refine pk_le (tC P.2.1) k (fun y => absurd y (by omega)) (fun _ => ?_)
        conv => whnf
        try dsimp only
        refine ⟨in_nI (show k < 12 by omega) (by decide), ?_⟩
        conv => whnf
        try dsimp only
        refine ⟨in_nI (show k < 12 by omega) (by decide), ?_⟩
        conv => whnf
        try dsimp only
        rw [ck, v4 93 (by decide) (by decide), u1]
        refine ⟨in_nI (show k < 12 by omega) (by decide), ?_⟩
        conv => whnf
        try dsimp only
        refine ⟨in_nI (show k < 12 by omega) (by decide), ?_⟩
        conv => whnf
        try dsimp only
        rw [ck, upI_oth (r' := 94) (by decide), v4 94 (by decide) (by decide), u2]
        refine ⟨in_nI (show k < 12 by omega) (by decide), ?_⟩
        conv => whnf
        try dsimp only
        refine ⟨in_nI (show k < 12 by omega) (by decide), ?_⟩
        conv => whnf
        try dsimp only
        rw [ck, upI_oth (r' := 95) (by decide), upI_oth (r' := 95) (by decide), v4 95 (by decide) (by decide), u3]
        exact ⟨trivial, ihj⟩
      · rw [upI_oth (r' := 82) (by decide), upI_oth (r' := 82) (by decide), upI_oth (r' := 83) (by decide)]
        by_cases hxk : x = k
        · subst hxk
          rw [up_same, up_same, up_same]
          exact ⟨rfl, rfl, rfl⟩
        · rw [up_ne hxk, up_ne hxk, up_ne hxk, upI_oth (r' := 83) (by decide), upI_oth (r' := 84) (by decide), upI_oth (r' := 84) (by decide)]
          exact v6 x (by omega)
  have l1 : ∀ m k (I2 : Nat → Nat → Int32), k + m = tS P.2.1 → (∀ r, r < 90 → r ≠ 77 → r < 80 ∨ 84 < r → I2 r = I r) → (∀ k, k = 10 ∨ k = 12 → I2 77 k = I 77 k) → I2 77 3 = nI (tS P.2.1) → I2 77 6 = nI (tC P.2.1) → (∀ r, 91 ≤ r → r ≤ 96 → I2 r = I1 r) → (∀ i, i < k → I2 80 i = nI (tK P.2.1 i) ∧ I2 81 i = nI (clrN (tT P.2.1 i % 2 ^ tS P.2.1) i)) → EV G 185 (D + 59) 0 0 55 [.ref 77, .int (nI j), .int (nI k)] [] (SH n, I2, J) Q := by
    intro m
    induction m with
    | zero =>
      intro k I2 hk v0 v1 v2 v3 v4 v5
      have hk : k = tS P.2.1 := hk
      have l0 := l2 (tC P.2.1) 0 I2 (by omega) v0 v1 v2 v3 (fun r h1 h2 => v4 r (by omega) h2) (fun i hi => v5 i (by omega)) (fun g hg => absurd hg (Nat.not_lt_zero g))
      refine EV.at ck185 (by decide) 300 [110] ?_
      conv => whnf
      try dsimp only
      rw [v2]
      refine pk_le (tS P.2.1) k (fun _ => ?_) (fun y => absurd y (by omega))
      conv => whnf
      try dsimp only
      exact ⟨trivial, l0⟩
    | succ m ih =>
      intro k I2 hk v0 v1 v2 v3 v4 v5
      have ck : (nI k).toNatClampNeg = k := nI_clamp (by omega)
      obtain ⟨u1, u2⟩ := q5 k (by omega)
      have o : ∀ (x y : Int32) r, r ≠ 80 → r ≠ 81 → upI (upI I2 80 k x) 81 k y r = I2 r := fun x y r h1 h2 => by rw [upI_oth h2, upI_oth h1]
      have ihj := ih (k + 1) (upI (upI I2 80 k (nI (tK P.2.1 k))) 81 k (nI (clrN (tT P.2.1 k % 2 ^ tS P.2.1) k))) (by omega) (fun r h1 h2 h3 => by rw [o _ _ r (by omega) (by omega)]; exact v0 r h1 h2 h3) (fun x h1 => by rw [o _ _ 77 (by decide) (by decide)]; exact v1 x h1) (by rw [o _ _ 77 (by decide) (by decide)]; exact v2) (by rw [o _ _ 77 (by decide) (by decide)]; exact v3) (fun r h1 h2 => by rw [o _ _ r (by omega) (by omega)]; exact v4 r h1 h2) (fun x hx => ?_)
      · rw [nI_succ k] at ihj
        refine EV.at ck185 (by decide) 300 [] ?_
        conv => whnf
        try dsimp only
        rw [v2]
        refine pk_le (tS P.2.1) k (fun y => absurd y (by omega)) (fun _ => ?_)
        conv => whnf
        try dsimp only
        refine ⟨in_nI (show k < 5 by omega) (by decide), ?_⟩
        conv => whnf
        try dsimp only
        refine ⟨in_nI (show k < 5 by omega) (by decide), ?_⟩
        conv => whnf
        try dsimp only
        rw [ck, v4 91 (by decide) (by decide), u1]
        refine ⟨in_nI (show k < 5 by omega) (by decide), ?_⟩
        conv => whnf
        try dsimp only
        rw [ck, upI_oth (r' := 92) (by decide), v4 92 (by decide) (by decide), u2, upI_oth (r' := 77) (by decide), v2, own_eq h5 (by omega)]
        refine ⟨in_nI (show k < 5 by omega) (by decide), ?_⟩
        conv => whnf
        try dsimp only
        exact ⟨trivial, ihj⟩
      · rw [upI_oth (r' := 80) (by decide)]
        by_cases hxk : x = k
        · subst hxk
          rw [up_same, up_same]
          exact ⟨rfl, rfl⟩
        · rw [up_ne hxk, up_ne hxk, upI_oth (r' := 81) (by decide)]
          exact v5 x (by omega)
  have o : ∀ (x y : Int32) r, r ≠ 77 → upI (upI I1 77 3 x) 77 6 y r = I1 r := fun x y r h1 => by rw [upI_oth h1, upI_oth h1]
  obtain ⟨sr0, sr1, sr2, sr3, sr4, sr5⟩ := b2
  have l0 := l1 (tS P.2.1) 0 (upI (upI I1 77 3 (nI (tS P.2.1))) 77 6 (nI (tC P.2.1))) (by omega) (fun r h1 h2 _ => by rw [o _ _ r h2]; exact sr0 r h1 h2) (fun k h1 => ?_) (by rw [up_ne (by decide), up_same]) up_same (fun r h1 h2 => o _ _ r (by omega)) (fun g hg => absurd hg (Nat.not_lt_zero g))
  · conv => whnf
    try dsimp only
    rw [q1, up_ne (r := 77) (k' := 21) (by decide), q2]
    exact ⟨trivial, l0⟩
  · rw [up_ne (by omega), up_ne (by omega)]
    rcases h1 with rfl | rfl
    · exact sr4
    · exact sr5
end
