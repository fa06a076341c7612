/-! the class's Fight (cell 12; the fighters' cells 14, 15; done 16, ahead 17) -/
theorem cl0 : (nI 0).toNatClampNeg = 0 := by decide
theorem cl1 : (nI 1).toNatClampNeg = 1 := by decide
section
variable {G : GG} {d n : Nat} {σ : MH} {S : SHL} {I : Nat → Nat → Int32} {J : Nat → Nat → Int64} {Q : Option Value → MH → Prop} {T : TN} {q : Nat → SD}
def fMem (q : Nat → SD) (I : Nat → Nat → Int32) : Prop := sMem 14 (q 0) I ∧ sMem 15 (q 1) I
def packF (q : Nat → SD) : Nat := packS (q 0) * 2048 + packS (q 1)
def sS (q : SD) : Prop := q.1 < 8 ∧ q.2.1 < 8 ∧ q.2.2.1 < 32
theorem packS_lt {q : SD} (h : sS q) : packS q < 2048 := by unfold packS; have := h.1; have := h.2.1; have := h.2.2; omega
theorem c_packedF (hm : fMem q I) (h0 : sS (q 0)) (h1 : sS (q 1)) (h : Q (some (.int (nI (packF q)))) (SH n, I, J)) : MT G (d + 2) 4 [.ref 12] (SH n, I, J) Q := by
  refine MT.by ck4 (by decide) rfl (Nat.le_of_ble_eq_true rfl) rfl 300 [] ?_
  conv => whnf
  try dsimp only
  refine ⟨by unfold vp_in; decide, ?_⟩
  conv => whnf
  try dsimp only
  refine ⟨trivial, c_packedS rfl hm.1 h0.1 h0.2.1 h0.2.2 ?_⟩
  refine EV.at ck4 (by decide) 300 [] ?_
  conv => whnf
  try dsimp only
  refine ⟨by unfold vp_in; decide, ?_⟩
  conv => whnf
  try dsimp only
  refine ⟨trivial, c_packedS rfl hm.2 h1.1 h1.2.1 h1.2.2 ?_⟩
  refine EV.at ck4 (by decide) 300 [] ?_
  conv => whnf
  try dsimp only
  have e1 : jshl (nI (packS (q 0))) 11 = nI (packS (q 0) * 2 ^ 11) := nu_shl (j := 11) (by omega) (by have := packS_lt h0; omega)
  have e2 : nI (packS (q 0) * 2 ^ 11) ||| nI (packS (q 1)) = nI (packF q) := by
    rw [Nat.mul_comm, fa_or_sum _ (show packS (q 1) < 2 ^ 11 from packS_lt h1)]
    congr 1
    unfold packF
    omega
  rw [e1, e2]
  exact ⟨trivial, h⟩
/-- both fighters' shapes, fires, used written -/
def fdI (I : Nat → Nat → Int32) (q : Nat → SD) : Nat → Nat → Int32 := sdI (sdI I 14 (q 0).1 (q 0).2.1 (q 0).2.2.1) 15 (q 1).1 (q 1).2.1 (q 1).2.2.1
theorem c_unpackF (h0 : sS (q 0)) (h1 : sS (q 1)) (h : Q none (SH n, fdI I q, J)) : MT G (d + 2) 5 [.ref 12, .int (nI (packF q))] (SH n, I, J) Q := by
  have l0 := packS_lt h0
  have l1 := packS_lt h1
  have e1 : jshr (nI (packF q)) 11 = nI (packS (q 0)) := by
    have : jshr (nI (packF q)) 11 = nI (packF q / 2 ^ 11) := nu_shr (j := 11) (by unfold packF; omega) (by omega)
    rw [this]
    congr 1
    unfold packF
    omega
  have e2 : nI (packF q) &&& 2047 = nI (packS (q 1)) := by
    have : nI (packF q) &&& 2047 = nI (packF q % 2 ^ 11) := pk_andN (by unfold packF; omega) 11 (by decide)
    rw [this]
    congr 1
    unfold packF
    omega
  refine MT.by ck5 (by decide) rfl (Nat.le_of_ble_eq_true rfl) rfl 300 [] ?_
  conv => whnf
  try dsimp only
  refine ⟨by unfold vp_in; decide, ?_⟩
  conv => whnf
  try dsimp only
  rw [e1]
  refine ⟨trivial, c_unpackS rfl h0.1 h0.2.1 h0.2.2 ?_⟩
  refine EV.at ck5 (by decide) 300 [] ?_
  conv => whnf
  try dsimp only
  refine ⟨by unfold vp_in; decide, ?_⟩
  conv => whnf
  try dsimp only
  rw [e2]
  refine ⟨trivial, c_unpackS rfl h1.1 h1.2.1 h1.2.2 ?_⟩
  refine EV.at ck5 (by decide) 300 [] ?_
  conv => whnf
  try dsimp only
  exact ⟨trivial, h⟩
theorem c_takes0 {k : Nat} (hT : tOK T) (hM : tMem T I) (hm : fMem q I) (hs0 : sOK T (q 0)) (hs1 : sOK T (q 1)) (hE : EX I) (hk : k < tC T) (h : Q (some (.int (nI (takesN T (q 0) (q 1).1 k)))) (SH n, I, J)) : MT G (d + 4) 6 [.ref 12, .int (nI 0), .int (nI k)] (SH n, I, J) Q := by
  obtain ⟨t5, tk, t12, tc⟩ := id hT
  obtain ⟨b1, b2, b3, b4⟩ := tc k hk
  obtain ⟨m9, m10, m11⟩ := hM.2.2.2 k hk
  have hm0 : sMem 14 (q 0) I := hm.1
  have hm1 : sMem 15 (q 1) I := hm.2
  have hq : sOK T (q 0) := hs0
  have ho : sOK T (q 1) := hs1
  have ck : (nI k).toNatClampNeg = k := cl_nI (show k < 12 by omega) (by decide)
  have ek : jshr (I 14 3) (nI k) &&& 1 = b2i ((q 0).2.2.2.testBit k) := by rw [hm0.2.2.2]; exact nu_bit (by have := hq.2.2.2; omega) (by omega)
  have eu : jshr (I 14 2) (nI (tI T k)) &&& 1 = b2i ((q 0).2.2.1.testBit (tI T k)) := by rw [hm0.2.2.1]; exact nu_bit (by have := hq.2.2.1; omega) (by omega)
  have kq := (tk _ b2).1
  have mK := (hM.2.1 _ b2).1
  have zero : canN T (q 0) (q 1).1 k = false → Q (some (.int 0)) (SH n, I, J) := fun hc => by
    have e : takesN T (q 0) (q 1).1 k = 0 := by unfold takesN; rw [hc]; rfl
    rw [e] at h
    exact h
  have behind : (q 0).2.2.2.testBit k = true → tF T k = (q 0).1 → (!((q 0).2.2.1.testBit (tI T k)) || isB (tK T (tI T k)) 2) = true → EV G 6 (d + 3) 0 0 86 [.ref 12, .int (nI 0), .int (nI k), .ref 14, .int (nI (tI T k)), .int (nI (q 1).1), dm] [] (SH n, I, J) Q := by
    intro g1 g2 g3
    refine EV.at ck6 (by decide) 300 [] ?_
    conv => whnf
    try dsimp only
    refine ⟨trivial, c_beats (show tI T k < 5 by omega) (show (q 1).1 < 5 by have := ho.1; omega) ?_⟩
    rw [bt_eq hT hM b2 ho.1]
    cases hb : btT T (tI T k) (q 1).1
    · refine EV.at ck6 (by decide) 300 [] ?_
      conv => whnf
      try dsimp only
      refine ⟨fun h1 => absurd rfl h1, fun _ => ?_⟩
      conv => whnf
      try dsimp only
      exact ⟨trivial, zero (by unfold canN; rw [hb]; simp)⟩
    · refine EV.at ck6 (by decide) 300 [] ?_
      conv => whnf
      try dsimp only
      refine ⟨fun _ => ?_, fun h1 => absurd h1 (by decide)⟩
      conv => whnf
      try dsimp only
      refine ⟨trivial, c_price (show k < 12 by omega) (show tF T k < 5 by omega) (show tI T k < 5 by omega) (show (q 1).1 < 5 by have := ho.1; omega) kq m9 m10 mK hE ?_⟩
      rw [m11, (hM.2.1 _ b1).1, (hM.2.1 _ ho.1).1, price_eq hT hk ho.1]
      have pl : priceN T k (q 1).1 < 65536 := by unfold priceN; split <;> split <;> split <;> omega
      refine EV.at ck6 (by decide) 300 [] ?_
      conv => whnf
      try dsimp only
      rw [hm0.2.1]
      refine ⟨fun h1 => ?_, fun h1 => ?_⟩
      · conv => whnf
        try dsimp only
        have h1' : (q 0).2.1 < priceN T k (q 1).1 := (nI_ltI (by have := hq.2.1; omega) (by omega)).mp h1
        exact ⟨trivial, zero (by unfold canN; rw [decide_eq_false (show ¬ priceN T k (q 1).1 ≤ (q 0).2.1 by omega)]; simp)⟩
      · conv => whnf
        try dsimp only
        have h1' : ¬ (q 0).2.1 < priceN T k (q 1).1 := fun z => h1 ((nI_ltI (by have := hq.2.1; omega) (by omega)).mpr z)
        have e : takesN T (q 0) (q 1).1 k = priceN T k (q 1).1 := by
          unfold takesN canN
          rw [g1, g2, g3, hb, decide_eq_true (show priceN T k (q 1).1 ≤ (q 0).2.1 by omega)]
          simp
        rw [e] at h
        exact ⟨trivial, h⟩
  refine MT.by ck6 (by decide) rfl (Nat.le_of_ble_eq_true rfl) rfl 300 [86] ?_
  conv => whnf
  try dsimp only
  refine ⟨by unfold vp_in; decide, ?_⟩
  conv => whnf
  try dsimp only
  refine ⟨trivial, c_bit ?_⟩
  rw [ek]
  cases hb1 : (q 0).2.2.2.testBit k
  · refine EV.at ck6 (by decide) 300 [86] ?_
    conv => whnf
    try dsimp only
    refine ⟨fun _ => ?_, fun h1 => absurd rfl h1⟩
    conv => whnf
    try dsimp only
    exact ⟨trivial, zero (by unfold canN; rw [hb1]; rfl)⟩
  · refine EV.at ck6 (by decide) 300 [86] ?_
    conv => whnf
    try dsimp only
    refine ⟨fun h1 => absurd h1 (by decide), fun _ => ?_⟩
    conv => whnf
    try dsimp only
    refine ⟨in_nI (show k < 12 by omega) (by decide), ?_⟩
    conv => whnf
    try dsimp only
    rw [ck, m9, hm0.1]
    refine ⟨fun h1 => ?_, fun h1 => ?_⟩
    · have h1' : tF T k = (q 0).1 := (nu_eq (by omega) (by have := hq.1; omega)).mp h1
      conv => whnf
      try dsimp only
      refine ⟨in_nI (show k < 12 by omega) (by decide), ?_⟩
      conv => whnf
      try dsimp only
      refine ⟨by unfold vp_in; decide, ?_⟩
      conv => whnf
      try dsimp only
      rw [ck, m10, hm1.1]
      refine ⟨trivial, c_bit ?_⟩
      rw [eu]
      cases hb2 : (q 0).2.2.1.testBit (tI T k)
      · refine EV.at ck6 (by decide) 300 [86] ?_
        conv => whnf
        try dsimp only
        refine ⟨fun _ => ?_, fun h2 => absurd h2 (by decide)⟩
        conv => whnf
        try dsimp only
        exact ⟨trivial, behind hb1 h1' (by rw [hb2]; rfl)⟩
      · refine EV.at ck6 (by decide) 300 [86] ?_
        conv => whnf
        try dsimp only
        refine ⟨fun h2 => absurd rfl h2, fun _ => ?_⟩
        conv => whnf
        try dsimp only
        refine ⟨trivial, c_isOf (show tI T k < 5 by omega) kq mK hE ?_⟩
        rw [show isK (tK T (tI T k)) 2 = isB (tK T (tI T k)) 2 from isB_isK _ kq 2 (by decide) (by decide)]
        cases hb3 : isB (tK T (tI T k)) 2
        · refine EV.at ck6 (by decide) 300 [86] ?_
          conv => whnf
          try dsimp only
          refine ⟨fun _ => ?_, fun h3 => absurd rfl h3⟩
          conv => whnf
          try dsimp only
          exact ⟨trivial, zero (by unfold canN; rw [hb2, hb3]; simp)⟩
        · refine EV.at ck6 (by decide) 300 [86] ?_
          conv => whnf
          try dsimp only
          refine ⟨fun h3 => absurd h3 (by decide), fun _ => ?_⟩
          conv => whnf
          try dsimp only
          exact ⟨trivial, behind hb1 h1' (by rw [hb3]; simp)⟩
    · have h1' : ¬ tF T k = (q 0).1 := fun z => h1 (by rw [z])
      conv => whnf
      try dsimp only
      exact ⟨trivial, zero (by unfold canN; rw [show (tF T k == (q 0).1) = false from beq_false_of_ne h1']; simp)⟩
theorem c_takes1 {k : Nat} (hT : tOK T) (hM : tMem T I) (hm : fMem q I) (hs0 : sOK T (q 0)) (hs1 : sOK T (q 1)) (hE : EX I) (hk : k < tC T) (h : Q (some (.int (nI (takesN T (q 1) (q 0).1 k)))) (SH n, I, J)) : MT G (d + 4) 6 [.ref 12, .int (nI 1), .int (nI k)] (SH n, I, J) Q := by
  obtain ⟨t5, tk, t12, tc⟩ := id hT
  obtain ⟨b1, b2, b3, b4⟩ := tc k hk
  obtain ⟨m9, m10, m11⟩ := hM.2.2.2 k hk
  have hm0 : sMem 15 (q 1) I := hm.2
  have hm1 : sMem 14 (q 0) I := hm.1
  have hq : sOK T (q 1) := hs1
  have ho : sOK T (q 0) := hs0
  have ck : (nI k).toNatClampNeg = k := cl_nI (show k < 12 by omega) (by decide)
  have ek : jshr (I 15 3) (nI k) &&& 1 = b2i ((q 1).2.2.2.testBit k) := by rw [hm0.2.2.2]; exact nu_bit (by have := hq.2.2.2; omega) (by omega)
  have eu : jshr (I 15 2) (nI (tI T k)) &&& 1 = b2i ((q 1).2.2.1.testBit (tI T k)) := by rw [hm0.2.2.1]; exact nu_bit (by have := hq.2.2.1; omega) (by omega)
  have kq := (tk _ b2).1
  have mK := (hM.2.1 _ b2).1
  have zero : canN T (q 1) (q 0).1 k = false → Q (some (.int 0)) (SH n, I, J) := fun hc => by
    have e : takesN T (q 1) (q 0).1 k = 0 := by unfold takesN; rw [hc]; rfl
    rw [e] at h
    exact h
  have behind : (q 1).2.2.2.testBit k = true → tF T k = (q 1).1 → (!((q 1).2.2.1.testBit (tI T k)) || isB (tK T (tI T k)) 2) = true → EV G 6 (d + 3) 0 0 86 [.ref 12, .int (nI 1), .int (nI k), .ref 15, .int (nI (tI T k)), .int (nI (q 0).1), dm] [] (SH n, I, J) Q := by
    intro g1 g2 g3
    refine EV.at ck6 (by decide) 300 [] ?_
    conv => whnf
    try dsimp only
    refine ⟨trivial, c_beats (show tI T k < 5 by omega) (show (q 0).1 < 5 by have := ho.1; omega) ?_⟩
    rw [bt_eq hT hM b2 ho.1]
    cases hb : btT T (tI T k) (q 0).1
    · refine EV.at ck6 (by decide) 300 [] ?_
      conv => whnf
      try dsimp only
      refine ⟨fun h1 => absurd rfl h1, fun _ => ?_⟩
      conv => whnf
      try dsimp only
      exact ⟨trivial, zero (by unfold canN; rw [hb]; simp)⟩
    · refine EV.at ck6 (by decide) 300 [] ?_
      conv => whnf
      try dsimp only
      refine ⟨fun _ => ?_, fun h1 => absurd h1 (by decide)⟩
      conv => whnf
      try dsimp only
      refine ⟨trivial, c_price (show k < 12 by omega) (show tF T k < 5 by omega) (show tI T k < 5 by omega) (show (q 0).1 < 5 by have := ho.1; omega) kq m9 m10 mK hE ?_⟩
      rw [m11, (hM.2.1 _ b1).1, (hM.2.1 _ ho.1).1, price_eq hT hk ho.1]
      have pl : priceN T k (q 0).1 < 65536 := by unfold priceN; split <;> split <;> split <;> omega
      refine EV.at ck6 (by decide) 300 [] ?_
      conv => whnf
      try dsimp only
      rw [hm0.2.1]
      refine ⟨fun h1 => ?_, fun h1 => ?_⟩
      · conv => whnf
        try dsimp only
        have h1' : (q 1).2.1 < priceN T k (q 0).1 := (nI_ltI (by have := hq.2.1; omega) (by omega)).mp h1
        exact ⟨trivial, zero (by unfold canN; rw [decide_eq_false (show ¬ priceN T k (q 0).1 ≤ (q 1).2.1 by omega)]; simp)⟩
      · conv => whnf
        try dsimp only
        have h1' : ¬ (q 1).2.1 < priceN T k (q 0).1 := fun z => h1 ((nI_ltI (by have := hq.2.1; omega) (by omega)).mpr z)
        have e : takesN T (q 1) (q 0).1 k = priceN T k (q 0).1 := by
          unfold takesN canN
          rw [g1, g2, g3, hb, decide_eq_true (show priceN T k (q 0).1 ≤ (q 1).2.1 by omega)]
          simp
        rw [e] at h
        exact ⟨trivial, h⟩
  refine MT.by ck6 (by decide) rfl (Nat.le_of_ble_eq_true rfl) rfl 300 [86] ?_
  conv => whnf
  try dsimp only
  refine ⟨by unfold vp_in; decide, ?_⟩
  conv => whnf
  try dsimp only
  refine ⟨trivial, c_bit ?_⟩
  rw [ek]
  cases hb1 : (q 1).2.2.2.testBit k
  · refine EV.at ck6 (by decide) 300 [86] ?_
    conv => whnf
    try dsimp only
    refine ⟨fun _ => ?_, fun h1 => absurd rfl h1⟩
    conv => whnf
    try dsimp only
    exact ⟨trivial, zero (by unfold canN; rw [hb1]; rfl)⟩
  · refine EV.at ck6 (by decide) 300 [86] ?_
    conv => whnf
    try dsimp only
    refine ⟨fun h1 => absurd h1 (by decide), fun _ => ?_⟩
    conv => whnf
    try dsimp only
    refine ⟨in_nI (show k < 12 by omega) (by decide), ?_⟩
    conv => whnf
    try dsimp only
    rw [ck, m9, hm0.1]
    refine ⟨fun h1 => ?_, fun h1 => ?_⟩
    · have h1' : tF T k = (q 1).1 := (nu_eq (by omega) (by have := hq.1; omega)).mp h1
      conv => whnf
      try dsimp only
      refine ⟨in_nI (show k < 12 by omega) (by decide), ?_⟩
      conv => whnf
      try dsimp only
      refine ⟨by unfold vp_in; decide, ?_⟩
      conv => whnf
      try dsimp only
      rw [ck, m10, hm1.1]
      refine ⟨trivial, c_bit ?_⟩
      rw [eu]
      cases hb2 : (q 1).2.2.1.testBit (tI T k)
      · refine EV.at ck6 (by decide) 300 [86] ?_
        conv => whnf
        try dsimp only
        refine ⟨fun _ => ?_, fun h2 => absurd h2 (by decide)⟩
        conv => whnf
        try dsimp only
        exact ⟨trivial, behind hb1 h1' (by rw [hb2]; rfl)⟩
      · refine EV.at ck6 (by decide) 300 [86] ?_
        conv => whnf
        try dsimp only
        refine ⟨fun h2 => absurd rfl h2, fun _ => ?_⟩
        conv => whnf
        try dsimp only
        refine ⟨trivial, c_isOf (show tI T k < 5 by omega) kq mK hE ?_⟩
        rw [show isK (tK T (tI T k)) 2 = isB (tK T (tI T k)) 2 from isB_isK _ kq 2 (by decide) (by decide)]
        cases hb3 : isB (tK T (tI T k)) 2
        · refine EV.at ck6 (by decide) 300 [86] ?_
          conv => whnf
          try dsimp only
          refine ⟨fun _ => ?_, fun h3 => absurd rfl h3⟩
          conv => whnf
          try dsimp only
          exact ⟨trivial, zero (by unfold canN; rw [hb2, hb3]; simp)⟩
        · refine EV.at ck6 (by decide) 300 [86] ?_
          conv => whnf
          try dsimp only
          refine ⟨fun h3 => absurd h3 (by decide), fun _ => ?_⟩
          conv => whnf
          try dsimp only
          exact ⟨trivial, behind hb1 h1' (by rw [hb3]; simp)⟩
    · have h1' : ¬ tF T k = (q 1).1 := fun z => h1 (by rw [z])
      conv => whnf
      try dsimp only
      exact ⟨trivial, zero (by unfold canN; rw [show (tF T k == (q 1).1) = false from beq_false_of_ne h1']; simp)⟩
theorem c_takes {k w : Nat} (hw : w < 2) (hT : tOK T) (hM : tMem T I) (hm : fMem q I) (hs0 : sOK T (q 0)) (hs1 : sOK T (q 1)) (hE : EX I) (hk : k < tC T) (h : Q (some (.int (nI (takesN T (q w) (q (1 - w)).1 k)))) (SH n, I, J)) : MT G (d + 4) 6 [.ref 12, .int (nI w), .int (nI k)] (SH n, I, J) Q := by
  rcases (show w = 0 ∨ w = 1 by omega) with rfl | rfl
  · exact c_takes0 hT hM hm hs0 hs1 hE hk h
  · exact c_takes1 hT hM hm hs0 hs1 hE hk h
/-- which CHANGES can be, as bits of a natural -/
def optN (T : TN) (q : SD) (o : Nat) : Nat → Nat
  | 0 => 0
  | k + 1 => optN T q o k ||| (if canN T q o k then 2 ^ k else 0)
theorem takes_pos {q : SD} {o k : Nat} : (0 < takesN T q o k) ↔ canN T q o k = true := by
  unfold takesN
  cases canN T q o k
  · simp
  · simp only [if_true, iff_true]
    unfold priceN
    omega
theorem takes_lt {q : SD} {o k : Nat} (hT : tOK T) (hk : k < tC T) : takesN T q o k < 65536 := by
  have := (hT.2.2.2 k hk).2.2.2
  unfold takesN priceN
  split
  · split <;> split <;> split <;> omega
  · omega
theorem c_options {w : Nat} (hw : w < 2) (hT : tOK T) (hM : tMem T I) (hm : fMem q I) (hs0 : sOK T (q 0)) (hs1 : sOK T (q 1)) (hE : EX I) (h : Q (some (.int (nI (optN T (q w) (q (1 - w)).1 (tC T))))) (SH n, I, J)) : MT G (d + 5) 7 [.ref 12, .int (nI w)] (SH n, I, J) Q := by
  have t12 := hT.2.2.1
  have hI : I 6 3 = nI (tC T) := hM.2.2.1
  generalize hc : tC T = c at h hI t12
  have loop : ∀ m j, j + m = c → EV G 7 (d + 4) 0 0 4 [.ref 12, .int (nI w), .int (nI (optN T (q w) (q (1 - w)).1 j)), .int (nI j)] [] (SH n, I, J) Q := by
    intro m
    induction m with
    | zero =>
      intro j hj
      have hj : j = c := hj
      rw [← hj] at h hI
      refine EV.at ck7 (by decide) 300 [] ?_
      conv => whnf
      try dsimp only
      rw [hI]
      refine ⟨fun _ => ?_, fun h1 => absurd (nI_le (Nat.le_refl j) (by omega)) h1⟩
      conv => whnf
      try dsimp only
      exact ⟨trivial, h⟩
    | succ m ih =>
      intro j hj
      have ihj := ih (j + 1) (by omega)
      rw [nI_succ] at ihj
      refine EV.at ck7 (by decide) 300 [] ?_
      conv => whnf
      try dsimp only
      rw [hI]
      refine ⟨fun h1 => absurd h1 (nI_ge (show j < c by omega) (by omega)), fun _ => ?_⟩
      conv => whnf
      try dsimp only
      have hjc : j < tC T := by omega
      refine ⟨trivial, c_takes hw hT hM hm hs0 hs1 hE hjc ?_⟩
      have tl := takes_lt (q := q w) (o := (q (1 - w)).1) hT hjc
      cases hb : canN T (q w) (q (1 - w)).1 j
      · have ht : takesN T (q w) (q (1 - w)).1 j = 0 := by unfold takesN; rw [hb]; rfl
        have e : optN T (q w) (q (1 - w)).1 (j + 1) = optN T (q w) (q (1 - w)).1 j ||| 0 := by show _ ||| (if canN T (q w) (q (1 - w)).1 j then 2 ^ j else 0) = _; rw [hb]; rfl
        rw [e, ← fa_or] at ihj
        rw [ht]
        refine EV.at ck7 (by decide) 300 [] ?_
        conv => whnf
        try dsimp only
        refine ⟨fun _ => ?_, fun h1 => absurd (by decide) h1⟩
        conv => whnf
        try dsimp only
        exact ⟨trivial, ihj⟩
      · have ht : 0 < takesN T (q w) (q (1 - w)).1 j := takes_pos.mpr hb
        have e : optN T (q w) (q (1 - w)).1 (j + 1) = optN T (q w) (q (1 - w)).1 j ||| 2 ^ j := by show _ ||| (if canN T (q w) (q (1 - w)).1 j then 2 ^ j else 0) = _; rw [hb]; rfl
        rw [e, ← fa_or, ← nu_one (show j < 31 by omega)] at ihj
        refine EV.at ck7 (by decide) 300 [] ?_
        conv => whnf
        try dsimp only
        refine ⟨fun h1 => absurd h1 (nI_nle ht (by omega)), fun _ => ?_⟩
        conv => whnf
        try dsimp only
        exact ⟨trivial, ihj⟩
  refine MT.by ck7 (by decide) rfl (Nat.le_of_ble_eq_true rfl) rfl 300 [4] ?_
  conv => whnf
  try dsimp only
  exact ⟨trivial, loop c 0 (by omega)⟩
/-- a fighter behind a CHANGE -/
def stepS (T : TN) (q : SD) (k t : Nat) : SD := (tI T k, q.2.1 - t, q.2.2.1 ||| 2 ^ tI T k, q.2.2.2)
theorem c_step0 {k t : Nat} (hT : tOK T) (hM : tMem T I) (hm : fMem q I) (hs : sOK T (q 0)) (hk : k < tC T) (ht : t ≤ (q 0).2.1) (h : Q none (SH n, sdI I 14 (stepS T (q 0) k t).1 (stepS T (q 0) k t).2.1 (stepS T (q 0) k t).2.2.1, J)) : MT G (d + 1) 8 [.ref 12, .int (nI 0), .int (nI k), .int (nI t)] (SH n, I, J) Q := by
  obtain ⟨t5, tk, t12, tc⟩ := id hT
  obtain ⟨b1, b2, b3, b4⟩ := tc k hk
  obtain ⟨m9, m10, m11⟩ := hM.2.2.2 k hk
  have hm0 : sMem 14 (q 0) I := hm.1
  have ck : (nI k).toNatClampNeg = k := cl_nI (show k < 12 by omega) (by decide)
  refine MT.by ck8 (by decide) rfl (Nat.le_of_ble_eq_true rfl) rfl 300 [] ?_
  conv => whnf
  try dsimp only
  refine ⟨by unfold vp_in; decide, ?_⟩
  conv => whnf
  try dsimp only
  refine ⟨in_nI (show k < 12 by omega) (by decide), ?_⟩
  conv => whnf
  try dsimp only
  rw [ck, m10]
  have r0 : upI I 14 0 (nI (tI T k)) 14 0 = nI (tI T k) := rfl
  have r2 : upI I 14 0 (nI (tI T k)) 14 2 = nI (q 0).2.2.1 := hm0.2.2.1
  have r1 : ∀ x, upI (upI I 14 0 (nI (tI T k))) 14 2 x 14 1 = nI (q 0).2.1 := fun x => hm0.2.1
  rw [r0, r2, r1, nu_one (show tI T k < 31 by omega), fa_or, pk_sub ht, sd_021]
  exact ⟨trivial, h⟩
theorem c_step1 {k t : Nat} (hT : tOK T) (hM : tMem T I) (hm : fMem q I) (hs : sOK T (q 1)) (hk : k < tC T) (ht : t ≤ (q 1).2.1) (h : Q none (SH n, sdI I 15 (stepS T (q 1) k t).1 (stepS T (q 1) k t).2.1 (stepS T (q 1) k t).2.2.1, J)) : MT G (d + 1) 8 [.ref 12, .int (nI 1), .int (nI k), .int (nI t)] (SH n, I, J) Q := by
  obtain ⟨t5, tk, t12, tc⟩ := id hT
  obtain ⟨b1, b2, b3, b4⟩ := tc k hk
  obtain ⟨m9, m10, m11⟩ := hM.2.2.2 k hk
  have hm0 : sMem 15 (q 1) I := hm.2
  have ck : (nI k).toNatClampNeg = k := cl_nI (show k < 12 by omega) (by decide)
  refine MT.by ck8 (by decide) rfl (Nat.le_of_ble_eq_true rfl) rfl 300 [] ?_
  conv => whnf
  try dsimp only
  refine ⟨by unfold vp_in; decide, ?_⟩
  conv => whnf
  try dsimp only
  refine ⟨in_nI (show k < 12 by omega) (by decide), ?_⟩
  conv => whnf
  try dsimp only
  rw [ck, m10]
  have r0 : upI I 15 0 (nI (tI T k)) 15 0 = nI (tI T k) := rfl
  have r2 : upI I 15 0 (nI (tI T k)) 15 2 = nI (q 1).2.2.1 := hm0.2.2.1
  have r1 : ∀ x, upI (upI I 15 0 (nI (tI T k))) 15 2 x 15 1 = nI (q 1).2.1 := fun x => hm0.2.1
  rw [r0, r2, r1, nu_one (show tI T k < 31 by omega), fa_or, pk_sub ht, sd_021]
  exact ⟨trivial, h⟩
end
