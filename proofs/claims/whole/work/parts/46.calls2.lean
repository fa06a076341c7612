/-! the class's calls: nights, shapes, changes, fighters -/
theorem rdN_fin {sz : Nat} {tx : Nat → Int32} (hs : sz ≤ 80) : ∀ m (P : PS), pOK P → P.1 ≤ sz → (rdN sz tx m P).1 = -9 → (rdN sz tx m P).2.2.2.1 = 2
  | 0, P, _, _, h => by
    have h : endI sz P = -9 := h
    unfold endI at h
    split at h
    · assumption
    · exact absurd h (ne_m9 (by omega))
  | m + 1, P, hP, hp, h => by
    unfold rdN at h ⊢
    by_cases h1 : P.1 < sz
    · rw [if_pos h1] at h ⊢
      by_cases h2 : tx P.1 = 32
      · rw [if_pos h2] at h ⊢
        exact rdN_fin hs m _ (pOK_pl hP) h1 h
      · rw [if_neg h2] at h ⊢
        obtain ⟨o1, o2, o3⟩ := rdI_ok (tx := tx) hP h1
        by_cases h3 : (rdI sz tx P).1 = true
        · rw [if_pos h3] at h ⊢
          exact rdN_fin hs m _ o1 o2 h
        · rw [if_neg h3] at h
          exact absurd h (ne_m9 (by show (rdI sz tx P).2.1 < 2 ^ 31; omega))
    · rw [if_neg h1] at h ⊢
      have h : endI sz P = -9 := h
      unfold endI at h
      split at h
      · assumption
      · exact absurd h (ne_m9 (by omega))
theorem aH_of {a : AB} (hO : aOK a) (h : 0 < tS (aT a) ∨ 0 < tC (aT a)) : aH a = true := by
  cases hh : aH a with
  | true => rfl
  | false => have := hO.2.2.1 hh; omega
theorem gMem_q {F : FG} {q : Nat → SD} {I I' : Nat → Nat → Int32} (h : gMem 12 F I) (hq : fMem q I') (h1 : I' 12 = I 12) (h2 : I' 16 = I 16) (h3 : I' 17 = I 17) : gMem 12 (q, F.2) I' := by
  obtain ⟨g1, g2, g3, g4⟩ := h
  refine ⟨by rw [h1]; exact g1, hq.1, hq.2, fun i hi => ?_⟩
  show I' 16 i = _ ∧ I' 17 i = _
  rw [h2, h3]
  exact g4 i hi
theorem about_eq {T : TN} {I : Nat → Nat → Int32} {i w : Nat} (hT : tOK T) (hM : tMem T I) (hi : i < tS T) (hw : w < 4) : (if nI w = 0 then nI (tK T i) else if nI w = 1 then bset (fun j => btB (I 8) (I 7) i j) (tS T) else if nI w = 2 then bset (fun j => btB (I 8) (I 7) j i) (tS T) else cntI (fun k => decide (I 10 k = nI i)) (tC T)) = shI T i w := by
  have h5 : tS T ≤ 5 := hT.1
  rcases (show w = 0 ∨ w = 1 ∨ w = 2 ∨ w = 3 by omega) with rfl | rfl | rfl | rfl
  · rfl
  · rw [if_neg (by decide), if_pos (by decide)]
    exact bset_or _ (by omega) (fun k hk => bt_eq hT hM hi hk)
  · rw [if_neg (by decide), if_neg (by decide), if_pos (by decide)]
    exact bset_or _ (by omega) (fun k hk => bt_eq hT hM hk hi)
  · rw [if_neg (by decide), if_neg (by decide), if_neg (by decide)]
    refine cntI_N _ (fun k hk => ?_)
    have hk2 := (hT.2.2.2 k hk).2.1
    rw [(hM.2.2.2 k hk).2.1]
    by_cases hx : tI T k = i
    · rw [hx, beq_self_eq_true, decide_eq_true rfl]
    · rw [beq_false_of_ne hx, decide_eq_false (fun z => hx ((nu_eq (by omega) (by omega)).mp z))]
theorem chp_eq {T : TN} {I : Nat → Nat → Int32} {i : Nat} (hT : tOK T) (hM : tMem T I) (hi : i < 5) : ∀ c, c ≤ tC T → cheapest (I 10) (I 11) (nI i) c = chpI T i c
  | 0, _ => rfl
  | c + 1, hc => by
    have h5 : tS T ≤ 5 := hT.1
    have hk2 := (hT.2.2.2 c (by omega)).2.1
    obtain ⟨m1, m2, m3⟩ := hM.2.2.2 c (by omega)
    rw [cheapest, chpI, chp_eq hT hM hi c (by omega), m2, m3]
    have e : (nI (tI T c) = nI i) ↔ tI T c = i := nu_eq (by omega) (by omega)
    simp only [e]
theorem bea_eq {T : TN} {I : Nat → Nat → Int32} {i : Nat} (hT : tOK T) (hM : tMem T I) (hi : i < 5) : ∀ c, c ≤ tS T → beastsI (I 8) (I 7) (nI i) c = nI (cntN (fun j => tK T j == 3 && (tT T j).testBit i) c)
  | 0, _ => rfl
  | c + 1, hc => by
    obtain ⟨k1, k2⟩ := hT.2.1 c (by omega)
    obtain ⟨m1, m2⟩ := hM.2.1 c (by omega)
    rw [beastsI, cntN, bea_eq hT hM hi c (by omega), m1, m2, nu_bit (by omega) (by omega), ← nI_add]
    have e : (nI (tK T c) = 3) ↔ tK T c = 3 := nu_eq (b := 3) (by omega) (by decide)
    by_cases h3 : tK T c = 3
    · rw [if_pos (e.mpr h3), h3, beq_self_eq_true, Bool.true_and, nu_b2]
    · rw [if_neg (fun z => h3 (e.mp z)), beq_false_of_ne h3]
      rfl
theorem cf_eq {T : TN} {I : Nat → Nat → Int32} {i : Nat} (hT : tOK T) (hM : tMem T I) (hi : i < 5) : cntI (fun k => decide (I 9 k = nI i)) (tC T) = nI (cntN (fun k => tF T k == i) (tC T)) := by
  have h5 : tS T ≤ 5 := hT.1
  refine cntI_N _ (fun k hk => ?_)
  have hk2 := (hT.2.2.2 k hk).1
  rw [(hM.2.2.2 k hk).1]
  by_cases hx : tF T k = i
  · rw [hx, beq_self_eq_true, decide_eq_true rfl]
  · rw [beq_false_of_ne hx, decide_eq_false (fun z => hx ((nu_eq (by omega) (by omega)).mp z))]
section
variable {G : GG} {d n : Nat} {I : Nat → Nat → Int32} {J : Nat → Nat → Int64} {Q : Option Value → MH → Prop}
theorem txt_st {a : AB} {e j : Nat} (hC : CA a e I J) (hO : aOK a) (hj : j < 4) (hz : aTs a j ≠ 0) : stM n (51 + 2 * j) (51 + 2 * j + 1) (aTs a j - 1) (aTc a j) I := by
  obtain ⟨hcT, hcF, hcK, hcR, hcX, hcN, hcA, hcU, hcM⟩ := id hC
  have o81 := hO.2.2.2.2.2 j hj
  exact ⟨(txt_c n hj).1, (txt_c n hj).2, by omega, by omega, by omega, by rw [(hcX j hj).1]; exact sz_nI hz, fun i hi => (hcX j hj).2 i (by omega)⟩
theorem k_fault {r : Int32} : CS G n 101 [.int r] (fun a => sp_fault a r) := by
  intro D I J Q a e hO hC he h
  try dsimp only at h
  obtain ⟨hcT, hcF, hcK, hcR, hcX, hcN, hcA, hcU, hcM⟩ := id hC
  obtain ⟨oT, oF, oN, oK, oR, oX⟩ := id hO
  refine MT.by ck101 (by decide) rfl (Nat.le_of_ble_eq_true rfl) rfl 300 [] ?_
  conv => whnf
  try dsimp only
  refine ⟨trivial, c_refuseStrip (sz := aTs a) (str_t n) (by decide) (fun j hj => ⟨by have := oX j hj; omega, (hcX j hj).1⟩) (fun e1 => ?_) (fun j hj hr hz => ?_) (fun j hj hr hz => ?_)⟩
  · refine EV.at ck101 (by decide) 300 [] ?_
    conv => whnf
    try dsimp only
    first | refine ⟨fun h1 => absurd h1 (by decide), fun _ => ?_⟩ | refine ⟨fun _ => ?_, fun h1 => absurd (by decide) h1⟩ | refine ⟨fun h1 => absurd (by decide) h1, fun _ => ?_⟩ | refine ⟨fun _ => ?_, fun h1 => absurd h1 (by decide)⟩
    conv => whnf
    try dsimp only
    exact ⟨trivial, fin (by unfold sp_fault; rw [e1]) hC (by omega) (FC.rf I) (FJ.rf J) h⟩
  · refine EV.at ck101 (by decide) 300 [] ?_
    conv => whnf
    try dsimp only
    first | refine ⟨fun h1 => absurd h1 (by decide), fun _ => ?_⟩ | refine ⟨fun _ => ?_, fun h1 => absurd (by decide) h1⟩ | refine ⟨fun h1 => absurd (by decide) h1, fun _ => ?_⟩ | refine ⟨fun _ => ?_, fun h1 => absurd h1 (by decide)⟩
    conv => whnf
    try dsimp only
    exact ⟨trivial, fin (by unfold sp_fault; rw [hr, ix_nI (by decide) hj]; exact if_pos hz) (hC.fnd (by decide)) (by omega) FC.fnd (FJ.rf J) h⟩
  · subst hr
    have cj : (nI j).toNatClampNeg = j := nI_clamp (by omega)
    refine EV.at ck101 (by decide) 300 [] ?_
    conv => whnf
    try dsimp only
    first | refine ⟨fun h1 => absurd h1 (by decide), fun _ => ?_⟩ | refine ⟨fun _ => ?_, fun h1 => absurd (by decide) h1⟩ | refine ⟨fun h1 => absurd (by decide) h1, fun _ => ?_⟩ | refine ⟨fun _ => ?_, fun h1 => absurd h1 (by decide)⟩
    conv => whnf
    try dsimp only
    refine ⟨in_nI hj (by decide), oS_at cj (txt_g _ hj) ?_⟩
    conv => whnf
    try dsimp only
    refine ⟨trivial, c_read hcT.2 (txt_st hC hO hj hz) (fun I' a1 a2 => ?_)⟩
    refine EV.at ck101 (by decide) 300 [] ?_
    conv => whnf
    try dsimp only
    refine ⟨trivial, fin ?_ (hC.scr (fun r hr => a2 r (by omega)) rfl hcM) (by omega) (fun r hr => a2 r (by omega)) (FJ.rf J) h⟩
    unfold sp_fault
    rw [ix_nI (by decide) hj]
    exact if_neg hz
theorem k_night {r : Int32} : CS G n 102 [.int r] (fun a => sp_night a r) := by
  intro D I J Q a e hO hC he h
  try dsimp only at h
  obtain ⟨hcT, hcF, hcK, hcR, hcX, hcN, hcA, hcU, hcM⟩ := id hC
  obtain ⟨oT, oF, oN, oK, oR, oX⟩ := id hO
  refine MT.by ck102 (by decide) rfl (Nat.le_of_ble_eq_true rfl) rfl 300 [] ?_
  conv => whnf
  try dsimp only
  refine ⟨trivial, c_refuseStrip (sz := aTs a) (str_t n) (by decide) (fun j hj => ⟨by have := oX j hj; omega, (hcX j hj).1⟩) (fun e1 => ?_) (fun j hj hr hz => ?_) (fun j hj hr hz => ?_)⟩
  · refine EV.at ck102 (by decide) 300 [] ?_
    conv => whnf
    try dsimp only
    first | refine ⟨fun h1 => absurd h1 (by decide), fun _ => ?_⟩ | refine ⟨fun _ => ?_, fun h1 => absurd (by decide) h1⟩ | refine ⟨fun h1 => absurd (by decide) h1, fun _ => ?_⟩ | refine ⟨fun _ => ?_, fun h1 => absurd h1 (by decide)⟩
    conv => whnf
    try dsimp only
    exact ⟨trivial, fin (by unfold sp_night; rw [e1]) hC (by omega) (FC.rf I) (FJ.rf J) h⟩
  · refine EV.at ck102 (by decide) 300 [] ?_
    conv => whnf
    try dsimp only
    first | refine ⟨fun h1 => absurd h1 (by decide), fun _ => ?_⟩ | refine ⟨fun _ => ?_, fun h1 => absurd (by decide) h1⟩ | refine ⟨fun h1 => absurd (by decide) h1, fun _ => ?_⟩ | refine ⟨fun _ => ?_, fun h1 => absurd h1 (by decide)⟩
    conv => whnf
    try dsimp only
    exact ⟨trivial, fin (by unfold sp_night; rw [hr, ix_nI (by decide) hj]; exact if_pos hz) (hC.fnd (by decide)) (by omega) FC.fnd (FJ.rf J) h⟩
  subst hr
  have cj : (nI j).toNatClampNeg = j := nI_clamp (by omega)
  have o81 := oX j hj
  unfold sp_night at h
  rw [ix_nI (by decide) hj] at h
  dsimp only at h
  rw [if_neg hz] at h
  have hfin := rdN_fin (sz := aTs a j - 1) (tx := aTc a j) (by omega) 80 P00 P00_ok (Nat.zero_le _)
  have hPok := rdN_ok (sz := aTs a j - 1) (tx := aTc a j) 80 P00 P00_ok
  refine EV.at ck102 (by decide) 300 [] ?_
  conv => whnf
  try dsimp only
  first | refine ⟨fun h1 => absurd h1 (by decide), fun _ => ?_⟩ | refine ⟨fun _ => ?_, fun h1 => absurd (by decide) h1⟩ | refine ⟨fun h1 => absurd (by decide) h1, fun _ => ?_⟩ | refine ⟨fun _ => ?_, fun h1 => absurd h1 (by decide)⟩
  conv => whnf
  try dsimp only
  refine ⟨in_nI hj (by decide), oS_at cj (txt_g _ hj) ?_⟩
  conv => whnf
  try dsimp only
  refine ⟨trivial, c_read hcT.2 (txt_st hC hO hj hz) (fun I1 a1 a2 => ?_)⟩
  have hR : rdN (aTs a j - 1) (aTc a j) 80 P00 = aRd a j := rfl
  rw [hR] at a1 hfin hPok ⊢
  have hC1 := hC.scr (I' := I1) (fun r hr => a2 r (by omega)) rfl hcM
  generalize aRd a j = R at a1 hfin hPok h ⊢
  refine EV.at ck102 (by decide) 300 [] ?_
  conv => whnf
  try dsimp only
  refine ⟨fun z => ?_, fun z => ?_⟩
  case refine_2 =>
    rw [if_neg z] at h
    conv => whnf
    try dsimp only
    exact ⟨trivial, fin rfl hC1 (by omega) (fun r hr => a2 r (by omega)) (FJ.rf J) h⟩
  rw [if_pos z] at h
  have f2 := hfin z
  obtain ⟨p1, p2, p3, p4, p5⟩ := hPok
  have h5 : tS R.2.2.1 ≤ 5 := p1.1
  have h12 : tC R.2.2.1 ≤ 12 := p1.2.2.1
  obtain ⟨b1, b2, b3, b4⟩ := a1
  conv => whnf
  try dsimp only
  refine ⟨trivial, c_takeOverT h5 h12 b1 (fun I2 c1 c2 => ?_)⟩
  refine EV.at ck102 (by decide) 300 [] ?_
  conv => whnf
  try dsimp only
  have s0 := p4 0 (by omega)
  have s1 := p4 1 (by omega)
  refine ⟨trivial, c_begin (c := tC R.2.2.1) (sh := R.2.2.2.2.1) (fi := R.2.2.2.2.2) h12 c1.2.2.1 (by omega) (by omega) (by rw [c2 26 (by omega)]; exact (b4 0 (by omega)).1) (by rw [c2 26 (by omega)]; exact (b4 1 (by omega)).1) (by rw [c2 27 (by omega)]; exact (b4 0 (by omega)).2) (by rw [c2 27 (by omega)]; exact (b4 1 (by omega)).2) (fun I3 d1 d2 d3 d4 => ?_)⟩
  have hC2 := hC1.tab (T := ownT R.2.2.1) c2 c1
  have hC3 := hC2.fgt (I' := I3) (b := true) (F := begF R.2) (fun r hr => d4 r (by omega) (by omega) (by omega)) ⟨d1, d2, d3.1, d3.2, fun i hi => absurd hi (Nat.not_lt_zero i)⟩
  refine EV.at ck102 (by decide) 300 [] ?_
  conv => whnf
  try dsimp only
  first | refine ⟨fun h1 => absurd h1 (by decide), fun _ => ?_⟩ | refine ⟨fun _ => ?_, fun h1 => absurd (by decide) h1⟩ | refine ⟨fun h1 => absurd (by decide) h1, fun _ => ?_⟩ | refine ⟨fun _ => ?_, fun h1 => absurd h1 (by decide)⟩
  conv => whnf
  try dsimp only
  refine ⟨by unfold vp_in; decide, ?_⟩
  conv => whnf
  try dsimp only
  refine ⟨Or.inl rfl, ?_⟩
  conv => whnf
  try dsimp only
  refine ⟨trivial, ?_⟩
  refine EV.at ck102 (by decide) 300 [] ?_
  conv => whnf
  try dsimp only
  first | refine ⟨fun h1 => absurd h1 (by decide), fun _ => ?_⟩ | refine ⟨fun _ => ?_, fun h1 => absurd (by decide) h1⟩ | refine ⟨fun h1 => absurd (by decide) h1, fun _ => ?_⟩ | refine ⟨fun _ => ?_, fun h1 => absurd h1 (by decide)⟩
  conv => whnf
  try dsimp only
  refine ⟨by unfold vp_in; decide, ?_⟩
  conv => whnf
  try dsimp only
  refine ⟨Or.inl rfl, ?_⟩
  conv => whnf
  try dsimp only
  refine ⟨trivial, ?_⟩
  refine EV.at ck102 (by decide) 300 [] ?_
  conv => whnf
  try dsimp only
  first | refine ⟨fun h1 => absurd h1 (by decide), fun _ => ?_⟩ | refine ⟨fun _ => ?_, fun h1 => absurd (by decide) h1⟩ | refine ⟨fun h1 => absurd (by decide) h1, fun _ => ?_⟩ | refine ⟨fun _ => ?_, fun h1 => absurd h1 (by decide)⟩
  conv => whnf
  try dsimp only
  refine ⟨by unfold vp_in; decide, ?_⟩
  conv => whnf
  try dsimp only
  refine ⟨Or.inl rfl, ?_⟩
  conv => whnf
  try dsimp only
  refine ⟨trivial, ?_⟩
  refine EV.at ck102 (by decide) 300 [] ?_
  conv => whnf
  try dsimp only
  first | refine ⟨fun h1 => absurd h1 (by decide), fun _ => ?_⟩ | refine ⟨fun _ => ?_, fun h1 => absurd (by decide) h1⟩ | refine ⟨fun h1 => absurd (by decide) h1, fun _ => ?_⟩ | refine ⟨fun _ => ?_, fun h1 => absurd h1 (by decide)⟩
  conv => whnf
  try dsimp only
  have oo : ∀ r, r < 59 ∨ 76 < r → upI (upI (upI I3 59 1 0) 65 1 0) 71 1 0 r = I3 r := fun r hr => by rw [upI_oth (by omega), upI_oth (by omega), upI_oth (by omega)]
  have hC4 := hC3.kpt (I' := upI (upI (upI I3 59 1 0) 65 1 0) 71 1 0) (K := fun k => (false, (aK a k).2)) oo (fun k hk => ⟨?_, fun hb => Bool.noConfusion hb⟩)
  · rw [oo 6 (by omega), d4 6 (by decide) (by decide) (by decide), c1.1]
    exact ⟨trivial, fin rfl hC4 (by omega) (fun r hr => by rw [oo r (by omega), d4 r (by omega) (by omega) (by omega), c2 r (by omega)]; exact a2 r (by omega)) (FJ.rf J) h⟩
  · rcases (show k = 0 ∨ k = 1 ∨ k = 2 by omega) with rfl | rfl | rfl <;> rfl
theorem k_shape {i w : Int32} : CS G n 103 [.int i, .int w] (fun a => sp_shape a i w) := by
  intro D I J Q a e hO hC he h
  try dsimp only at h
  obtain ⟨hcT, hcF, hcK, hcR, hcX, hcN, hcA, hcU, hcM⟩ := id hC
  obtain ⟨oT, oF, oN, oK, oR, oX⟩ := id hO
  have h5 : tS (aT a) ≤ 5 := oT.1.1
  unfold sp_shape at h
  refine MT.by ck103 (by decide) rfl (Nat.le_of_ble_eq_true rfl) rfl 300 [] ?_
  conv => whnf
  try dsimp only
  refine ⟨trivial, c_wi hcT.1.1 (by omega) (fun e1 => ?_) (fun j hj hr e1 => ?_)⟩
  · refine EV.at ck103 (by decide) 300 [] ?_
    conv => whnf
    try dsimp only
    first | refine ⟨fun h1 => absurd h1 (by decide), fun _ => ?_⟩ | refine ⟨fun _ => ?_, fun h1 => absurd (by decide) h1⟩ | refine ⟨fun h1 => absurd (by decide) h1, fun _ => ?_⟩ | refine ⟨fun _ => ?_, fun h1 => absurd h1 (by decide)⟩
    conv => whnf
    try dsimp only
    exact ⟨trivial, fin (by rw [e1]) hC (by omega) (FC.rf I) (FJ.rf J) h⟩
  rw [e1] at h
  dsimp only at h
  subst hr
  refine EV.at ck103 (by decide) 300 [] ?_
  conv => whnf
  try dsimp only
  first | refine ⟨fun h1 => absurd h1 (by decide), fun _ => ?_⟩ | refine ⟨fun _ => ?_, fun h1 => absurd (by decide) h1⟩ | refine ⟨fun h1 => absurd (by decide) h1, fun _ => ?_⟩ | refine ⟨fun _ => ?_, fun h1 => absurd h1 (by decide)⟩
  conv => whnf
  try dsimp only
  refine ⟨trivial, c_wi (K := 4) rfl (by decide) (fun e2 => ?_) (fun l hl hr e2 => ?_)⟩
  · refine EV.at ck103 (by decide) 300 [] ?_
    conv => whnf
    try dsimp only
    first | refine ⟨fun h1 => absurd h1 (by decide), fun _ => ?_⟩ | refine ⟨fun _ => ?_, fun h1 => absurd (by decide) h1⟩ | refine ⟨fun h1 => absurd (by decide) h1, fun _ => ?_⟩ | refine ⟨fun _ => ?_, fun h1 => absurd h1 (by decide)⟩
    conv => whnf
    try dsimp only
    exact ⟨trivial, fin (by rw [e2]) hC (by omega) (FC.rf I) (FJ.rf J) h⟩
  rw [e2] at h
  subst hr
  refine EV.at ck103 (by decide) 300 [] ?_
  conv => whnf
  try dsimp only
  first | refine ⟨fun h1 => absurd h1 (by decide), fun _ => ?_⟩ | refine ⟨fun _ => ?_, fun h1 => absurd (by decide) h1⟩ | refine ⟨fun h1 => absurd (by decide) h1, fun _ => ?_⟩ | refine ⟨fun _ => ?_, fun h1 => absurd h1 (by decide)⟩
  conv => whnf
  try dsimp only
  refine ⟨trivial, c_aboutShape oT.1 hcT.1 hj ?_⟩
  rw [about_eq oT.1 hcT.1 hj hl]
  refine EV.at ck103 (by decide) 300 [] ?_
  conv => whnf
  try dsimp only
  refine ⟨trivial, c_tell ?_⟩
  refine EV.at ck103 (by decide) 300 [] ?_
  conv => whnf
  try dsimp only
  exact ⟨trivial, fin rfl hC.ask (by omega) (fun r hr => upI_oth (by omega)) (FJ.rf J) h⟩
theorem c_aboutChange {T : TN} {q : Nat → SD} {k w : Nat} (hT : tOK T) (hM : tMem T I) (hm : fMem q I) (hv : vQ T q) (hk : k < tC T) (hw : w < 4) (h : Q (some (.int (cgI T q k w))) (SH n, I, J)) : MT G (d + 3) 154 [.ref 3, .int (nI k), .int (nI w)] (SH n, I, J) Q := by
  have h12 : tC T ≤ 12 := hT.2.2.1
  have ck : (nI k).toNatClampNeg = k := nI_clamp (by omega)
  obtain ⟨m9, m10, m11⟩ := hM.2.2.2 k hk
  rcases (show w = 0 ∨ w = 1 ∨ w = 2 ∨ w = 3 by omega) with rfl | rfl | rfl | rfl
  · refine MT.by ck154 (by decide) rfl (Nat.le_of_ble_eq_true rfl) rfl 300 [] ?_
    conv => whnf
    try dsimp only
    first | refine ⟨fun h1 => absurd h1 (by decide), fun _ => ?_⟩ | refine ⟨fun _ => ?_, fun h1 => absurd (by decide) h1⟩ | refine ⟨fun h1 => absurd (by decide) h1, fun _ => ?_⟩ | refine ⟨fun _ => ?_, fun h1 => absurd h1 (by decide)⟩
    conv => whnf
    try dsimp only
    refine ⟨in_nI (show k < 12 by omega) (by decide), ?_⟩
    conv => whnf
    try dsimp only
    rw [ck, m9]
    exact ⟨trivial, h⟩
  · refine MT.by ck154 (by decide) rfl (Nat.le_of_ble_eq_true rfl) rfl 300 [] ?_
    conv => whnf
    try dsimp only
    first | refine ⟨fun h1 => absurd h1 (by decide), fun _ => ?_⟩ | refine ⟨fun _ => ?_, fun h1 => absurd (by decide) h1⟩ | refine ⟨fun h1 => absurd (by decide) h1, fun _ => ?_⟩ | refine ⟨fun _ => ?_, fun h1 => absurd h1 (by decide)⟩
    conv => whnf
    try dsimp only
    first | refine ⟨fun h1 => absurd h1 (by decide), fun _ => ?_⟩ | refine ⟨fun _ => ?_, fun h1 => absurd (by decide) h1⟩ | refine ⟨fun h1 => absurd (by decide) h1, fun _ => ?_⟩ | refine ⟨fun _ => ?_, fun h1 => absurd h1 (by decide)⟩
    conv => whnf
    try dsimp only
    refine ⟨in_nI (show k < 12 by omega) (by decide), ?_⟩
    conv => whnf
    try dsimp only
    rw [ck, m10]
    exact ⟨trivial, h⟩
  · refine MT.by ck154 (by decide) rfl (Nat.le_of_ble_eq_true rfl) rfl 300 [] ?_
    conv => whnf
    try dsimp only
    first | refine ⟨fun h1 => absurd h1 (by decide), fun _ => ?_⟩ | refine ⟨fun _ => ?_, fun h1 => absurd (by decide) h1⟩ | refine ⟨fun h1 => absurd (by decide) h1, fun _ => ?_⟩ | refine ⟨fun _ => ?_, fun h1 => absurd h1 (by decide)⟩
    conv => whnf
    try dsimp only
    first | refine ⟨fun h1 => absurd h1 (by decide), fun _ => ?_⟩ | refine ⟨fun _ => ?_, fun h1 => absurd (by decide) h1⟩ | refine ⟨fun h1 => absurd (by decide) h1, fun _ => ?_⟩ | refine ⟨fun _ => ?_, fun h1 => absurd h1 (by decide)⟩
    conv => whnf
    try dsimp only
    first | refine ⟨fun h1 => absurd h1 (by decide), fun _ => ?_⟩ | refine ⟨fun _ => ?_, fun h1 => absurd (by decide) h1⟩ | refine ⟨fun h1 => absurd (by decide) h1, fun _ => ?_⟩ | refine ⟨fun _ => ?_, fun h1 => absurd h1 (by decide)⟩
    conv => whnf
    try dsimp only
    refine ⟨in_nI (show k < 12 by omega) (by decide), ?_⟩
    conv => whnf
    try dsimp only
    rw [ck, m11]
    exact ⟨trivial, h⟩
  · refine MT.by ck154 (by decide) rfl (Nat.le_of_ble_eq_true rfl) rfl 300 [] ?_
    conv => whnf
    try dsimp only
    first | refine ⟨fun h1 => absurd h1 (by decide), fun _ => ?_⟩ | refine ⟨fun _ => ?_, fun h1 => absurd (by decide) h1⟩ | refine ⟨fun h1 => absurd (by decide) h1, fun _ => ?_⟩ | refine ⟨fun _ => ?_, fun h1 => absurd h1 (by decide)⟩
    conv => whnf
    try dsimp only
    first | refine ⟨fun h1 => absurd h1 (by decide), fun _ => ?_⟩ | refine ⟨fun _ => ?_, fun h1 => absurd (by decide) h1⟩ | refine ⟨fun h1 => absurd (by decide) h1, fun _ => ?_⟩ | refine ⟨fun _ => ?_, fun h1 => absurd h1 (by decide)⟩
    conv => whnf
    try dsimp only
    first | refine ⟨fun h1 => absurd h1 (by decide), fun _ => ?_⟩ | refine ⟨fun _ => ?_, fun h1 => absurd (by decide) h1⟩ | refine ⟨fun h1 => absurd (by decide) h1, fun _ => ?_⟩ | refine ⟨fun _ => ?_, fun h1 => absurd h1 (by decide)⟩
    conv => whnf
    try dsimp only
    refine ⟨trivial, c_whoKnows hm hv.1.2.2.2 hv.2.2.2.2 (by omega) ?_⟩
    refine EV.at ck154 (by decide) 300 [] ?_
    conv => whnf
    try dsimp only
    exact ⟨trivial, h⟩
theorem gf {F : FG} (h : gMem 12 F I) : fMem F.1 I := ⟨h.2.1, h.2.2.1⟩
theorem k_change {i w : Int32} : CS G n 104 [.int i, .int w] (fun a => sp_change a i w) := by
  intro D I J Q a e hO hC he h
  try dsimp only at h
  obtain ⟨hcT, hcF, hcK, hcR, hcX, hcN, hcA, hcU, hcM⟩ := id hC
  obtain ⟨oT, oF, oN, oK, oR, oX⟩ := id hO
  have h12 : tC (aT a) ≤ 12 := oT.1.2.2.1
  unfold sp_change at h
  refine MT.by ck104 (by decide) rfl (Nat.le_of_ble_eq_true rfl) rfl 300 [] ?_
  conv => whnf
  try dsimp only
  refine ⟨trivial, c_wi hcT.1.2.2.1 (by omega) (fun e1 => ?_) (fun j hj hr e1 => ?_)⟩
  · refine EV.at ck104 (by decide) 300 [] ?_
    conv => whnf
    try dsimp only
    first | refine ⟨fun h1 => absurd h1 (by decide), fun _ => ?_⟩ | refine ⟨fun _ => ?_, fun h1 => absurd (by decide) h1⟩ | refine ⟨fun h1 => absurd (by decide) h1, fun _ => ?_⟩ | refine ⟨fun _ => ?_, fun h1 => absurd h1 (by decide)⟩
    conv => whnf
    try dsimp only
    exact ⟨trivial, fin (by rw [e1]) hC (by omega) (FC.rf I) (FJ.rf J) h⟩
  rw [e1] at h
  dsimp only at h
  subst hr
  refine EV.at ck104 (by decide) 300 [] ?_
  conv => whnf
  try dsimp only
  first | refine ⟨fun h1 => absurd h1 (by decide), fun _ => ?_⟩ | refine ⟨fun _ => ?_, fun h1 => absurd (by decide) h1⟩ | refine ⟨fun h1 => absurd (by decide) h1, fun _ => ?_⟩ | refine ⟨fun _ => ?_, fun h1 => absurd h1 (by decide)⟩
  conv => whnf
  try dsimp only
  refine ⟨trivial, c_wi (K := 4) rfl (by decide) (fun e2 => ?_) (fun l hl hr e2 => ?_)⟩
  · refine EV.at ck104 (by decide) 300 [] ?_
    conv => whnf
    try dsimp only
    first | refine ⟨fun h1 => absurd h1 (by decide), fun _ => ?_⟩ | refine ⟨fun _ => ?_, fun h1 => absurd (by decide) h1⟩ | refine ⟨fun h1 => absurd (by decide) h1, fun _ => ?_⟩ | refine ⟨fun _ => ?_, fun h1 => absurd h1 (by decide)⟩
    conv => whnf
    try dsimp only
    exact ⟨trivial, fin (by rw [e2]) hC (by omega) (FC.rf I) (FJ.rf J) h⟩
  rw [e2] at h
  subst hr
  have hv := (oF (aH_of hO (Or.inr (by omega)))).1
  refine EV.at ck104 (by decide) 300 [] ?_
  conv => whnf
  try dsimp only
  first | refine ⟨fun h1 => absurd h1 (by decide), fun _ => ?_⟩ | refine ⟨fun _ => ?_, fun h1 => absurd (by decide) h1⟩ | refine ⟨fun h1 => absurd (by decide) h1, fun _ => ?_⟩ | refine ⟨fun _ => ?_, fun h1 => absurd h1 (by decide)⟩
  conv => whnf
  try dsimp only
  refine ⟨trivial, c_aboutChange oT.1 hcT.1 (gf hcF.2) hv hj hl ?_⟩
  refine EV.at ck104 (by decide) 300 [] ?_
  conv => whnf
  try dsimp only
  refine ⟨trivial, c_tell ?_⟩
  refine EV.at ck104 (by decide) 300 [] ?_
  conv => whnf
  try dsimp only
  exact ⟨trivial, fin rfl hC.ask (by omega) (fun r hr => upI_oth (by omega)) (FJ.rf J) h⟩
theorem k_mark {i w : Int32} : CS G n 105 [.int i, .int w] (fun a => sp_mark a i w) := by
  intro D I J Q a e hO hC he h
  try dsimp only at h
  obtain ⟨hcT, hcF, hcK, hcR, hcX, hcN, hcA, hcU, hcM⟩ := id hC
  obtain ⟨oT, oF, oN, oK, oR, oX⟩ := id hO
  have h5 : tS (aT a) ≤ 5 := oT.1.1
  have h12 : tC (aT a) ≤ 12 := oT.1.2.2.1
  unfold sp_mark at h
  refine MT.by ck105 (by decide) rfl (Nat.le_of_ble_eq_true rfl) rfl 300 [] ?_
  conv => whnf
  try dsimp only
  refine ⟨trivial, c_wi hcT.1.1 (by omega) (fun e1 => ?_) (fun j hj hr e1 => ?_)⟩
  · refine EV.at ck105 (by decide) 300 [] ?_
    conv => whnf
    try dsimp only
    first | refine ⟨fun h1 => absurd h1 (by decide), fun _ => ?_⟩ | refine ⟨fun _ => ?_, fun h1 => absurd (by decide) h1⟩ | refine ⟨fun h1 => absurd (by decide) h1, fun _ => ?_⟩ | refine ⟨fun _ => ?_, fun h1 => absurd h1 (by decide)⟩
    conv => whnf
    try dsimp only
    exact ⟨trivial, fin (by rw [e1]) hC (by omega) (FC.rf I) (FJ.rf J) h⟩
  rw [e1] at h
  dsimp only at h
  subst hr
  have hv := (oF (aH_of hO (Or.inl (by omega)))).1
  obtain ⟨kq, -⟩ := oT.1.2.1 j hj
  refine EV.at ck105 (by decide) 300 [] ?_
  conv => whnf
  try dsimp only
  first | refine ⟨fun h1 => absurd h1 (by decide), fun _ => ?_⟩ | refine ⟨fun _ => ?_, fun h1 => absurd (by decide) h1⟩ | refine ⟨fun h1 => absurd (by decide) h1, fun _ => ?_⟩ | refine ⟨fun _ => ?_, fun h1 => absurd h1 (by decide)⟩
  conv => whnf
  try dsimp only
  rcases ix_cases (n := 6) (by decide) w with ⟨e2, e3⟩ | ⟨k, hk, rfl, e2, e3⟩
  · rw [e2] at h
    refine ⟨fun z1 => ?_, fun z1 => ?_⟩
    · conv => whnf
      try dsimp only
      exact ⟨trivial, fin rfl hC (by omega) (FC.rf I) (FJ.rf J) h⟩
    conv => whnf
    try dsimp only
    refine ⟨fun z2 => ?_, fun z2 => ?_⟩
    · exact absurd ⟨Int32.le_trans (by decide) (Int32.not_lt.mp z1), Int32.lt_of_le_of_lt z2 (by decide)⟩ (of_decide_eq_false e3)
    conv => whnf
    try dsimp only
    exact ⟨trivial, fin rfl hC (by omega) (FC.rf I) (FJ.rf J) h⟩
  rw [e2] at h
  dsimp only at h
  by_cases k0 : k = 0
  · rw [if_pos k0] at h
    subst k0
    first | refine ⟨fun h1 => absurd h1 (by decide), fun _ => ?_⟩ | refine ⟨fun _ => ?_, fun h1 => absurd (by decide) h1⟩ | refine ⟨fun h1 => absurd (by decide) h1, fun _ => ?_⟩ | refine ⟨fun _ => ?_, fun h1 => absurd h1 (by decide)⟩
    conv => whnf
    try dsimp only
    exact ⟨trivial, fin rfl hC (by omega) (FC.rf I) (FJ.rf J) h⟩
  rw [if_neg k0] at h
  refine ⟨fun z1 => absurd z1 (nI_nlt (b := 1) (by omega) (by omega)), fun z1 => ?_⟩
  conv => whnf
  try dsimp only
  refine ⟨fun z2 => ?_, fun z2 => absurd (nI_le (b := 5) (by omega) (by decide)) z2⟩
  conv => whnf
  try dsimp only
  refine ⟨trivial, c_isOf (show j < 5 by omega) kq (hcT.1.2.1 j hj).1 hcT.2 ?_⟩
  rw [isB_isK _ kq k hk (by omega)]
  cases hb : isB (tK (aT a) j) k
  · rw [hb] at h
    refine EV.at ck105 (by decide) 300 [] ?_
    conv => whnf
    try dsimp only
    first | refine ⟨fun h1 => absurd h1 (by decide), fun _ => ?_⟩ | refine ⟨fun _ => ?_, fun h1 => absurd (by decide) h1⟩ | refine ⟨fun h1 => absurd (by decide) h1, fun _ => ?_⟩ | refine ⟨fun _ => ?_, fun h1 => absurd h1 (by decide)⟩
    conv => whnf
    try dsimp only
    refine ⟨trivial, c_find (f := 3) (by decide) ?_⟩
    refine EV.at ck105 (by decide) 300 [] ?_
    conv => whnf
    try dsimp only
    exact ⟨trivial, fin rfl (hC.fnd (by decide)) (by omega) FC.fnd (FJ.rf J) h⟩
  rw [hb, if_pos rfl] at h
  rcases (show k = 1 ∨ k = 2 ∨ k = 3 ∨ k = 4 ∨ k = 5 by omega) with rfl | rfl | rfl | rfl | rfl
  · refine EV.at ck105 (by decide) 300 [] ?_
    conv => whnf
    try dsimp only
    first | refine ⟨fun h1 => absurd h1 (by decide), fun _ => ?_⟩ | refine ⟨fun _ => ?_, fun h1 => absurd (by decide) h1⟩ | refine ⟨fun h1 => absurd (by decide) h1, fun _ => ?_⟩ | refine ⟨fun _ => ?_, fun h1 => absurd h1 (by decide)⟩
    conv => whnf
    try dsimp only
    first | refine ⟨fun h1 => absurd h1 (by decide), fun _ => ?_⟩ | refine ⟨fun _ => ?_, fun h1 => absurd (by decide) h1⟩ | refine ⟨fun h1 => absurd (by decide) h1, fun _ => ?_⟩ | refine ⟨fun _ => ?_, fun h1 => absurd h1 (by decide)⟩
    conv => whnf
    try dsimp only
    refine ⟨trivial, c_cheapestInto h12 hcT.1.2.2.1 ?_⟩
    rw [chp_eq oT.1 hcT.1 (by omega) _ (Nat.le_refl _)]
    refine EV.at ck105 (by decide) 300 [] ?_
    conv => whnf
    try dsimp only
    exact ⟨trivial, fin rfl hC (by omega) (FC.rf I) (FJ.rf J) h⟩
  · refine EV.at ck105 (by decide) 300 [] ?_
    conv => whnf
    try dsimp only
    first | refine ⟨fun h1 => absurd h1 (by decide), fun _ => ?_⟩ | refine ⟨fun _ => ?_, fun h1 => absurd (by decide) h1⟩ | refine ⟨fun h1 => absurd (by decide) h1, fun _ => ?_⟩ | refine ⟨fun _ => ?_, fun h1 => absurd h1 (by decide)⟩
    conv => whnf
    try dsimp only
    first | refine ⟨fun h1 => absurd h1 (by decide), fun _ => ?_⟩ | refine ⟨fun _ => ?_, fun h1 => absurd (by decide) h1⟩ | refine ⟨fun h1 => absurd (by decide) h1, fun _ => ?_⟩ | refine ⟨fun _ => ?_, fun h1 => absurd h1 (by decide)⟩
    conv => whnf
    try dsimp only
    first | refine ⟨fun h1 => absurd h1 (by decide), fun _ => ?_⟩ | refine ⟨fun _ => ?_, fun h1 => absurd (by decide) h1⟩ | refine ⟨fun h1 => absurd (by decide) h1, fun _ => ?_⟩ | refine ⟨fun _ => ?_, fun h1 => absurd h1 (by decide)⟩
    conv => whnf
    try dsimp only
    refine ⟨trivial, c_whoUsed (gf hcF.2) hv.1.2.2.1 hv.2.2.2.1 (by omega) ?_⟩
    refine EV.at ck105 (by decide) 300 [] ?_
    conv => whnf
    try dsimp only
    exact ⟨trivial, fin rfl hC (by omega) (FC.rf I) (FJ.rf J) h⟩
  · refine EV.at ck105 (by decide) 300 [] ?_
    conv => whnf
    try dsimp only
    first | refine ⟨fun h1 => absurd h1 (by decide), fun _ => ?_⟩ | refine ⟨fun _ => ?_, fun h1 => absurd (by decide) h1⟩ | refine ⟨fun h1 => absurd (by decide) h1, fun _ => ?_⟩ | refine ⟨fun _ => ?_, fun h1 => absurd h1 (by decide)⟩
    conv => whnf
    try dsimp only
    first | refine ⟨fun h1 => absurd h1 (by decide), fun _ => ?_⟩ | refine ⟨fun _ => ?_, fun h1 => absurd (by decide) h1⟩ | refine ⟨fun h1 => absurd (by decide) h1, fun _ => ?_⟩ | refine ⟨fun _ => ?_, fun h1 => absurd h1 (by decide)⟩
    conv => whnf
    try dsimp only
    first | refine ⟨fun h1 => absurd h1 (by decide), fun _ => ?_⟩ | refine ⟨fun _ => ?_, fun h1 => absurd (by decide) h1⟩ | refine ⟨fun h1 => absurd (by decide) h1, fun _ => ?_⟩ | refine ⟨fun _ => ?_, fun h1 => absurd h1 (by decide)⟩
    conv => whnf
    try dsimp only
    first | refine ⟨fun h1 => absurd h1 (by decide), fun _ => ?_⟩ | refine ⟨fun _ => ?_, fun h1 => absurd (by decide) h1⟩ | refine ⟨fun h1 => absurd (by decide) h1, fun _ => ?_⟩ | refine ⟨fun _ => ?_, fun h1 => absurd h1 (by decide)⟩
    conv => whnf
    try dsimp only
    refine ⟨trivial, c_changesFrom h12 hcT.1.2.2.1 ?_⟩
    rw [cf_eq oT.1 hcT.1 (by omega)]
    refine EV.at ck105 (by decide) 300 [] ?_
    conv => whnf
    try dsimp only
    exact ⟨trivial, fin rfl hC (by omega) (FC.rf I) (FJ.rf J) h⟩
  · refine EV.at ck105 (by decide) 300 [] ?_
    conv => whnf
    try dsimp only
    first | refine ⟨fun h1 => absurd h1 (by decide), fun _ => ?_⟩ | refine ⟨fun _ => ?_, fun h1 => absurd (by decide) h1⟩ | refine ⟨fun h1 => absurd (by decide) h1, fun _ => ?_⟩ | refine ⟨fun _ => ?_, fun h1 => absurd h1 (by decide)⟩
    conv => whnf
    try dsimp only
    first | refine ⟨fun h1 => absurd h1 (by decide), fun _ => ?_⟩ | refine ⟨fun _ => ?_, fun h1 => absurd (by decide) h1⟩ | refine ⟨fun h1 => absurd (by decide) h1, fun _ => ?_⟩ | refine ⟨fun _ => ?_, fun h1 => absurd h1 (by decide)⟩
    conv => whnf
    try dsimp only
    first | refine ⟨fun h1 => absurd h1 (by decide), fun _ => ?_⟩ | refine ⟨fun _ => ?_, fun h1 => absurd (by decide) h1⟩ | refine ⟨fun h1 => absurd (by decide) h1, fun _ => ?_⟩ | refine ⟨fun _ => ?_, fun h1 => absurd h1 (by decide)⟩
    conv => whnf
    try dsimp only
    first | refine ⟨fun h1 => absurd h1 (by decide), fun _ => ?_⟩ | refine ⟨fun _ => ?_, fun h1 => absurd (by decide) h1⟩ | refine ⟨fun h1 => absurd (by decide) h1, fun _ => ?_⟩ | refine ⟨fun _ => ?_, fun h1 => absurd h1 (by decide)⟩
    conv => whnf
    try dsimp only
    first | refine ⟨fun h1 => absurd h1 (by decide), fun _ => ?_⟩ | refine ⟨fun _ => ?_, fun h1 => absurd (by decide) h1⟩ | refine ⟨fun h1 => absurd (by decide) h1, fun _ => ?_⟩ | refine ⟨fun _ => ?_, fun h1 => absurd h1 (by decide)⟩
    conv => whnf
    try dsimp only
    refine ⟨trivial, c_beatersOf (by omega) h5 hcT.1.1 ?_⟩
    have hp : 2 ^ tS (aT a) ≤ 2 ^ 5 := Nat.pow_le_pow_right (by decide) h5
    have l2 : orN (fun x => btT (aT a) x j) (tS (aT a)) < 2 ^ tS (aT a) := orN_lt _
    rw [bset_or (g := fun x => btT (aT a) x j) _ (by omega) (fun k hk => bt_eq oT.1 hcT.1 hk hj)]
    refine EV.at ck105 (by decide) 300 [] ?_
    conv => whnf
    try dsimp only
    refine ⟨trivial, c_bitCount ?_⟩
    rw [nu_pop _ (by omega)]
    refine EV.at ck105 (by decide) 300 [] ?_
    conv => whnf
    try dsimp only
    exact ⟨trivial, fin rfl hC (by omega) (FC.rf I) (FJ.rf J) h⟩
  · refine EV.at ck105 (by decide) 300 [] ?_
    conv => whnf
    try dsimp only
    first | refine ⟨fun h1 => absurd h1 (by decide), fun _ => ?_⟩ | refine ⟨fun _ => ?_, fun h1 => absurd (by decide) h1⟩ | refine ⟨fun h1 => absurd (by decide) h1, fun _ => ?_⟩ | refine ⟨fun _ => ?_, fun h1 => absurd h1 (by decide)⟩
    conv => whnf
    try dsimp only
    first | refine ⟨fun h1 => absurd h1 (by decide), fun _ => ?_⟩ | refine ⟨fun _ => ?_, fun h1 => absurd (by decide) h1⟩ | refine ⟨fun h1 => absurd (by decide) h1, fun _ => ?_⟩ | refine ⟨fun _ => ?_, fun h1 => absurd h1 (by decide)⟩
    conv => whnf
    try dsimp only
    first | refine ⟨fun h1 => absurd h1 (by decide), fun _ => ?_⟩ | refine ⟨fun _ => ?_, fun h1 => absurd (by decide) h1⟩ | refine ⟨fun h1 => absurd (by decide) h1, fun _ => ?_⟩ | refine ⟨fun _ => ?_, fun h1 => absurd h1 (by decide)⟩
    conv => whnf
    try dsimp only
    first | refine ⟨fun h1 => absurd h1 (by decide), fun _ => ?_⟩ | refine ⟨fun _ => ?_, fun h1 => absurd (by decide) h1⟩ | refine ⟨fun h1 => absurd (by decide) h1, fun _ => ?_⟩ | refine ⟨fun _ => ?_, fun h1 => absurd h1 (by decide)⟩
    conv => whnf
    try dsimp only
    first | refine ⟨fun h1 => absurd h1 (by decide), fun _ => ?_⟩ | refine ⟨fun _ => ?_, fun h1 => absurd (by decide) h1⟩ | refine ⟨fun h1 => absurd (by decide) h1, fun _ => ?_⟩ | refine ⟨fun _ => ?_, fun h1 => absurd h1 (by decide)⟩
    conv => whnf
    try dsimp only
    refine ⟨trivial, c_beasts h5 hcT.1.1 ?_⟩
    rw [bea_eq oT.1 hcT.1 (by omega) _ (Nat.le_refl _)]
    refine EV.at ck105 (by decide) 300 [] ?_
    conv => whnf
    try dsimp only
    exact ⟨trivial, fin rfl hC (by omega) (FC.rf I) (FJ.rf J) h⟩
end
