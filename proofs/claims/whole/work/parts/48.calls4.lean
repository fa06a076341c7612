/-! the class's calls: the fight solved, fights told -/
theorem sameM.j3 {J J' : Nat → Nat → Int64} (h : sameM J J') : J' 3 = J 3 := h 3 (by decide) (by decide) (by decide)
theorem sameM.fj {J J' : Nat → Nat → Int64} (h : sameM J J') : FJ J J' := fun r hr => h r (by omega) (by omega) (by omega)
theorem fol_ok {T : TN} {rw' : Nat → Nat} (hT : tOK T) : ∀ m i q w, w < 2 → vQ T q → (∀ x, i ≤ x → x < i + m → rw' x < tC T) → vQ T (fol T rw' m i q w).2 ∧ (((fol T rw' m i q w).2 0).2.2.2 = (q 0).2.2.2 ∧ ((fol T rw' m i q w).2 1).2.2.2 = (q 1).2.2.2)
  | 0, i, q, w, _, hv, _ => ⟨hv, rfl, rfl⟩
  | m + 1, i, q, w, hw, hv, hr => by
    unfold fol
    split
    · obtain ⟨h1, h2, h3⟩ := fol_ok (rw' := rw') hT m (i + 1) (stepQ T q w (rw' i)) (1 - w) (by omega) (vQ_step hT hw (hr i (by omega) (by omega)) hv) (fun x h1 h2 => hr x (by omega) (by omega))
      exact ⟨h1, by rw [h2, knows_step], by rw [h3, knows_step]⟩
    · exact ⟨hv, rfl, rfl⟩
theorem allW_congr {f g : Nat → Int32} {e : Int32} : ∀ m, (∀ i, i < m → f i = g i) → allW f e m = allW g e m
  | 0, _ => rfl
  | m + 1, h => by rw [allW, allW, allW_congr m (fun i hi => h i (by omega)), h m (by omega)]
theorem allW_at {f : Nat → Int32} {e : Nat} (he : e < 65536) : ∀ m, allW f (nI e) m = true → ∀ i, i < m → (f i).toNatClampNeg < e ∧ f i = nI (f i).toNatClampNeg
  | 0, _, i, hi => by omega
  | m + 1, h, i, hi => by
    rw [allW, Bool.and_eq_true, decide_eq_true_eq] at h
    by_cases hm : i = m
    · subst hm
      obtain ⟨j, hj, e2⟩ := nI_of (Int32.not_lt.mpr h.2.1)
      have h3 := h.2.2
      rw [e2] at h3 ⊢
      rw [nI_clamp hj]
      exact ⟨(nI_ltI hj (by omega)).mp h3, rfl⟩
    · exact allW_at he m h.1 i (by omega)
theorem tld_ok {a : AB} {j most e : Nat} (he : e < 65536) (h : tld a j most e = 0) : aRs a j ≠ 0 ∧ aRs a j - 1 ≤ most ∧ ∀ i, i < aRs a j - 1 → rwN a j i < e ∧ aRc a j i = nI (rwN a j i) := by
  unfold tld at h
  split at h
  · omega
  · split at h
    · omega
    · split at h
      · rename_i h1 h2 h3
        exact ⟨h1, by omega, allW_at he _ h3⟩
      · omega
theorem fd_ask {I : Nat → Nat → Int32} {q q' : Nat → SD} {x : Int32} (hm : fMem q I) : fdI (upI (fdI I q') 3 13 x) q = upI I 3 13 x := by
  funext r
  by_cases h3 : r = 3
  · subst h3
    rw [fd_oth (by decide) (by decide), up_cg (fd_oth (by decide) (by decide))]
  · rw [upI_oth h3, fd_row (upI_oth h3), fd_fd, fd_self hm]
section
variable {G : GG} {d n : Nat} {I : Nat → Nat → Int32} {J : Nat → Nat → Int64} {Q : Option Value → MH → Prop}
theorem k_wins : CS G n 117 [] sp_wins := by
  intro D I J Q a e hO hC he h
  try dsimp only at h
  obtain ⟨hcT, hcF, hcK, hcR, hcX, hcN, hcA, hcU, hcM⟩ := id hC
  obtain ⟨oT, oF, oN, oK, oR, oX⟩ := id hO
  unfold sp_wins at h
  cases hh : aH a
  · rw [hh] at h
    refine MT.by ck117 (by decide) rfl (Nat.le_of_ble_eq_true rfl) rfl 300 [] ?_
    conv => whnf
    try dsimp only
    rw [hcF.1, hh]
    first | refine ⟨fun h1 => absurd h1 (by decide), fun _ => ?_⟩ | refine ⟨fun _ => ?_, fun h1 => absurd (by decide) h1⟩ | refine ⟨fun h1 => absurd (by decide) h1, fun _ => ?_⟩ | refine ⟨fun _ => ?_, fun h1 => absurd h1 (by decide)⟩
    conv => whnf
    try dsimp only
    exact ⟨trivial, fin rfl hC (by omega) (FC.rf I) (FJ.rf J) h⟩
  rw [hh, if_pos rfl] at h
  have hv := (oF hh).1
  have hz : az a ≤ 40 := (oF hh).2.1
  refine MT.by ck117 (by decide) rfl (Nat.le_of_ble_eq_true rfl) rfl 300 [] ?_
  conv => whnf
  try dsimp only
  rw [hcF.1, hh]
  first | refine ⟨fun h1 => absurd h1 (by decide), fun _ => ?_⟩ | refine ⟨fun _ => ?_, fun h1 => absurd (by decide) h1⟩ | refine ⟨fun h1 => absurd (by decide) h1, fun _ => ?_⟩ | refine ⟨fun _ => ?_, fun h1 => absurd h1 (by decide)⟩
  conv => whnf
  try dsimp only
  refine ⟨trivial, c_firstWinning (d := D + 19) oT.1 hcT.1 hcT.2 (gf hcF.2) hv hz hcF.2.1 hcM (by omega) (fun J' g1 g2 => ?_)⟩
  have hC1 := (hC.scr (I' := I) (fun _ _ => rfl) g2.j3 g1).ask (x := firstI (winP (aT a) (aq a) (aw a)) (tC (aT a)) 0)
  refine EV.at ck117 (by decide) 300 [] ?_
  conv => whnf
  try dsimp only
  refine ⟨fun z => ?_, fun z => ?_⟩
  · conv => whnf
    try dsimp only
    have z : ¬ firstI (winP (aT a) (aq a) (aw a)) (tC (aT a)) 0 = -9 := z
    exact ⟨trivial, fin (by rw [if_neg z]) hC1 (by omega) (fun r hr => upI_oth (by omega)) g2.fj h⟩
  · conv => whnf
    try dsimp only
    have z : firstI (winP (aT a) (aq a) (aw a)) (tC (aT a)) 0 = -9 := z
    exact ⟨trivial, fin (by rw [if_pos z]) hC1 (by omega) (fun r hr => upI_oth (by omega)) g2.fj h⟩
theorem k_ends : CS G n 118 [] sp_ends := by
  intro D I J Q a e hO hC he h
  try dsimp only at h
  obtain ⟨hcT, hcF, hcK, hcR, hcX, hcN, hcA, hcU, hcM⟩ := id hC
  obtain ⟨oT, oF, oN, oK, oR, oX⟩ := id hO
  unfold sp_ends at h
  cases hh : aH a
  · rw [hh] at h
    refine MT.by ck118 (by decide) rfl (Nat.le_of_ble_eq_true rfl) rfl 300 [] ?_
    conv => whnf
    try dsimp only
    rw [hcF.1, hh]
    first | refine ⟨fun h1 => absurd h1 (by decide), fun _ => ?_⟩ | refine ⟨fun _ => ?_, fun h1 => absurd (by decide) h1⟩ | refine ⟨fun h1 => absurd (by decide) h1, fun _ => ?_⟩ | refine ⟨fun _ => ?_, fun h1 => absurd h1 (by decide)⟩
    conv => whnf
    try dsimp only
    exact ⟨trivial, fin rfl hC (by omega) (FC.rf I) (FJ.rf J) h⟩
  rw [hh, if_pos rfl] at h
  have hv := (oF hh).1
  have hz : az a ≤ 40 := (oF hh).2.1
  have hL : aEn a ≤ 10 := endsF_le (aT a) 10 _ _
  refine MT.by ck118 (by decide) rfl (Nat.le_of_ble_eq_true rfl) rfl 300 [] ?_
  conv => whnf
  try dsimp only
  rw [hcF.1, hh]
  first | refine ⟨fun h1 => absurd h1 (by decide), fun _ => ?_⟩ | refine ⟨fun _ => ?_, fun h1 => absurd (by decide) h1⟩ | refine ⟨fun h1 => absurd (by decide) h1, fun _ => ?_⟩ | refine ⟨fun _ => ?_, fun h1 => absurd h1 (by decide)⟩
  conv => whnf
  try dsimp only
  refine ⟨trivial, c_length (d := D + 29) oT.1 hcT.1 hcT.2 (gf hcF.2) hv hz hcF.2.1 hcM (by omega) (fun J' g1 g2 => ?_)⟩
  refine EV.at ck118 (by decide) 300 [] ?_
  conv => whnf
  try dsimp only
  refine ⟨trivial, c_mover hz hcF.2.1 ?_⟩
  refine EV.at ck118 (by decide) 300 [] ?_
  conv => whnf
  try dsimp only
  have e : nI (az a % 2) + nI (aEn a) &&& 1 = nI ((aw a + aEn a) % 2) := by
    rw [mov_eq (by omega) (by omega)]
    congr 1
    show (az a + aEn a) % 2 = (az a % 2 + aEn a) % 2
    omega
  have e' : nI ((aF a).2.1 % 2) + nI (ends (aT a) (aF a).1 ((aF a).2.1 % 2)) &&& 1 = nI ((aw a + aEn a) % 2) := e
  rw [e']
  exact ⟨trivial, fin rfl (hC.scr (I' := I) (fun _ _ => rfl) g2.j3 g1.mg).ask (by omega) (fun r hr => upI_oth (by omega)) g2.fj h⟩
theorem k_line {r : Int32} : CS G n 119 [.int r] (fun a => sp_line a r) := by
  intro D I J Q a e hO hC he h
  try dsimp only at h
  obtain ⟨hcT, hcF, hcK, hcR, hcX, hcN, hcA, hcU, hcM⟩ := id hC
  obtain ⟨oT, oF, oN, oK, oR, oX⟩ := id hO
  unfold sp_line at h
  refine MT.by ck119 (by decide) rfl (Nat.le_of_ble_eq_true rfl) rfl 300 [] ?_
  conv => whnf
  try dsimp only
  refine ⟨trivial, c_wi (K := 6) rfl (by decide) (fun e1 => ?_) (fun j hj hr e1 => ?_)⟩
  · refine EV.at ck119 (by decide) 300 [] ?_
    conv => whnf
    try dsimp only
    first | refine ⟨fun h1 => absurd h1 (by decide), fun _ => ?_⟩ | refine ⟨fun _ => ?_, fun h1 => absurd (by decide) h1⟩ | refine ⟨fun h1 => absurd (by decide) h1, fun _ => ?_⟩ | refine ⟨fun _ => ?_, fun h1 => absurd h1 (by decide)⟩
    conv => whnf
    try dsimp only
    exact ⟨trivial, fin (by rw [e1]) hC (by omega) (FC.rf I) (FJ.rf J) h⟩
  rw [e1] at h
  dsimp only at h
  subst hr
  have cj : (nI j).toNatClampNeg = j := nI_clamp (by omega)
  refine EV.at ck119 (by decide) 300 [] ?_
  conv => whnf
  try dsimp only
  first | refine ⟨fun h1 => absurd h1 (by decide), fun _ => ?_⟩ | refine ⟨fun _ => ?_, fun h1 => absurd (by decide) h1⟩ | refine ⟨fun h1 => absurd (by decide) h1, fun _ => ?_⟩ | refine ⟨fun _ => ?_, fun h1 => absurd h1 (by decide)⟩
  conv => whnf
  try dsimp only
  rw [hcF.1]
  cases hh : aH a
  · rw [hh] at h
    first | refine ⟨fun h1 => absurd h1 (by decide), fun _ => ?_⟩ | refine ⟨fun _ => ?_, fun h1 => absurd (by decide) h1⟩ | refine ⟨fun h1 => absurd (by decide) h1, fun _ => ?_⟩ | refine ⟨fun _ => ?_, fun h1 => absurd h1 (by decide)⟩
    conv => whnf
    try dsimp only
    exact ⟨trivial, fin rfl hC (by omega) (FC.rf I) (FJ.rf J) h⟩
  rw [hh, if_pos rfl] at h
  have hv := (oF hh).1
  have hz : az a ≤ 40 := (oF hh).2.1
  first | refine ⟨fun h1 => absurd h1 (by decide), fun _ => ?_⟩ | refine ⟨fun _ => ?_, fun h1 => absurd (by decide) h1⟩ | refine ⟨fun h1 => absurd (by decide) h1, fun _ => ?_⟩ | refine ⟨fun _ => ?_, fun h1 => absurd h1 (by decide)⟩
  conv => whnf
  try dsimp only
  refine ⟨in_nI hj (by decide), oS_at cj (row_g _ hj) ?_⟩
  conv => whnf
  try dsimp only
  refine ⟨trivial, c_bestLine (d := D + 9) (c := 39 + 2 * j) (a := 39 + 2 * j + 1) oT.1 hcT.1 hcT.2 (gf hcF.2) hv hz hcF.2.1 hcM (by omega) (row_c n hj).1 (row_c n hj).2 (by omega) (by omega) (by omega) (fun I' J' b1 b2 b3 b4 b5 => ?_)⟩
  refine EV.at ck119 (by decide) 300 [] ?_
  conv => whnf
  try dsimp only
  refine ⟨in_nI hj (by decide), oS_at cj (row_g _ hj) ?_⟩
  conv => whnf
  try dsimp only
  rw [(row_c n hj).1]
  conv => whnf
  try dsimp only
  rw [b1]
  exact ⟨trivial, fin rfl ((hC.scr (I' := I) (fun _ _ => rfl) b5.j3 b4).row (m := aEn a + 1) hj b3 b1 (fun i hi => b2 i (show i < aEn a by omega))) (by omega) (fun r hr => b3 r (by omega) (by omega)) b5.fj h⟩
theorem k_least {r : Int32} : CS G n 120 [.int r] (fun a => sp_least a r) := by
  intro D I J Q a e hO hC he h
  try dsimp only at h
  obtain ⟨hcT, hcF, hcK, hcR, hcX, hcN, hcA, hcU, hcM⟩ := id hC
  obtain ⟨oT, oF, oN, oK, oR, oX⟩ := id hO
  unfold sp_least at h
  refine MT.by ck120 (by decide) rfl (Nat.le_of_ble_eq_true rfl) rfl 300 [] ?_
  conv => whnf
  try dsimp only
  refine ⟨trivial, c_fi hcF.1 (fun e1 => ?_) (fun j hj hr hh e1 => ?_)⟩
  · refine EV.at ck120 (by decide) 300 [] ?_
    conv => whnf
    try dsimp only
    first | refine ⟨fun h1 => absurd h1 (by decide), fun _ => ?_⟩ | refine ⟨fun _ => ?_, fun h1 => absurd (by decide) h1⟩ | refine ⟨fun h1 => absurd (by decide) h1, fun _ => ?_⟩ | refine ⟨fun _ => ?_, fun h1 => absurd h1 (by decide)⟩
    conv => whnf
    try dsimp only
    exact ⟨trivial, fin (by rw [e1]) hC (by omega) (FC.rf I) (FJ.rf J) h⟩
  rw [e1] at h
  subst hr
  have hv := (oF hh).1
  have hz : az a ≤ 40 := (oF hh).2.1
  refine EV.at ck120 (by decide) 300 [] ?_
  conv => whnf
  try dsimp only
  first | refine ⟨fun h1 => absurd h1 (by decide), fun _ => ?_⟩ | refine ⟨fun _ => ?_, fun h1 => absurd (by decide) h1⟩ | refine ⟨fun h1 => absurd (by decide) h1, fun _ => ?_⟩ | refine ⟨fun _ => ?_, fun h1 => absurd h1 (by decide)⟩
  conv => whnf
  try dsimp only
  rcases (show j = 0 ∨ j = 1 by omega) with rfl | rfl
  · refine ⟨trivial, c_least0 (d := D + 19) oT.1 hcT.1 hcT.2 (gf hcF.2) hv hz hcF.2.1 hcM he (fun J' e' g0 g1 g2 => ?_)⟩
    refine EV.at ck120 (by decide) 300 [] ?_
    conv => whnf
    try dsimp only
    exact ⟨trivial, fin rfl (hC.scr (I' := I) (fun _ _ => rfl) g2.j3 g1) (by omega) (FC.rf I) g2.fj h⟩
  · refine ⟨trivial, c_least1 (d := D + 19) oT.1 hcT.1 hcT.2 (gf hcF.2) hv hz hcF.2.1 hcM he (fun J' e' g0 g1 g2 => ?_)⟩
    refine EV.at ck120 (by decide) 300 [] ?_
    conv => whnf
    try dsimp only
    exact ⟨trivial, fin rfl (hC.scr (I' := I) (fun _ _ => rfl) g2.j3 g1) (by omega) (FC.rf I) g2.fj h⟩
theorem k_learn {r : Int32} : CS G n 121 [.int r] (fun a => sp_learn a r) := by
  intro D I J Q a e hO hC he h
  try dsimp only at h
  obtain ⟨hcT, hcF, hcK, hcR, hcX, hcN, hcA, hcU, hcM⟩ := id hC
  obtain ⟨oT, oF, oN, oK, oR, oX⟩ := id hO
  unfold sp_learn at h
  refine MT.by ck121 (by decide) rfl (Nat.le_of_ble_eq_true rfl) rfl 300 [] ?_
  conv => whnf
  try dsimp only
  refine ⟨trivial, c_fi hcF.1 (fun e1 => ?_) (fun j hj hr hh e1 => ?_)⟩
  · refine EV.at ck121 (by decide) 300 [] ?_
    conv => whnf
    try dsimp only
    first | refine ⟨fun h1 => absurd h1 (by decide), fun _ => ?_⟩ | refine ⟨fun _ => ?_, fun h1 => absurd (by decide) h1⟩ | refine ⟨fun h1 => absurd (by decide) h1, fun _ => ?_⟩ | refine ⟨fun _ => ?_, fun h1 => absurd h1 (by decide)⟩
    conv => whnf
    try dsimp only
    exact ⟨trivial, fin (by rw [e1]) hC (by omega) (FC.rf I) (FJ.rf J) h⟩
  rw [e1] at h
  subst hr
  have hv := (oF hh).1
  have hz : az a ≤ 40 := (oF hh).2.1
  refine EV.at ck121 (by decide) 300 [] ?_
  conv => whnf
  try dsimp only
  first | refine ⟨fun h1 => absurd h1 (by decide), fun _ => ?_⟩ | refine ⟨fun _ => ?_, fun h1 => absurd (by decide) h1⟩ | refine ⟨fun h1 => absurd (by decide) h1, fun _ => ?_⟩ | refine ⟨fun _ => ?_, fun h1 => absurd h1 (by decide)⟩
  conv => whnf
  try dsimp only
  rcases (show j = 0 ∨ j = 1 by omega) with rfl | rfl
  · refine ⟨trivial, c_learn0 (d := D + 19) oT.1 hcT.1 hcT.2 (gf hcF.2) hv hz hcF.2.1 hcM he (fun J' e' g0 g1 g2 => ?_)⟩
    refine EV.at ck121 (by decide) 300 [] ?_
    conv => whnf
    try dsimp only
    exact ⟨trivial, fin rfl (hC.scr (I' := I) (fun _ _ => rfl) g2.j3 g1) (by omega) (FC.rf I) g2.fj h⟩
  · refine ⟨trivial, c_learn1 (d := D + 19) oT.1 hcT.1 hcT.2 (gf hcF.2) hv hz hcF.2.1 hcM he (fun J' e' g0 g1 g2 => ?_)⟩
    refine EV.at ck121 (by decide) 300 [] ?_
    conv => whnf
    try dsimp only
    exact ⟨trivial, fin rfl (hC.scr (I' := I) (fun _ _ => rfl) g2.j3 g1) (by omega) (FC.rf I) g2.fj h⟩
theorem k_needs {r : Int32} : CS G n 122 [.int r] (fun a => sp_needs a r) := by
  intro D I J Q a e hO hC he h
  try dsimp only at h
  obtain ⟨hcT, hcF, hcK, hcR, hcX, hcN, hcA, hcU, hcM⟩ := id hC
  obtain ⟨oT, oF, oN, oK, oR, oX⟩ := id hO
  unfold sp_needs at h
  refine MT.by ck122 (by decide) rfl (Nat.le_of_ble_eq_true rfl) rfl 300 [] ?_
  conv => whnf
  try dsimp only
  refine ⟨trivial, c_fi hcF.1 (fun e1 => ?_) (fun j hj hr hh e1 => ?_)⟩
  · refine EV.at ck122 (by decide) 300 [] ?_
    conv => whnf
    try dsimp only
    first | refine ⟨fun h1 => absurd h1 (by decide), fun _ => ?_⟩ | refine ⟨fun _ => ?_, fun h1 => absurd (by decide) h1⟩ | refine ⟨fun h1 => absurd (by decide) h1, fun _ => ?_⟩ | refine ⟨fun _ => ?_, fun h1 => absurd h1 (by decide)⟩
    conv => whnf
    try dsimp only
    exact ⟨trivial, fin (by rw [e1]) hC (by omega) (FC.rf I) (FJ.rf J) h⟩
  rw [e1] at h
  subst hr
  have hv := (oF hh).1
  have hz : az a ≤ 40 := (oF hh).2.1
  refine EV.at ck122 (by decide) 300 [] ?_
  conv => whnf
  try dsimp only
  first | refine ⟨fun h1 => absurd h1 (by decide), fun _ => ?_⟩ | refine ⟨fun _ => ?_, fun h1 => absurd (by decide) h1⟩ | refine ⟨fun h1 => absurd (by decide) h1, fun _ => ?_⟩ | refine ⟨fun _ => ?_, fun h1 => absurd h1 (by decide)⟩
  conv => whnf
  try dsimp only
  rcases (show j = 0 ∨ j = 1 by omega) with rfl | rfl
  · refine ⟨trivial, c_need0 (d := D + 19) oT.1 hcT.1 hcT.2 (gf hcF.2) hv hz hcF.2.1 hcM he (fun J' e' g0 g1 g2 => ?_)⟩
    refine EV.at ck122 (by decide) 300 [] ?_
    conv => whnf
    try dsimp only
    exact ⟨trivial, fin rfl (hC.scr (I' := I) (fun _ _ => rfl) g2.j3 g1) (by omega) (FC.rf I) g2.fj h⟩
  · refine ⟨trivial, c_need1 (d := D + 19) oT.1 hcT.1 hcT.2 (gf hcF.2) hv hz hcF.2.1 hcM he (fun J' e' g0 g1 g2 => ?_)⟩
    refine EV.at ck122 (by decide) 300 [] ?_
    conv => whnf
    try dsimp only
    exact ⟨trivial, fin rfl (hC.scr (I' := I) (fun _ _ => rfl) g2.j3 g1) (by omega) (FC.rf I) g2.fj h⟩
theorem k_lines {r : Int32} : CS G n 123 [.int r] (fun a => sp_lines a r) := by
  intro D I J Q a e hO hC he h
  try dsimp only at h
  obtain ⟨hcT, hcF, hcK, hcR, hcX, hcN, hcA, hcU, hcM⟩ := id hC
  obtain ⟨oT, oF, oN, oK, oR, oX⟩ := id hO
  unfold sp_lines at h
  refine MT.by ck123 (by decide) rfl (Nat.le_of_ble_eq_true rfl) rfl 300 [] ?_
  conv => whnf
  try dsimp only
  rcases ix_cases (n := 7) (by decide) r with ⟨e2, e3⟩ | ⟨k, hk, rfl, e2, e3⟩
  · rw [e2] at h
    refine ⟨fun z1 => ?_, fun z1 => ?_⟩
    · conv => whnf
      try dsimp only
      exact ⟨trivial, fin rfl hC (by omega) (FC.rf I) (FJ.rf J) h⟩
    conv => whnf
    try dsimp only
    refine ⟨fun z2 => ?_, fun z2 => ?_⟩
    · exact absurd ⟨Int32.not_lt.mp z1, Int32.lt_of_le_of_lt z2 (by decide)⟩ (of_decide_eq_false e3)
    conv => whnf
    try dsimp only
    exact ⟨trivial, fin rfl hC (by omega) (FC.rf I) (FJ.rf J) h⟩
  rw [e2] at h
  dsimp only at h
  refine ⟨fun z1 => absurd z1 (nI_pos (by omega)), fun z1 => ?_⟩
  conv => whnf
  try dsimp only
  refine ⟨fun z2 => ?_, fun z2 => absurd (nI_le (b := 6) (by omega) (by decide)) z2⟩
  conv => whnf
  try dsimp only
  rw [hcF.1]
  cases hh : aH a
  · rw [hh] at h
    first | refine ⟨fun h1 => absurd h1 (by decide), fun _ => ?_⟩ | refine ⟨fun _ => ?_, fun h1 => absurd (by decide) h1⟩ | refine ⟨fun h1 => absurd (by decide) h1, fun _ => ?_⟩ | refine ⟨fun _ => ?_, fun h1 => absurd h1 (by decide)⟩
    conv => whnf
    try dsimp only
    exact ⟨trivial, fin rfl hC (by omega) (FC.rf I) (FJ.rf J) h⟩
  rw [hh, if_pos rfl] at h
  have hv := (oF hh).1
  have hz : az a ≤ 40 := (oF hh).2.1
  first | refine ⟨fun h1 => absurd h1 (by decide), fun _ => ?_⟩ | refine ⟨fun _ => ?_, fun h1 => absurd (by decide) h1⟩ | refine ⟨fun h1 => absurd (by decide) h1, fun _ => ?_⟩ | refine ⟨fun _ => ?_, fun h1 => absurd h1 (by decide)⟩
  conv => whnf
  try dsimp only
  refine ⟨trivial, c_countRows (d := D + 39) (show k ≤ 6 by omega) oT.1 hcT.1 hcT.2 (gf hcF.2) hv hz hcF.2.1 ?_⟩
  refine EV.at ck123 (by decide) 300 [] ?_
  conv => whnf
  try dsimp only
  rw [up_same]
  exact ⟨trivial, fin rfl (hC.scr (fun r hr => upI_oth (by omega)) rfl hcM).ask (by omega) (fun r hr => by rw [upI_oth (by omega), upI_oth (by omega)]) (FJ.rf J) h⟩
theorem c_refuseTold {a : AB} {e j most en : Nat} (hO : aOK a) (hC : CA a e I J) (hj : j < 6) (hm : most ≤ 40) (hen : en < 100)
    (h4 : aH a = false → Q (some (.int (-4))) (SH n, I, J))
    (hf : ∀ f, f < 6 → tld a j most en = f → f ≠ 0 → aH a = true → Q (some (.int (-3))) (SH n, upI (upI I 3 12 (nI f)) 38 f (I 38 f + 1), J))
    (h0 : aH a = true → tld a j most en = 0 → Q (some (.int 0)) (SH n, I, J)) : MT G (d + 4) 153 [.ref 3, .int (nI j), .int (nI most), .int (nI en)] (SH n, I, J) Q := by
  obtain ⟨hcT, hcF, hcK, hcR, hcX, hcN, hcA, hcU, hcM⟩ := id hC
  have o41 := hO.2.2.2.2.1 j hj
  have cj : (nI j).toNatClampNeg = j := nI_clamp (by omega)
  refine MT.by ck153 (by decide) rfl (Nat.le_of_ble_eq_true rfl) rfl 300 [] ?_
  conv => whnf
  try dsimp only
  rw [hcF.1]
  cases hh : aH a
  · first | refine ⟨fun h1 => absurd h1 (by decide), fun _ => ?_⟩ | refine ⟨fun _ => ?_, fun h1 => absurd (by decide) h1⟩ | refine ⟨fun h1 => absurd (by decide) h1, fun _ => ?_⟩ | refine ⟨fun _ => ?_, fun h1 => absurd h1 (by decide)⟩
    conv => whnf
    try dsimp only
    exact ⟨trivial, h4 hh⟩
  first | refine ⟨fun h1 => absurd h1 (by decide), fun _ => ?_⟩ | refine ⟨fun _ => ?_, fun h1 => absurd (by decide) h1⟩ | refine ⟨fun h1 => absurd (by decide) h1, fun _ => ?_⟩ | refine ⟨fun _ => ?_, fun h1 => absurd h1 (by decide)⟩
  conv => whnf
  try dsimp only
  refine ⟨in_nI hj (by decide), oS_at cj (row_g _ hj) ?_⟩
  conv => whnf
  try dsimp only
  rw [(row_c n hj).1]
  conv => whnf
  try dsimp only
  rw [(hcR j hj).1]
  refine ⟨fun z1 => ?_, fun z1 => ?_⟩
  case refine_2 =>
    conv => whnf
    try dsimp only
    refine ⟨trivial, c_find (f := 1) (by decide) ?_⟩
    refine EV.at ck153 (by decide) 300 [] ?_
    conv => whnf
    try dsimp only
    exact ⟨trivial, hf 1 (by decide) (by unfold tld; exact if_pos ((szI_neg (by omega)).mp (Int32.not_le.mp z1))) (by decide) hh⟩
  have y1 : aRs a j ≠ 0 := fun z => Int32.not_lt.mpr z1 ((szI_neg (by omega)).mpr z)
  have sj : I (39 + 2 * j) 1 = nI (aRs a j - 1) := by rw [(hcR j hj).1]; exact sz_nI y1
  conv => whnf
  try dsimp only
  refine ⟨in_nI hj (by decide), oS_at cj (row_g _ hj) ?_⟩
  conv => whnf
  try dsimp only
  rw [(row_c n hj).1]
  conv => whnf
  try dsimp only
  rw [sj]
  refine pk_le (aRs a j - 1) most (fun z2 => ?_) (fun z2 => ?_)
  case refine_2 =>
    conv => whnf
    try dsimp only
    refine ⟨trivial, c_find (f := 5) (by decide) ?_⟩
    refine EV.at ck153 (by decide) 300 [] ?_
    conv => whnf
    try dsimp only
    exact ⟨trivial, hf 5 (by decide) (by unfold tld; rw [if_neg y1, if_pos (by omega)]) (by decide) hh⟩
  conv => whnf
  try dsimp only
  refine ⟨in_nI hj (by decide), oS_at cj (row_g _ hj) ?_⟩
  conv => whnf
  try dsimp only
  rw [(row_c n hj).1]
  conv => whnf
  try dsimp only
  refine ⟨trivial, c_allWithin (row_c n hj).1 (row_c n hj).2 (show aRs a j - 1 ≤ 40 by omega) (by decide) sj ?_⟩
  rw [allW_congr (g := aRc a j) _ (fun i hi => (hcR j hj).2 i (by omega))]
  cases hb : allW (aRc a j) (nI en) (aRs a j - 1)
  · refine EV.at ck153 (by decide) 300 [] ?_
    conv => whnf
    try dsimp only
    first | refine ⟨fun h1 => absurd h1 (by decide), fun _ => ?_⟩ | refine ⟨fun _ => ?_, fun h1 => absurd (by decide) h1⟩ | refine ⟨fun h1 => absurd (by decide) h1, fun _ => ?_⟩ | refine ⟨fun _ => ?_, fun h1 => absurd h1 (by decide)⟩
    conv => whnf
    try dsimp only
    refine ⟨trivial, c_find (f := 3) (by decide) ?_⟩
    refine EV.at ck153 (by decide) 300 [] ?_
    conv => whnf
    try dsimp only
    exact ⟨trivial, hf 3 (by decide) (by unfold tld; rw [if_neg y1, if_neg (by omega), hb]; rfl) (by decide) hh⟩
  · refine EV.at ck153 (by decide) 300 [] ?_
    conv => whnf
    try dsimp only
    first | refine ⟨fun h1 => absurd h1 (by decide), fun _ => ?_⟩ | refine ⟨fun _ => ?_, fun h1 => absurd (by decide) h1⟩ | refine ⟨fun h1 => absurd (by decide) h1, fun _ => ?_⟩ | refine ⟨fun _ => ?_, fun h1 => absurd h1 (by decide)⟩
    conv => whnf
    try dsimp only
    exact ⟨trivial, h0 hh (by unfold tld; rw [if_neg y1, if_neg (by omega), hb]; rfl)⟩
theorem k_judge {r : Int32} : CS G n 124 [.int r] (fun a => sp_judge a r) := by
  intro D I J Q a e hO hC he h
  try dsimp only at h
  obtain ⟨hcT, hcF, hcK, hcR, hcX, hcN, hcA, hcU, hcM⟩ := id hC
  obtain ⟨oT, oF, oN, oK, oR, oX⟩ := id hO
  have h12 : tC (aT a) ≤ 12 := oT.1.2.2.1
  unfold sp_judge at h
  refine MT.by ck124 (by decide) rfl (Nat.le_of_ble_eq_true rfl) rfl 300 [] ?_
  conv => whnf
  try dsimp only
  refine ⟨trivial, c_wi (K := 6) rfl (by decide) (fun e1 => ?_) (fun j hj hr e1 => ?_)⟩
  · refine EV.at ck124 (by decide) 300 [] ?_
    conv => whnf
    try dsimp only
    first | refine ⟨fun h1 => absurd h1 (by decide), fun _ => ?_⟩ | refine ⟨fun _ => ?_, fun h1 => absurd (by decide) h1⟩ | refine ⟨fun h1 => absurd (by decide) h1, fun _ => ?_⟩ | refine ⟨fun _ => ?_, fun h1 => absurd h1 (by decide)⟩
    conv => whnf
    try dsimp only
    exact ⟨trivial, fin (by rw [e1]) hC (by omega) (FC.rf I) (FJ.rf J) h⟩
  rw [e1] at h
  dsimp only at h
  subst hr
  have cj : (nI j).toNatClampNeg = j := nI_clamp (by omega)
  refine EV.at ck124 (by decide) 300 [] ?_
  conv => whnf
  try dsimp only
  first | refine ⟨fun h1 => absurd h1 (by decide), fun _ => ?_⟩ | refine ⟨fun _ => ?_, fun h1 => absurd (by decide) h1⟩ | refine ⟨fun h1 => absurd (by decide) h1, fun _ => ?_⟩ | refine ⟨fun _ => ?_, fun h1 => absurd h1 (by decide)⟩
  conv => whnf
  try dsimp only
  rw [hcT.1.2.2.1]
  refine ⟨trivial, c_refuseTold (most := 12) hO hC hj (by decide) (by omega) (fun hh => ?_) (fun f hf ht h0 hh => ?_) (fun hh ht => ?_)⟩
  · rw [hh] at h
    refine EV.at ck124 (by decide) 300 [] ?_
    conv => whnf
    try dsimp only
    first | refine ⟨fun h1 => absurd h1 (by decide), fun _ => ?_⟩ | refine ⟨fun _ => ?_, fun h1 => absurd (by decide) h1⟩ | refine ⟨fun h1 => absurd (by decide) h1, fun _ => ?_⟩ | refine ⟨fun _ => ?_, fun h1 => absurd h1 (by decide)⟩
    conv => whnf
    try dsimp only
    exact ⟨trivial, fin rfl hC (by omega) (FC.rf I) (FJ.rf J) h⟩
  · rw [hh, if_pos rfl, ht, if_neg h0] at h
    refine EV.at ck124 (by decide) 300 [] ?_
    conv => whnf
    try dsimp only
    first | refine ⟨fun h1 => absurd h1 (by decide), fun _ => ?_⟩ | refine ⟨fun _ => ?_, fun h1 => absurd (by decide) h1⟩ | refine ⟨fun h1 => absurd (by decide) h1, fun _ => ?_⟩ | refine ⟨fun _ => ?_, fun h1 => absurd h1 (by decide)⟩
    conv => whnf
    try dsimp only
    exact ⟨trivial, fin rfl (hC.fnd hf) (by omega) FC.fnd (FJ.rf J) h⟩
  rw [hh, if_pos rfl, if_pos ht] at h
  obtain ⟨t1, t2, t3⟩ := tld_ok (by omega) ht
  have o41 := oR j hj
  have sj : I (39 + 2 * j) 1 = nI (aRs a j - 1) := by rw [(hcR j hj).1]; exact sz_nI t1
  have hv := (oF hh).1
  have hz : az a ≤ 40 := (oF hh).2.1
  have s0 := sS_of oT.1 hv.1
  have s1 := sS_of oT.1 hv.2
  have hw : aw a < 2 := Nat.mod_lt _ (by decide)
  have hfl : (aFo a j).1 ≤ 0 + (aRs a j - 1) := fol_le _ _ _ _
  obtain ⟨v1, v2, v3⟩ := fol_ok (rw' := rwN a j) oT.1 (aRs a j - 1) 0 (aq a) (aw a) hw hv (fun x _ hx => (t3 x (by omega)).1)
  have v1 : vQ (aT a) (aFo a j).2 := v1
  have v2 : ((aFo a j).2 0).2.2.2 = (aq a 0).2.2.2 := v2
  have v3 : ((aFo a j).2 1).2.2.2 = (aq a 1).2.2.2 := v3
  refine EV.at ck124 (by decide) 300 [] ?_
  conv => whnf
  try dsimp only
  first | refine ⟨fun h1 => absurd h1 (by decide), fun _ => ?_⟩ | refine ⟨fun _ => ?_, fun h1 => absurd (by decide) h1⟩ | refine ⟨fun h1 => absurd (by decide) h1, fun _ => ?_⟩ | refine ⟨fun _ => ?_, fun h1 => absurd h1 (by decide)⟩
  conv => whnf
  try dsimp only
  refine ⟨trivial, c_packedF (gf hcF.2) s0 s1 ?_⟩
  refine EV.at ck124 (by decide) 300 [] ?_
  conv => whnf
  try dsimp only
  refine ⟨in_nI hj (by decide), oS_at cj (row_g _ hj) ?_⟩
  conv => whnf
  try dsimp only
  refine ⟨trivial, c_follow (rw' := rwN a j) oT.1 hcT.1 hcT.2 (gf hcF.2) hv hz hcF.2.1 (row_c n hj).1 (row_c n hj).2 (by omega) (by omega) (by omega) (by omega) (show aRs a j - 1 ≤ 40 by omega) (by decide) sj (fun i hi => ⟨(t3 i hi).1, by rw [(hcR j hj).2 i (by omega)]; exact (t3 i hi).2⟩) ?_⟩
  show EV G 124 _ 0 0 _ _ ((some (Value.int (nI (aFo a j).1))).toList ++ _) (SH n, fdI I (aFo a j).2, J) _
  generalize hFo : aFo a j = R at h hfl v1 v2 v3 ⊢
  have fm := fMem_fd (gf hcF.2) v2 v3
  have hz2 : fdI I R.2 12 5 = nI (az a) := by rw [fd_oth (by decide) (by decide)]; exact hcF.2.1
  refine EV.at ck124 (by decide) 300 [] ?_
  conv => whnf
  try dsimp only
  refine ⟨trivial, c_mover hz hz2 ?_⟩
  refine EV.at ck124 (by decide) 300 [] ?_
  conv => whnf
  try dsimp only
  have em : nI (az a % 2) + nI R.1 &&& 1 = nI ((aw a + R.1) % 2) := by
    rw [mov_eq (by omega) (by omega)]
    congr 1
    show (az a + R.1) % 2 = (az a % 2 + R.1) % 2
    omega
  rw [em]
  refine ⟨trivial, c_options (Nat.mod_lt _ (by decide)) oT.1 (tMem_of fd_lo hcT.1) fm v1.1 v1.2 (EX_of fd_lo hcT.2) ?_⟩
  have hp : 2 ^ tC (aT a) ≤ 2 ^ 12 := Nat.pow_le_pow_right (by decide) h12
  have ol := optN_lt (T := aT a) (q := R.2 ((aw a + R.1) % 2)) (o := (R.2 (1 - (aw a + R.1) % 2)).1) (tC (aT a))
  generalize optN (aT a) (R.2 ((aw a + R.1) % 2)) (R.2 (1 - (aw a + R.1) % 2)).1 (tC (aT a)) = o at h ol ⊢
  by_cases h0 : o = 0
  · subst h0
    refine EV.at ck124 (by decide) 300 [] ?_
    conv => whnf
    try dsimp only
    first | refine ⟨fun h1 => absurd h1 (by decide), fun _ => ?_⟩ | refine ⟨fun _ => ?_, fun h1 => absurd (by decide) h1⟩ | refine ⟨fun h1 => absurd (by decide) h1, fun _ => ?_⟩ | refine ⟨fun _ => ?_, fun h1 => absurd h1 (by decide)⟩
    conv => whnf
    try dsimp only
    refine ⟨trivial, c_unpackF s0 s1 ?_⟩
    rw [fd_ask (gf hcF.2)]
    refine EV.at ck124 (by decide) 300 [] ?_
    conv => whnf
    try dsimp only
    exact ⟨trivial, fin rfl hC.ask (by omega) (fun r hr => upI_oth (by omega)) (FJ.rf J) h⟩
  · rw [if_neg h0] at h
    refine EV.at ck124 (by decide) 300 [] ?_
    conv => whnf
    try dsimp only
    refine ⟨fun _ => ?_, fun z => absurd z (nI_ne0 (by omega) (by omega))⟩
    conv => whnf
    try dsimp only
    refine ⟨trivial, c_unpackF s0 s1 ?_⟩
    rw [fd_ask (gf hcF.2)]
    refine EV.at ck124 (by decide) 300 [] ?_
    conv => whnf
    try dsimp only
    exact ⟨trivial, fin rfl hC.ask (by omega) (fun r hr => upI_oth (by omega)) (FJ.rf J) h⟩
theorem k_shown {r t : Int32} : CS G n 125 [.int r, .int t] (fun a => sp_shown a r t) := by
  intro D I J Q a e hO hC he h
  try dsimp only at h
  obtain ⟨hcT, hcF, hcK, hcR, hcX, hcN, hcA, hcU, hcM⟩ := id hC
  obtain ⟨oT, oF, oN, oK, oR, oX⟩ := id hO
  have h5 : tS (aT a) ≤ 5 := oT.1.1
  have h12 : tC (aT a) ≤ 12 := oT.1.2.2.1
  unfold sp_shown at h
  refine MT.by ck125 (by decide) rfl (Nat.le_of_ble_eq_true rfl) rfl 300 [] ?_
  conv => whnf
  try dsimp only
  refine ⟨trivial, c_wi (K := 6) rfl (by decide) (fun e1 => ?_) (fun j hj hr e1 => ?_)⟩
  · refine EV.at ck125 (by decide) 300 [] ?_
    conv => whnf
    try dsimp only
    first | refine ⟨fun h1 => absurd h1 (by decide), fun _ => ?_⟩ | refine ⟨fun _ => ?_, fun h1 => absurd (by decide) h1⟩ | refine ⟨fun h1 => absurd (by decide) h1, fun _ => ?_⟩ | refine ⟨fun _ => ?_, fun h1 => absurd h1 (by decide)⟩
    conv => whnf
    try dsimp only
    exact ⟨trivial, fin (by rw [e1]) hC (by omega) (FC.rf I) (FJ.rf J) h⟩
  rw [e1] at h
  dsimp only at h
  subst hr
  have cj : (nI j).toNatClampNeg = j := nI_clamp (by omega)
  refine EV.at ck125 (by decide) 300 [] ?_
  conv => whnf
  try dsimp only
  first | refine ⟨fun h1 => absurd h1 (by decide), fun _ => ?_⟩ | refine ⟨fun _ => ?_, fun h1 => absurd (by decide) h1⟩ | refine ⟨fun h1 => absurd (by decide) h1, fun _ => ?_⟩ | refine ⟨fun _ => ?_, fun h1 => absurd h1 (by decide)⟩
  conv => whnf
  try dsimp only
  refine ⟨trivial, c_wi (K := 6) rfl (by decide) (fun e2 => ?_) (fun k hk hr e2 => ?_)⟩
  · refine EV.at ck125 (by decide) 300 [] ?_
    conv => whnf
    try dsimp only
    first | refine ⟨fun h1 => absurd h1 (by decide), fun _ => ?_⟩ | refine ⟨fun _ => ?_, fun h1 => absurd (by decide) h1⟩ | refine ⟨fun h1 => absurd (by decide) h1, fun _ => ?_⟩ | refine ⟨fun _ => ?_, fun h1 => absurd h1 (by decide)⟩
    conv => whnf
    try dsimp only
    exact ⟨trivial, fin (by rw [e2]) hC (by omega) (FC.rf I) (FJ.rf J) h⟩
  rw [e2] at h
  dsimp only at h
  subst hr
  have ck : (nI k).toNatClampNeg = k := nI_clamp (by omega)
  refine EV.at ck125 (by decide) 300 [] ?_
  conv => whnf
  try dsimp only
  first | refine ⟨fun h1 => absurd h1 (by decide), fun _ => ?_⟩ | refine ⟨fun _ => ?_, fun h1 => absurd (by decide) h1⟩ | refine ⟨fun h1 => absurd (by decide) h1, fun _ => ?_⟩ | refine ⟨fun _ => ?_, fun h1 => absurd h1 (by decide)⟩
  conv => whnf
  try dsimp only
  rw [hcT.1.1]
  refine ⟨trivial, c_refuseTold (most := 8) hO hC hj (by decide) (by omega) (fun hh => ?_) (fun f hf ht h0 hh => ?_) (fun hh ht => ?_)⟩
  · rw [hh] at h
    refine EV.at ck125 (by decide) 300 [] ?_
    conv => whnf
    try dsimp only
    first | refine ⟨fun h1 => absurd h1 (by decide), fun _ => ?_⟩ | refine ⟨fun _ => ?_, fun h1 => absurd (by decide) h1⟩ | refine ⟨fun h1 => absurd (by decide) h1, fun _ => ?_⟩ | refine ⟨fun _ => ?_, fun h1 => absurd h1 (by decide)⟩
    conv => whnf
    try dsimp only
    exact ⟨trivial, fin rfl hC (by omega) (FC.rf I) (FJ.rf J) h⟩
  · rw [hh, if_pos rfl, ht, if_neg h0] at h
    refine EV.at ck125 (by decide) 300 [] ?_
    conv => whnf
    try dsimp only
    first | refine ⟨fun h1 => absurd h1 (by decide), fun _ => ?_⟩ | refine ⟨fun _ => ?_, fun h1 => absurd (by decide) h1⟩ | refine ⟨fun h1 => absurd (by decide) h1, fun _ => ?_⟩ | refine ⟨fun _ => ?_, fun h1 => absurd h1 (by decide)⟩
    conv => whnf
    try dsimp only
    exact ⟨trivial, fin rfl (hC.fnd hf) (by omega) FC.fnd (FJ.rf J) h⟩
  rw [hh, if_pos rfl, if_pos ht] at h
  obtain ⟨t1, t2, t3⟩ := tld_ok (by omega) ht
  have o41 := oR j hj
  have sj : I (39 + 2 * j) 1 = nI (aRs a j - 1) := by rw [(hcR j hj).1]; exact sz_nI t1
  have hv := (oF hh).1
  have hz : az a ≤ 40 := (oF hh).2.1
  have hS : shOK (aT a) (rwN a j) (aRs a j - 1) (az a) := ⟨t2, hz, fun i hi => (t3 i hi).1⟩
  refine EV.at ck125 (by decide) 300 [] ?_
  conv => whnf
  try dsimp only
  first | refine ⟨fun h1 => absurd h1 (by decide), fun _ => ?_⟩ | refine ⟨fun _ => ?_, fun h1 => absurd (by decide) h1⟩ | refine ⟨fun h1 => absurd (by decide) h1, fun _ => ?_⟩ | refine ⟨fun _ => ?_, fun h1 => absurd h1 (by decide)⟩
  conv => whnf
  try dsimp only
  refine ⟨in_nI hj (by decide), oS_at cj (row_g _ hj) ?_⟩
  conv => whnf
  try dsimp only
  refine ⟨trivial, c_see (row_c n hj).1 (row_c n hj).2 (by omega) (by omega) (by omega) t2 sj (fun I1 b1 b2 b3 => ?_)⟩
  have sm : shM (rwN a j) (aRs a j - 1) (az a) I1 := ⟨b1, fun i hi => by rw [b2 i hi, (hcR j hj).2 i (by omega)]; exact (t3 i hi).2, by rw [b3 12 (by decide) (by decide)]; exact hcF.2.1⟩
  have hC1 := hC.scr (I' := I1) (fun r hr => b3 r (by omega) (by omega)) rfl hcM
  have fm1 := gf hC1.2.1.2
  refine EV.at ck125 (by decide) 300 [] ?_
  conv => whnf
  try dsimp only
  refine ⟨trivial, c_countWays (d := D + 29) oT.1 hS hC1.1.1 hC1.1.2 fm1 hv sm (fun I2 c1 c2 => ?_)⟩
  have hC2 := hC1.scr (I' := I2) (fun r hr => c1 r (by omega)) rfl hcM
  have hlt : aSh a j < 2 ^ 31 := shC_lt h12 t2
  have c2' : MW (aT a) (rwN a j) (az a) (aRs a j - 1) (aq a) I2 := c2
  show EV G 125 _ 0 0 _ _ ((some (Value.int (nI (aSh a j)))).toList ++ _) _ _
  by_cases h0 : 0 < aSh a j
  · rw [if_pos h0] at h
    refine EV.at ck125 (by decide) 300 [] ?_
    conv => whnf
    try dsimp only
    refine ⟨fun z => absurd z (nI_nle h0 hlt), fun _ => ?_⟩
    conv => whnf
    try dsimp only
    refine ⟨in_nI hk (by decide), oS_at ck (row_g _ hk) ?_⟩
    conv => whnf
    try dsimp only
    refine ⟨trivial, c_firstWay (d := D + 9) (c := 39 + 2 * k) (a := 39 + 2 * k + 1) oT.1 hS hC2.1.1 hC2.1.2 (gf hC2.2.1.2) hv (sm.of (c1 33 (by decide)) (c1 34 (by decide)) (c1 12 (by decide))) c2' h0 (row_c n hk).1 (row_c n hk).2 (by omega) (by omega) (by omega) (fun I3 d1 d2 d3 => ?_)⟩
    have hC3 := hC2.scr (I' := fun r => if r = 35 then I3 35 else I2 r) (fun r hr => if_neg (by omega)) rfl hcM
    refine EV.at ck125 (by decide) 300 [] ?_
    conv => whnf
    try dsimp only
    refine ⟨trivial, fin rfl (hC3.row (m := aRs a j) hk (fun r h1 h2 => ?_) (by rw [d1, sz_nI t1]) (fun i hi => d2 i (by omega))) (by omega) (fun r hr => ?_) (FJ.rf J) h⟩
    · by_cases hr : r = 35
      · subst hr; exact (if_pos rfl).symm
      · rw [if_neg hr]; exact d3 r h1 h2 hr
    · rw [d3 r (by omega) (by omega) (by omega), c1 r (by omega), b3 r (by omega) (by omega)]
  · rw [if_neg h0] at h
    have h00 : aSh a j = 0 := by omega
    rw [h00] at h ⊢
    refine EV.at ck125 (by decide) 300 [] ?_
    conv => whnf
    try dsimp only
    first | refine ⟨fun h1 => absurd h1 (by decide), fun _ => ?_⟩ | refine ⟨fun _ => ?_, fun h1 => absurd (by decide) h1⟩ | refine ⟨fun h1 => absurd (by decide) h1, fun _ => ?_⟩ | refine ⟨fun _ => ?_, fun h1 => absurd h1 (by decide)⟩
    conv => whnf
    try dsimp only
    exact ⟨trivial, fin rfl hC2 (by omega) (fun r hr => by rw [c1 r (by omega), b3 r (by omega) (by omega)]) (FJ.rf J) h⟩
theorem k_must {w r : Int32} : CS G n 126 [.int w, .int r] (fun a => sp_must a w r) := by
  intro D I J Q a e hO hC he h
  try dsimp only at h
  obtain ⟨hcT, hcF, hcK, hcR, hcX, hcN, hcA, hcU, hcM⟩ := id hC
  obtain ⟨oT, oF, oN, oK, oR, oX⟩ := id hO
  have h5 : tS (aT a) ≤ 5 := oT.1.1
  unfold sp_must at h
  refine MT.by ck126 (by decide) rfl (Nat.le_of_ble_eq_true rfl) rfl 300 [] ?_
  conv => whnf
  try dsimp only
  refine ⟨trivial, c_wi (K := 2) rfl (by decide) (fun e1 => ?_) (fun v hv0 hr e1 => ?_)⟩
  · refine EV.at ck126 (by decide) 300 [] ?_
    conv => whnf
    try dsimp only
    first | refine ⟨fun h1 => absurd h1 (by decide), fun _ => ?_⟩ | refine ⟨fun _ => ?_, fun h1 => absurd (by decide) h1⟩ | refine ⟨fun h1 => absurd (by decide) h1, fun _ => ?_⟩ | refine ⟨fun _ => ?_, fun h1 => absurd h1 (by decide)⟩
    conv => whnf
    try dsimp only
    exact ⟨trivial, fin (by rw [e1]) hC (by omega) (FC.rf I) (FJ.rf J) h⟩
  rw [e1] at h
  dsimp only at h
  subst hr
  refine EV.at ck126 (by decide) 300 [] ?_
  conv => whnf
  try dsimp only
  first | refine ⟨fun h1 => absurd h1 (by decide), fun _ => ?_⟩ | refine ⟨fun _ => ?_, fun h1 => absurd (by decide) h1⟩ | refine ⟨fun h1 => absurd (by decide) h1, fun _ => ?_⟩ | refine ⟨fun _ => ?_, fun h1 => absurd h1 (by decide)⟩
  conv => whnf
  try dsimp only
  refine ⟨trivial, c_wi (K := 6) rfl (by decide) (fun e2 => ?_) (fun j hj hr e2 => ?_)⟩
  · refine EV.at ck126 (by decide) 300 [] ?_
    conv => whnf
    try dsimp only
    first | refine ⟨fun h1 => absurd h1 (by decide), fun _ => ?_⟩ | refine ⟨fun _ => ?_, fun h1 => absurd (by decide) h1⟩ | refine ⟨fun h1 => absurd (by decide) h1, fun _ => ?_⟩ | refine ⟨fun _ => ?_, fun h1 => absurd h1 (by decide)⟩
    conv => whnf
    try dsimp only
    exact ⟨trivial, fin (by rw [e2]) hC (by omega) (FC.rf I) (FJ.rf J) h⟩
  rw [e2] at h
  dsimp only at h
  subst hr
  have cj : (nI j).toNatClampNeg = j := nI_clamp (by omega)
  refine EV.at ck126 (by decide) 300 [] ?_
  conv => whnf
  try dsimp only
  first | refine ⟨fun h1 => absurd h1 (by decide), fun _ => ?_⟩ | refine ⟨fun _ => ?_, fun h1 => absurd (by decide) h1⟩ | refine ⟨fun h1 => absurd (by decide) h1, fun _ => ?_⟩ | refine ⟨fun _ => ?_, fun h1 => absurd h1 (by decide)⟩
  conv => whnf
  try dsimp only
  rw [hcT.1.1]
  refine ⟨trivial, c_refuseTold (most := 8) hO hC hj (by decide) (by omega) (fun hh => ?_) (fun f hf ht h0 hh => ?_) (fun hh ht => ?_)⟩
  · rw [hh] at h
    refine EV.at ck126 (by decide) 300 [] ?_
    conv => whnf
    try dsimp only
    first | refine ⟨fun h1 => absurd h1 (by decide), fun _ => ?_⟩ | refine ⟨fun _ => ?_, fun h1 => absurd (by decide) h1⟩ | refine ⟨fun h1 => absurd (by decide) h1, fun _ => ?_⟩ | refine ⟨fun _ => ?_, fun h1 => absurd h1 (by decide)⟩
    conv => whnf
    try dsimp only
    exact ⟨trivial, fin rfl hC (by omega) (FC.rf I) (FJ.rf J) h⟩
  · rw [hh, if_pos rfl, ht, if_neg h0] at h
    refine EV.at ck126 (by decide) 300 [] ?_
    conv => whnf
    try dsimp only
    first | refine ⟨fun h1 => absurd h1 (by decide), fun _ => ?_⟩ | refine ⟨fun _ => ?_, fun h1 => absurd (by decide) h1⟩ | refine ⟨fun h1 => absurd (by decide) h1, fun _ => ?_⟩ | refine ⟨fun _ => ?_, fun h1 => absurd h1 (by decide)⟩
    conv => whnf
    try dsimp only
    exact ⟨trivial, fin rfl (hC.fnd hf) (by omega) FC.fnd (FJ.rf J) h⟩
  rw [hh, if_pos rfl, if_pos ht] at h
  obtain ⟨t1, t2, t3⟩ := tld_ok (by omega) ht
  have o41 := oR j hj
  have sj : I (39 + 2 * j) 1 = nI (aRs a j - 1) := by rw [(hcR j hj).1]; exact sz_nI t1
  have hv := (oF hh).1
  have hz : az a ≤ 40 := (oF hh).2.1
  have hS : shOK (aT a) (rwN a j) (aRs a j - 1) (az a) := ⟨t2, hz, fun i hi => (t3 i hi).1⟩
  refine EV.at ck126 (by decide) 300 [] ?_
  conv => whnf
  try dsimp only
  first | refine ⟨fun h1 => absurd h1 (by decide), fun _ => ?_⟩ | refine ⟨fun _ => ?_, fun h1 => absurd (by decide) h1⟩ | refine ⟨fun h1 => absurd (by decide) h1, fun _ => ?_⟩ | refine ⟨fun _ => ?_, fun h1 => absurd h1 (by decide)⟩
  conv => whnf
  try dsimp only
  refine ⟨in_nI hj (by decide), oS_at cj (row_g _ hj) ?_⟩
  conv => whnf
  try dsimp only
  refine ⟨trivial, c_see (row_c n hj).1 (row_c n hj).2 (by omega) (by omega) (by omega) t2 sj (fun I1 b1 b2 b3 => ?_)⟩
  have sm : shM (rwN a j) (aRs a j - 1) (az a) I1 := ⟨b1, fun i hi => by rw [b2 i hi, (hcR j hj).2 i (by omega)]; exact (t3 i hi).2, by rw [b3 12 (by decide) (by decide)]; exact hcF.2.1⟩
  have hC1 := hC.scr (I' := I1) (fun r hr => b3 r (by omega) (by omega)) rfl hcM
  have fm1 := gf hC1.2.1.2
  refine EV.at ck126 (by decide) 300 [] ?_
  conv => whnf
  try dsimp only
  rcases (show v = 0 ∨ v = 1 by omega) with rfl | rfl
  · refine ⟨trivial, c_inAll0 (d := D + 19) oT.1 hS hC1.1.1 hC1.1.2 fm1 hv sm (fun I2 c1 => ?_)⟩
    refine EV.at ck126 (by decide) 300 [] ?_
    conv => whnf
    try dsimp only
    exact ⟨trivial, fin rfl (hC1.scr (fun r hr => c1 r (by omega)) rfl hcM) (by omega) (fun r hr => by rw [c1 r (by omega), b3 r (by omega) (by omega)]) (FJ.rf J) h⟩
  · refine ⟨trivial, c_inAll1 (d := D + 19) oT.1 hS hC1.1.1 hC1.1.2 fm1 hv sm (fun I2 c1 => ?_)⟩
    refine EV.at ck126 (by decide) 300 [] ?_
    conv => whnf
    try dsimp only
    exact ⟨trivial, fin rfl (hC1.scr (fun r hr => c1 r (by omega)) rfl hcM) (by omega) (fun r hr => by rw [c1 r (by omega), b3 r (by omega) (by omega)]) (FJ.rf J) h⟩
end
