/-! the class's calls: fighters, changes done, kept nights -/
theorem sid_g : ∀ j, j < 2 → [some 14, some 15].getD j none = some (14 + j) := by decide
theorem sid_c (n : Nat) {j : Nat} (hj : j < 2) : (SH n)[14 + j]? = some (7, 4, [none, none, none, none]) := by rcases (show j = 0 ∨ j = 1 by omega) with rfl | rfl <;> rfl
theorem sid_m {q : Nat → SD} {I : Nat → Nat → Int32} {j : Nat} (h : fMem q I) (hj : j < 2) : sMem (14 + j) (q j) I := by
  rcases (show j = 0 ∨ j = 1 by omega) with rfl | rfl
  · exact h.1
  · exact h.2
theorem vQ_at {T : TN} {q : Nat → SD} {j : Nat} (h : vQ T q) (hj : j < 2) : sOK T (q j) := by
  rcases (show j = 0 ∨ j = 1 by omega) with rfl | rfl
  · exact h.1
  · exact h.2
theorem fMem_setK {q : Nat → SD} {I : Nat → Nat → Int32} {v j : Nat} (h : fMem q I) (hj : j < 2) : fMem (setK q j v) (upI I (14 + j) 3 (nI v)) := by
  rcases (show j = 0 ∨ j = 1 by omega) with rfl | rfl
  · exact fMem_setK0 h
  · exact fMem_setK1 h
theorem fMem_setF {q : Nat → SD} {I : Nat → Nat → Int32} {v j : Nat} (h : fMem q I) (hj : j < 2) : fMem (setF q j v) (upI I (14 + j) 1 (nI v)) := by
  rcases (show j = 0 ∨ j = 1 by omega) with rfl | rfl
  · exact fMem_setF0 h
  · exact fMem_setF1 h
theorem sB_eq {x k b : Nat} (hk : k < 31) (hb : b < 2) : (if nI b = 1 then nI x ||| jshl 1 (nI k) else nI x &&& (jshl 1 (nI k) ^^^ (-1))) = nI (sB x k b) := by
  rcases (show b = 0 ∨ b = 1 by omega) with rfl | rfl
  · rw [if_neg (by decide), nu_clr hk]
    rfl
  · rw [if_pos (by decide), nu_one hk, fa_or]
    rfl
theorem sdV_eq {I : Nat → Nat → Int32} {c w : Nat} {s : SD} (h : sMem c s I) (hw : w < 4) : (if nI w = 0 then I c 0 else if nI w = 1 then I c 1 else if nI w = 2 then I c 2 else I c 3) = sdV s w := by
  rcases (show w = 0 ∨ w = 1 ∨ w = 2 ∨ w = 3 by omega) with rfl | rfl | rfl | rfl
  · exact h.1
  · rw [if_neg (by decide), if_pos (by decide)]; exact h.2.1
  · rw [if_neg (by decide), if_neg (by decide), if_pos (by decide)]; exact h.2.2.1
  · rw [if_neg (by decide), if_neg (by decide), if_neg (by decide)]; exact h.2.2.2
section
variable {G : GG} {d n : Nat} {I : Nat → Nat → Int32} {J : Nat → Nat → Int64} {Q : Option Value → MH → Prop}
theorem k_fighter {r x : Int32} : CS G n 106 [.int r, .int x] (fun a => sp_fighter a r x) := by
  intro D I J Q a e hO hC he h
  try dsimp only at h
  obtain ⟨hcT, hcF, hcK, hcR, hcX, hcN, hcA, hcU, hcM⟩ := id hC
  obtain ⟨oT, oF, oN, oK, oR, oX⟩ := id hO
  unfold sp_fighter at h
  refine MT.by ck106 (by decide) rfl (Nat.le_of_ble_eq_true rfl) rfl 300 [] ?_
  conv => whnf
  try dsimp only
  refine ⟨trivial, c_fi hcF.1 (fun e1 => ?_) (fun j hj hr hh e1 => ?_)⟩
  · refine EV.at ck106 (by decide) 300 [] ?_
    conv => whnf
    try dsimp only
    first | refine ⟨fun h1 => absurd h1 (by decide), fun _ => ?_⟩ | refine ⟨fun _ => ?_, fun h1 => absurd (by decide) h1⟩ | refine ⟨fun h1 => absurd (by decide) h1, fun _ => ?_⟩ | refine ⟨fun _ => ?_, fun h1 => absurd h1 (by decide)⟩
    conv => whnf
    try dsimp only
    exact ⟨trivial, fin (by rw [e1]) hC (by omega) (FC.rf I) (FJ.rf J) h⟩
  rw [e1] at h
  dsimp only at h
  subst hr
  have cj : (nI j).toNatClampNeg = j := nI_clamp (by omega)
  refine EV.at ck106 (by decide) 300 [] ?_
  conv => whnf
  try dsimp only
  first | refine ⟨fun h1 => absurd h1 (by decide), fun _ => ?_⟩ | refine ⟨fun _ => ?_, fun h1 => absurd (by decide) h1⟩ | refine ⟨fun h1 => absurd (by decide) h1, fun _ => ?_⟩ | refine ⟨fun _ => ?_, fun h1 => absurd h1 (by decide)⟩
  conv => whnf
  try dsimp only
  refine ⟨trivial, c_wi (K := 4) rfl (by decide) (fun e2 => ?_) (fun l hl hr e2 => ?_)⟩
  · refine EV.at ck106 (by decide) 300 [] ?_
    conv => whnf
    try dsimp only
    first | refine ⟨fun h1 => absurd h1 (by decide), fun _ => ?_⟩ | refine ⟨fun _ => ?_, fun h1 => absurd (by decide) h1⟩ | refine ⟨fun h1 => absurd (by decide) h1, fun _ => ?_⟩ | refine ⟨fun _ => ?_, fun h1 => absurd h1 (by decide)⟩
    conv => whnf
    try dsimp only
    exact ⟨trivial, fin (by rw [e2]) hC (by omega) (FC.rf I) (FJ.rf J) h⟩
  rw [e2] at h
  subst hr
  refine EV.at ck106 (by decide) 300 [] ?_
  conv => whnf
  try dsimp only
  first | refine ⟨fun h1 => absurd h1 (by decide), fun _ => ?_⟩ | refine ⟨fun _ => ?_, fun h1 => absurd (by decide) h1⟩ | refine ⟨fun h1 => absurd (by decide) h1, fun _ => ?_⟩ | refine ⟨fun _ => ?_, fun h1 => absurd h1 (by decide)⟩
  conv => whnf
  try dsimp only
  refine ⟨in_nI hj (by decide), oS_at cj (sid_g _ hj) ?_⟩
  conv => whnf
  try dsimp only
  rw [(sid_c n hj)]
  conv => whnf
  try dsimp only
  refine ⟨trivial, c_aboutS (sid_c n hj) ?_⟩
  rw [sdV_eq (sid_m (gf hcF.2) hj) hl]
  refine EV.at ck106 (by decide) 300 [] ?_
  conv => whnf
  try dsimp only
  refine ⟨trivial, c_tell ?_⟩
  refine EV.at ck106 (by decide) 300 [] ?_
  conv => whnf
  try dsimp only
  exact ⟨trivial, fin rfl hC.ask (by omega) (fun r hr => upI_oth (by omega)) (FJ.rf J) h⟩
theorem k_teach {r x b : Int32} : CS G n 107 [.int r, .int x, .int b] (fun a => sp_teach a r x b) := by
  intro D I J Q a e hO hC he h
  try dsimp only at h
  obtain ⟨hcT, hcF, hcK, hcR, hcX, hcN, hcA, hcU, hcM⟩ := id hC
  obtain ⟨oT, oF, oN, oK, oR, oX⟩ := id hO
  have h12 : tC (aT a) ≤ 12 := oT.1.2.2.1
  unfold sp_teach at h
  refine MT.by ck107 (by decide) rfl (Nat.le_of_ble_eq_true rfl) rfl 300 [] ?_
  conv => whnf
  try dsimp only
  refine ⟨trivial, c_fi hcF.1 (fun e1 => ?_) (fun j hj hr hh e1 => ?_)⟩
  · refine EV.at ck107 (by decide) 300 [] ?_
    conv => whnf
    try dsimp only
    first | refine ⟨fun h1 => absurd h1 (by decide), fun _ => ?_⟩ | refine ⟨fun _ => ?_, fun h1 => absurd (by decide) h1⟩ | refine ⟨fun h1 => absurd (by decide) h1, fun _ => ?_⟩ | refine ⟨fun _ => ?_, fun h1 => absurd h1 (by decide)⟩
    conv => whnf
    try dsimp only
    exact ⟨trivial, fin (by rw [e1]) hC (by omega) (FC.rf I) (FJ.rf J) h⟩
  rw [e1] at h
  dsimp only at h
  subst hr
  have cj : (nI j).toNatClampNeg = j := nI_clamp (by omega)
  refine EV.at ck107 (by decide) 300 [] ?_
  conv => whnf
  try dsimp only
  first | refine ⟨fun h1 => absurd h1 (by decide), fun _ => ?_⟩ | refine ⟨fun _ => ?_, fun h1 => absurd (by decide) h1⟩ | refine ⟨fun h1 => absurd (by decide) h1, fun _ => ?_⟩ | refine ⟨fun _ => ?_, fun h1 => absurd h1 (by decide)⟩
  conv => whnf
  try dsimp only
  refine ⟨trivial, c_wi hcT.1.2.2.1 (by omega) (fun e2 => ?_) (fun k hk hr e2 => ?_)⟩
  · refine EV.at ck107 (by decide) 300 [] ?_
    conv => whnf
    try dsimp only
    first | refine ⟨fun h1 => absurd h1 (by decide), fun _ => ?_⟩ | refine ⟨fun _ => ?_, fun h1 => absurd (by decide) h1⟩ | refine ⟨fun h1 => absurd (by decide) h1, fun _ => ?_⟩ | refine ⟨fun _ => ?_, fun h1 => absurd h1 (by decide)⟩
    conv => whnf
    try dsimp only
    exact ⟨trivial, fin (by rw [e2]) hC (by omega) (FC.rf I) (FJ.rf J) h⟩
  rw [e2] at h
  dsimp only at h
  subst hr
  refine EV.at ck107 (by decide) 300 [] ?_
  conv => whnf
  try dsimp only
  first | refine ⟨fun h1 => absurd h1 (by decide), fun _ => ?_⟩ | refine ⟨fun _ => ?_, fun h1 => absurd (by decide) h1⟩ | refine ⟨fun h1 => absurd (by decide) h1, fun _ => ?_⟩ | refine ⟨fun _ => ?_, fun h1 => absurd h1 (by decide)⟩
  conv => whnf
  try dsimp only
  refine ⟨trivial, c_wi (K := 2) rfl (by decide) (fun e3 => ?_) (fun l hl hr e3 => ?_)⟩
  · refine EV.at ck107 (by decide) 300 [] ?_
    conv => whnf
    try dsimp only
    first | refine ⟨fun h1 => absurd h1 (by decide), fun _ => ?_⟩ | refine ⟨fun _ => ?_, fun h1 => absurd (by decide) h1⟩ | refine ⟨fun h1 => absurd (by decide) h1, fun _ => ?_⟩ | refine ⟨fun _ => ?_, fun h1 => absurd h1 (by decide)⟩
    conv => whnf
    try dsimp only
    exact ⟨trivial, fin (by rw [e3]) hC (by omega) (FC.rf I) (FJ.rf J) h⟩
  rw [e3] at h
  subst hr
  have sm := sid_m (gf hcF.2) hj
  have hv := vQ_at (oF hh).1 hj
  have hkn : (aq a j).2.2.2 < 4096 := hv.2.2.2
  refine EV.at ck107 (by decide) 300 [] ?_
  conv => whnf
  try dsimp only
  first | refine ⟨fun h1 => absurd h1 (by decide), fun _ => ?_⟩ | refine ⟨fun _ => ?_, fun h1 => absurd (by decide) h1⟩ | refine ⟨fun h1 => absurd (by decide) h1, fun _ => ?_⟩ | refine ⟨fun _ => ?_, fun h1 => absurd h1 (by decide)⟩
  conv => whnf
  try dsimp only
  refine ⟨in_nI hj (by decide), oS_at cj (sid_g _ hj) ?_⟩
  conv => whnf
  try dsimp only
  rw [(sid_c n hj)]
  conv => whnf
  try dsimp only
  rw [sm.2.2.2]
  refine ⟨trivial, c_bit ?_⟩
  rw [nu_bit (Nat.lt_trans hkn (by decide)) (by omega)]
  refine EV.at ck107 (by decide) 300 [] ?_
  conv => whnf
  try dsimp only
  rw [(sid_c n hj)]
  conv => whnf
  try dsimp only
  rw [sm.2.2.2]
  refine ⟨trivial, c_withBit ?_⟩
  rw [sB_eq (by omega) hl]
  refine EV.at ck107 (by decide) 300 [] ?_
  conv => whnf
  try dsimp only
  rw [(sid_c n hj)]
  conv => whnf
  try dsimp only
  have o : ∀ r, r ≠ 14 → r ≠ 15 → ∀ x, upI I (14 + j) 3 x r = I r := fun r h1 h2 x => upI_oth (by omega)
  refine ⟨trivial, fin rfl (hC.fgt (b := true) (fun r hr => o r (by omega) (by omega) _) ⟨?_, gMem_q hcF.2 (fMem_setK (gf hcF.2) hj) (o 12 (by decide) (by decide) _) (o 16 (by decide) (by decide) _) (o 17 (by decide) (by decide) _)⟩) (by omega) (fun r hr => o r (by omega) (by omega) _) (FJ.rf J) h⟩
  rw [o 12 (by decide) (by decide), hcF.1, hh]
theorem k_fire {r x : Int32} : CS G n 108 [.int r, .int x] (fun a => sp_fire a r x) := by
  intro D I J Q a e hO hC he h
  try dsimp only at h
  obtain ⟨hcT, hcF, hcK, hcR, hcX, hcN, hcA, hcU, hcM⟩ := id hC
  obtain ⟨oT, oF, oN, oK, oR, oX⟩ := id hO
  unfold sp_fire at h
  refine MT.by ck108 (by decide) rfl (Nat.le_of_ble_eq_true rfl) rfl 300 [] ?_
  conv => whnf
  try dsimp only
  refine ⟨trivial, c_fi hcF.1 (fun e1 => ?_) (fun j hj hr hh e1 => ?_)⟩
  · refine EV.at ck108 (by decide) 300 [] ?_
    conv => whnf
    try dsimp only
    first | refine ⟨fun h1 => absurd h1 (by decide), fun _ => ?_⟩ | refine ⟨fun _ => ?_, fun h1 => absurd (by decide) h1⟩ | refine ⟨fun h1 => absurd (by decide) h1, fun _ => ?_⟩ | refine ⟨fun _ => ?_, fun h1 => absurd h1 (by decide)⟩
    conv => whnf
    try dsimp only
    exact ⟨trivial, fin (by rw [e1]) hC (by omega) (FC.rf I) (FJ.rf J) h⟩
  rw [e1] at h
  dsimp only at h
  subst hr
  have cj : (nI j).toNatClampNeg = j := nI_clamp (by omega)
  refine EV.at ck108 (by decide) 300 [] ?_
  conv => whnf
  try dsimp only
  first | refine ⟨fun h1 => absurd h1 (by decide), fun _ => ?_⟩ | refine ⟨fun _ => ?_, fun h1 => absurd (by decide) h1⟩ | refine ⟨fun h1 => absurd (by decide) h1, fun _ => ?_⟩ | refine ⟨fun _ => ?_, fun h1 => absurd h1 (by decide)⟩
  conv => whnf
  try dsimp only
  rcases ix_cases (n := 6) (by decide) x with ⟨e2, e3⟩ | ⟨k, hk, rfl, e2, e3⟩
  · rw [e2] at h
    refine ⟨fun z1 => ?_, fun z1 => ?_⟩
    · conv => whnf
      try dsimp only
      exact ⟨trivial, fin rfl hC (by omega) (FC.rf I) (FJ.rf J) h⟩
    conv => whnf
    try dsimp only
    refine ⟨fun z2 => ?_, fun z2 => ?_⟩
    · exact absurd ⟨Int32.not_lt.mp z1, Int32.lt_of_le_of_lt z2 (by decide)⟩ (of_decide_eq_false e3)
    conv => whnf
    try dsimp only
    exact ⟨trivial, fin rfl hC (by omega) (FC.rf I) (FJ.rf J) h⟩
  rw [e2] at h
  have sm := sid_m (gf hcF.2) hj
  refine ⟨fun z1 => absurd z1 (nI_pos (by omega)), fun z1 => ?_⟩
  conv => whnf
  try dsimp only
  refine ⟨fun z2 => ?_, fun z2 => absurd (nI_le (b := 5) (by omega) (by decide)) z2⟩
  conv => whnf
  try dsimp only
  refine ⟨in_nI hj (by decide), oS_at cj (sid_g _ hj) ?_⟩
  conv => whnf
  try dsimp only
  rw [(sid_c n hj)]
  conv => whnf
  try dsimp only
  refine ⟨in_nI hj (by decide), oS_at cj (sid_g _ hj) ?_⟩
  conv => whnf
  try dsimp only
  rw [(sid_c n hj)]
  conv => whnf
  try dsimp only
  rw [sm.2.1]
  have o : ∀ r, r ≠ 14 → r ≠ 15 → ∀ x, upI I (14 + j) 1 x r = I r := fun r h1 h2 x => upI_oth (by omega)
  refine ⟨trivial, fin rfl (hC.fgt (b := true) (fun r hr => o r (by omega) (by omega) _) ⟨?_, gMem_q hcF.2 (fMem_setF (gf hcF.2) hj) (o 12 (by decide) (by decide) _) (o 16 (by decide) (by decide) _) (o 17 (by decide) (by decide) _)⟩) (by omega) (fun r hr => o r (by omega) (by omega) _) (FJ.rf J) h⟩
  rw [o 12 (by decide) (by decide), hcF.1, hh]
theorem k_beat {r x b : Int32} : CS G n 109 [.int r, .int x, .int b] (fun a => sp_beat a r x b) := by
  intro D I J Q a e hO hC he h
  try dsimp only at h
  obtain ⟨hcT, hcF, hcK, hcR, hcX, hcN, hcA, hcU, hcM⟩ := id hC
  obtain ⟨oT, oF, oN, oK, oR, oX⟩ := id hO
  have h5 : tS (aT a) ≤ 5 := oT.1.1
  unfold sp_beat at h
  refine MT.by ck109 (by decide) rfl (Nat.le_of_ble_eq_true rfl) rfl 300 [] ?_
  conv => whnf
  try dsimp only
  refine ⟨trivial, c_wi hcT.1.1 (by omega) (fun e1 => ?_) (fun j hj hr e1 => ?_)⟩
  · refine EV.at ck109 (by decide) 300 [] ?_
    conv => whnf
    try dsimp only
    first | refine ⟨fun h1 => absurd h1 (by decide), fun _ => ?_⟩ | refine ⟨fun _ => ?_, fun h1 => absurd (by decide) h1⟩ | refine ⟨fun h1 => absurd (by decide) h1, fun _ => ?_⟩ | refine ⟨fun _ => ?_, fun h1 => absurd h1 (by decide)⟩
    conv => whnf
    try dsimp only
    exact ⟨trivial, fin (by rw [e1]) hC (by omega) (FC.rf I) (FJ.rf J) h⟩
  rw [e1] at h
  dsimp only at h
  subst hr
  have cj : (nI j).toNatClampNeg = j := nI_clamp (by omega)
  refine EV.at ck109 (by decide) 300 [] ?_
  conv => whnf
  try dsimp only
  first | refine ⟨fun h1 => absurd h1 (by decide), fun _ => ?_⟩ | refine ⟨fun _ => ?_, fun h1 => absurd (by decide) h1⟩ | refine ⟨fun h1 => absurd (by decide) h1, fun _ => ?_⟩ | refine ⟨fun _ => ?_, fun h1 => absurd h1 (by decide)⟩
  conv => whnf
  try dsimp only
  refine ⟨trivial, c_wi hcT.1.1 (by omega) (fun e2 => ?_) (fun k hk hr e2 => ?_)⟩
  · refine EV.at ck109 (by decide) 300 [] ?_
    conv => whnf
    try dsimp only
    first | refine ⟨fun h1 => absurd h1 (by decide), fun _ => ?_⟩ | refine ⟨fun _ => ?_, fun h1 => absurd (by decide) h1⟩ | refine ⟨fun h1 => absurd (by decide) h1, fun _ => ?_⟩ | refine ⟨fun _ => ?_, fun h1 => absurd h1 (by decide)⟩
    conv => whnf
    try dsimp only
    exact ⟨trivial, fin (by rw [e2]) hC (by omega) (FC.rf I) (FJ.rf J) h⟩
  rw [e2] at h
  dsimp only at h
  subst hr
  refine EV.at ck109 (by decide) 300 [] ?_
  conv => whnf
  try dsimp only
  first | refine ⟨fun h1 => absurd h1 (by decide), fun _ => ?_⟩ | refine ⟨fun _ => ?_, fun h1 => absurd (by decide) h1⟩ | refine ⟨fun h1 => absurd (by decide) h1, fun _ => ?_⟩ | refine ⟨fun _ => ?_, fun h1 => absurd h1 (by decide)⟩
  conv => whnf
  try dsimp only
  refine pk_eq j k (fun z1 => ?_) (fun z1 => ?_)
  · conv => whnf
    try dsimp only
    exact ⟨trivial, fin (if_pos z1) hC (by omega) (FC.rf I) (FJ.rf J) h⟩
  rw [if_neg z1] at h
  conv => whnf
  try dsimp only
  refine ⟨trivial, c_wi (K := 2) rfl (by decide) (fun e3 => ?_) (fun l hl hr e3 => ?_)⟩
  · refine EV.at ck109 (by decide) 300 [] ?_
    conv => whnf
    try dsimp only
    first | refine ⟨fun h1 => absurd h1 (by decide), fun _ => ?_⟩ | refine ⟨fun _ => ?_, fun h1 => absurd (by decide) h1⟩ | refine ⟨fun h1 => absurd (by decide) h1, fun _ => ?_⟩ | refine ⟨fun _ => ?_, fun h1 => absurd h1 (by decide)⟩
    conv => whnf
    try dsimp only
    exact ⟨trivial, fin (by rw [e3]) hC (by omega) (FC.rf I) (FJ.rf J) h⟩
  rw [e3] at h
  subst hr
  have hk8 := (oT.1.2.1 j hj).2
  have m8 := (hcT.1.2.1 j hj).2
  refine EV.at ck109 (by decide) 300 [] ?_
  conv => whnf
  try dsimp only
  first | refine ⟨fun h1 => absurd h1 (by decide), fun _ => ?_⟩ | refine ⟨fun _ => ?_, fun h1 => absurd (by decide) h1⟩ | refine ⟨fun h1 => absurd (by decide) h1, fun _ => ?_⟩ | refine ⟨fun _ => ?_, fun h1 => absurd h1 (by decide)⟩
  conv => whnf
  try dsimp only
  refine ⟨in_nI (show j < 5 by omega) (by decide), ?_⟩
  conv => whnf
  try dsimp only
  rw [cj, m8]
  refine ⟨trivial, c_bit ?_⟩
  rw [nu_bit (by omega) (by omega)]
  refine EV.at ck109 (by decide) 300 [] ?_
  conv => whnf
  try dsimp only
  refine ⟨in_nI (show j < 5 by omega) (by decide), ?_⟩
  conv => whnf
  try dsimp only
  rw [cj, m8]
  refine ⟨trivial, c_withBit ?_⟩
  rw [sB_eq (by omega) hl]
  refine EV.at ck109 (by decide) 300 [] ?_
  conv => whnf
  try dsimp only
  refine ⟨in_nI (show j < 5 by omega) (by decide), ?_⟩
  conv => whnf
  try dsimp only
  rw [cj]
  refine ⟨trivial, fin rfl (hC.tab (fun r hr => upI_oth (by omega)) ?_) (by omega) (fun r hr => upI_oth (by omega)) (FJ.rf J) h⟩
  obtain ⟨t1, t2, t3, t4⟩ := hcT.1
  refine ⟨by rw [upI_oth (by decide)]; exact t1, fun i hi => ?_, by rw [upI_oth (by decide)]; exact t3, fun k' hk' => ?_⟩
  · rw [upI_oth (r' := 7) (by decide)]
    refine ⟨(t2 i hi).1, ?_⟩
    show _ = nI (if i = j then _ else _)
    by_cases hij : i = j
    · subst hij
      rw [up_same, if_pos rfl]
    · rw [up_ne hij, if_neg hij]
      exact (t2 i hi).2
  · rw [upI_oth (r' := 9) (by decide), upI_oth (r' := 10) (by decide), upI_oth (r' := 11) (by decide)]
    exact t4 k' hk'
theorem k_can {r : Int32} : CS G n 110 [.int r] (fun a => sp_can a r) := by
  intro D I J Q a e hO hC he h
  try dsimp only at h
  obtain ⟨hcT, hcF, hcK, hcR, hcX, hcN, hcA, hcU, hcM⟩ := id hC
  obtain ⟨oT, oF, oN, oK, oR, oX⟩ := id hO
  unfold sp_can at h
  refine MT.by ck110 (by decide) rfl (Nat.le_of_ble_eq_true rfl) rfl 300 [] ?_
  conv => whnf
  try dsimp only
  refine ⟨trivial, c_fi hcF.1 (fun e1 => ?_) (fun j hj hr hh e1 => ?_)⟩
  · refine EV.at ck110 (by decide) 300 [] ?_
    conv => whnf
    try dsimp only
    first | refine ⟨fun h1 => absurd h1 (by decide), fun _ => ?_⟩ | refine ⟨fun _ => ?_, fun h1 => absurd (by decide) h1⟩ | refine ⟨fun h1 => absurd (by decide) h1, fun _ => ?_⟩ | refine ⟨fun _ => ?_, fun h1 => absurd h1 (by decide)⟩
    conv => whnf
    try dsimp only
    exact ⟨trivial, fin (by rw [e1]) hC (by omega) (FC.rf I) (FJ.rf J) h⟩
  rw [e1] at h
  subst hr
  have hv := (oF hh).1
  refine EV.at ck110 (by decide) 300 [] ?_
  conv => whnf
  try dsimp only
  first | refine ⟨fun h1 => absurd h1 (by decide), fun _ => ?_⟩ | refine ⟨fun _ => ?_, fun h1 => absurd (by decide) h1⟩ | refine ⟨fun h1 => absurd (by decide) h1, fun _ => ?_⟩ | refine ⟨fun _ => ?_, fun h1 => absurd h1 (by decide)⟩
  conv => whnf
  try dsimp only
  refine ⟨trivial, c_options hj oT.1 hcT.1 (gf hcF.2) hv.1 hv.2 hcT.2 ?_⟩
  refine EV.at ck110 (by decide) 300 [] ?_
  conv => whnf
  try dsimp only
  exact ⟨trivial, fin rfl hC (by omega) (FC.rf I) (FJ.rf J) h⟩
theorem k_turn : CS G n 111 [] sp_turn := by
  intro D I J Q a e hO hC he h
  try dsimp only at h
  obtain ⟨hcT, hcF, hcK, hcR, hcX, hcN, hcA, hcU, hcM⟩ := id hC
  obtain ⟨oT, oF, oN, oK, oR, oX⟩ := id hO
  unfold sp_turn at h
  cases hh : aH a
  · rw [hh] at h
    refine MT.by ck111 (by decide) rfl (Nat.le_of_ble_eq_true rfl) rfl 300 [] ?_
    conv => whnf
    try dsimp only
    rw [hcF.1, hh]
    first | refine ⟨fun h1 => absurd h1 (by decide), fun _ => ?_⟩ | refine ⟨fun _ => ?_, fun h1 => absurd (by decide) h1⟩ | refine ⟨fun h1 => absurd (by decide) h1, fun _ => ?_⟩ | refine ⟨fun _ => ?_, fun h1 => absurd h1 (by decide)⟩
    conv => whnf
    try dsimp only
    exact ⟨trivial, fin rfl hC (by omega) (FC.rf I) (FJ.rf J) h⟩
  rw [hh, if_pos rfl] at h
  have hv := (oF hh).1
  have hz : az a ≤ 40 := (oF hh).2.1
  have hw : aw a < 2 := Nat.mod_lt _ (by decide)
  refine MT.by ck111 (by decide) rfl (Nat.le_of_ble_eq_true rfl) rfl 300 [] ?_
  conv => whnf
  try dsimp only
  rw [hcF.1, hh]
  first | refine ⟨fun h1 => absurd h1 (by decide), fun _ => ?_⟩ | refine ⟨fun _ => ?_, fun h1 => absurd (by decide) h1⟩ | refine ⟨fun h1 => absurd (by decide) h1, fun _ => ?_⟩ | refine ⟨fun _ => ?_, fun h1 => absurd h1 (by decide)⟩
  conv => whnf
  try dsimp only
  refine ⟨trivial, c_mover hz hcF.2.1 ?_⟩
  refine EV.at ck111 (by decide) 300 [] ?_
  conv => whnf
  try dsimp only
  refine ⟨trivial, c_options hw oT.1 hcT.1 (gf hcF.2) hv.1 hv.2 hcT.2 ?_⟩
  have hp : 2 ^ tC (aT a) ≤ 2 ^ 12 := Nat.pow_le_pow_right (by decide) oT.1.2.2.1
  have ol : opt a (aw a) < 2 ^ tC (aT a) := optN_lt _
  show EV G 111 _ 0 0 _ _ ((some (Value.int (nI (opt a (aw a))))).toList ++ _) _ _
  by_cases h0 : opt a (aw a) = 0
  · rw [if_pos h0] at h
    rw [h0]
    refine EV.at ck111 (by decide) 300 [] ?_
    conv => whnf
    try dsimp only
    first | refine ⟨fun h1 => absurd h1 (by decide), fun _ => ?_⟩ | refine ⟨fun _ => ?_, fun h1 => absurd (by decide) h1⟩ | refine ⟨fun h1 => absurd (by decide) h1, fun _ => ?_⟩ | refine ⟨fun _ => ?_, fun h1 => absurd h1 (by decide)⟩
    conv => whnf
    try dsimp only
    exact ⟨trivial, fin rfl hC.ask (by omega) (fun r hr => upI_oth (by omega)) (FJ.rf J) h⟩
  · rw [if_neg h0] at h
    refine EV.at ck111 (by decide) 300 [] ?_
    conv => whnf
    try dsimp only
    refine ⟨fun _ => ?_, fun z => absurd z (nI_ne0 (by omega) (by omega))⟩
    conv => whnf
    try dsimp only
    exact ⟨trivial, fin rfl hC.ask (by omega) (fun r hr => upI_oth (by omega)) (FJ.rf J) h⟩
theorem k_go {r : Int32} : CS G n 112 [.int r] (fun a => sp_go a r) := by
  intro D I J Q a e hO hC he h
  try dsimp only at h
  obtain ⟨hcT, hcF, hcK, hcR, hcX, hcN, hcA, hcU, hcM⟩ := id hC
  obtain ⟨oT, oF, oN, oK, oR, oX⟩ := id hO
  have h12 : tC (aT a) ≤ 12 := oT.1.2.2.1
  unfold sp_go at h
  refine MT.by ck112 (by decide) rfl (Nat.le_of_ble_eq_true rfl) rfl 300 [] ?_
  conv => whnf
  try dsimp only
  refine ⟨trivial, c_wi hcT.1.2.2.1 (by omega) (fun e1 => ?_) (fun k hk hr e1 => ?_)⟩
  · refine EV.at ck112 (by decide) 300 [] ?_
    conv => whnf
    try dsimp only
    first | refine ⟨fun h1 => absurd h1 (by decide), fun _ => ?_⟩ | refine ⟨fun _ => ?_, fun h1 => absurd (by decide) h1⟩ | refine ⟨fun h1 => absurd (by decide) h1, fun _ => ?_⟩ | refine ⟨fun _ => ?_, fun h1 => absurd h1 (by decide)⟩
    conv => whnf
    try dsimp only
    exact ⟨trivial, fin (by rw [e1]) hC (by omega) (FC.rf I) (FJ.rf J) h⟩
  rw [e1] at h
  dsimp only at h
  subst hr
  have hh := aH_of hO (Or.inr (by omega))
  have hv := (oF hh).1
  have hz : az a ≤ 40 := (oF hh).2.1
  have hw : aw a < 2 := Nat.mod_lt _ (by decide)
  have tl := takes_lt (q := aq a (aw a)) (o := (aq a (1 - aw a)).1) oT.1 hk
  refine EV.at ck112 (by decide) 300 [] ?_
  conv => whnf
  try dsimp only
  first | refine ⟨fun h1 => absurd h1 (by decide), fun _ => ?_⟩ | refine ⟨fun _ => ?_, fun h1 => absurd (by decide) h1⟩ | refine ⟨fun h1 => absurd (by decide) h1, fun _ => ?_⟩ | refine ⟨fun _ => ?_, fun h1 => absurd h1 (by decide)⟩
  conv => whnf
  try dsimp only
  refine ⟨trivial, c_mover hz hcF.2.1 ?_⟩
  refine EV.at ck112 (by decide) 300 [] ?_
  conv => whnf
  try dsimp only
  refine ⟨trivial, c_takes hw oT.1 hcT.1 (gf hcF.2) hv.1 hv.2 hcT.2 hk ?_⟩
  cases hb : canN (aT a) (aq a (aw a)) (aq a (1 - aw a)).1 k
  · rw [hb] at h
    have ht : takesN (aT a) (aq a (aw a)) (aq a (1 - aw a)).1 k = 0 := by unfold takesN; rw [hb]; rfl
    show EV G 112 _ 0 0 _ _ ((some (Value.int (nI (takesN (aT a) (aq a (aw a)) (aq a (1 - aw a)).1 k)))).toList ++ _) _ _
    rw [ht]
    refine EV.at ck112 (by decide) 300 [] ?_
    conv => whnf
    try dsimp only
    first | refine ⟨fun h1 => absurd h1 (by decide), fun _ => ?_⟩ | refine ⟨fun _ => ?_, fun h1 => absurd (by decide) h1⟩ | refine ⟨fun h1 => absurd (by decide) h1, fun _ => ?_⟩ | refine ⟨fun _ => ?_, fun h1 => absurd h1 (by decide)⟩
    conv => whnf
    try dsimp only
    exact ⟨trivial, fin rfl hC (by omega) (FC.rf I) (FJ.rf J) h⟩
  rw [hb, if_pos rfl] at h
  have ht : 0 < takesN (aT a) (aq a (aw a)) (aq a (1 - aw a)).1 k := takes_pos.mpr hb
  refine EV.at ck112 (by decide) 300 [] ?_
  conv => whnf
  try dsimp only
  refine ⟨fun _ => ?_, fun z => absurd z (nI_ne0 ht (Nat.lt_trans tl (by decide)))⟩
  conv => whnf
  try dsimp only
  by_cases h40 : az a = 40
  · rw [if_pos h40] at h
    refine ⟨trivial, c_performF (by rw [hcF.2.1]; exact congrArg nI h40) ?_⟩
    refine EV.at ck112 (by decide) 300 [] ?_
    conv => whnf
    try dsimp only
    first | refine ⟨fun h1 => absurd h1 (by decide), fun _ => ?_⟩ | refine ⟨fun _ => ?_, fun h1 => absurd (by decide) h1⟩ | refine ⟨fun h1 => absurd (by decide) h1, fun _ => ?_⟩ | refine ⟨fun _ => ?_, fun h1 => absurd h1 (by decide)⟩
    conv => whnf
    try dsimp only
    exact ⟨trivial, fin rfl hC (by omega) (FC.rf I) (FJ.rf J) h⟩
  · rw [if_neg h40] at h
    obtain ⟨g1, g2, g3⟩ := gMem_do (T := aT a) (k := k) hcF.2
    refine ⟨trivial, c_perform (show az a < 40 by omega) hcF.2.1 oT.1 hcT.1 (gf hcF.2) hv hk hb ?_⟩
    refine EV.at ck112 (by decide) 300 [] ?_
    conv => whnf
    try dsimp only
    first | refine ⟨fun h1 => absurd h1 (by decide), fun _ => ?_⟩ | refine ⟨fun _ => ?_, fun h1 => absurd (by decide) h1⟩ | refine ⟨fun h1 => absurd (by decide) h1, fun _ => ?_⟩ | refine ⟨fun _ => ?_, fun h1 => absurd h1 (by decide)⟩
    conv => whnf
    try dsimp only
    exact ⟨trivial, fin rfl (hC.fgt (b := true) g2 ⟨by rw [g3, hcF.1, hh], g1⟩) (by omega) (fun r hr => g2 r (by omega)) (FJ.rf J) h⟩
theorem k_undo {r : Int32} : CS G n 113 [.int r] (fun a => sp_undo a r) := by
  intro D I J Q a e hO hC he h
  try dsimp only at h
  obtain ⟨hcT, hcF, hcK, hcR, hcX, hcN, hcA, hcU, hcM⟩ := id hC
  obtain ⟨oT, oF, oN, oK, oR, oX⟩ := id hO
  have hz : az a ≤ 40 := by
    cases hh : aH a with
    | true => exact (oF hh).2.1
    | false => have h0 : az a = 0 := (oN hh).2.2.1; omega
  unfold sp_undo at h
  refine MT.by ck113 (by decide) rfl (Nat.le_of_ble_eq_true rfl) rfl 300 [] ?_
  conv => whnf
  try dsimp only
  rcases ix_cases (n := az a + 1) (by omega) r with ⟨e2, e3⟩ | ⟨m, hm, rfl, e2, e3⟩
  · rw [e2] at h
    refine ⟨fun z1 => ?_, fun z1 => ?_⟩
    · conv => whnf
      try dsimp only
      exact ⟨trivial, fin rfl hC (by omega) (FC.rf I) (FJ.rf J) h⟩
    conv => whnf
    try dsimp only
    rw [hcF.2.1]
    refine ⟨fun z2 => ?_, fun z2 => ?_⟩
    · obtain ⟨m, hm, rfl⟩ := nI_of z1
      have := (nI_leI hm (show az a < 2 ^ 31 by omega)).mp z2
      exact absurd ⟨Int32.not_lt.mp z1, nI_lt (show m < az a + 1 by omega) (by omega)⟩ (of_decide_eq_false e3)
    conv => whnf
    try dsimp only
    exact ⟨trivial, fin rfl hC (by omega) (FC.rf I) (FJ.rf J) h⟩
  rw [e2] at h
  dsimp only at h
  refine ⟨fun z1 => absurd z1 (nI_pos (by omega)), fun z1 => ?_⟩
  conv => whnf
  try dsimp only
  rw [hcF.2.1]
  refine ⟨fun z2 => ?_, fun z2 => absurd (nI_le (show m ≤ az a by omega) (by omega)) z2⟩
  conv => whnf
  try dsimp only
  by_cases hmz : m < az a
  · rw [if_pos hmz] at h
    have hh : aH a = true := by
      cases hh : aH a with
      | true => rfl
      | false => have h0 : az a = 0 := (oN hh).2.2.1; omega
    have ha := ((oF hh).2.2 m hmz).2
    have s0 := sS_of oT.1 ha.1
    have s1 := sS_of oT.1 ha.2
    obtain ⟨f1, f2, f3, f4⟩ := id hcF.2
    refine ⟨trivial, c_takeBack (q' := (aF a).2.2.2 m) hz hmz hcF.2.1 (f4 m hmz).2 s0 s1 ?_⟩
    refine EV.at ck113 (by decide) 300 [] ?_
    conv => whnf
    try dsimp only
    have o : ∀ r, r ≠ 12 → r ≠ 14 → r ≠ 15 → upI (fdI I ((aF a).2.2.2 m)) 12 5 (nI m) r = I r := fun r h1 h2 h3 => by rw [upI_oth h1, fd_oth h2 h3]
    refine ⟨trivial, fin rfl (hC.fgt (b := true) (fun r hr => o r (by omega) (by omega) (by omega)) ⟨?_, up_same, ?_, ?_, fun i hi => ?_⟩) (by omega) (fun r hr => o r (by omega) (by omega) (by omega)) (FJ.rf J) h⟩
    · rw [up_ne (by decide), fd_oth (by decide) (by decide), hcF.1, hh]
    · exact sMem_oth (fMem_fd (gf hcF.2) (q' := fun w => (((aF a).2.2.2 m w).1, ((aF a).2.2.2 m w).2.1, ((aF a).2.2.2 m w).2.2.1, (aq a w).2.2.2)) rfl rfl).1 (upI_oth (by decide))
    · exact sMem_oth (fMem_fd (gf hcF.2) (q' := fun w => (((aF a).2.2.2 m w).1, ((aF a).2.2.2 m w).2.1, ((aF a).2.2.2 m w).2.2.1, (aq a w).2.2.2)) rfl rfl).2 (upI_oth (by decide))
    · have hi : i < m := hi
      rw [o _ (by decide) (by decide) (by decide), o _ (by decide) (by decide) (by decide)]
      exact f4 i (show i < az a by omega)
  · rw [if_neg hmz] at h
    have hm2 : m = az a := by omega
    rw [hm2]
    refine ⟨trivial, c_takeBack0 hz hcF.2.1 ?_⟩
    refine EV.at ck113 (by decide) 300 [] ?_
    conv => whnf
    try dsimp only
    exact ⟨trivial, fin rfl hC (by omega) (FC.rf I) (FJ.rf J) h⟩
theorem k_told {r : Int32} : CS G n 114 [.int r] (fun a => sp_told a r) := by
  intro D I J Q a e hO hC he h
  try dsimp only at h
  obtain ⟨hcT, hcF, hcK, hcR, hcX, hcN, hcA, hcU, hcM⟩ := id hC
  obtain ⟨oT, oF, oN, oK, oR, oX⟩ := id hO
  have hz : az a ≤ 40 := by
    cases hh : aH a with
    | true => exact (oF hh).2.1
    | false => have h0 : az a = 0 := (oN hh).2.2.1; omega
  unfold sp_told at h
  refine MT.by ck114 (by decide) rfl (Nat.le_of_ble_eq_true rfl) rfl 300 [] ?_
  conv => whnf
  try dsimp only
  refine ⟨trivial, c_wi (K := 6) rfl (by decide) (fun e1 => ?_) (fun j hj hr e1 => ?_)⟩
  · refine EV.at ck114 (by decide) 300 [] ?_
    conv => whnf
    try dsimp only
    first | refine ⟨fun h1 => absurd h1 (by decide), fun _ => ?_⟩ | refine ⟨fun _ => ?_, fun h1 => absurd (by decide) h1⟩ | refine ⟨fun h1 => absurd (by decide) h1, fun _ => ?_⟩ | refine ⟨fun _ => ?_, fun h1 => absurd h1 (by decide)⟩
    conv => whnf
    try dsimp only
    exact ⟨trivial, fin (by rw [e1]) hC (by omega) (FC.rf I) (FJ.rf J) h⟩
  rw [e1] at h
  subst hr
  have cj : (nI j).toNatClampNeg = j := nI_clamp (by omega)
  have hz5 := hcF.2.1
  have hd := hcF.2.2.2.2
  refine EV.at ck114 (by decide) 300 [] ?_
  conv => whnf
  try dsimp only
  first | refine ⟨fun h1 => absurd h1 (by decide), fun _ => ?_⟩ | refine ⟨fun _ => ?_, fun h1 => absurd (by decide) h1⟩ | refine ⟨fun h1 => absurd (by decide) h1, fun _ => ?_⟩ | refine ⟨fun _ => ?_, fun h1 => absurd h1 (by decide)⟩
  conv => whnf
  try dsimp only
  refine ⟨in_nI hj (by decide), oS_at cj (row_g _ hj) ?_⟩
  conv => whnf
  try dsimp only
  rw [(row_c n hj).1]
  conv => whnf
  try dsimp only
  rw [hz5]
  refine ⟨trivial, c_setTo (M := 40) (row_c n hj).1 (row_c n hj).2 rfl hz hz (by decide) ?_⟩
  have o : ∀ r, r ≠ 39 + 2 * j → r ≠ 39 + 2 * j + 1 → cpI (upI I (39 + 2 * j) 1 (nI (az a))) 16 (39 + 2 * j + 1) 0 0 (az a) r = I r := fun r h1 h2 => by rw [cp_oth h2, upI_oth h1]
  refine EV.at ck114 (by decide) 300 [] ?_
  conv => whnf
  try dsimp only
  rw [o 12 (by omega) (by omega), hz5]
  refine ⟨trivial, fin rfl (hC.row hj o ?_ (fun i hi => ?_)) (by omega) (fun r hr => o r (by omega) (by omega)) (FJ.rf J) h⟩
  · rw [cp_oth (by omega), up_same]
    rfl
  · rw [cp_in (show i < az a by omega), upI_oth (by omega)]
    exact (hd i (show i < az a by omega)).1
theorem k_keep {r : Int32} : CS G n 115 [.int r] (fun a => sp_keep a r) := by
  intro D I J Q a e hO hC he h
  try dsimp only at h
  obtain ⟨hcT, hcF, hcK, hcR, hcX, hcN, hcA, hcU, hcM⟩ := id hC
  obtain ⟨oT, oF, oN, oK, oR, oX⟩ := id hO
  unfold sp_keep at h
  refine MT.by ck115 (by decide) rfl (Nat.le_of_ble_eq_true rfl) rfl 300 [] ?_
  conv => whnf
  try dsimp only
  refine ⟨trivial, c_wi (K := 3) rfl (by decide) (fun e1 => ?_) (fun j hj hr e1 => ?_)⟩
  · refine EV.at ck115 (by decide) 300 [] ?_
    conv => whnf
    try dsimp only
    first | refine ⟨fun h1 => absurd h1 (by decide), fun _ => ?_⟩ | refine ⟨fun _ => ?_, fun h1 => absurd (by decide) h1⟩ | refine ⟨fun h1 => absurd (by decide) h1, fun _ => ?_⟩ | refine ⟨fun _ => ?_, fun h1 => absurd h1 (by decide)⟩
    conv => whnf
    try dsimp only
    exact ⟨trivial, fin (by rw [e1]) hC (by omega) (FC.rf I) (FJ.rf J) h⟩
  rw [e1] at h
  dsimp only at h
  subst hr
  have cj : (nI j).toNatClampNeg = j := nI_clamp (by omega)
  refine EV.at ck115 (by decide) 300 [] ?_
  conv => whnf
  try dsimp only
  first | refine ⟨fun h1 => absurd h1 (by decide), fun _ => ?_⟩ | refine ⟨fun _ => ?_, fun h1 => absurd (by decide) h1⟩ | refine ⟨fun h1 => absurd (by decide) h1, fun _ => ?_⟩ | refine ⟨fun _ => ?_, fun h1 => absurd h1 (by decide)⟩
  conv => whnf
  try dsimp only
  rw [hcF.1]
  cases hh : aH a
  · rw [hh] at h
    first | refine ⟨fun h1 => absurd h1 (by decide), fun _ => ?_⟩ | refine ⟨fun _ => ?_, fun h1 => absurd (by decide) h1⟩ | refine ⟨fun h1 => absurd (by decide) h1, fun _ => ?_⟩ | refine ⟨fun _ => ?_, fun h1 => absurd h1 (by decide)⟩
    conv => whnf
    try dsimp only
    exact ⟨trivial, fin rfl hC (by omega) (FC.rf I) (FJ.rf J) h⟩
  rw [hh, if_pos rfl] at h
  have hz : az a ≤ 40 := (oF hh).2.1
  first | refine ⟨fun h1 => absurd h1 (by decide), fun _ => ?_⟩ | refine ⟨fun _ => ?_, fun h1 => absurd (by decide) h1⟩ | refine ⟨fun h1 => absurd (by decide) h1, fun _ => ?_⟩ | refine ⟨fun _ => ?_, fun h1 => absurd h1 (by decide)⟩
  conv => whnf
  try dsimp only
  refine ⟨in_nI hj (by decide), oS_at cj (kpt_g _ hj) ?_⟩
  conv => whnf
  try dsimp only
  rw [(kpt_c n hj).1]
  conv => whnf
  try dsimp only
  refine ⟨trivial, c_takeOverF (b := 59 + 6 * j) (b' := 12) (F := aF a) (kpt_c n hj) (gSh_at n).1 (by omega) hz (by rw [hcF.1, hh]; exact Or.inr rfl) hcF.2 (fun I' a1 a2 a3 => ?_)⟩
  refine EV.at ck115 (by decide) 300 [] ?_
  conv => whnf
  try dsimp only
  rw [a3 12 (by omega), hcF.2.1]
  refine ⟨trivial, fin rfl (hC.kpt (fun r hr => a3 r (by omega)) (fun k hk => ?_)) (by omega) (fun r hr => a3 r (by omega)) (FJ.rf J) h⟩
  by_cases hkj : k = j
  · subst hkj
    rw [if_pos rfl]
    exact ⟨by rw [a2, hcF.1, hh], fun _ => a1⟩
  · rw [if_neg hkj, a3 _ (by omega)]
    exact ⟨(hcK k hk).1, fun hb => gMem_of ((hcK k hk).2 hb) (fun r h1 h2 => a3 r (by omega))⟩
theorem k_on {r : Int32} : CS G n 116 [.int r] (fun a => sp_on a r) := by
  intro D I J Q a e hO hC he h
  try dsimp only at h
  obtain ⟨hcT, hcF, hcK, hcR, hcX, hcN, hcA, hcU, hcM⟩ := id hC
  obtain ⟨oT, oF, oN, oK, oR, oX⟩ := id hO
  unfold sp_on at h
  refine MT.by ck116 (by decide) rfl (Nat.le_of_ble_eq_true rfl) rfl 300 [] ?_
  conv => whnf
  try dsimp only
  refine ⟨trivial, c_wi (K := 3) rfl (by decide) (fun e1 => ?_) (fun j hj hr e1 => ?_)⟩
  · refine EV.at ck116 (by decide) 300 [] ?_
    conv => whnf
    try dsimp only
    first | refine ⟨fun h1 => absurd h1 (by decide), fun _ => ?_⟩ | refine ⟨fun _ => ?_, fun h1 => absurd (by decide) h1⟩ | refine ⟨fun h1 => absurd (by decide) h1, fun _ => ?_⟩ | refine ⟨fun _ => ?_, fun h1 => absurd h1 (by decide)⟩
    conv => whnf
    try dsimp only
    exact ⟨trivial, fin (by rw [e1]) hC (by omega) (FC.rf I) (FJ.rf J) h⟩
  rw [e1] at h
  dsimp only at h
  subst hr
  have cj : (nI j).toNatClampNeg = j := nI_clamp (by omega)
  obtain ⟨k1, k2⟩ := hcK j hj
  refine EV.at ck116 (by decide) 300 [] ?_
  conv => whnf
  try dsimp only
  first | refine ⟨fun h1 => absurd h1 (by decide), fun _ => ?_⟩ | refine ⟨fun _ => ?_, fun h1 => absurd (by decide) h1⟩ | refine ⟨fun h1 => absurd (by decide) h1, fun _ => ?_⟩ | refine ⟨fun _ => ?_, fun h1 => absurd h1 (by decide)⟩
  conv => whnf
  try dsimp only
  refine ⟨in_nI hj (by decide), oS_at cj (kpt_g _ hj) ?_⟩
  conv => whnf
  try dsimp only
  rw [(kpt_c n hj).1]
  conv => whnf
  try dsimp only
  rw [k1]
  cases hh : (aK a j).1
  · rw [hh] at h
    first | refine ⟨fun h1 => absurd h1 (by decide), fun _ => ?_⟩ | refine ⟨fun _ => ?_, fun h1 => absurd (by decide) h1⟩ | refine ⟨fun h1 => absurd (by decide) h1, fun _ => ?_⟩ | refine ⟨fun _ => ?_, fun h1 => absurd h1 (by decide)⟩
    conv => whnf
    try dsimp only
    refine ⟨trivial, c_find (f := 1) (by decide) ?_⟩
    refine EV.at ck116 (by decide) 300 [] ?_
    conv => whnf
    try dsimp only
    exact ⟨trivial, fin rfl (hC.fnd (by decide)) (by omega) FC.fnd (FJ.rf J) h⟩
  rw [hh, if_pos rfl] at h
  have hz := (oK j hj hh).2.2.1
  first | refine ⟨fun h1 => absurd h1 (by decide), fun _ => ?_⟩ | refine ⟨fun _ => ?_, fun h1 => absurd (by decide) h1⟩ | refine ⟨fun h1 => absurd (by decide) h1, fun _ => ?_⟩ | refine ⟨fun _ => ?_, fun h1 => absurd h1 (by decide)⟩
  conv => whnf
  try dsimp only
  refine ⟨in_nI hj (by decide), oS_at cj (kpt_g _ hj) ?_⟩
  conv => whnf
  try dsimp only
  refine ⟨trivial, c_takeOverF (b := 12) (b' := 59 + 6 * j) (F := (aK a j).2) (gSh_at n).1 (kpt_c n hj) (by omega) hz (by rw [k1, hh]; exact Or.inr rfl) (k2 hh) (fun I' a1 a2 a3 => ?_)⟩
  refine EV.at ck116 (by decide) 300 [] ?_
  conv => whnf
  try dsimp only
  rw [a1.1]
  exact ⟨trivial, fin rfl (hC.fgt (b := true) (fun r hr => a3 r (by omega)) ⟨by rw [a2, k1, hh], a1⟩) (by omega) (fun r hr => a3 r (by omega)) (FJ.rf J) h⟩
end
