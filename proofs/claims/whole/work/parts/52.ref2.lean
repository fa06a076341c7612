/-! the reference's calls: rows and texts -/
theorem FM.fnd {I : Nat → Nat → Int32} {f : Nat} {x y : Int32} : FM I (upI (upI I 77 10 x) 85 f y) := ((FM.rf I).up (by decide)).up (by decide)
theorem sz_L {m : Nat} (hm : m ≤ 100) (h0 : m ≠ 0) : (szI m - 1).toInt64.toInt = ((m - 1 : Nat) : Int) - 1 := by
  rw [sz_nI h0]
  exact sub1 (by omega)
section
variable {G : GG} {d n : Nat} {I : Nat → Nat → Int32} {J : Nat → Nat → Int64} {Q : Option Value → MH → Prop}
theorem m_row {r x : Int32} : RS G n 166 [.int r, .int x] (fun a => sp_row a r x) := by
  intro D I J Q a hO hC h
  try dsimp only at h
  obtain ⟨hcT, hcF, hcK, hcR, hcX, hcN, hcA, hcU⟩ := id hC
  obtain ⟨oT, oF, oN, oK, oR, oX⟩ := id hO
  unfold sp_row at h
  refine MT.by ck166 (by decide) rfl (Nat.le_of_ble_eq_true rfl) rfl 300 [] ?_
  conv => whnf
  try dsimp only
  refine ⟨trivial, r_isRow (fun e1 => ?_) (fun j hj hr e1 => ?_)⟩
  · rw [e1] at h
    refine EV.at ck166 (by decide) 300 [] ?_
    conv => whnf
    try dsimp only
    first | refine ⟨fun h1 => absurd h1 (by decide), fun _ => ?_⟩ | refine ⟨fun _ => ?_, fun h1 => absurd (by decide) h1⟩ | refine ⟨fun h1 => absurd (by decide) h1, fun _ => ?_⟩ | refine ⟨fun _ => ?_, fun h1 => absurd h1 (by decide)⟩
    conv => whnf
    try dsimp only
    exact ⟨trivial, rfin rfl hC (FM.rf I) (FMJ.rf J) h⟩
  rw [e1] at h
  dsimp only at h
  subst hr
  refine EV.at ck166 (by decide) 300 [] ?_
  conv => whnf
  try dsimp only
  first | refine ⟨fun h1 => absurd h1 (by decide), fun _ => ?_⟩ | refine ⟨fun _ => ?_, fun h1 => absurd (by decide) h1⟩ | refine ⟨fun h1 => absurd (by decide) h1, fun _ => ?_⟩ | refine ⟨fun _ => ?_, fun h1 => absurd h1 (by decide)⟩
  conv => whnf
  try dsimp only
  refine ⟨fun z1 => ?_, fun z1 => ?_⟩
  case refine_2 =>
    conv => whnf
    try dsimp only
    exact ⟨trivial, rfin (if_pos (Int32.not_le.mp z1)) hC (FM.rf I) (FMJ.rf J) h⟩
  rw [if_neg (show ¬ nI 40 < x from Int32.not_lt.mpr z1)] at h
  conv => whnf
  try dsimp only
  refine ⟨fun z2 => ?_, fun z2 => ?_⟩
  case refine_2 =>
    conv => whnf
    try dsimp only
    refine ⟨trivial, r_found (f := 5) (by decide) ?_⟩
    refine EV.at ck166 (by decide) 300 [] ?_
    conv => whnf
    try dsimp only
    exact ⟨trivial, rfin (if_pos (Int32.not_le.mp z2)) (hC.fnd (by decide)) FM.fnd (FMJ.rf J) h⟩
  rw [if_neg (Int32.not_lt.mpr z2)] at h
  obtain ⟨m, hm, rfl⟩ := nI_of (Int32.not_lt.mpr z2)
  have hm40 : m ≤ 40 := (nI_leI (b := 40) hm (by decide)).mp z1
  rw [nI_clamp hm] at h
  conv => whnf
  try dsimp only
  refine ⟨trivial, r_anew hj ?_⟩
  refine EV.at ck166 (by decide) 300 [] ?_
  conv => whnf
  try dsimp only
  refine ⟨trivial, rfin rfl (hC.row hj (fun r _ h1 h2 => ?_) (fun r hr => ?_) ?_ (fun x hx => ?_) (fun i hi => ?_) oR) (fun r hr => ?_) (FMJ.rf J) h⟩
  · unfold flI
    funext k
    rw [if_neg (fun z => h2 z.1), upI_oth h1]
  · unfold flI
    rw [if_neg (by omega), up_ne hr]
  · unfold flI
    rw [if_neg (by omega), up_same]
    rfl
  · unfold flI
    rw [if_neg (by omega), upI_oth (by decide)]
  · unfold flI
    rw [if_pos ⟨rfl, by omega, by omega⟩]
  · unfold flI
    funext k
    rw [if_neg (by omega), upI_oth (by omega)]
theorem m_lay {r x v : Int32} : RS G n 167 [.int r, .int x, .int v] (fun a => sp_lay a r x v) := by
  intro D I J Q a hO hC h
  try dsimp only at h
  obtain ⟨hcT, hcF, hcK, hcR, hcX, hcN, hcA, hcU⟩ := id hC
  obtain ⟨oT, oF, oN, oK, oR, oX⟩ := id hO
  unfold sp_lay at h
  refine MT.by ck167 (by decide) rfl (Nat.le_of_ble_eq_true rfl) rfl 300 [] ?_
  conv => whnf
  try dsimp only
  refine ⟨trivial, r_isRow (fun e1 => ?_) (fun j hj hr e1 => ?_)⟩
  · rw [e1] at h
    refine EV.at ck167 (by decide) 300 [] ?_
    conv => whnf
    try dsimp only
    first | refine ⟨fun h1 => absurd h1 (by decide), fun _ => ?_⟩ | refine ⟨fun _ => ?_, fun h1 => absurd (by decide) h1⟩ | refine ⟨fun h1 => absurd (by decide) h1, fun _ => ?_⟩ | refine ⟨fun _ => ?_, fun h1 => absurd h1 (by decide)⟩
    conv => whnf
    try dsimp only
    exact ⟨trivial, rfin rfl hC (FM.rf I) (FMJ.rf J) h⟩
  rw [e1] at h
  dsimp only at h
  subst hr
  have cj : (nI j).toNatClampNeg = j := nI_clamp (by omega)
  have o41 := oR j hj
  obtain ⟨r1, r2⟩ := hcR j hj
  refine EV.at ck167 (by decide) 300 [] ?_
  conv => whnf
  try dsimp only
  first | refine ⟨fun h1 => absurd h1 (by decide), fun _ => ?_⟩ | refine ⟨fun _ => ?_, fun h1 => absurd (by decide) h1⟩ | refine ⟨fun h1 => absurd (by decide) h1, fun _ => ?_⟩ | refine ⟨fun _ => ?_, fun h1 => absurd h1 (by decide)⟩
  conv => whnf
  try dsimp only
  refine ⟨in_nI hj (by decide), ?_⟩
  conv => whnf
  try dsimp only
  rw [cj, r1]
  by_cases hz : aRs a j = 0
  · rw [if_pos hz] at h
    rw [hz] at r1 ⊢
    first | refine ⟨fun h1 => absurd h1 (by decide), fun _ => ?_⟩ | refine ⟨fun _ => ?_, fun h1 => absurd (by decide) h1⟩ | refine ⟨fun h1 => absurd (by decide) h1, fun _ => ?_⟩ | refine ⟨fun _ => ?_, fun h1 => absurd h1 (by decide)⟩
    conv => whnf
    try dsimp only
    refine ⟨in_nI hj (by decide), ?_⟩
    conv => whnf
    try dsimp only
    rw [cj, r1]
    first | refine ⟨fun h1 => absurd h1 (by decide), fun _ => ?_⟩ | refine ⟨fun _ => ?_, fun h1 => absurd (by decide) h1⟩ | refine ⟨fun h1 => absurd (by decide) h1, fun _ => ?_⟩ | refine ⟨fun _ => ?_, fun h1 => absurd h1 (by decide)⟩
    conv => whnf
    try dsimp only
    refine ⟨trivial, r_found (f := 1) (by decide) ?_⟩
    refine EV.at ck167 (by decide) 300 [] ?_
    conv => whnf
    try dsimp only
    exact ⟨trivial, rfin rfl (hC.fnd (by decide)) FM.fnd (FMJ.rf J) h⟩
  rw [if_neg hz] at h
  refine ⟨fun z => absurd ((szI_neg (by omega)).mp z) hz, fun _ => ?_⟩
  conv => whnf
  try dsimp only
  refine ⟨in_nI hj (by decide), ?_⟩
  conv => whnf
  try dsimp only
  rw [cj, r1]
  refine ⟨trivial, r_ix (K := aRs a j - 1) (sz_L (by omega) hz) (by omega) (fun e2 => ?_) (fun i hi hr e2 => ?_)⟩
  · rw [e2] at h
    refine EV.at ck167 (by decide) 300 [] ?_
    conv => whnf
    try dsimp only
    first | refine ⟨fun h1 => absurd h1 (by decide), fun _ => ?_⟩ | refine ⟨fun _ => ?_, fun h1 => absurd (by decide) h1⟩ | refine ⟨fun h1 => absurd (by decide) h1, fun _ => ?_⟩ | refine ⟨fun _ => ?_, fun h1 => absurd h1 (by decide)⟩
    conv => whnf
    try dsimp only
    refine ⟨in_nI hj (by decide), ?_⟩
    conv => whnf
    try dsimp only
    rw [cj, r1]
    refine ⟨fun _ => ?_, fun z => absurd ((szI_neg (by omega)).mp (Int32.not_le.mp z)) hz⟩
    conv => whnf
    try dsimp only
    refine ⟨trivial, r_found (f := 2) (by decide) ?_⟩
    refine EV.at ck167 (by decide) 300 [] ?_
    conv => whnf
    try dsimp only
    exact ⟨trivial, rfin rfl (hC.fnd (by decide)) FM.fnd (FMJ.rf J) h⟩
  · rw [e2] at h
    subst hr
    have ci : (nI (40 * j + i)).toNatClampNeg = 40 * j + i := nI_clamp (by omega)
    refine EV.at ck167 (by decide) 300 [] ?_
    conv => whnf
    try dsimp only
    first | refine ⟨fun h1 => absurd h1 (by decide), fun _ => ?_⟩ | refine ⟨fun _ => ?_, fun h1 => absurd (by decide) h1⟩ | refine ⟨fun h1 => absurd (by decide) h1, fun _ => ?_⟩ | refine ⟨fun _ => ?_, fun h1 => absurd h1 (by decide)⟩
    conv => whnf
    try dsimp only
    rw [i40]
    refine ⟨in_nI (show 40 * j + i < 240 by omega) (by decide), ?_⟩
    conv => whnf
    try dsimp only
    rw [i40]
    refine ⟨in_nI (show 40 * j + i < 240 by omega) (by decide), ?_⟩
    conv => whnf
    try dsimp only
    rw [ci, r2 i (by omega)]
    refine ⟨trivial, r_says ?_⟩
    refine EV.at ck167 (by decide) 300 [] ?_
    conv => whnf
    try dsimp only
    exact ⟨trivial, rfin rfl ((hC.cell (i := i) (v := v) hj (by omega) oR).ask) (((FM.rf I).up (by decide)).up (by decide)) (FMJ.rf J) h⟩
theorem m_at {r x : Int32} : RS G n 168 [.int r, .int x] (fun a => sp_at a r x) := by
  intro D I J Q a hO hC h
  try dsimp only at h
  obtain ⟨hcT, hcF, hcK, hcR, hcX, hcN, hcA, hcU⟩ := id hC
  obtain ⟨oT, oF, oN, oK, oR, oX⟩ := id hO
  unfold sp_at at h
  refine MT.by ck168 (by decide) rfl (Nat.le_of_ble_eq_true rfl) rfl 300 [] ?_
  conv => whnf
  try dsimp only
  refine ⟨trivial, r_isRow (fun e1 => ?_) (fun j hj hr e1 => ?_)⟩
  · rw [e1] at h
    refine EV.at ck168 (by decide) 300 [] ?_
    conv => whnf
    try dsimp only
    first | refine ⟨fun h1 => absurd h1 (by decide), fun _ => ?_⟩ | refine ⟨fun _ => ?_, fun h1 => absurd (by decide) h1⟩ | refine ⟨fun h1 => absurd (by decide) h1, fun _ => ?_⟩ | refine ⟨fun _ => ?_, fun h1 => absurd h1 (by decide)⟩
    conv => whnf
    try dsimp only
    exact ⟨trivial, rfin rfl hC (FM.rf I) (FMJ.rf J) h⟩
  rw [e1] at h
  dsimp only at h
  subst hr
  have cj : (nI j).toNatClampNeg = j := nI_clamp (by omega)
  have o41 := oR j hj
  obtain ⟨r1, r2⟩ := hcR j hj
  refine EV.at ck168 (by decide) 300 [] ?_
  conv => whnf
  try dsimp only
  first | refine ⟨fun h1 => absurd h1 (by decide), fun _ => ?_⟩ | refine ⟨fun _ => ?_, fun h1 => absurd (by decide) h1⟩ | refine ⟨fun h1 => absurd (by decide) h1, fun _ => ?_⟩ | refine ⟨fun _ => ?_, fun h1 => absurd h1 (by decide)⟩
  conv => whnf
  try dsimp only
  refine ⟨in_nI hj (by decide), ?_⟩
  conv => whnf
  try dsimp only
  rw [cj, r1]
  by_cases hz : aRs a j = 0
  · rw [if_pos hz] at h
    rw [hz] at r1 ⊢
    first | refine ⟨fun h1 => absurd h1 (by decide), fun _ => ?_⟩ | refine ⟨fun _ => ?_, fun h1 => absurd (by decide) h1⟩ | refine ⟨fun h1 => absurd (by decide) h1, fun _ => ?_⟩ | refine ⟨fun _ => ?_, fun h1 => absurd h1 (by decide)⟩
    conv => whnf
    try dsimp only
    refine ⟨in_nI hj (by decide), ?_⟩
    conv => whnf
    try dsimp only
    rw [cj, r1]
    first | refine ⟨fun h1 => absurd h1 (by decide), fun _ => ?_⟩ | refine ⟨fun _ => ?_, fun h1 => absurd (by decide) h1⟩ | refine ⟨fun h1 => absurd (by decide) h1, fun _ => ?_⟩ | refine ⟨fun _ => ?_, fun h1 => absurd h1 (by decide)⟩
    conv => whnf
    try dsimp only
    refine ⟨trivial, r_found (f := 1) (by decide) ?_⟩
    refine EV.at ck168 (by decide) 300 [] ?_
    conv => whnf
    try dsimp only
    exact ⟨trivial, rfin rfl (hC.fnd (by decide)) FM.fnd (FMJ.rf J) h⟩
  rw [if_neg hz] at h
  refine ⟨fun z => absurd ((szI_neg (by omega)).mp z) hz, fun _ => ?_⟩
  conv => whnf
  try dsimp only
  refine ⟨in_nI hj (by decide), ?_⟩
  conv => whnf
  try dsimp only
  rw [cj, r1]
  refine ⟨trivial, r_ix (K := aRs a j - 1) (sz_L (by omega) hz) (by omega) (fun e2 => ?_) (fun i hi hr e2 => ?_)⟩
  · rw [e2] at h
    refine EV.at ck168 (by decide) 300 [] ?_
    conv => whnf
    try dsimp only
    first | refine ⟨fun h1 => absurd h1 (by decide), fun _ => ?_⟩ | refine ⟨fun _ => ?_, fun h1 => absurd (by decide) h1⟩ | refine ⟨fun h1 => absurd (by decide) h1, fun _ => ?_⟩ | refine ⟨fun _ => ?_, fun h1 => absurd h1 (by decide)⟩
    conv => whnf
    try dsimp only
    refine ⟨in_nI hj (by decide), ?_⟩
    conv => whnf
    try dsimp only
    rw [cj, r1]
    refine ⟨fun _ => ?_, fun z => absurd ((szI_neg (by omega)).mp (Int32.not_le.mp z)) hz⟩
    conv => whnf
    try dsimp only
    refine ⟨trivial, r_found (f := 2) (by decide) ?_⟩
    refine EV.at ck168 (by decide) 300 [] ?_
    conv => whnf
    try dsimp only
    exact ⟨trivial, rfin rfl (hC.fnd (by decide)) FM.fnd (FMJ.rf J) h⟩
  · rw [e2] at h
    subst hr
    have ci : (nI (40 * j + i)).toNatClampNeg = 40 * j + i := nI_clamp (by omega)
    refine EV.at ck168 (by decide) 300 [] ?_
    conv => whnf
    try dsimp only
    first | refine ⟨fun h1 => absurd h1 (by decide), fun _ => ?_⟩ | refine ⟨fun _ => ?_, fun h1 => absurd (by decide) h1⟩ | refine ⟨fun h1 => absurd (by decide) h1, fun _ => ?_⟩ | refine ⟨fun _ => ?_, fun h1 => absurd h1 (by decide)⟩
    conv => whnf
    try dsimp only
    rw [i40]
    refine ⟨in_nI (show 40 * j + i < 240 by omega) (by decide), ?_⟩
    conv => whnf
    try dsimp only
    rw [ci, r2 i (by omega)]
    refine ⟨trivial, r_says ?_⟩
    refine EV.at ck168 (by decide) 300 [] ?_
    conv => whnf
    try dsimp only
    exact ⟨trivial, rfin rfl hC.ask ((FM.rf I).up (by decide)) (FMJ.rf J) h⟩
theorem m_put {r x v : Int32} : RS G n 174 [.int r, .int x, .int v] (fun a => sp_put a r x v) := by
  intro D I J Q a hO hC h
  try dsimp only at h
  obtain ⟨hcT, hcF, hcK, hcR, hcX, hcN, hcA, hcU⟩ := id hC
  obtain ⟨oT, oF, oN, oK, oR, oX⟩ := id hO
  unfold sp_put at h
  refine MT.by ck174 (by decide) rfl (Nat.le_of_ble_eq_true rfl) rfl 300 [] ?_
  conv => whnf
  try dsimp only
  refine ⟨trivial, r_isText (fun e1 => ?_) (fun j hj hr e1 => ?_)⟩
  · rw [e1] at h
    refine EV.at ck174 (by decide) 300 [] ?_
    conv => whnf
    try dsimp only
    first | refine ⟨fun h1 => absurd h1 (by decide), fun _ => ?_⟩ | refine ⟨fun _ => ?_, fun h1 => absurd (by decide) h1⟩ | refine ⟨fun h1 => absurd (by decide) h1, fun _ => ?_⟩ | refine ⟨fun _ => ?_, fun h1 => absurd h1 (by decide)⟩
    conv => whnf
    try dsimp only
    exact ⟨trivial, rfin rfl hC (FM.rf I) (FMJ.rf J) h⟩
  rw [e1] at h
  dsimp only at h
  subst hr
  have cj : (nI j).toNatClampNeg = j := nI_clamp (by omega)
  have o81 := oX j hj
  obtain ⟨r1, r2⟩ := hcX j hj
  refine EV.at ck174 (by decide) 300 [] ?_
  conv => whnf
  try dsimp only
  first | refine ⟨fun h1 => absurd h1 (by decide), fun _ => ?_⟩ | refine ⟨fun _ => ?_, fun h1 => absurd (by decide) h1⟩ | refine ⟨fun h1 => absurd (by decide) h1, fun _ => ?_⟩ | refine ⟨fun _ => ?_, fun h1 => absurd h1 (by decide)⟩
  conv => whnf
  try dsimp only
  refine ⟨in_nI hj (by decide), ?_⟩
  conv => whnf
  try dsimp only
  rw [cj, r1]
  by_cases hz : aTs a j = 0
  · rw [if_pos hz] at h
    rw [hz] at r1 ⊢
    first | refine ⟨fun h1 => absurd h1 (by decide), fun _ => ?_⟩ | refine ⟨fun _ => ?_, fun h1 => absurd (by decide) h1⟩ | refine ⟨fun h1 => absurd (by decide) h1, fun _ => ?_⟩ | refine ⟨fun _ => ?_, fun h1 => absurd h1 (by decide)⟩
    conv => whnf
    try dsimp only
    refine ⟨in_nI hj (by decide), ?_⟩
    conv => whnf
    try dsimp only
    rw [cj, r1]
    first | refine ⟨fun h1 => absurd h1 (by decide), fun _ => ?_⟩ | refine ⟨fun _ => ?_, fun h1 => absurd (by decide) h1⟩ | refine ⟨fun h1 => absurd (by decide) h1, fun _ => ?_⟩ | refine ⟨fun _ => ?_, fun h1 => absurd h1 (by decide)⟩
    conv => whnf
    try dsimp only
    refine ⟨trivial, r_found (f := 1) (by decide) ?_⟩
    refine EV.at ck174 (by decide) 300 [] ?_
    conv => whnf
    try dsimp only
    exact ⟨trivial, rfin rfl (hC.fnd (by decide)) FM.fnd (FMJ.rf J) h⟩
  rw [if_neg hz] at h
  refine ⟨fun z => absurd ((szI_neg (by omega)).mp z) hz, fun _ => ?_⟩
  conv => whnf
  try dsimp only
  refine ⟨in_nI hj (by decide), ?_⟩
  conv => whnf
  try dsimp only
  rw [cj, r1]
  refine ⟨trivial, r_ix (K := aTs a j - 1) (sz_L (by omega) hz) (by omega) (fun e2 => ?_) (fun i hi hr e2 => ?_)⟩
  · rw [e2] at h
    refine EV.at ck174 (by decide) 300 [] ?_
    conv => whnf
    try dsimp only
    first | refine ⟨fun h1 => absurd h1 (by decide), fun _ => ?_⟩ | refine ⟨fun _ => ?_, fun h1 => absurd (by decide) h1⟩ | refine ⟨fun h1 => absurd (by decide) h1, fun _ => ?_⟩ | refine ⟨fun _ => ?_, fun h1 => absurd h1 (by decide)⟩
    conv => whnf
    try dsimp only
    refine ⟨in_nI hj (by decide), ?_⟩
    conv => whnf
    try dsimp only
    rw [cj, r1]
    refine ⟨fun _ => ?_, fun z => absurd ((szI_neg (by omega)).mp (Int32.not_le.mp z)) hz⟩
    conv => whnf
    try dsimp only
    refine ⟨trivial, r_found (f := 2) (by decide) ?_⟩
    refine EV.at ck174 (by decide) 300 [] ?_
    conv => whnf
    try dsimp only
    exact ⟨trivial, rfin rfl (hC.fnd (by decide)) FM.fnd (FMJ.rf J) h⟩
  · rw [e2] at h
    subst hr
    have ci : (nI (80 * j + i)).toNatClampNeg = 80 * j + i := nI_clamp (by omega)
    refine EV.at ck174 (by decide) 300 [] ?_
    conv => whnf
    try dsimp only
    first | refine ⟨fun h1 => absurd h1 (by decide), fun _ => ?_⟩ | refine ⟨fun _ => ?_, fun h1 => absurd (by decide) h1⟩ | refine ⟨fun h1 => absurd (by decide) h1, fun _ => ?_⟩ | refine ⟨fun _ => ?_, fun h1 => absurd h1 (by decide)⟩
    conv => whnf
    try dsimp only
    rw [i80]
    refine ⟨in_nI (show 80 * j + i < 320 by omega) (by decide), ?_⟩
    conv => whnf
    try dsimp only
    rw [i80]
    refine ⟨in_nI (show 80 * j + i < 320 by omega) (by decide), ?_⟩
    conv => whnf
    try dsimp only
    rw [ci, r2 i (by omega)]
    exact ⟨trivial, rfin rfl (hC.tcell (i := i) (v := i2b v) hj (by omega) oX) ((FM.rf I).up (by decide)) (FMJ.rf J) h⟩
theorem m_tear {r : Int32} : RS G n 169 [.int r] (fun a => sp_tear a r) := by
  intro D I J Q a hO hC h
  try dsimp only at h
  obtain ⟨hcT, hcF, hcK, hcR, hcX, hcN, hcA, hcU⟩ := id hC
  obtain ⟨oT, oF, oN, oK, oR, oX⟩ := id hO
  unfold sp_tear at h
  refine MT.by ck169 (by decide) rfl (Nat.le_of_ble_eq_true rfl) rfl 300 [] ?_
  conv => whnf
  try dsimp only
  refine ⟨trivial, r_isRow (fun e1 => ?_) (fun j hj hr e1 => ?_)⟩
  · rw [e1] at h
    refine EV.at ck169 (by decide) 300 [] ?_
    conv => whnf
    try dsimp only
    first | refine ⟨fun h1 => absurd h1 (by decide), fun _ => ?_⟩ | refine ⟨fun _ => ?_, fun h1 => absurd (by decide) h1⟩ | refine ⟨fun h1 => absurd (by decide) h1, fun _ => ?_⟩ | refine ⟨fun _ => ?_, fun h1 => absurd h1 (by decide)⟩
    conv => whnf
    try dsimp only
    exact ⟨trivial, rfin rfl hC (FM.rf I) (FMJ.rf J) h⟩
  rw [e1] at h
  dsimp only at h
  subst hr
  have cj : (nI j).toNatClampNeg = j := nI_clamp (by omega)
  have o41 := oR j hj
  obtain ⟨r1, r2⟩ := hcR j hj
  refine EV.at ck169 (by decide) 300 [] ?_
  conv => whnf
  try dsimp only
  first | refine ⟨fun h1 => absurd h1 (by decide), fun _ => ?_⟩ | refine ⟨fun _ => ?_, fun h1 => absurd (by decide) h1⟩ | refine ⟨fun h1 => absurd (by decide) h1, fun _ => ?_⟩ | refine ⟨fun _ => ?_, fun h1 => absurd h1 (by decide)⟩
  conv => whnf
  try dsimp only
  refine ⟨in_nI hj (by decide), ?_⟩
  conv => whnf
  try dsimp only
  rw [cj, r1]
  by_cases hz : aRs a j = 0
  · rw [if_pos hz] at h
    rw [hz]
    first | refine ⟨fun h1 => absurd h1 (by decide), fun _ => ?_⟩ | refine ⟨fun _ => ?_, fun h1 => absurd (by decide) h1⟩ | refine ⟨fun h1 => absurd (by decide) h1, fun _ => ?_⟩ | refine ⟨fun _ => ?_, fun h1 => absurd h1 (by decide)⟩
    conv => whnf
    try dsimp only
    refine ⟨trivial, r_found (f := 1) (by decide) ?_⟩
    refine EV.at ck169 (by decide) 300 [] ?_
    conv => whnf
    try dsimp only
    exact ⟨trivial, rfin rfl (hC.fnd (by decide)) FM.fnd (FMJ.rf J) h⟩
  rw [if_neg hz] at h
  refine ⟨fun _ => ?_, fun z => absurd ((szI_neg (by omega)).mp (Int32.not_le.mp z)) hz⟩
  conv => whnf
  try dsimp only
  refine ⟨in_nI hj (by decide), ?_⟩
  conv => whnf
  try dsimp only
  rw [cj]
  exact ⟨trivial, rfin rfl (hC.row hj (fun r _ h1 h2 => upI_oth h1) (fun r hr => up_ne hr) up_same (fun x hx => by rw [upI_oth (by decide)]) (fun i hi => absurd hi (by omega)) oR) ((FM.rf I).up (by decide)) (FMJ.rf J) h⟩
theorem m_text {r x : Int32} : RS G n 173 [.int r, .int x] (fun a => sp_text a r x) := by
  intro D I J Q a hO hC h
  try dsimp only at h
  obtain ⟨hcT, hcF, hcK, hcR, hcX, hcN, hcA, hcU⟩ := id hC
  obtain ⟨oT, oF, oN, oK, oR, oX⟩ := id hO
  unfold sp_text at h
  refine MT.by ck173 (by decide) rfl (Nat.le_of_ble_eq_true rfl) rfl 300 [34] ?_
  conv => whnf
  try dsimp only
  refine ⟨trivial, r_isText (fun e1 => ?_) (fun j hj hr e1 => ?_)⟩
  · rw [e1] at h
    refine EV.at ck173 (by decide) 300 [] ?_
    conv => whnf
    try dsimp only
    first | refine ⟨fun h1 => absurd h1 (by decide), fun _ => ?_⟩ | refine ⟨fun _ => ?_, fun h1 => absurd (by decide) h1⟩ | refine ⟨fun h1 => absurd (by decide) h1, fun _ => ?_⟩ | refine ⟨fun _ => ?_, fun h1 => absurd h1 (by decide)⟩
    conv => whnf
    try dsimp only
    exact ⟨trivial, rfin rfl hC (FM.rf I) (FMJ.rf J) h⟩
  rw [e1] at h
  dsimp only at h
  subst hr
  have cj : (nI j).toNatClampNeg = j := nI_clamp (by omega)
  refine EV.at ck173 (by decide) 300 [34] ?_
  conv => whnf
  try dsimp only
  first | refine ⟨fun h1 => absurd h1 (by decide), fun _ => ?_⟩ | refine ⟨fun _ => ?_, fun h1 => absurd (by decide) h1⟩ | refine ⟨fun h1 => absurd (by decide) h1, fun _ => ?_⟩ | refine ⟨fun _ => ?_, fun h1 => absurd h1 (by decide)⟩
  conv => whnf
  try dsimp only
  refine ⟨fun z1 => ?_, fun z1 => ?_⟩
  case refine_2 =>
    conv => whnf
    try dsimp only
    exact ⟨trivial, rfin (if_pos (Int32.not_le.mp z1)) hC (FM.rf I) (FMJ.rf J) h⟩
  rw [if_neg (show ¬ nI 80 < x from Int32.not_lt.mpr z1)] at h
  conv => whnf
  try dsimp only
  refine ⟨fun z2 => ?_, fun z2 => ?_⟩
  case refine_2 =>
    conv => whnf
    try dsimp only
    refine ⟨trivial, r_found (f := 5) (by decide) ?_⟩
    refine EV.at ck173 (by decide) 300 [] ?_
    conv => whnf
    try dsimp only
    exact ⟨trivial, rfin (if_pos (Int32.not_le.mp z2)) (hC.fnd (by decide)) FM.fnd (FMJ.rf J) h⟩
  rw [if_neg (Int32.not_lt.mpr z2)] at h
  obtain ⟨m, hm, rfl⟩ := nI_of (Int32.not_lt.mpr z2)
  have hm80 : m ≤ 80 := (nI_leI (b := 80) hm (by decide)).mp z1
  rw [nI_clamp hm] at h
  have loop : ∀ q k, k + q = 80 → EV G 173 (D + 59) 0 0 34 [.ref 77, .int (nI j), .int (nI m), .int (nI k)] [] (SH n, flI (upI I 88 j (nI m)) 89 (80 * j) (80 * j + k) 32, J) Q := by
    intro q
    induction q with
    | zero =>
      intro k hk
      have hk : k = 80 := hk
      subst hk
      refine EV.at ck173 (by decide) 300 [] ?_
      conv => whnf
      try dsimp only
      first | refine ⟨fun h1 => absurd h1 (by decide), fun _ => ?_⟩ | refine ⟨fun _ => ?_, fun h1 => absurd (by decide) h1⟩ | refine ⟨fun h1 => absurd (by decide) h1, fun _ => ?_⟩ | refine ⟨fun _ => ?_, fun h1 => absurd h1 (by decide)⟩
      conv => whnf
      try dsimp only
      refine ⟨trivial, rfin rfl (hC.txt hj (fun r _ h1 h2 => ?_) (fun r hr => ?_) ?_ (fun x hx => ?_) (fun i hi => ?_) oX) (fun r hr => ?_) (FMJ.rf J) h⟩
      · unfold flI
        funext k
        rw [if_neg (fun z => h2 z.1), upI_oth h1]
      · unfold flI
        rw [if_neg (by omega), up_ne hr]
      · unfold flI
        rw [if_neg (by omega), up_same]
        rfl
      · unfold flI
        rw [if_neg (by omega), upI_oth (by decide)]
      · unfold flI
        rw [if_pos ⟨rfl, by omega, by omega⟩]
      · unfold flI
        funext k
        rw [if_neg (by omega), upI_oth (by omega)]
    | succ q ih =>
      intro k hk
      have ihj := ih (k + 1) (by omega)
      have ck : (nI (80 * j + k)).toNatClampNeg = 80 * j + k := nI_clamp (by omega)
      rw [← Nat.add_assoc, ← fl_s (by omega), nI_succ k] at ihj
      refine EV.at ck173 (by decide) 300 [] ?_
      conv => whnf
      try dsimp only
      refine ⟨fun z => absurd z (nI_ge (b := 80) (show k < 80 by omega) (by decide)), fun _ => ?_⟩
      conv => whnf
      try dsimp only
      rw [i80]
      refine ⟨in_nI (show 80 * j + k < 320 by omega) (by decide), ?_⟩
      conv => whnf
      try dsimp only
      rw [ck]
      exact ⟨trivial, ihj⟩
  conv => whnf
  try dsimp only
  refine ⟨in_nI hj (by decide), ?_⟩
  conv => whnf
  try dsimp only
  rw [cj]
  have l0 := loop 80 0 (by omega)
  rw [Nat.add_zero (80 * j), fl_0] at l0
  exact ⟨trivial, l0⟩
theorem m_mean {r : Int32} : RS G n 172 [.int r] (fun a => sp_mean a r) := by
  intro D I J Q a hO hC h
  try dsimp only at h
  obtain ⟨hcT, hcF, hcK, hcR, hcX, hcN, hcA, hcU⟩ := id hC
  obtain ⟨oT, oF, oN, oK, oR, oX⟩ := id hO
  unfold sp_mean at h
  refine MT.by ck172 (by decide) rfl (Nat.le_of_ble_eq_true rfl) rfl 300 [] ?_
  conv => whnf
  try dsimp only
  refine ⟨trivial, r_isRow (fun e1 => ?_) (fun j hj hr e1 => ?_)⟩
  · rw [e1] at h
    refine EV.at ck172 (by decide) 300 [] ?_
    conv => whnf
    try dsimp only
    first | refine ⟨fun h1 => absurd h1 (by decide), fun _ => ?_⟩ | refine ⟨fun _ => ?_, fun h1 => absurd (by decide) h1⟩ | refine ⟨fun h1 => absurd (by decide) h1, fun _ => ?_⟩ | refine ⟨fun _ => ?_, fun h1 => absurd h1 (by decide)⟩
    conv => whnf
    try dsimp only
    exact ⟨trivial, rfin rfl hC (FM.rf I) (FMJ.rf J) h⟩
  rw [e1] at h
  dsimp only at h
  subst hr
  have cj : (nI j).toNatClampNeg = j := nI_clamp (by omega)
  have o41 := oR j hj
  obtain ⟨r1, r2⟩ := hcR j hj
  refine EV.at ck172 (by decide) 300 [42] ?_
  conv => whnf
  try dsimp only
  first | refine ⟨fun h1 => absurd h1 (by decide), fun _ => ?_⟩ | refine ⟨fun _ => ?_, fun h1 => absurd (by decide) h1⟩ | refine ⟨fun h1 => absurd (by decide) h1, fun _ => ?_⟩ | refine ⟨fun _ => ?_, fun h1 => absurd h1 (by decide)⟩
  conv => whnf
  try dsimp only
  refine ⟨in_nI hj (by decide), ?_⟩
  conv => whnf
  try dsimp only
  rw [cj, r1]
  by_cases hz : aRs a j = 0
  · rw [if_pos hz] at h
    rw [hz] at r1 ⊢
    first | refine ⟨fun h1 => absurd h1 (by decide), fun _ => ?_⟩ | refine ⟨fun _ => ?_, fun h1 => absurd (by decide) h1⟩ | refine ⟨fun h1 => absurd (by decide) h1, fun _ => ?_⟩ | refine ⟨fun _ => ?_, fun h1 => absurd h1 (by decide)⟩
    conv => whnf
    try dsimp only
    refine ⟨in_nI hj (by decide), ?_⟩
    conv => whnf
    try dsimp only
    rw [cj, r1]
    first | refine ⟨fun h1 => absurd h1 (by decide), fun _ => ?_⟩ | refine ⟨fun _ => ?_, fun h1 => absurd (by decide) h1⟩ | refine ⟨fun h1 => absurd (by decide) h1, fun _ => ?_⟩ | refine ⟨fun _ => ?_, fun h1 => absurd h1 (by decide)⟩
    conv => whnf
    try dsimp only
    refine ⟨trivial, r_found (f := 1) (by decide) ?_⟩
    refine EV.at ck172 (by decide) 300 [] ?_
    conv => whnf
    try dsimp only
    exact ⟨trivial, rfin rfl (hC.fnd (by decide)) FM.fnd (FMJ.rf J) h⟩
  rw [if_neg hz] at h
  by_cases h1 : aRs a j = 1
  · rw [if_pos h1] at h
    rw [h1] at r1 ⊢
    first | refine ⟨fun h1 => absurd h1 (by decide), fun _ => ?_⟩ | refine ⟨fun _ => ?_, fun h1 => absurd (by decide) h1⟩ | refine ⟨fun h1 => absurd (by decide) h1, fun _ => ?_⟩ | refine ⟨fun _ => ?_, fun h1 => absurd h1 (by decide)⟩
    conv => whnf
    try dsimp only
    refine ⟨in_nI hj (by decide), ?_⟩
    conv => whnf
    try dsimp only
    rw [cj, r1]
    first | refine ⟨fun h1 => absurd h1 (by decide), fun _ => ?_⟩ | refine ⟨fun _ => ?_, fun h1 => absurd (by decide) h1⟩ | refine ⟨fun h1 => absurd (by decide) h1, fun _ => ?_⟩ | refine ⟨fun _ => ?_, fun h1 => absurd h1 (by decide)⟩
    conv => whnf
    try dsimp only
    refine ⟨trivial, r_found (f := 4) (by decide) ?_⟩
    refine EV.at ck172 (by decide) 300 [] ?_
    conv => whnf
    try dsimp only
    exact ⟨trivial, rfin rfl (hC.fnd (by decide)) FM.fnd (FMJ.rf J) h⟩
  rw [if_neg h1] at h
  have r1' : I 86 j = nI (aRs a j - 1) := by rw [r1]; exact sz_nI hz
  have loop : ∀ m k, k + m = aRs a j - 1 → EV G 172 (D + 59) 0 0 42 [.ref 77, .int (nI j), .long (sumL (aRc a j) k), dm, .int (nI k)] [] (SH n, I, J) Q := by
    intro m
    induction m with
    | zero =>
      intro k hk
      have hk : k = aRs a j - 1 := hk
      refine EV.at ck172 (by decide) 300 [] ?_
      conv => whnf
      try dsimp only
      refine ⟨in_nI hj (by decide), ?_⟩
      conv => whnf
      try dsimp only
      rw [cj, r1']
      refine pk_le (aRs a j - 1) k (fun _ => ?_) (fun z => absurd z (by omega))
      conv => whnf
      try dsimp only
      refine ⟨in_nI hj (by decide), ?_⟩
      conv => whnf
      try dsimp only
      rw [cj, r1']
      refine ⟨fun z => ?_, ?_⟩
      · rw [nI_l (by omega)] at z
        have := (pk_lEQ (b := 0) (show aRs a j - 1 < 2 ^ 63 by omega) (by decide)).mp z
        omega
      conv => whnf
      try dsimp only
      refine ⟨trivial, r_says ?_⟩
      refine EV.at ck172 (by decide) 300 [] ?_
      conv => whnf
      try dsimp only
      rw [hk]
      exact ⟨trivial, rfin rfl hC.ask ((FM.rf I).up (by decide)) (FMJ.rf J) h⟩
    | succ m ih =>
      intro k hk
      have ihj := ih (k + 1) (by omega)
      have ck : (nI (40 * j + k)).toNatClampNeg = 40 * j + k := nI_clamp (by omega)
      have e : sumL (aRc a j) (k + 1) = sumL (aRc a j) k + (aRc a j k).toInt64 := rfl
      rw [e, nI_succ k] at ihj
      refine EV.at ck172 (by decide) 300 [] ?_
      conv => whnf
      try dsimp only
      refine ⟨in_nI hj (by decide), ?_⟩
      conv => whnf
      try dsimp only
      rw [cj, r1']
      refine pk_le (aRs a j - 1) k (fun z => absurd z (by omega)) (fun _ => ?_)
      conv => whnf
      try dsimp only
      rw [i40]
      refine ⟨in_nI (show 40 * j + k < 240 by omega) (by decide), ?_⟩
      conv => whnf
      try dsimp only
      rw [ck, r2 k (by omega)]
      exact ⟨trivial, ihj⟩
  rw [sz_nI hz]
  refine ⟨fun _ => ?_, fun z => absurd (nI_lt (a := 0) (show 0 < aRs a j - 1 by omega) (by omega)) z⟩
  conv => whnf
  try dsimp only
  exact ⟨trivial, loop (aRs a j - 1) 0 (by omega)⟩
theorem r_isPart {j m k : Nat} {x : Int32} (hj : j < 6) (hm : m ≤ 100) (hk : k < 2 ^ 31) (hs : I 86 j = nI m) (hbad : hld m x k = none → Q (some (.int 0)) (SH n, I, J)) (hok : ∀ i, i + k ≤ m → x = nI i → hld m x k = some i → Q (some (.int 1)) (SH n, I, J)) : MT G (d + 1) 170 [.ref 77, .int (nI j), .int x, .int (nI k)] (SH n, I, J) Q := by
  have cj : (nI j).toNatClampNeg = j := nI_clamp (by omega)
  refine MT.by ck170 (by decide) rfl (Nat.le_of_ble_eq_true rfl) rfl 300 [] ?_
  conv => whnf
  try dsimp only
  refine ⟨fun z1 => ?_, fun z1 => ?_⟩
  · conv => whnf
    try dsimp only
    exact ⟨Or.inl rfl, hbad (by unfold hld; rw [if_neg (fun q => Int32.not_le.mpr z1 q.1)])⟩
  obtain ⟨i, hi, rfl⟩ := nI_of z1
  conv => whnf
  try dsimp only
  refine ⟨in_nI hj (by decide), ?_⟩
  conv => whnf
  try dsimp only
  rw [cj, hs, nI_l hi, nI_l hk, nI_l (by omega), lN_add]
  have e : ¬ (lN m < lN (i + k)) ↔ i + k ≤ m := by
    rw [pk_lLT (by omega) (by omega)]
    omega
  refine ⟨fun z2 => ?_, fun z2 => ?_⟩
  · have y : ¬ i + k ≤ m := fun q => absurd (gtc.mpr (e.mpr q)) (Int32.not_le.mpr z2)
    conv => whnf
    try dsimp only
    exact ⟨Or.inl rfl, hbad (by unfold hld; rw [if_neg (fun q => y (by have := q.2; rw [nI_clamp hi] at this; exact this))])⟩
  · have y : i + k ≤ m := e.mp (gtc.mp (Int32.not_lt.mp z2))
    conv => whnf
    try dsimp only
    exact ⟨Or.inr rfl, hok i y rfl (by unfold hld; rw [nI_clamp hi, if_pos ⟨nI_pos' hi, y⟩])⟩
theorem m_copy {r x t y k : Int32} : RS G n 171 [.int r, .int x, .int t, .int y, .int k] (fun a => sp_copy a r x t y k) := by
  intro D I J Q a hO hC h
  try dsimp only at h
  obtain ⟨hcT, hcF, hcK, hcR, hcX, hcN, hcA, hcU⟩ := id hC
  obtain ⟨oT, oF, oN, oK, oR, oX⟩ := id hO
  unfold sp_copy at h
  refine MT.by ck171 (by decide) rfl (Nat.le_of_ble_eq_true rfl) rfl 300 [] ?_
  conv => whnf
  try dsimp only
  refine ⟨trivial, r_isRow (fun e1 => ?_) (fun j hj hr e1 => ?_)⟩
  · rw [e1] at h
    refine EV.at ck171 (by decide) 300 [] ?_
    conv => whnf
    try dsimp only
    first | refine ⟨fun h1 => absurd h1 (by decide), fun _ => ?_⟩ | refine ⟨fun _ => ?_, fun h1 => absurd (by decide) h1⟩ | refine ⟨fun h1 => absurd (by decide) h1, fun _ => ?_⟩ | refine ⟨fun _ => ?_, fun h1 => absurd h1 (by decide)⟩
    conv => whnf
    try dsimp only
    exact ⟨trivial, rfin rfl hC (FM.rf I) (FMJ.rf J) h⟩
  rw [e1] at h
  dsimp only at h
  subst hr
  have cj : (nI j).toNatClampNeg = j := nI_clamp (by omega)
  have oj := oR j hj
  refine EV.at ck171 (by decide) 300 [] ?_
  conv => whnf
  try dsimp only
  first | refine ⟨fun h1 => absurd h1 (by decide), fun _ => ?_⟩ | refine ⟨fun _ => ?_, fun h1 => absurd (by decide) h1⟩ | refine ⟨fun h1 => absurd (by decide) h1, fun _ => ?_⟩ | refine ⟨fun _ => ?_, fun h1 => absurd h1 (by decide)⟩
  conv => whnf
  try dsimp only
  refine ⟨trivial, r_isRow (fun e2 => ?_) (fun l hl hr e2 => ?_)⟩
  · rw [e2] at h
    refine EV.at ck171 (by decide) 300 [] ?_
    conv => whnf
    try dsimp only
    first | refine ⟨fun h1 => absurd h1 (by decide), fun _ => ?_⟩ | refine ⟨fun _ => ?_, fun h1 => absurd (by decide) h1⟩ | refine ⟨fun h1 => absurd (by decide) h1, fun _ => ?_⟩ | refine ⟨fun _ => ?_, fun h1 => absurd h1 (by decide)⟩
    conv => whnf
    try dsimp only
    exact ⟨trivial, rfin rfl hC (FM.rf I) (FMJ.rf J) h⟩
  rw [e2] at h
  dsimp only at h
  subst hr
  have cl : (nI l).toNatClampNeg = l := nI_clamp (by omega)
  have ol := oR l hl
  refine EV.at ck171 (by decide) 300 [] ?_
  conv => whnf
  try dsimp only
  first | refine ⟨fun h1 => absurd h1 (by decide), fun _ => ?_⟩ | refine ⟨fun _ => ?_, fun h1 => absurd (by decide) h1⟩ | refine ⟨fun h1 => absurd (by decide) h1, fun _ => ?_⟩ | refine ⟨fun _ => ?_, fun h1 => absurd h1 (by decide)⟩
  conv => whnf
  try dsimp only
  refine ⟨fun z1 => ?_, fun z1 => ?_⟩
  case refine_2 =>
    conv => whnf
    try dsimp only
    refine ⟨trivial, r_found (f := 5) (by decide) ?_⟩
    refine EV.at ck171 (by decide) 300 [] ?_
    conv => whnf
    try dsimp only
    exact ⟨trivial, rfin (if_pos (Int32.not_le.mp z1)) (hC.fnd (by decide)) FM.fnd (FMJ.rf J) h⟩
  rw [if_neg (Int32.not_lt.mpr z1)] at h
  obtain ⟨m, hm, rfl⟩ := nI_of (Int32.not_lt.mpr z1)
  rw [nI_clamp hm] at h
  obtain ⟨r1, r2⟩ := hcR j hj
  obtain ⟨s1, s2⟩ := hcR l hl
  conv => whnf
  try dsimp only
  refine ⟨in_nI hj (by decide), ?_⟩
  conv => whnf
  try dsimp only
  rw [cj, r1]
  refine ⟨fun z2 => ?_, fun z2 => ?_⟩
  · conv => whnf
    try dsimp only
    refine ⟨trivial, r_found (f := 1) (by decide) ?_⟩
    refine EV.at ck171 (by decide) 300 [] ?_
    conv => whnf
    try dsimp only
    exact ⟨trivial, rfin (if_pos (Or.inl ((szI_neg (by omega)).mp z2))) (hC.fnd (by decide)) FM.fnd (FMJ.rf J) h⟩
  have y2 : aRs a j ≠ 0 := fun z => z2 ((szI_neg (by omega)).mpr z)
  conv => whnf
  try dsimp only
  refine ⟨in_nI hl (by decide), ?_⟩
  conv => whnf
  try dsimp only
  rw [cl, s1]
  refine ⟨fun z3 => ?_, fun z3 => ?_⟩
  case refine_2 =>
    conv => whnf
    try dsimp only
    refine ⟨trivial, r_found (f := 1) (by decide) ?_⟩
    refine EV.at ck171 (by decide) 300 [] ?_
    conv => whnf
    try dsimp only
    exact ⟨trivial, rfin (if_pos (Or.inr ((szI_neg (by omega)).mp (Int32.not_le.mp z3)))) (hC.fnd (by decide)) FM.fnd (FMJ.rf J) h⟩
  have y3 : aRs a l ≠ 0 := fun z => Int32.not_lt.mpr z3 ((szI_neg (by omega)).mpr z)
  rw [if_neg (by omega)] at h
  have sj : I 86 j = nI (aRs a j - 1) := by rw [r1]; exact sz_nI y2
  have sl : I 86 l = nI (aRs a l - 1) := by rw [s1]; exact sz_nI y3
  conv => whnf
  try dsimp only
  refine ⟨trivial, r_isPart hj (by omega) hm sj (fun e3 => ?_) (fun i hi hx e3 => ?_)⟩
  · rw [e3] at h
    refine EV.at ck171 (by decide) 300 [] ?_
    conv => whnf
    try dsimp only
    first | refine ⟨fun h1 => absurd h1 (by decide), fun _ => ?_⟩ | refine ⟨fun _ => ?_, fun h1 => absurd (by decide) h1⟩ | refine ⟨fun h1 => absurd (by decide) h1, fun _ => ?_⟩ | refine ⟨fun _ => ?_, fun h1 => absurd h1 (by decide)⟩
    conv => whnf
    try dsimp only
    refine ⟨trivial, r_found (f := 2) (by decide) ?_⟩
    refine EV.at ck171 (by decide) 300 [] ?_
    conv => whnf
    try dsimp only
    exact ⟨trivial, rfin rfl (hC.fnd (by decide)) FM.fnd (FMJ.rf J) h⟩
  rw [e3] at h
  dsimp only at h
  subst hx
  refine EV.at ck171 (by decide) 300 [] ?_
  conv => whnf
  try dsimp only
  first | refine ⟨fun h1 => absurd h1 (by decide), fun _ => ?_⟩ | refine ⟨fun _ => ?_, fun h1 => absurd (by decide) h1⟩ | refine ⟨fun h1 => absurd (by decide) h1, fun _ => ?_⟩ | refine ⟨fun _ => ?_, fun h1 => absurd h1 (by decide)⟩
  conv => whnf
  try dsimp only
  refine ⟨trivial, r_isPart hl (by omega) hm sl (fun e4 => ?_) (fun i' hi' hx e4 => ?_)⟩
  · rw [e4] at h
    refine EV.at ck171 (by decide) 300 [] ?_
    conv => whnf
    try dsimp only
    first | refine ⟨fun h1 => absurd h1 (by decide), fun _ => ?_⟩ | refine ⟨fun _ => ?_, fun h1 => absurd (by decide) h1⟩ | refine ⟨fun h1 => absurd (by decide) h1, fun _ => ?_⟩ | refine ⟨fun _ => ?_, fun h1 => absurd h1 (by decide)⟩
    conv => whnf
    try dsimp only
    refine ⟨trivial, r_found (f := 2) (by decide) ?_⟩
    refine EV.at ck171 (by decide) 300 [] ?_
    conv => whnf
    try dsimp only
    exact ⟨trivial, rfin rfl (hC.fnd (by decide)) FM.fnd (FMJ.rf J) h⟩
  rw [e4] at h
  dsimp only at h
  subst hx
  have l2 : ∀ q k (I1 : Nat → Nat → Int32), k + q = m → I1 = cpI I 87 90 (40 * j + i) 0 m → EV G 171 (D + 59) 0 0 120 [.ref 77, .int (nI j), .int (nI i), .int (nI l), .int (nI i'), .int (nI m), .int (nI k)] [] (SH n, cpI I1 90 87 0 (40 * l + i') k, J) Q := by
    intro q
    induction q with
    | zero =>
      intro k I1 hk hI1
      have hk : k = m := hk
      subst hk
      refine EV.at ck171 (by decide) 300 [] ?_
      conv => whnf
      try dsimp only
      refine pk_le k k (fun _ => ?_) (fun z => absurd z (by omega))
      conv => whnf
      try dsimp only
      have o1 : ∀ r, r ≠ 90 → I1 r = I r := fun r hr => by rw [hI1]; exact cp_oth hr
      refine ⟨trivial, rfin rfl (hC.row hl (fun r h0 h1 h2 => ?_) (fun r hr => ?_) ?_ (fun x hx => ?_) (fun x hx => ?_) oR) (fun r hr => ?_) (FMJ.rf J) h⟩
      · rw [cp_oth h2, o1 r (by omega)]
      · rw [cp_oth (by decide), o1 86 (by decide)]
      · rw [cp_oth (by decide), o1 86 (by decide)]
        exact s1
      · unfold cpI
        rw [if_neg (by omega), o1 87 (by decide)]
      · by_cases hx2 : i' ≤ x ∧ x < i' + k
        · rw [if_pos hx2]
          show cpI I1 90 87 0 (40 * l + i') k 87 (40 * l + x) = _
          unfold cpI
          rw [if_pos ⟨rfl, by omega, by omega⟩, hI1]
          unfold cpI
          rw [if_pos ⟨rfl, by omega, by omega⟩, ← r2 (i + (x - i')) (by omega)]
          congr 1
          omega
        · rw [if_neg hx2]
          show cpI I1 90 87 0 (40 * l + i') k 87 (40 * l + x) = _
          unfold cpI
          rw [if_neg (by omega), o1 87 (by decide)]
          exact s2 x hx
      · rw [cp_oth (by omega), o1 r (by omega)]
    | succ q ih =>
      intro k I1 hk hI1
      have ihj := ih (k + 1) I1 (by omega) hI1
      have ck : (nI k).toNatClampNeg = k := nI_clamp (by omega)
      have ca : (nI (40 * l + i' + k)).toNatClampNeg = 40 * l + i' + k := nI_clamp (by omega)
      rw [← cp_s, nI_succ k, Nat.zero_add] at ihj
      refine EV.at ck171 (by decide) 300 [] ?_
      conv => whnf
      try dsimp only
      refine pk_le m k (fun z => absurd z (by omega)) (fun _ => ?_)
      conv => whnf
      try dsimp only
      refine ⟨in_nI (show k < 40 by omega) (by decide), ?_⟩
      conv => whnf
      try dsimp only
      rw [i40, nI_add]
      refine ⟨in_nI (show 40 * l + i' + k < 240 by omega) (by decide), ?_⟩
      conv => whnf
      try dsimp only
      rw [ck, ca, cp_oth (r := 90) (by decide)]
      exact ⟨trivial, ihj⟩
  have l1 : ∀ q k, k + q = m → EV G 171 (D + 59) 0 0 83 [.ref 77, .int (nI j), .int (nI i), .int (nI l), .int (nI i'), .int (nI m), .int (nI k)] [] (SH n, cpI I 87 90 (40 * j + i) 0 k, J) Q := by
    intro q
    induction q with
    | zero =>
      intro k hk
      have hk : k = m := hk
      subst hk
      have l0 := l2 k 0 _ (by omega) rfl
      rw [cp_0] at l0
      refine EV.at ck171 (by decide) 300 [120] ?_
      conv => whnf
      try dsimp only
      refine pk_le k k (fun _ => ?_) (fun z => absurd z (by omega))
      conv => whnf
      try dsimp only
      exact ⟨trivial, l0⟩
    | succ q ih =>
      intro k hk
      have ihj := ih (k + 1) (by omega)
      have ck : (nI k).toNatClampNeg = k := nI_clamp (by omega)
      have ca : (nI (40 * j + i + k)).toNatClampNeg = 40 * j + i + k := nI_clamp (by omega)
      rw [← cp_s, nI_succ k, Nat.zero_add] at ihj
      refine EV.at ck171 (by decide) 300 [] ?_
      conv => whnf
      try dsimp only
      refine pk_le m k (fun z => absurd z (by omega)) (fun _ => ?_)
      conv => whnf
      try dsimp only
      rw [i40, nI_add]
      refine ⟨in_nI (show 40 * j + i + k < 240 by omega) (by decide), ?_⟩
      conv => whnf
      try dsimp only
      refine ⟨in_nI (show k < 40 by omega) (by decide), ?_⟩
      conv => whnf
      try dsimp only
      rw [ck, ca, cp_oth (r := 87) (by decide)]
      exact ⟨trivial, ihj⟩
  have l0 := l1 m 0 (by omega)
  rw [cp_0] at l0
  refine EV.at ck171 (by decide) 300 [83] ?_
  conv => whnf
  try dsimp only
  first | refine ⟨fun h1 => absurd h1 (by decide), fun _ => ?_⟩ | refine ⟨fun _ => ?_, fun h1 => absurd (by decide) h1⟩ | refine ⟨fun h1 => absurd (by decide) h1, fun _ => ?_⟩ | refine ⟨fun _ => ?_, fun h1 => absurd h1 (by decide)⟩
  conv => whnf
  try dsimp only
  exact ⟨trivial, l0⟩
end
