/-! the class's calls: rows and texts -/
theorem CA.cell {a : AB} {e : Nat} {I : Nat → Nat → Int32} {J : Nat → Nat → Int64} {j i : Nat} {v : Int32} (h : CA a e I J) (hj : j < 6) : CA (sRow a j (aRs a j) (fun x => if x = i then v else aRc a j x)) e (upI I (39 + 2 * j + 1) i v) J := by
  have h4 := h.2.2.2.1 j hj
  refine CA.row h hj (fun r h1 h2 => upI_oth h2) ?_ (fun x hx => ?_)
  · rw [upI_oth (by omega)]
    exact h4.1
  · by_cases hxi : x = i
    · subst hxi
      rw [up_same, if_pos rfl]
    · rw [up_ne hxi, if_neg hxi]
      exact h4.2 x hx
theorem CA.tcell {a : AB} {e : Nat} {I : Nat → Nat → Int32} {J : Nat → Nat → Int64} {j i : Nat} {v : Int32} (h : CA a e I J) (hj : j < 4) : CA (sTxt a j (aTs a j) (fun x => if x = i then v else aTc a j x)) e (upI I (51 + 2 * j + 1) i v) J := by
  have h4 := h.2.2.2.2.1 j hj
  refine CA.txt h hj (fun r h1 h2 => upI_oth h2) ?_ (fun x hx => ?_)
  · rw [upI_oth (by omega)]
    exact h4.1
  · by_cases hxi : x = i
    · subst hxi
      rw [up_same, if_pos rfl]
    · rw [up_ne hxi, if_neg hxi]
      exact h4.2 x hx
theorem sz_nI {m : Nat} (h : m ≠ 0) : szI m = nI (m - 1) := by
  cases m with
  | zero => exact absurd rfl h
  | succ k => rfl
theorem hld_cases {m k : Nat} (hm : m ≤ 100) (hk : k < 2 ^ 31) (x : Int32) : (hld m x k = none ∧ decide (0 ≤ x ∧ nI k ≤ nI m ∧ x ≤ nI m - nI k) = false) ∨ ∃ i, i + k ≤ m ∧ x = nI i ∧ hld m x k = some i ∧ decide (0 ≤ x ∧ nI k ≤ nI m ∧ x ≤ nI m - nI k) = true := by
  by_cases h0 : 0 ≤ x
  · obtain ⟨i, hi, rfl⟩ := nI_of (Int32.not_lt.mpr h0)
    unfold hld
    rw [nI_clamp hi]
    by_cases h1 : i + k ≤ m
    · right
      exact ⟨i, h1, rfl, by rw [if_pos ⟨h0, h1⟩], decide_eq_true ⟨h0, nI_le (by omega) (by omega), by rw [pk_sub (by omega)]; exact nI_le (by omega) (by omega)⟩⟩
    · left
      refine ⟨by rw [if_neg (fun z => h1 z.2)], decide_eq_false (fun z => ?_)⟩
      have z1 := (nI_leI hk (by omega)).mp z.2.1
      have z2 := z.2.2
      rw [pk_sub z1] at z2
      have := (nI_leI hi (by omega)).mp z2
      omega
  · left
    exact ⟨by unfold hld; rw [if_neg (fun z => h0 z.1)], decide_eq_false (fun z => h0 z.1)⟩
section
variable {G : GG} {d n : Nat} {I : Nat → Nat → Int32} {J : Nat → Nat → Int64} {Q : Option Value → MH → Prop}
theorem FC.fnd {I : Nat → Nat → Int32} {f : Nat} {x y : Int32} : FC I (upI (upI I 3 12 x) 38 f y) := fun r hr => by rw [upI_oth (by omega), upI_oth (by omega)]
theorem k_row {r x : Int32} : CS G n 93 [.int r, .int x] (fun a => sp_row a r x) := by
  intro D I J Q a e hO hC he h
  try dsimp only at h
  obtain ⟨hcT, hcF, hcK, hcR, hcX, hcN, hcA, hcU, hcM⟩ := id hC
  obtain ⟨oT, oF, oN, oK, oR, oX⟩ := id hO
  refine MT.by ck93 (by decide) rfl (Nat.le_of_ble_eq_true rfl) rfl 300 [] ?_
  conv => whnf
  try dsimp only
  refine ⟨trivial, c_layAnew (str_r n) (by decide) (by decide) (fun hb => ?_) (fun j e1 hx => ?_) (fun j m hj hm hr hx => ?_)⟩
  · refine EV.at ck93 (by decide) 300 [] ?_
    conv => whnf
    try dsimp only
    refine ⟨trivial, fin ?_ hC (by omega) (FC.rf I) (FJ.rf J) h⟩
    unfold sp_row
    rcases hb with e1 | e1
    · rw [e1]
    · cases ix 6 r with
      | none => rfl
      | some j => show (if _ then _ else _) = _; rw [if_pos e1]
  · refine EV.at ck93 (by decide) 300 [] ?_
    conv => whnf
    try dsimp only
    refine ⟨trivial, fin ?_ (hC.fnd (by decide)) (by omega) FC.fnd (FJ.rf J) h⟩
    unfold sp_row
    rw [e1]
    show (if _ then _ else _) = _
    rw [if_neg (fun z => absurd (Int32.lt_trans z hx) (nI_pos (by decide))), if_pos hx]
  · subst hr
    subst hx
    refine EV.at ck93 (by decide) 300 [] ?_
    conv => whnf
    try dsimp only
    refine ⟨trivial, fin (a' := sRow a j (m + 1) (fun _ => 0)) ?_ (hC.row hj (fun r h1 h2 => ?_) ?_ (fun i hi => ?_)) (by omega) (fun r hr => ?_) (FJ.rf J) h⟩
    · unfold sp_row
      rw [ix_nI (by decide) hj]
      show (if _ then _ else _) = _
      rw [if_neg (nI_nlt hm (by omega)), if_neg (nI_pos (by omega)), nI_clamp (by omega)]
    · unfold flI
      funext k
      rw [if_neg (fun z => h2 z.1), upI_oth h1]
    · unfold flI
      rw [if_neg (by omega), up_same]
      rfl
    · unfold flI
      rw [if_pos ⟨rfl, by omega, by omega⟩]
    · unfold flI
      funext k
      rw [if_neg (by omega), upI_oth (by omega)]
theorem k_text {r x : Int32} : CS G n 99 [.int r, .int x] (fun a => sp_text a r x) := by
  intro D I J Q a e hO hC he h
  try dsimp only at h
  obtain ⟨hcT, hcF, hcK, hcR, hcX, hcN, hcA, hcU, hcM⟩ := id hC
  obtain ⟨oT, oF, oN, oK, oR, oX⟩ := id hO
  refine MT.by ck99 (by decide) rfl (Nat.le_of_ble_eq_true rfl) rfl 300 [] ?_
  conv => whnf
  try dsimp only
  refine ⟨trivial, c_layAnew (str_t n) (by decide) (by decide) (fun hb => ?_) (fun j e1 hx => ?_) (fun j m hj hm hr hx => ?_)⟩
  · refine EV.at ck99 (by decide) 300 [] ?_
    conv => whnf
    try dsimp only
    refine ⟨trivial, fin ?_ hC (by omega) (FC.rf I) (FJ.rf J) h⟩
    unfold sp_text
    rcases hb with e1 | e1
    · rw [e1]
    · cases ix 4 r with
      | none => rfl
      | some j => show (if _ then _ else _) = _; rw [if_pos e1]
  · refine EV.at ck99 (by decide) 300 [] ?_
    conv => whnf
    try dsimp only
    refine ⟨trivial, fin ?_ (hC.fnd (by decide)) (by omega) FC.fnd (FJ.rf J) h⟩
    unfold sp_text
    rw [e1]
    show (if _ then _ else _) = _
    rw [if_neg (fun z => absurd (Int32.lt_trans z hx) (nI_pos (by decide))), if_pos hx]
  · subst hr
    subst hx
    refine EV.at ck99 (by decide) 300 [] ?_
    conv => whnf
    try dsimp only
    refine ⟨trivial, fin (a' := sTxt a j (m + 1) (fun _ => 32)) ?_ (hC.txt hj (fun r h1 h2 => ?_) ?_ (fun i hi => ?_)) (by omega) (fun r hr => ?_) (FJ.rf J) h⟩
    · unfold sp_text
      rw [ix_nI (by decide) hj]
      show (if _ then _ else _) = _
      rw [if_neg (nI_nlt hm (by omega)), if_neg (nI_pos (by omega)), nI_clamp (by omega)]
    · unfold flI
      funext k
      rw [if_neg (fun z => h2 z.1), upI_oth h1]
    · unfold flI
      rw [if_neg (by omega), up_same]
      rfl
    · unfold flI
      rw [if_pos ⟨rfl, by omega, by omega⟩]
    · unfold flI
      funext k
      rw [if_neg (by omega), upI_oth (by omega)]
theorem k_lay {r x v : Int32} : CS G n 94 [.int r, .int x, .int v] (fun a => sp_lay a r x v) := by
  intro D I J Q a e hO hC he h
  try dsimp only at h
  obtain ⟨hcT, hcF, hcK, hcR, hcX, hcN, hcA, hcU, hcM⟩ := id hC
  obtain ⟨oT, oF, oN, oK, oR, oX⟩ := id hO
  refine MT.by ck94 (by decide) rfl (Nat.le_of_ble_eq_true rfl) rfl 300 [] ?_
  conv => whnf
  try dsimp only
  refine ⟨trivial, c_refusePlace (sz := aRs a) (str_r n) (by decide) (fun j hj => ⟨by have := oR j hj; omega, (hcR j hj).1⟩) (fun e1 => ?_) (fun j hj hr hz => ?_) (fun j hj hr hz hi => ?_) (fun j i hj hr hi hx => ?_)⟩
  · refine EV.at ck94 (by decide) 300 [] ?_
    conv => whnf
    try dsimp only
    first | refine ⟨fun h1 => absurd h1 (by decide), fun _ => ?_⟩ | refine ⟨fun _ => ?_, fun h1 => absurd (by decide) h1⟩ | refine ⟨fun h1 => absurd (by decide) h1, fun _ => ?_⟩ | refine ⟨fun _ => ?_, fun h1 => absurd h1 (by decide)⟩
    conv => whnf
    try dsimp only
    exact ⟨trivial, fin (by unfold sp_lay; rw [e1]) hC (by omega) (FC.rf I) (FJ.rf J) h⟩
  · refine EV.at ck94 (by decide) 300 [] ?_
    conv => whnf
    try dsimp only
    first | refine ⟨fun h1 => absurd h1 (by decide), fun _ => ?_⟩ | refine ⟨fun _ => ?_, fun h1 => absurd (by decide) h1⟩ | refine ⟨fun h1 => absurd (by decide) h1, fun _ => ?_⟩ | refine ⟨fun _ => ?_, fun h1 => absurd h1 (by decide)⟩
    conv => whnf
    try dsimp only
    exact ⟨trivial, fin (by unfold sp_lay; rw [hr, ix_nI (by decide) hj]; exact if_pos hz) (hC.fnd (by decide)) (by omega) FC.fnd (FJ.rf J) h⟩
  · refine EV.at ck94 (by decide) 300 [] ?_
    conv => whnf
    try dsimp only
    first | refine ⟨fun h1 => absurd h1 (by decide), fun _ => ?_⟩ | refine ⟨fun _ => ?_, fun h1 => absurd (by decide) h1⟩ | refine ⟨fun h1 => absurd (by decide) h1, fun _ => ?_⟩ | refine ⟨fun _ => ?_, fun h1 => absurd h1 (by decide)⟩
    conv => whnf
    try dsimp only
    refine ⟨trivial, fin ?_ (hC.fnd (by decide)) (by omega) FC.fnd (FJ.rf J) h⟩
    unfold sp_lay
    rw [hr, ix_nI (by decide) hj]
    show (if _ then _ else _) = _
    rw [if_neg hz, hi]
  · subst hr
    subst hx
    have o41 := oR j hj
    have cj : (nI j).toNatClampNeg = j := nI_clamp (by omega)
    have ci : (nI i).toNatClampNeg = i := nI_clamp (by omega)
    refine EV.at ck94 (by decide) 300 [] ?_
    conv => whnf
    try dsimp only
    first | refine ⟨fun h1 => absurd h1 (by decide), fun _ => ?_⟩ | refine ⟨fun _ => ?_, fun h1 => absurd (by decide) h1⟩ | refine ⟨fun h1 => absurd (by decide) h1, fun _ => ?_⟩ | refine ⟨fun _ => ?_, fun h1 => absurd h1 (by decide)⟩
    conv => whnf
    try dsimp only
    refine ⟨in_nI hj (by decide), oS_at cj (row_g _ hj) ?_⟩
    conv => whnf
    try dsimp only
    rw [(row_c n hj).1]
    conv => whnf
    try dsimp only
    rw [(row_c n hj).2]
    conv => whnf
    try dsimp only
    refine ⟨in_nI (show i < 40 by omega) (by decide), ?_⟩
    conv => whnf
    try dsimp only
    refine ⟨in_nI hj (by decide), oS_at cj (row_g _ hj) ?_⟩
    conv => whnf
    try dsimp only
    rw [(row_c n hj).1]
    conv => whnf
    try dsimp only
    rw [(row_c n hj).2]
    conv => whnf
    try dsimp only
    refine ⟨in_nI (show i < 40 by omega) (by decide), ?_⟩
    conv => whnf
    try dsimp only
    rw [ci, (hcR j hj).2 i hi]
    refine ⟨trivial, fin (a' := sRow (uA a (aRc a j i)) j (aRs a j) (fun x => if x = i then v else aRc a j x)) ?_ ((hC.ask).cell hj) (by omega) (fun r hr => by rw [upI_oth (by omega), upI_oth (by omega)]) (FJ.rf J) h⟩
    unfold sp_lay
    rw [ix_nI (by decide) hj]
    show (if _ then _ else _) = _
    rw [if_neg (by omega), ix_nI (by omega) (show i < aRs a j - 1 by omega)]
    rfl
theorem k_at {r x : Int32} : CS G n 95 [.int r, .int x] (fun a => sp_at a r x) := by
  intro D I J Q a e hO hC he h
  try dsimp only at h
  obtain ⟨hcT, hcF, hcK, hcR, hcX, hcN, hcA, hcU, hcM⟩ := id hC
  obtain ⟨oT, oF, oN, oK, oR, oX⟩ := id hO
  refine MT.by ck95 (by decide) rfl (Nat.le_of_ble_eq_true rfl) rfl 300 [] ?_
  conv => whnf
  try dsimp only
  refine ⟨trivial, c_refusePlace (sz := aRs a) (str_r n) (by decide) (fun j hj => ⟨by have := oR j hj; omega, (hcR j hj).1⟩) (fun e1 => ?_) (fun j hj hr hz => ?_) (fun j hj hr hz hi => ?_) (fun j i hj hr hi hx => ?_)⟩
  · refine EV.at ck95 (by decide) 300 [] ?_
    conv => whnf
    try dsimp only
    first | refine ⟨fun h1 => absurd h1 (by decide), fun _ => ?_⟩ | refine ⟨fun _ => ?_, fun h1 => absurd (by decide) h1⟩ | refine ⟨fun h1 => absurd (by decide) h1, fun _ => ?_⟩ | refine ⟨fun _ => ?_, fun h1 => absurd h1 (by decide)⟩
    conv => whnf
    try dsimp only
    exact ⟨trivial, fin (by unfold sp_at; rw [e1]) hC (by omega) (FC.rf I) (FJ.rf J) h⟩
  · refine EV.at ck95 (by decide) 300 [] ?_
    conv => whnf
    try dsimp only
    first | refine ⟨fun h1 => absurd h1 (by decide), fun _ => ?_⟩ | refine ⟨fun _ => ?_, fun h1 => absurd (by decide) h1⟩ | refine ⟨fun h1 => absurd (by decide) h1, fun _ => ?_⟩ | refine ⟨fun _ => ?_, fun h1 => absurd h1 (by decide)⟩
    conv => whnf
    try dsimp only
    exact ⟨trivial, fin (by unfold sp_at; rw [hr, ix_nI (by decide) hj]; exact if_pos hz) (hC.fnd (by decide)) (by omega) FC.fnd (FJ.rf J) h⟩
  · refine EV.at ck95 (by decide) 300 [] ?_
    conv => whnf
    try dsimp only
    first | refine ⟨fun h1 => absurd h1 (by decide), fun _ => ?_⟩ | refine ⟨fun _ => ?_, fun h1 => absurd (by decide) h1⟩ | refine ⟨fun h1 => absurd (by decide) h1, fun _ => ?_⟩ | refine ⟨fun _ => ?_, fun h1 => absurd h1 (by decide)⟩
    conv => whnf
    try dsimp only
    refine ⟨trivial, fin ?_ (hC.fnd (by decide)) (by omega) FC.fnd (FJ.rf J) h⟩
    unfold sp_at
    rw [hr, ix_nI (by decide) hj]
    show (if _ then _ else _) = _
    rw [if_neg hz, hi]
  · subst hr
    subst hx
    have o41 := oR j hj
    have cj : (nI j).toNatClampNeg = j := nI_clamp (by omega)
    have ci : (nI i).toNatClampNeg = i := nI_clamp (by omega)
    refine EV.at ck95 (by decide) 300 [] ?_
    conv => whnf
    try dsimp only
    first | refine ⟨fun h1 => absurd h1 (by decide), fun _ => ?_⟩ | refine ⟨fun _ => ?_, fun h1 => absurd (by decide) h1⟩ | refine ⟨fun h1 => absurd (by decide) h1, fun _ => ?_⟩ | refine ⟨fun _ => ?_, fun h1 => absurd h1 (by decide)⟩
    conv => whnf
    try dsimp only
    refine ⟨in_nI hj (by decide), oS_at cj (row_g _ hj) ?_⟩
    conv => whnf
    try dsimp only
    rw [(row_c n hj).1]
    conv => whnf
    try dsimp only
    rw [(row_c n hj).2]
    conv => whnf
    try dsimp only
    refine ⟨in_nI (show i < 40 by omega) (by decide), ?_⟩
    conv => whnf
    try dsimp only
    rw [ci, (hcR j hj).2 i hi]
    refine ⟨trivial, c_tell ?_⟩
    refine EV.at ck95 (by decide) 300 [] ?_
    conv => whnf
    try dsimp only
    refine ⟨trivial, fin (a' := uA a (aRc a j i)) ?_ hC.ask (by omega) (fun r hr => upI_oth (by omega)) (FJ.rf J) h⟩
    unfold sp_at
    rw [ix_nI (by decide) hj]
    show (if _ then _ else _) = _
    rw [if_neg (by omega), ix_nI (by omega) (show i < aRs a j - 1 by omega)]
theorem k_put {r x v : Int32} : CS G n 100 [.int r, .int x, .int v] (fun a => sp_put a r x v) := by
  intro D I J Q a e hO hC he h
  try dsimp only at h
  obtain ⟨hcT, hcF, hcK, hcR, hcX, hcN, hcA, hcU, hcM⟩ := id hC
  obtain ⟨oT, oF, oN, oK, oR, oX⟩ := id hO
  refine MT.by ck100 (by decide) rfl (Nat.le_of_ble_eq_true rfl) rfl 300 [] ?_
  conv => whnf
  try dsimp only
  refine ⟨trivial, c_refusePlace (sz := aTs a) (str_t n) (by decide) (fun j hj => ⟨by have := oX j hj; omega, (hcX j hj).1⟩) (fun e1 => ?_) (fun j hj hr hz => ?_) (fun j hj hr hz hi => ?_) (fun j i hj hr hi hx => ?_)⟩
  · refine EV.at ck100 (by decide) 300 [] ?_
    conv => whnf
    try dsimp only
    first | refine ⟨fun h1 => absurd h1 (by decide), fun _ => ?_⟩ | refine ⟨fun _ => ?_, fun h1 => absurd (by decide) h1⟩ | refine ⟨fun h1 => absurd (by decide) h1, fun _ => ?_⟩ | refine ⟨fun _ => ?_, fun h1 => absurd h1 (by decide)⟩
    conv => whnf
    try dsimp only
    exact ⟨trivial, fin (by unfold sp_put; rw [e1]) hC (by omega) (FC.rf I) (FJ.rf J) h⟩
  · refine EV.at ck100 (by decide) 300 [] ?_
    conv => whnf
    try dsimp only
    first | refine ⟨fun h1 => absurd h1 (by decide), fun _ => ?_⟩ | refine ⟨fun _ => ?_, fun h1 => absurd (by decide) h1⟩ | refine ⟨fun h1 => absurd (by decide) h1, fun _ => ?_⟩ | refine ⟨fun _ => ?_, fun h1 => absurd h1 (by decide)⟩
    conv => whnf
    try dsimp only
    exact ⟨trivial, fin (by unfold sp_put; rw [hr, ix_nI (by decide) hj]; exact if_pos hz) (hC.fnd (by decide)) (by omega) FC.fnd (FJ.rf J) h⟩
  · refine EV.at ck100 (by decide) 300 [] ?_
    conv => whnf
    try dsimp only
    first | refine ⟨fun h1 => absurd h1 (by decide), fun _ => ?_⟩ | refine ⟨fun _ => ?_, fun h1 => absurd (by decide) h1⟩ | refine ⟨fun h1 => absurd (by decide) h1, fun _ => ?_⟩ | refine ⟨fun _ => ?_, fun h1 => absurd h1 (by decide)⟩
    conv => whnf
    try dsimp only
    refine ⟨trivial, fin ?_ (hC.fnd (by decide)) (by omega) FC.fnd (FJ.rf J) h⟩
    unfold sp_put
    rw [hr, ix_nI (by decide) hj]
    show (if _ then _ else _) = _
    rw [if_neg hz, hi]
  · subst hr
    subst hx
    have o81 := oX j hj
    have cj : (nI j).toNatClampNeg = j := nI_clamp (by omega)
    have ci : (nI i).toNatClampNeg = i := nI_clamp (by omega)
    refine EV.at ck100 (by decide) 300 [] ?_
    conv => whnf
    try dsimp only
    first | refine ⟨fun h1 => absurd h1 (by decide), fun _ => ?_⟩ | refine ⟨fun _ => ?_, fun h1 => absurd (by decide) h1⟩ | refine ⟨fun h1 => absurd (by decide) h1, fun _ => ?_⟩ | refine ⟨fun _ => ?_, fun h1 => absurd h1 (by decide)⟩
    conv => whnf
    try dsimp only
    refine ⟨in_nI hj (by decide), oS_at cj (txt_g _ hj) ?_⟩
    conv => whnf
    try dsimp only
    rw [(txt_c n hj).1]
    conv => whnf
    try dsimp only
    rw [(txt_c n hj).2]
    conv => whnf
    try dsimp only
    refine ⟨in_nI (show i < 80 by omega) (by decide), ?_⟩
    conv => whnf
    try dsimp only
    refine ⟨in_nI hj (by decide), oS_at cj (txt_g _ hj) ?_⟩
    conv => whnf
    try dsimp only
    rw [(txt_c n hj).1]
    conv => whnf
    try dsimp only
    rw [(txt_c n hj).2]
    conv => whnf
    try dsimp only
    refine ⟨in_nI (show i < 80 by omega) (by decide), ?_⟩
    conv => whnf
    try dsimp only
    rw [ci, (hcX j hj).2 i hi]
    refine ⟨trivial, fin (a' := sTxt a j (aTs a j) (fun x => if x = i then i2b v else aTc a j x)) ?_ (hC.tcell hj) (by omega) (fun r hr => upI_oth (by omega)) (FJ.rf J) h⟩
    unfold sp_put
    rw [ix_nI (by decide) hj]
    show (if _ then _ else _) = _
    rw [if_neg (by omega), ix_nI (by omega) (show i < aTs a j - 1 by omega)]
theorem k_tear {r : Int32} : CS G n 96 [.int r] (fun a => sp_tear a r) := by
  intro D I J Q a e hO hC he h
  try dsimp only at h
  obtain ⟨hcT, hcF, hcK, hcR, hcX, hcN, hcA, hcU, hcM⟩ := id hC
  obtain ⟨oT, oF, oN, oK, oR, oX⟩ := id hO
  refine MT.by ck96 (by decide) rfl (Nat.le_of_ble_eq_true rfl) rfl 300 [] ?_
  conv => whnf
  try dsimp only
  refine ⟨trivial, c_refuseStrip (sz := aRs a) (str_r n) (by decide) (fun j hj => ⟨by have := oR j hj; omega, (hcR j hj).1⟩) (fun e1 => ?_) (fun j hj hr hz => ?_) (fun j hj hr hz => ?_)⟩
  · refine EV.at ck96 (by decide) 300 [] ?_
    conv => whnf
    try dsimp only
    first | refine ⟨fun h1 => absurd h1 (by decide), fun _ => ?_⟩ | refine ⟨fun _ => ?_, fun h1 => absurd (by decide) h1⟩ | refine ⟨fun h1 => absurd (by decide) h1, fun _ => ?_⟩ | refine ⟨fun _ => ?_, fun h1 => absurd h1 (by decide)⟩
    conv => whnf
    try dsimp only
    exact ⟨trivial, fin (by unfold sp_tear; rw [e1]) hC (by omega) (FC.rf I) (FJ.rf J) h⟩
  · refine EV.at ck96 (by decide) 300 [] ?_
    conv => whnf
    try dsimp only
    first | refine ⟨fun h1 => absurd h1 (by decide), fun _ => ?_⟩ | refine ⟨fun _ => ?_, fun h1 => absurd (by decide) h1⟩ | refine ⟨fun h1 => absurd (by decide) h1, fun _ => ?_⟩ | refine ⟨fun _ => ?_, fun h1 => absurd h1 (by decide)⟩
    conv => whnf
    try dsimp only
    exact ⟨trivial, fin (by unfold sp_tear; rw [hr, ix_nI (by decide) hj]; exact if_pos hz) (hC.fnd (by decide)) (by omega) FC.fnd (FJ.rf J) h⟩
  · subst hr
    have cj : (nI j).toNatClampNeg = j := nI_clamp (by omega)
    refine EV.at ck96 (by decide) 300 [] ?_
    conv => whnf
    try dsimp only
    first | refine ⟨fun h1 => absurd h1 (by decide), fun _ => ?_⟩ | refine ⟨fun _ => ?_, fun h1 => absurd (by decide) h1⟩ | refine ⟨fun h1 => absurd (by decide) h1, fun _ => ?_⟩ | refine ⟨fun _ => ?_, fun h1 => absurd h1 (by decide)⟩
    conv => whnf
    try dsimp only
    refine ⟨in_nI hj (by decide), oS_at cj (row_g _ hj) ?_⟩
    conv => whnf
    try dsimp only
    rw [(row_c n hj).1]
    conv => whnf
    try dsimp only
    refine ⟨trivial, fin (a' := sRow a j 0 (fun _ => 0)) ?_ (hC.row hj (fun r h1 h2 => upI_oth h1) up_same (fun i hi => absurd hi (by omega))) (by omega) (fun r hr => upI_oth (by omega)) (FJ.rf J) h⟩
    unfold sp_tear
    rw [ix_nI (by decide) hj]
    show (if _ then _ else _) = _
    rw [if_neg hz]
theorem k_mean {r : Int32} : CS G n 98 [.int r] (fun a => sp_mean a r) := by
  intro D I J Q a e hO hC he h
  try dsimp only at h
  obtain ⟨hcT, hcF, hcK, hcR, hcX, hcN, hcA, hcU, hcM⟩ := id hC
  obtain ⟨oT, oF, oN, oK, oR, oX⟩ := id hO
  refine MT.by ck98 (by decide) rfl (Nat.le_of_ble_eq_true rfl) rfl 300 [] ?_
  conv => whnf
  try dsimp only
  refine ⟨trivial, c_refuseStrip (sz := aRs a) (str_r n) (by decide) (fun j hj => ⟨by have := oR j hj; omega, (hcR j hj).1⟩) (fun e1 => ?_) (fun j hj hr hz => ?_) (fun j hj hr hz => ?_)⟩
  · refine EV.at ck98 (by decide) 300 [] ?_
    conv => whnf
    try dsimp only
    first | refine ⟨fun h1 => absurd h1 (by decide), fun _ => ?_⟩ | refine ⟨fun _ => ?_, fun h1 => absurd (by decide) h1⟩ | refine ⟨fun h1 => absurd (by decide) h1, fun _ => ?_⟩ | refine ⟨fun _ => ?_, fun h1 => absurd h1 (by decide)⟩
    conv => whnf
    try dsimp only
    exact ⟨trivial, fin (by unfold sp_mean; rw [e1]) hC (by omega) (FC.rf I) (FJ.rf J) h⟩
  · refine EV.at ck98 (by decide) 300 [] ?_
    conv => whnf
    try dsimp only
    first | refine ⟨fun h1 => absurd h1 (by decide), fun _ => ?_⟩ | refine ⟨fun _ => ?_, fun h1 => absurd (by decide) h1⟩ | refine ⟨fun h1 => absurd (by decide) h1, fun _ => ?_⟩ | refine ⟨fun _ => ?_, fun h1 => absurd h1 (by decide)⟩
    conv => whnf
    try dsimp only
    exact ⟨trivial, fin (by unfold sp_mean; rw [hr, ix_nI (by decide) hj]; exact if_pos hz) (hC.fnd (by decide)) (by omega) FC.fnd (FJ.rf J) h⟩
  subst hr
  have cj : (nI j).toNatClampNeg = j := nI_clamp (by omega)
  have o41 := oR j hj
  have hsz : I (39 + 2 * j) 1 = nI (aRs a j - 1) := by rw [(hcR j hj).1]; exact sz_nI hz
  refine EV.at ck98 (by decide) 300 [] ?_
  conv => whnf
  try dsimp only
  first | refine ⟨fun h1 => absurd h1 (by decide), fun _ => ?_⟩ | refine ⟨fun _ => ?_, fun h1 => absurd (by decide) h1⟩ | refine ⟨fun h1 => absurd (by decide) h1, fun _ => ?_⟩ | refine ⟨fun _ => ?_, fun h1 => absurd h1 (by decide)⟩
  conv => whnf
  try dsimp only
  refine ⟨in_nI hj (by decide), oS_at cj (row_g _ hj) ?_⟩
  conv => whnf
  try dsimp only
  rw [(row_c n hj).1]
  conv => whnf
  try dsimp only
  rw [hsz]
  by_cases h1 : aRs a j = 1
  · rw [h1]
    first | refine ⟨fun h1 => absurd h1 (by decide), fun _ => ?_⟩ | refine ⟨fun _ => ?_, fun h1 => absurd (by decide) h1⟩ | refine ⟨fun h1 => absurd (by decide) h1, fun _ => ?_⟩ | refine ⟨fun _ => ?_, fun h1 => absurd h1 (by decide)⟩
    conv => whnf
    try dsimp only
    refine ⟨trivial, c_find (f := 4) (by decide) ?_⟩
    refine EV.at ck98 (by decide) 300 [] ?_
    conv => whnf
    try dsimp only
    refine ⟨trivial, fin ?_ (hC.fnd (by decide)) (by omega) FC.fnd (FJ.rf J) h⟩
    unfold sp_mean
    rw [ix_nI (by decide) hj]
    show (if _ then _ else _) = _
    rw [if_neg hz, if_pos h1]
  · refine ⟨fun _ => ?_, fun z => absurd z (nI_ne0 (by omega) (by omega))⟩
    conv => whnf
    try dsimp only
    refine ⟨in_nI hj (by decide), oS_at cj (row_g _ hj) ?_⟩
    conv => whnf
    try dsimp only
    rw [(row_c n hj).1]
    conv => whnf
    try dsimp only
    refine ⟨trivial, c_sum (row_c n hj).1 (row_c n hj).2 (show aRs a j - 1 ≤ 40 by omega) (by decide) hsz ?_⟩
    refine EV.at ck98 (by decide) 300 [] ?_
    conv => whnf
    try dsimp only
    refine ⟨in_nI hj (by decide), oS_at cj (row_g _ hj) ?_⟩
    conv => whnf
    try dsimp only
    rw [(row_c n hj).1]
    conv => whnf
    try dsimp only
    rw [hsz]
    refine ⟨fun z => ?_, ?_⟩
    · rw [nI_l (by omega)] at z
      have := (pk_lEQ (b := 0) (show aRs a j - 1 < 2 ^ 63 by omega) (by decide)).mp z
      omega
    conv => whnf
    try dsimp only
    have es : ∀ m, m ≤ aRs a j - 1 → sumL (I (39 + 2 * j + 1)) m = sumL (aRc a j) m := by
      intro m
      induction m with
      | zero => intro _; rfl
      | succ m ih => intro hm; rw [sumL, sumL, ih (by omega), (hcR j hj).2 m (by omega)]
    rw [es _ (Nat.le_refl _)]
    refine ⟨trivial, c_tell ?_⟩
    refine EV.at ck98 (by decide) 300 [] ?_
    conv => whnf
    try dsimp only
    refine ⟨trivial, fin ?_ hC.ask (by omega) (fun r hr => upI_oth (by omega)) (FJ.rf J) h⟩
    unfold sp_mean
    rw [ix_nI (by decide) hj]
    show (if _ then _ else _) = _
    rw [if_neg hz, if_neg h1]
theorem k_copy {r x t y k : Int32} : CS G n 97 [.int r, .int x, .int t, .int y, .int k] (fun a => sp_copy a r x t y k) := by
  intro D I J Q a e hO hC he h
  try dsimp only at h
  obtain ⟨hcT, hcF, hcK, hcR, hcX, hcN, hcA, hcU, hcM⟩ := id hC
  obtain ⟨oT, oF, oN, oK, oR, oX⟩ := id hO
  refine MT.by ck97 (by decide) rfl (Nat.le_of_ble_eq_true rfl) rfl 300 [] ?_
  conv => whnf
  try dsimp only
  refine ⟨trivial, c_wi (K := 6) rfl (by decide) (fun e1 => ?_) (fun j hj hr e1 => ?_)⟩
  · refine EV.at ck97 (by decide) 300 [] ?_
    conv => whnf
    try dsimp only
    first | refine ⟨fun h1 => absurd h1 (by decide), fun _ => ?_⟩ | refine ⟨fun _ => ?_, fun h1 => absurd (by decide) h1⟩ | refine ⟨fun h1 => absurd (by decide) h1, fun _ => ?_⟩ | refine ⟨fun _ => ?_, fun h1 => absurd h1 (by decide)⟩
    conv => whnf
    try dsimp only
    exact ⟨trivial, fin (by unfold sp_copy; rw [e1]) hC (by omega) (FC.rf I) (FJ.rf J) h⟩
  unfold sp_copy at h
  rw [e1] at h
  dsimp only at h
  subst hr
  have cj : (nI j).toNatClampNeg = j := nI_clamp (by omega)
  have oj := oR j hj
  refine EV.at ck97 (by decide) 300 [] ?_
  conv => whnf
  try dsimp only
  first | refine ⟨fun h1 => absurd h1 (by decide), fun _ => ?_⟩ | refine ⟨fun _ => ?_, fun h1 => absurd (by decide) h1⟩ | refine ⟨fun h1 => absurd (by decide) h1, fun _ => ?_⟩ | refine ⟨fun _ => ?_, fun h1 => absurd h1 (by decide)⟩
  conv => whnf
  try dsimp only
  refine ⟨trivial, c_wi (K := 6) rfl (by decide) (fun e2 => ?_) (fun l hl hr e2 => ?_)⟩
  · refine EV.at ck97 (by decide) 300 [] ?_
    conv => whnf
    try dsimp only
    first | refine ⟨fun h1 => absurd h1 (by decide), fun _ => ?_⟩ | refine ⟨fun _ => ?_, fun h1 => absurd (by decide) h1⟩ | refine ⟨fun h1 => absurd (by decide) h1, fun _ => ?_⟩ | refine ⟨fun _ => ?_, fun h1 => absurd h1 (by decide)⟩
    conv => whnf
    try dsimp only
    exact ⟨trivial, fin (by rw [e2]) hC (by omega) (FC.rf I) (FJ.rf J) h⟩
  rw [e2] at h
  dsimp only at h
  subst hr
  have cl : (nI l).toNatClampNeg = l := nI_clamp (by omega)
  have ol := oR l hl
  refine EV.at ck97 (by decide) 300 [] ?_
  conv => whnf
  try dsimp only
  first | refine ⟨fun h1 => absurd h1 (by decide), fun _ => ?_⟩ | refine ⟨fun _ => ?_, fun h1 => absurd (by decide) h1⟩ | refine ⟨fun h1 => absurd (by decide) h1, fun _ => ?_⟩ | refine ⟨fun _ => ?_, fun h1 => absurd h1 (by decide)⟩
  conv => whnf
  try dsimp only
  refine ⟨fun z1 => ?_, fun z1 => ?_⟩
  case refine_2 =>
    conv => whnf
    try dsimp only
    refine ⟨trivial, c_find (f := 5) (by decide) ?_⟩
    refine EV.at ck97 (by decide) 300 [] ?_
    conv => whnf
    try dsimp only
    exact ⟨trivial, fin (if_pos (Int32.not_le.mp z1)) (hC.fnd (by decide)) (by omega) FC.fnd (FJ.rf J) h⟩
  rw [if_neg (Int32.not_lt.mpr z1)] at h
  obtain ⟨m, hm, rfl⟩ := nI_of (Int32.not_lt.mpr z1)
  rw [nI_clamp hm] at h
  conv => whnf
  try dsimp only
  refine ⟨in_nI hj (by decide), oS_at cj (row_g _ hj) ?_⟩
  conv => whnf
  try dsimp only
  rw [(row_c n hj).1]
  conv => whnf
  try dsimp only
  rw [(hcR j hj).1]
  refine ⟨fun z2 => ?_, fun z2 => ?_⟩
  · conv => whnf
    try dsimp only
    refine ⟨trivial, c_find (f := 1) (by decide) ?_⟩
    refine EV.at ck97 (by decide) 300 [] ?_
    conv => whnf
    try dsimp only
    exact ⟨trivial, fin (if_pos (Or.inl ((szI_neg (by omega)).mp z2))) (hC.fnd (by decide)) (by omega) FC.fnd (FJ.rf J) h⟩
  have y2 : aRs a j ≠ 0 := fun z => z2 ((szI_neg (by omega)).mpr z)
  conv => whnf
  try dsimp only
  refine ⟨in_nI hl (by decide), oS_at cl (row_g _ hl) ?_⟩
  conv => whnf
  try dsimp only
  rw [(row_c n hl).1]
  conv => whnf
  try dsimp only
  rw [(hcR l hl).1]
  refine ⟨fun z3 => ?_, fun z3 => ?_⟩
  case refine_2 =>
    conv => whnf
    try dsimp only
    refine ⟨trivial, c_find (f := 1) (by decide) ?_⟩
    refine EV.at ck97 (by decide) 300 [] ?_
    conv => whnf
    try dsimp only
    exact ⟨trivial, fin (if_pos (Or.inr ((szI_neg (by omega)).mp (Int32.not_le.mp z3)))) (hC.fnd (by decide)) (by omega) FC.fnd (FJ.rf J) h⟩
  have y3 : aRs a l ≠ 0 := fun z => Int32.not_lt.mpr z3 ((szI_neg (by omega)).mpr z)
  rw [if_neg (by omega)] at h
  have sj : I (39 + 2 * j) 1 = nI (aRs a j - 1) := by rw [(hcR j hj).1]; exact sz_nI y2
  have sl : I (39 + 2 * l) 1 = nI (aRs a l - 1) := by rw [(hcR l hl).1]; exact sz_nI y3
  conv => whnf
  try dsimp only
  refine ⟨in_nI hj (by decide), oS_at cj (row_g _ hj) ?_⟩
  conv => whnf
  try dsimp only
  rw [(row_c n hj).1]
  conv => whnf
  try dsimp only
  refine ⟨trivial, c_holds (row_c n hj).1 ?_⟩
  rw [sj]
  rcases hld_cases (m := aRs a j - 1) (by omega) hm x with ⟨e3, e4⟩ | ⟨i, hi, rfl, e3, e4⟩
  · rw [e4]
    rw [e3] at h
    refine EV.at ck97 (by decide) 300 [] ?_
    conv => whnf
    try dsimp only
    first | refine ⟨fun h1 => absurd h1 (by decide), fun _ => ?_⟩ | refine ⟨fun _ => ?_, fun h1 => absurd (by decide) h1⟩ | refine ⟨fun h1 => absurd (by decide) h1, fun _ => ?_⟩ | refine ⟨fun _ => ?_, fun h1 => absurd h1 (by decide)⟩
    conv => whnf
    try dsimp only
    refine ⟨trivial, c_find (f := 2) (by decide) ?_⟩
    refine EV.at ck97 (by decide) 300 [] ?_
    conv => whnf
    try dsimp only
    exact ⟨trivial, fin rfl (hC.fnd (by decide)) (by omega) FC.fnd (FJ.rf J) h⟩
  rw [e4]
  rw [e3] at h
  dsimp only at h
  refine EV.at ck97 (by decide) 300 [] ?_
  conv => whnf
  try dsimp only
  first | refine ⟨fun h1 => absurd h1 (by decide), fun _ => ?_⟩ | refine ⟨fun _ => ?_, fun h1 => absurd (by decide) h1⟩ | refine ⟨fun h1 => absurd (by decide) h1, fun _ => ?_⟩ | refine ⟨fun _ => ?_, fun h1 => absurd h1 (by decide)⟩
  conv => whnf
  try dsimp only
  refine ⟨in_nI hl (by decide), oS_at cl (row_g _ hl) ?_⟩
  conv => whnf
  try dsimp only
  rw [(row_c n hl).1]
  conv => whnf
  try dsimp only
  refine ⟨trivial, c_holds (row_c n hl).1 ?_⟩
  rw [sl]
  rcases hld_cases (m := aRs a l - 1) (by omega) hm y with ⟨e5, e6⟩ | ⟨i', hi', rfl, e5, e6⟩
  · rw [e6]
    rw [e5] at h
    refine EV.at ck97 (by decide) 300 [] ?_
    conv => whnf
    try dsimp only
    first | refine ⟨fun h1 => absurd h1 (by decide), fun _ => ?_⟩ | refine ⟨fun _ => ?_, fun h1 => absurd (by decide) h1⟩ | refine ⟨fun h1 => absurd (by decide) h1, fun _ => ?_⟩ | refine ⟨fun _ => ?_, fun h1 => absurd h1 (by decide)⟩
    conv => whnf
    try dsimp only
    refine ⟨trivial, c_find (f := 2) (by decide) ?_⟩
    refine EV.at ck97 (by decide) 300 [] ?_
    conv => whnf
    try dsimp only
    exact ⟨trivial, fin rfl (hC.fnd (by decide)) (by omega) FC.fnd (FJ.rf J) h⟩
  rw [e6]
  rw [e5] at h
  dsimp only at h
  refine EV.at ck97 (by decide) 300 [] ?_
  conv => whnf
  try dsimp only
  first | refine ⟨fun h1 => absurd h1 (by decide), fun _ => ?_⟩ | refine ⟨fun _ => ?_, fun h1 => absurd (by decide) h1⟩ | refine ⟨fun h1 => absurd (by decide) h1, fun _ => ?_⟩ | refine ⟨fun _ => ?_, fun h1 => absurd h1 (by decide)⟩
  conv => whnf
  try dsimp only
  refine ⟨in_nI hj (by decide), oS_at cj (row_g _ hj) ?_⟩
  conv => whnf
  try dsimp only
  rw [(row_c n hj).1]
  conv => whnf
  try dsimp only
  refine ⟨in_nI hl (by decide), oS_at cl (row_g _ hl) ?_⟩
  conv => whnf
  try dsimp only
  rw [(row_c n hl).1]
  conv => whnf
  try dsimp only
  rw [(row_c n hj).2]
  conv => whnf
  try dsimp only
  rw [(row_c n hl).2]
  conv => whnf
  try dsimp only
  have ci : (nI i).toNatClampNeg = i := nI_clamp (by omega)
  have ci' : (nI i').toNatClampNeg = i' := nI_clamp (by omega)
  rw [ci, ci', nI_clamp hm]
  refine ⟨⟨nI_pos (by omega), nI_pos (by omega), nI_pos hm, by omega, by omega⟩, ?_⟩
  conv => whnf
  try dsimp only
  refine ⟨trivial, fin rfl (hC.row hl (fun r h1 h2 => cp_oth h2) ?_ (fun x hx => ?_)) (by omega) (fun r hr => cp_oth (by omega)) (FJ.rf J) h⟩
  · rw [cp_oth (by omega)]
    exact (hcR l hl).1
  · show cpI _ _ _ _ _ _ _ _ = _
    unfold cpI
    by_cases hx2 : i' ≤ x ∧ x < i' + m
    · rw [if_pos ⟨rfl, hx2.1, hx2.2⟩, if_pos hx2]
      exact (hcR j hj).2 _ (by omega)
    · rw [if_neg (fun z => hx2 z.2), if_neg hx2]
      exact (hcR l hl).2 x hx
end
