/-! the reference's calls: odds, hopes -/
theorem MA.chn {a : AB} {I : Nat → Nat → Int32} {J J' : Nat → Nat → Int64} {u w : Int64} (h : MA a I J) (h1 : J' 77 13 = u) (h2 : J' 77 14 = w) : MA (uC a u w) I J' := ⟨h.1, h.2.1, h.2.2.1, h.2.2.2.1, h.2.2.2.2.1, h.2.2.2.2.2.1, h.2.2.2.2.2.2.1, h1, h2⟩
theorem FMJ.tr {J J' J'' : Nat → Nat → Int64} (h : FMJ J J') (h' : FMJ J' J'') : FMJ J J'' := fun c hc => (h' c hc).trans (h c hc)
theorem FMJ.up {J J' : Nat → Nat → Int64} {r k : Nat} {x : Int64} (h : FMJ J J') (hr : 77 ≤ r) : FMJ J (upL J' r k x) := fun c hc => by rw [upL_oth (by omega)]; exact h c hc
section
variable {G : GG} {D n : Nat} {I : Nat → Nat → Int32} {J : Nat → Nat → Int64} {Q : Option Value → MH → Prop} {T : TN}
theorem r_chances {both : Bool} {F : FG} (hF : wM 0 F I) (hz : F.2.1 ≤ 40) (hT : tOK T) (h4 : four T) (hM : mT T I) (hv : vQ T F.1) (h : ∀ I' J', SR I I' → cM 0 (chance T (chO both (F.2.1 % 2)) F.1 (F.2.1 % 2)) J' → (∀ r, r ≠ 107 → r ≠ 108 → J' r = J r) → Q (some (.int (if both then -9 else (bcN (fun k => WH - chance T (chO both (F.2.1 % 2)) (stepQ T F.1 (F.2.1 % 2) k) (1 - F.2.1 % 2)) (fun k => canN T (F.1 (F.2.1 % 2)) (F.1 (1 - F.2.1 % 2)).1 k) (tC T)).2))) (SH n, I', J')) : MT G (D + 5) 239 [.ref 77, .int (b2i both)] (SH n, I, J) Q := by
  have hf0 : F.2.1 % 2 < 2 := Nat.mod_lt _ (by decide)
  generalize hf : F.2.1 % 2 = f0 at h hf0
  have ef : (f0 + 0) % 2 = f0 := by omega
  refine MT.by ck239 (by decide) rfl (Nat.le_of_ble_eq_true rfl) rfl 300 [15] ?_
  conv => whnf
  try dsimp only
  refine ⟨trivial, r_layRoot hF hz (fun I1 b1 b2 b3 b4 b5 b6 => ?_)⟩
  rw [hf] at b3
  have s1 : SR I I1 := ⟨fun r h1 h2 => b5 r h2 (by omega) (by omega) (by omega), b6 2 (by decide), b6 3 (by decide), b6 6 (by decide), b6 10 (by decide), b6 12 (by decide)⟩
  have hM1 : mT T I1 := hM.of (fun r x y => s1.1 r (by omega) (by omega)) s1.2.2.1 s1.2.2.2.1
  refine EV.at ck239 (by decide) 300 [15] ?_
  conv => whnf
  try dsimp only
  refine ⟨trivial, r_isChance (d := 0) (by decide) ?_⟩
  have s2 : SR I (upI I1 109 0 0) := s1.tr (SR.hi (by decide))
  refine ChD_all (both := both) hf0 hT h4 10 0 F.1 _ _ (-9) dm dm dm rfl (fsum_le hv) hv ⟨?_, ?_, ?_⟩ ?_ ?_ up_same ?_ ul_same (fun _ => rfl) (fun I' J' v4 v5 v6 y0 y1 y2 => ?_)
  · exact hM1.of (fun r x y => upI_oth (by omega)) (by rw [upI_oth (by decide)]) (by rw [upI_oth (by decide)])
  · rw [upI_oth (by decide)]; exact b3
  · exact ⟨by rw [upI_oth (by decide)]; exact b2.1, by rw [upI_oth (by decide)]; exact b2.2⟩
  · exact fun e he => by rw [upI_oth (by decide)]; exact b1 e he
  · rw [upI_oth (by decide)]; exact b4
  · rw [upL_oth (by decide), ul_same]
  · rw [ef] at y2
    have hq := h I' J' (s2.tr y0.sr) y2 (fun r h1 h2 => by
      funext x
      rw [y1 r x (Or.inl ⟨h1, h2⟩), upL_oth h2, upL_oth h1])
    have eb : ∀ x : Int32, bK (decide (both = false ∧ 0 % 2 = 0)) 0 (-9) x = if both then -9 else x := fun x => by
      cases both <;> rfl
    rw [ef, eb]
    refine EV.at ck239 (by decide) 300 [] ?_
    conv => whnf
    try dsimp only
    first | refine ⟨fun h1 => absurd h1 (by decide), fun _ => ?_⟩ | refine ⟨fun _ => ?_, fun h1 => absurd (by decide) h1⟩ | refine ⟨fun h1 => absurd (by decide) h1, fun _ => ?_⟩ | refine ⟨fun _ => ?_, fun h1 => absurd h1 (by decide)⟩
    conv => whnf
    try dsimp only
    refine ⟨trivial, ?_⟩
    refine EV.at ck239 (by decide) 300 [] ?_
    conv => whnf
    try dsimp only
    first | refine ⟨fun h1 => absurd h1 (by decide), fun _ => ?_⟩ | refine ⟨fun _ => ?_, fun h1 => absurd (by decide) h1⟩ | refine ⟨fun h1 => absurd (by decide) h1, fun _ => ?_⟩ | refine ⟨fun _ => ?_, fun h1 => absurd h1 (by decide)⟩
    conv => whnf
    try dsimp only
    exact ⟨trivial, hq⟩
theorem r_chancesTold {both : Bool} {F : FG} (hF : wM 0 F I) (hz : F.2.1 ≤ 40) (hT : tOK T) (h4 : four T) (hM : mT T I) (hv : vQ T F.1) (h : ∀ I' J', SR I I' → J' 77 13 = lN (redU (chance T (chO both (F.2.1 % 2)) F.1 (F.2.1 % 2))) → J' 77 14 = lN (redL (chance T (chO both (F.2.1 % 2)) F.1 (F.2.1 % 2))) → FMJ J J' → Q (some (.int (if both then -9 else (bcN (fun k => WH - chance T (chO both (F.2.1 % 2)) (stepQ T F.1 (F.2.1 % 2) k) (1 - F.2.1 % 2)) (fun k => canN T (F.1 (F.2.1 % 2)) (F.1 (1 - F.2.1 % 2)).1 k) (tC T)).2))) (SH n, I', J')) : MT G (D + 6) 241 [.ref 77, .int (b2i both)] (SH n, I, J) Q := by
  refine MT.by ck241 (by decide) rfl (Nat.le_of_ble_eq_true rfl) rfl 300 [] ?_
  conv => whnf
  try dsimp only
  refine ⟨trivial, r_chances hF hz hT h4 hM hv (fun I' J' y0 y1 y2 => ?_)⟩
  have c0 : Int32.toNatClampNeg 0 = 0 := by decide
  refine EV.at ck241 (by decide) 300 [] ?_
  conv => whnf
  try dsimp only
  refine ⟨by unfold vp_in; decide, ?_⟩
  conv => whnf
  try dsimp only
  refine ⟨by unfold vp_in; decide, ?_⟩
  conv => whnf
  try dsimp only
  rw [c0, upL_oth (r' := 108) (by decide), y1.1, y1.2]
  exact ⟨trivial, h _ _ y0 (by rw [ul_ne (by decide), ul_same]) ul_same (((show FMJ J J' from fun r hr => y2 r (by omega) (by omega)).up (by decide)).up (by decide))⟩
theorem m_odds : RS G n 242 [] sp_odds := by
  intro D I J Q a hO hC h
  try dsimp only at h
  obtain ⟨hcT, hcF, hcK, hcR, hcX, hcN, hcA, hcU⟩ := id hC
  obtain ⟨oT, oF, oN, oK, oR, oX⟩ := id hO
  unfold sp_odds at h
  cases hh : aH a
  · rw [hh] at h
    refine MT.by ck242 (by decide) rfl (Nat.le_of_ble_eq_true rfl) rfl 300 [] ?_
    conv => whnf
    try dsimp only
    rw [hcF.1, hh]
    first | refine ⟨fun h1 => absurd h1 (by decide), fun _ => ?_⟩ | refine ⟨fun _ => ?_, fun h1 => absurd (by decide) h1⟩ | refine ⟨fun h1 => absurd (by decide) h1, fun _ => ?_⟩ | refine ⟨fun _ => ?_, fun h1 => absurd h1 (by decide)⟩
    conv => whnf
    try dsimp only
    exact ⟨trivial, rfin rfl hC (FM.rf I) (FMJ.rf J) h⟩
  rw [hh, if_pos rfl] at h
  have hv : vQ (aT a) (aq a) := (oF hh).1
  refine MT.by ck242 (by decide) rfl (Nat.le_of_ble_eq_true rfl) rfl 300 [] ?_
  conv => whnf
  try dsimp only
  rw [hcF.1, hh]
  first | refine ⟨fun h1 => absurd h1 (by decide), fun _ => ?_⟩ | refine ⟨fun _ => ?_, fun h1 => absurd (by decide) h1⟩ | refine ⟨fun h1 => absurd (by decide) h1, fun _ => ?_⟩ | refine ⟨fun _ => ?_, fun h1 => absurd h1 (by decide)⟩
  conv => whnf
  try dsimp only
  refine ⟨trivial, r_chancesTold (both := true) hcF.2 (oF hh).2.1 oT.1 oT.2.2 hC.1 hv (fun I' J' y0 y1 y2 y3 => ?_)⟩
  show EV G 242 _ 0 0 _ _ ((some (Value.int (-9))).toList ++ _) _ _
  refine EV.at ck242 (by decide) 300 [] ?_
  conv => whnf
  try dsimp only
  first | refine ⟨fun h1 => absurd h1 (by decide), fun _ => ?_⟩ | refine ⟨fun _ => ?_, fun h1 => absurd (by decide) h1⟩ | refine ⟨fun h1 => absurd (by decide) h1, fun _ => ?_⟩ | refine ⟨fun _ => ?_, fun h1 => absurd h1 (by decide)⟩
  conv => whnf
  try dsimp only
  exact ⟨trivial, rfin rfl ((hC.scr (J' := J) y0 rfl rfl).chn y1 y2) y0.fm y3 h⟩
theorem m_hopes : RS G n 243 [] sp_hopes := by
  intro D I J Q a hO hC h
  try dsimp only at h
  obtain ⟨hcT, hcF, hcK, hcR, hcX, hcN, hcA, hcU⟩ := id hC
  obtain ⟨oT, oF, oN, oK, oR, oX⟩ := id hO
  unfold sp_hopes at h
  cases hh : aH a
  · rw [hh] at h
    refine MT.by ck243 (by decide) rfl (Nat.le_of_ble_eq_true rfl) rfl 300 [] ?_
    conv => whnf
    try dsimp only
    rw [hcF.1, hh]
    first | refine ⟨fun h1 => absurd h1 (by decide), fun _ => ?_⟩ | refine ⟨fun _ => ?_, fun h1 => absurd (by decide) h1⟩ | refine ⟨fun h1 => absurd (by decide) h1, fun _ => ?_⟩ | refine ⟨fun _ => ?_, fun h1 => absurd h1 (by decide)⟩
    conv => whnf
    try dsimp only
    exact ⟨trivial, rfin rfl hC (FM.rf I) (FMJ.rf J) h⟩
  rw [hh, if_pos rfl] at h
  have hv : vQ (aT a) (aq a) := (oF hh).1
  have hw : aw a < 2 := Nat.mod_lt _ (by decide)
  have h12 : tC (aT a) ≤ 12 := oT.1.2.2.1
  have ec : chance (aT a) (aw a) (aq a) (aw a) = (aBe a).1 := by
    rw [chance_step hw hv]
    unfold chV
    rw [if_pos (Or.inl rfl)]
    exact (bc_of _ (by omega)).1.symm
  refine MT.by ck243 (by decide) rfl (Nat.le_of_ble_eq_true rfl) rfl 300 [] ?_
  conv => whnf
  try dsimp only
  rw [hcF.1, hh]
  first | refine ⟨fun h1 => absurd h1 (by decide), fun _ => ?_⟩ | refine ⟨fun _ => ?_, fun h1 => absurd (by decide) h1⟩ | refine ⟨fun h1 => absurd (by decide) h1, fun _ => ?_⟩ | refine ⟨fun _ => ?_, fun h1 => absurd h1 (by decide)⟩
  conv => whnf
  try dsimp only
  refine ⟨trivial, r_chancesTold (both := false) hcF.2 (oF hh).2.1 oT.1 oT.2.2 hC.1 hv (fun I' J' y0 y1 y2 y3 => ?_)⟩
  have y1 : J' 77 13 = lN (redU (chance (aT a) (aw a) (aq a) (aw a))) := y1
  have y2 : J' 77 14 = lN (redL (chance (aT a) (aw a) (aq a) (aw a))) := y2
  rw [ec] at y1 y2
  refine EV.at ck243 (by decide) 300 [] ?_
  conv => whnf
  try dsimp only
  refine ⟨trivial, r_says ?_⟩
  refine EV.at ck243 (by decide) 300 [] ?_
  conv => whnf
  try dsimp only
  exact ⟨trivial, rfin rfl ((hC.scr (J' := J) y0 rfl rfl).chn y1 y2).ask (y0.fm.up (by decide)) y3 h⟩
end
