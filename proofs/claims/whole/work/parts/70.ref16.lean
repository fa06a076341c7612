/-! the reference's calls: lots -/
theorem tb_mod {x k : Nat} : x.testBit k = decide (x / 2 ^ k % 2 = 1) := Nat.testBit_eq_decide_div_mod_eq
theorem dv_s (x k : Nat) : x / 2 ^ k / 2 = x / 2 ^ (k + 1) := by rw [Nat.div_div_eq_div_mul, Nat.pow_succ]
theorem sd_in (s : Int32) : decide ((1 : Int64) ≤ s.toInt64 ∧ s.toInt64 ≤ 2147483646) = decide (¬ (s < 1 ∨ s = 2147483647)) := by
  apply decide_eq_decide.mpr
  rw [Int64.le_iff_toInt_le, Int64.le_iff_toInt_le, Int32.lt_iff_toInt_lt, ← Int32.toInt_inj, Int32.toInt_toInt64, show (1 : Int64).toInt = 1 from by decide, show (2147483646 : Int64).toInt = 2147483646 from by decide, show (1 : Int32).toInt = 1 from by decide, show (2147483647 : Int32).toInt = 2147483647 from by decide]
  have := Int32.toInt_lt s
  omega
section
variable {G : GG} {D n : Nat} {J : Nat → Nat → Int64} {Q : Option Value → MH → Prop} {T : TN}
theorem r_lotsLoop {m s : Nat} {F : FG} {I : Nat → Nat → Int32} (hT : tOK T) (hM : mT T I) (hF : wM 0 F I) (hv : vQ T F.1) (hz : F.2.1 + m ≤ 40) (hs : s < 2147483647) (h : ∀ I', wM 0 (drawN T m 0 s F).2 I' → (∀ r, r < 90 → r ≠ 77 → r ≠ 78 → I' r = I r) → (∀ x, x ≠ 34 → I' 77 x = I 77 x) → (∀ x, 289 ≤ x → I' 78 x = I 78 x) → Q (some (.int (nI (drawN T m 0 s F).1))) (SH n, I', J)) : EV G 244 (D + 8) 0 0 59 [.ref 77, .int (nI m), .int (nI s), .long (lN s), dm, .int (nI 0), dm, dm, dm] [] (SH n, I, J) Q := by
  have loop : ∀ l i x F1 I1 (z6 z7 z8 : Value), i + l = m → x < 2147483647 → wM 0 F1 I1 → vQ T F1.1 → F1.2.1 + l ≤ 40 → (∀ r, r < 90 → r ≠ 77 → r ≠ 78 → I1 r = I r) → (∀ x, x ≠ 34 → I1 77 x = I 77 x) → (∀ x, 289 ≤ x → I1 78 x = I 78 x) → drawN T m 0 s F = drawN T l i x F1 → EV G 244 (D + 8) 0 0 59 [.ref 77, .int (nI m), .int (nI s), .long (lN x), dm, .int (nI i), z6, z7, z8] [] (SH n, I1, J) Q := by
    intro l
    induction l with
    | zero =>
      intro i x F1 I1 z6 z7 z8 hi hx hF1 hv1 hz1 o1 o2 o3 he
      have hi : i = m := hi
      rw [he] at h
      have hq := h I1 hF1 o1 o2 o3
      rw [show (drawN T 0 i x F1).1 = m from hi] at hq
      refine EV.at ck244 (by decide) 300 [] ?_
      conv => whnf
      try dsimp only
      rw [← hi] at hq ⊢
      refine ⟨fun _ => ?_, fun h1 => absurd (nI_le (Nat.le_refl i) (by omega)) h1⟩
      conv => whnf
      try dsimp only
      exact ⟨trivial, hq⟩
    | succ l ih =>
      intro i x F1 I1 z6 z7 z8 hi hx hF1 hv1 hz1 o1 o2 o3 he
      have hw : F1.2.1 % 2 < 2 := Nat.mod_lt _ (by decide)
      have hol := optF_lt (F := F1) hT
      have hun : drawN T (l + 1) i x F1 = if optF T F1 = 0 then (i, F1) else drawN T l (i + 1) (x * 48271 % 2147483647) (doF T F1 (nthK (optF T F1) (x * 48271 % 2147483647 % pcN 12 (optF T F1)))) := rfl
      refine EV.at ck244 (by decide) 300 [] ?_
      conv => whnf
      try dsimp only
      refine ⟨fun h1 => absurd h1 (nI_ge (show i < m by omega) (by omega)), fun _ => ?_⟩
      conv => whnf
      try dsimp only
      refine ⟨trivial, r_layRoot hF1 (by omega) (fun I2 b1 b2 b3 b4 b5 b6 => ?_)⟩
      have hM1 : mT T I1 := hM.of (fun r x y => o1 r (by omega) (by omega) (by omega)) (o2 3 (by decide)) (o2 6 (by decide))
      have hM2 : mT T I2 := hM1.of (fun r x y => b5 r (by omega) (by omega) (by omega) (by omega)) (b6 3 (by decide)) (b6 6 (by decide))
      have p1 : ∀ r, r < 90 → r ≠ 77 → r ≠ 78 → I2 r = I r := fun r h1 h2 h3 => (b5 r h2 (by omega) (by omega) (by omega)).trans (o1 r h1 h2 h3)
      have p2 : ∀ x, x ≠ 34 → I2 77 x = I 77 x := fun x hx => (b6 x hx).trans (o2 x hx)
      have e78 : I2 78 = I1 78 := b5 78 (by decide) (by decide) (by decide) (by decide)
      have p3 : ∀ x, 289 ≤ x → I2 78 x = I 78 x := fun x hx => by rw [e78]; exact o3 x hx
      have hF2 : wM 0 F1 I2 := hF1.of e78
      refine EV.at ck244 (by decide) 300 [] ?_
      conv => whnf
      try dsimp only
      rw [b3]
      refine ⟨trivial, r_canOf (d := 0) (by decide) hw hT hM2 b1 b2 hv1 ?_⟩
      rw [show optN T (F1.1 (F1.2.1 % 2)) (F1.1 (1 - F1.2.1 % 2)).1 (tC T) = optF T F1 from rfl]
      by_cases ho0 : optF T F1 = 0
      · rw [if_pos ho0] at hun
        rw [he, hun] at h
        have hq := h I2 hF2 p1 p2 p3
        rw [ho0]
        refine EV.at ck244 (by decide) 300 [] ?_
        conv => whnf
        try dsimp only
        first | refine ⟨fun h1 => absurd h1 (by decide), fun _ => ?_⟩ | refine ⟨fun _ => ?_, fun h1 => absurd (by decide) h1⟩ | refine ⟨fun h1 => absurd (by decide) h1, fun _ => ?_⟩ | refine ⟨fun _ => ?_, fun h1 => absurd h1 (by decide)⟩
        conv => whnf
        try dsimp only
        exact ⟨trivial, hq⟩
      rw [if_neg ho0] at hun
      obtain ⟨pc1, pc2⟩ := pc_le _ hol
      have pc3 := pc2 (by omega)
      have hx2 : x * 48271 % 2147483647 < 2147483647 := Nat.mod_lt _ (by decide)
      generalize hx3 : x * 48271 % 2147483647 = x' at hun hx2
      have hr : x' % pcN 12 (optF T F1) < pcN 12 (optF T F1) := Nat.mod_lt _ pc3
      obtain ⟨k1, k2⟩ := nth_ok _ hol _ (by omega) hr
      have e1 : jremL (lN x * 48271) 2147483647 = lN x' := by
        rw [show (48271 : Int64) = lN 48271 from rfl, show (2147483647 : Int64) = lN 2147483647 from rfl, lN_mul]
        unfold jremL
        rw [pk_lRem (by omega) (by decide) (by decide), hx3]
      have e2 : jremL (lN x') (nI (pcN 12 (optF T F1))).toInt64 = lN (x' % pcN 12 (optF T F1)) := by
        rw [nI_l (by omega)]
        unfold jremL
        rw [pk_lRem (by omega) pc3 (by omega)]
      have e3 : ¬ (nI (pcN 12 (optF T F1))).toInt64 = 0 := by
        rw [nI_l (by omega)]
        exact fun z => absurd ((pk_lEQ (b := 0) (by omega) (by decide)).mp z) (by omega)
      generalize hkk : nthK (optF T F1) (x' % pcN 12 (optF T F1)) = k at hun k1 k2
      have hb := optN_bit (T := T) (q := F1.1 (F1.2.1 % 2)) (o := (F1.1 (1 - F1.2.1 % 2)).1) (k := k) (tC T)
      rw [show optN T (F1.1 (F1.2.1 % 2)) (F1.1 (1 - F1.2.1 % 2)).1 (tC T) = optF T F1 from rfl, k1] at hb
      have hb := hb.symm
      rw [Bool.and_eq_true, decide_eq_true_eq] at hb
      generalize hrr : x' % pcN 12 (optF T F1) = r0 at hr hkk e2
      generalize optF T F1 = o at hol ho0 hr hkk e2 e3 pc1 pc3
      have e153 : ∀ (z7 : Value), EV G 244 (D + 8) 0 0 153 [.ref 77, .int (nI m), .int (nI s), .long (lN x'), dm, .int (nI i), .int (nI o), z7, .int (nI k)] [] (SH n, I2, J) Q := by
        intro z7
        refine EV.at ck244 (by decide) 300 [] ?_
        conv => whnf
        try dsimp only
        refine ⟨trivial, r_does hT hM2 hF2 hv1 (by omega) hb.1 hb.2 (fun I3 d1 d2 d3 d4 => ?_)⟩
        have ihj := ih (i + 1) x' (doF T F1 k) I3 (.int (nI o)) z7 (.int (nI k)) (by omega) hx2 d1 (vQ_step hT hw hb.1 hv1) (by show F1.2.1 + 1 + l ≤ 40; omega) (fun r h1 h2 h3 => (d2 r h1 h2 h3).trans (p1 r h1 h2 h3)) (fun x hx => (d3 x hx).trans (p2 x hx)) (fun x hx => (d4 x hx).trans (p3 x hx)) (he.trans hun)
        rw [nI_succ i] at ihj
        refine EV.at ck244 (by decide) 300 [] ?_
        conv => whnf
        try dsimp only
        exact ⟨trivial, ihj⟩
      have pick : ∀ f k' l', k' + f = 12 → l' < pcN f (o / 2 ^ k') → k' + nthF f (o / 2 ^ k') l' = k → EV G 244 (D + 8) 0 0 112 [.ref 77, .int (nI m), .int (nI s), .long (lN x'), dm, .int (nI i), .int (nI o), .int (nI l'), .int (nI k')] [] (SH n, I2, J) Q := by
        intro f
        induction f with
        | zero => exact fun k' l' _ hl _ => absurd hl (Nat.not_lt_zero _)
        | succ f ihf =>
          intro k' l' hk' hl hn
          have ihn := ihf (k' + 1)
          rw [← dv_s, nI_succ k'] at ihn
          have hp := pc_leF (f + 1) (o / 2 ^ k')
          have eb := tb_mod (x := o) (k := k')
          have hl : l' < (o / 2 ^ k') % 2 + pcN f (o / 2 ^ k' / 2) := hl
          generalize o / 2 ^ k' = y at hl hn ihn eb
          have en : nthF (f + 1) y l' = if y % 2 = 1 then (if l' = 0 then 0 else 1 + nthF f (y / 2) (l' - 1)) else 1 + nthF f (y / 2) l' := rfl
          rw [en] at hn
          refine EV.at ck244 (by decide) 300 [153] ?_
          conv => whnf
          try dsimp only
          refine ⟨trivial, r_has (by omega) (by omega) ?_⟩
          rw [eb]
          by_cases hy : y % 2 = 1
          · rw [decide_eq_true hy] at eb ⊢
            rw [if_pos hy] at hn
            refine EV.at ck244 (by decide) 300 [153] ?_
            conv => whnf
            try dsimp only
            first | refine ⟨fun h1 => absurd h1 (by decide), fun _ => ?_⟩ | refine ⟨fun _ => ?_, fun h1 => absurd (by decide) h1⟩ | refine ⟨fun h1 => absurd (by decide) h1, fun _ => ?_⟩ | refine ⟨fun _ => ?_, fun h1 => absurd h1 (by decide)⟩
            conv => whnf
            try dsimp only
            refine pk_le l' 0 (fun z => ?_) (fun z => ?_)
            · have z' : l' = 0 := by omega
              rw [if_pos z', Nat.add_zero] at hn
              rw [hn]
              conv => whnf
              try dsimp only
              exact ⟨trivial, e153 _⟩
            · rw [if_neg (by omega)] at hn
              have ihj := ihn (l' - 1) (by omega) (by omega) (by omega)
              conv => whnf
              try dsimp only
              refine ⟨trivial, r_has (by omega) (by omega) ?_⟩
              rw [eb]
              refine EV.at ck244 (by decide) 300 [153] ?_
              conv => whnf
              try dsimp only
              first | refine ⟨fun h1 => absurd h1 (by decide), fun _ => ?_⟩ | refine ⟨fun _ => ?_, fun h1 => absurd (by decide) h1⟩ | refine ⟨fun h1 => absurd (by decide) h1, fun _ => ?_⟩ | refine ⟨fun _ => ?_, fun h1 => absurd h1 (by decide)⟩
              conv => whnf
              try dsimp only
              rw [show nI l' - 1 = nI (l' - 1) from pk_sub (b := 1) (by omega)]
              exact ⟨trivial, ihj⟩
          · rw [decide_eq_false hy] at eb ⊢
            rw [if_neg hy] at hn
            have ihj := ihn l' (by omega) (by omega) (by omega)
            refine EV.at ck244 (by decide) 300 [153] ?_
            conv => whnf
            try dsimp only
            first | refine ⟨fun h1 => absurd h1 (by decide), fun _ => ?_⟩ | refine ⟨fun _ => ?_, fun h1 => absurd (by decide) h1⟩ | refine ⟨fun h1 => absurd (by decide) h1, fun _ => ?_⟩ | refine ⟨fun _ => ?_, fun h1 => absurd h1 (by decide)⟩
            conv => whnf
            try dsimp only
            refine ⟨trivial, r_has (by omega) (by omega) ?_⟩
            rw [eb]
            refine EV.at ck244 (by decide) 300 [153] ?_
            conv => whnf
            try dsimp only
            first | refine ⟨fun h1 => absurd h1 (by decide), fun _ => ?_⟩ | refine ⟨fun _ => ?_, fun h1 => absurd (by decide) h1⟩ | refine ⟨fun h1 => absurd (by decide) h1, fun _ => ?_⟩ | refine ⟨fun _ => ?_, fun h1 => absurd h1 (by decide)⟩
            conv => whnf
            try dsimp only
            rw [show nI l' - 0 = nI l' from Int32.sub_zero _]
            exact ⟨trivial, ihj⟩
      refine EV.at ck244 (by decide) 300 [] ?_
      conv => whnf
      try dsimp only
      refine ⟨fun _ => ?_, fun h1 => absurd h1 (nI_ne0 (by omega) (by omega))⟩
      conv => whnf
      try dsimp only
      refine ⟨by decide, ?_⟩
      conv => whnf
      try dsimp only
      refine ⟨trivial, r_ones hol ?_⟩
      refine EV.at ck244 (by decide) 300 [112] ?_
      conv => whnf
      try dsimp only
      refine ⟨e3, ?_⟩
      conv => whnf
      try dsimp only
      rw [e1, e2, lN_i]
      exact ⟨trivial, pick 12 0 r0 rfl (by rw [Nat.pow_zero, Nat.div_one]; exact hr) (by rw [Nat.pow_zero, Nat.div_one, Nat.zero_add]; exact hkk)⟩
  exact loop m 0 s F I dm dm dm (by omega) hs hF hv hz (fun _ _ _ _ => rfl) (fun _ _ => rfl) (fun _ _ => rfl) rfl
theorem m_lots {x s : Int32} : RS G n 244 [.int x, .int s] (fun a => sp_lots a x s) := by
  intro D I J Q a hO hC h
  try dsimp only at h
  obtain ⟨hcT, hcF, hcK, hcR, hcX, hcN, hcA, hcU⟩ := id hC
  obtain ⟨oT, oF, oN, oK, oR, oX⟩ := id hO
  unfold sp_lots at h
  have c8 : Int32.toNatClampNeg 8 = 8 := by decide
  refine MT.by ck244 (by decide) rfl (Nat.le_of_ble_eq_true rfl) rfl 300 [] ?_
  conv => whnf
  try dsimp only
  refine ⟨trivial, r_in1 (H := 20) (by decide) (by decide) (fun e1 => ?_) (fun m hm1 hm hr e1 => ?_)⟩
  · have hs : ∀ a', (match ix 21 x with | none => ((-1 : Int32), a) | some m => if m = 0 ∨ s < 1 ∨ s = 2147483647 then (-1, a) else a') = (-1, a) := fun a' => by
      rcases e1 with e1 | e1
      · rw [e1]
      · rw [e1]
        exact if_pos (Or.inl rfl)
    refine EV.at ck244 (by decide) 300 [] ?_
    conv => whnf
    try dsimp only
    first | refine ⟨fun h1 => absurd h1 (by decide), fun _ => ?_⟩ | refine ⟨fun _ => ?_, fun h1 => absurd (by decide) h1⟩ | refine ⟨fun h1 => absurd (by decide) h1, fun _ => ?_⟩ | refine ⟨fun _ => ?_, fun h1 => absurd h1 (by decide)⟩
    conv => whnf
    try dsimp only
    refine ⟨trivial, rfin (a' := a) ?_ hC (FM.rf I) (FMJ.rf J) h⟩
    rcases e1 with e1 | e1
    · rw [e1]
    · rw [e1]
      exact if_pos (Or.inl rfl)
  rw [e1] at h
  dsimp only at h
  subst hr
  refine EV.at ck244 (by decide) 300 [] ?_
  conv => whnf
  try dsimp only
  first | refine ⟨fun h1 => absurd h1 (by decide), fun _ => ?_⟩ | refine ⟨fun _ => ?_, fun h1 => absurd (by decide) h1⟩ | refine ⟨fun h1 => absurd (by decide) h1, fun _ => ?_⟩ | refine ⟨fun _ => ?_, fun h1 => absurd h1 (by decide)⟩
  conv => whnf
  try dsimp only
  refine ⟨trivial, r_in ?_⟩
  rw [sd_in]
  by_cases hs : s < 1 ∨ s = 2147483647
  · rw [if_pos (Or.inr hs)] at h
    rw [decide_eq_false (fun y => y hs)]
    refine EV.at ck244 (by decide) 300 [] ?_
    conv => whnf
    try dsimp only
    first | refine ⟨fun h1 => absurd h1 (by decide), fun _ => ?_⟩ | refine ⟨fun _ => ?_, fun h1 => absurd (by decide) h1⟩ | refine ⟨fun h1 => absurd (by decide) h1, fun _ => ?_⟩ | refine ⟨fun _ => ?_, fun h1 => absurd h1 (by decide)⟩
    conv => whnf
    try dsimp only
    exact ⟨trivial, rfin rfl hC (FM.rf I) (FMJ.rf J) h⟩
  rw [if_neg (fun y => y.elim (fun y => absurd y (by omega)) hs)] at h
  rw [decide_eq_true hs]
  obtain ⟨k, hk, rfl⟩ := nI_of (x := s) (fun z => hs (Or.inl (Int32.lt_trans z (by decide))))
  have hk2 : k < 2147483647 := by
    rcases Nat.lt_or_ge k 2147483647 with y | y
    · exact y
    · exact absurd (Or.inr (by rw [show k = 2147483647 by omega]; rfl)) hs
  refine EV.at ck244 (by decide) 300 [59] ?_
  conv => whnf
  try dsimp only
  first | refine ⟨fun h1 => absurd h1 (by decide), fun _ => ?_⟩ | refine ⟨fun _ => ?_, fun h1 => absurd (by decide) h1⟩ | refine ⟨fun h1 => absurd (by decide) h1, fun _ => ?_⟩ | refine ⟨fun _ => ?_, fun h1 => absurd h1 (by decide)⟩
  conv => whnf
  try dsimp only
  rw [hcF.1]
  cases hh : aH a
  · rw [hh] at h
    first | refine ⟨fun h1 => absurd h1 (by decide), fun _ => ?_⟩ | refine ⟨fun _ => ?_, fun h1 => absurd (by decide) h1⟩ | refine ⟨fun h1 => absurd (by decide) h1, fun _ => ?_⟩ | refine ⟨fun _ => ?_, fun h1 => absurd h1 (by decide)⟩
    conv => whnf
    try dsimp only
    exact ⟨trivial, rfin rfl hC (FM.rf I) (FMJ.rf J) h⟩
  rw [hh, if_pos rfl] at h
  have hv : vQ (aT a) (aq a) := (oF hh).1
  have hz : az a ≤ 40 := (oF hh).2.1
  have r8 : I 78 8 = nI (az a) := hcF.2.2.2.2.1
  first | refine ⟨fun h1 => absurd h1 (by decide), fun _ => ?_⟩ | refine ⟨fun _ => ?_, fun h1 => absurd (by decide) h1⟩ | refine ⟨fun h1 => absurd (by decide) h1, fun _ => ?_⟩ | refine ⟨fun _ => ?_, fun h1 => absurd h1 (by decide)⟩
  conv => whnf
  try dsimp only
  refine ⟨by unfold vp_in; decide, ?_⟩
  conv => whnf
  try dsimp only
  rw [c8, r8, nI_add]
  refine pk_le (az a + m) 40 (fun z => ?_) (fun z => ?_)
  · rw [if_neg (by omega)] at h
    unfold aDr at h
    rw [nI_clamp (by omega)] at h
    conv => whnf
    try dsimp only
    rw [nI_l (by omega)]
    refine ⟨trivial, r_lotsLoop (F := aF a) oT.1 hcT hcF.2 hv z hk2 (fun I2 d1 d2 d3 d4 => ?_)⟩
    exact rfin rfl (hC.fgt (b := true) d2 (fun k hk => d3 k (by omega)) d4 ⟨by rw [d3 2 (by decide), hcF.1, hh], d1⟩) (fun r hr => d2 r (by omega) (by omega) (by omega)) (FMJ.rf J) h
  · rw [if_pos (by omega)] at h
    conv => whnf
    try dsimp only
    exact ⟨trivial, rfin rfl hC (FM.rf I) (FMJ.rf J) h⟩
end
