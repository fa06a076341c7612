/-! the class's Lottery (cell 32): chances in parts of 12 to the 10th -/
def WH : Nat := 61917364224
def cFold (g : Nat → Nat) (can : Nat → Bool) : Nat → Nat × Nat × Nat
  | 0 => (0, 0, 0)
  | k + 1 => if can k then (max (cFold g can k).1 (g k), (cFold g can k).2.1 + g k, (cFold g can k).2.2 + 1) else cFold g can k
def chV (ch w : Nat) (x : Nat × Nat × Nat) : Nat := if w = ch ∨ x.2.2 = 0 then x.1 else x.2.1 / x.2.2
def chF (T : TN) (ch : Nat) : Nat → (Nat → SD) → Nat → Nat
  | 0, _, _ => 0
  | f + 1, q, w => chV ch w (cFold (fun k => WH - chF T ch f (stepQ T q w k) (1 - w)) (fun k => canN T (q w) (q (1 - w)).1 k) (tC T))
def chance (T : TN) (ch : Nat) (q : Nat → SD) (w : Nat) : Nat := chF T ch 10 q w
def chI (ch : Nat) : Int32 := if ch = 2 then -9 else nI ch
theorem cFold_le {g : Nat → Nat} {can : Nat → Bool} {m : Nat} (h : ∀ k, g k ≤ m) : ∀ c, (cFold g can c).1 ≤ m ∧ (cFold g can c).2.1 ≤ (cFold g can c).2.2 * m ∧ (cFold g can c).2.2 ≤ c
  | 0 => ⟨Nat.zero_le _, Nat.zero_le _, Nat.le_refl _⟩
  | c + 1 => by
    obtain ⟨a, b, e⟩ := cFold_le (can := can) h c
    unfold cFold
    split
    · refine ⟨Nat.max_le.mpr ⟨a, h c⟩, ?_, by show _ + 1 ≤ c + 1; omega⟩
      show _ + _ ≤ (_ + 1) * m
      rw [Nat.add_mul, Nat.one_mul]
      have := h c
      omega
    · exact ⟨a, b, by omega⟩
theorem chV_le {ch w m : Nat} {x : Nat × Nat × Nat} (h1 : x.1 ≤ m) (h2 : x.2.1 ≤ x.2.2 * m) : chV ch w x ≤ m := by
  unfold chV
  split
  · exact h1
  · rename_i h
    exact Nat.div_le_of_le_mul h2
theorem chF_le (T : TN) (ch : Nat) : ∀ f q w, chF T ch f q w ≤ WH
  | 0, _, _ => Nat.zero_le _
  | f + 1, q, w => by
    obtain ⟨a, b, -⟩ := cFold_le (g := fun k => WH - chF T ch f (stepQ T q w k) (1 - w)) (can := fun k => canN T (q w) (q (1 - w)).1 k) (m := WH) (fun k => Nat.sub_le _ _) (tC T)
    exact chV_le a b
theorem cFold_congr {g g' : Nat → Nat} {can : Nat → Bool} : ∀ c, (∀ k, k < c → can k = true → g k = g' k) → cFold g can c = cFold g' can c
  | 0, _ => rfl
  | c + 1, h => by
    unfold cFold
    rw [cFold_congr c (fun k hk => h k (by omega))]
    by_cases hc : can c = true
    · rw [if_pos hc, if_pos hc, h c (by omega) hc]
    · rw [if_neg hc, if_neg hc]
theorem cFold_none {g : Nat → Nat} {can : Nat → Bool} : ∀ c, (∀ k, k < c → can k = false) → cFold g can c = (0, 0, 0)
  | 0, _ => rfl
  | c + 1, h => by
    unfold cFold
    rw [h c (by omega)]
    exact cFold_none c (fun k hk => h k (by omega))
theorem chF_stable {T : TN} {ch : Nat} : ∀ f q w, w < 2 → fsum q ≤ f → chF T ch (f + 1) q w = chF T ch f q w
  | 0, q, w, hw, h => by
    show chV _ _ (cFold _ _ _) = 0
    rw [cFold_none _ (fun k _ => ?_)]
    · unfold chV; simp
    · cases hc : canN T (q w) (q (1 - w)).1 k with
      | false => rfl
      | true => exact absurd (fsum_step hw hc) (by omega)
  | f + 1, q, w, hw, h => by
    show chV _ _ (cFold _ _ _) = chV _ _ (cFold _ _ _)
    rw [cFold_congr _ (fun k _ hc => ?_)]
    rw [chF_stable f _ _ (by omega) (by have := fsum_step hw hc; omega)]
theorem chF_ch {T : TN} {ch : Nat} {q : Nat → SD} {w : Nat} (hw : w < 2) : ∀ m f, f + m = 10 → fsum q ≤ f → chF T ch f q w = chance T ch q w
  | 0, f, hf, _ => by have : f = 10 := hf; subst this; rfl
  | m + 1, f, hf, h => by
    rw [← chF_stable f q w hw h]
    exact chF_ch hw m (f + 1) (by omega) (by omega)
theorem chF_congr {T : TN} {ch : Nat} : ∀ f (q q' : Nat → SD) w, w < 2 → q 0 = q' 0 → q 1 = q' 1 → chF T ch f q w = chF T ch f q' w
  | 0, _, _, _, _, _, _ => rfl
  | f + 1, q, q', w, hw, h0, h1 => by
    have hc : (fun k => canN T (q w) (q (1 - w)).1 k) = (fun k => canN T (q' w) (q' (1 - w)).1 k) := by
      rcases (show w = 0 ∨ w = 1 by omega) with rfl | rfl <;> simp [h0, h1]
    show chV _ _ (cFold _ _ _) = chV _ _ (cFold _ _ _)
    rw [hc]
    rw [cFold_congr _ (fun k _ _ => ?_)]
    obtain ⟨a, b⟩ := stepQ_congr (T := T) (k := k) hw h0 h1
    rw [chF_congr f _ _ _ (by omega) a b]
def Vc (T : TN) (ch : Nat) : (Nat → SD) → Nat → Int64 := fun q w => lN (chance T ch q w)
theorem Vc_c (T : TN) (ch : Nat) : ∀ (q q' : Nat → SD) w, w < 2 → q 0 = q' 0 → q 1 = q' 1 → Vc T ch q w = Vc T ch q' w := fun q q' w hw h0 h1 => congrArg lN (chF_congr 10 q q' w hw h0 h1)
theorem chI_eq {ch w : Nat} (hch : ch ≤ 2) (hw : w < 2) : nI w = chI ch ↔ w = ch := by
  unfold chI
  split
  · rename_i h
    constructor
    · intro hh; exact absurd hh (ne_m9 (by omega))
    · intro hh; omega
  · exact nI_eq (by omega) (by omega)
def CIn (G : GG) (n : Nat) (T : TN) (ch k0 k1 e r dep : Nat) : Prop := ∀ (D : Nat) (I : Nat → Nat → Int32) (J : Nat → Nat → Int64) (Q : Option Value → MH → Prop) (q : Nat → SD) (w : Nat), 2 * r + 8 ≤ D → tMem T I → EX I → fMem q I → vQ T q → (q 0).2.2.2 = k0 → (q 1).2.2.2 = k1 → w < 2 → I 32 3 = chI ch → MIv T (Vc T ch) k0 k1 e J → fsum q ≤ r →
  (∀ J', MIv T (Vc T ch) k0 k1 e J' → sameJ J J' → Q (some (.long (lN (chance T ch q w)))) (SH n, I, J')) → MT G D 17 [.ref 32, .int (nI w), .int (nI dep)] (SH n, I, J) Q
def CBh (G : GG) (n : Nat) (T : TN) (ch k0 k1 e r dep : Nat) : Prop := ∀ (D : Nat) (I : Nat → Nat → Int32) (J : Nat → Nat → Int64) (Q : Option Value → MH → Prop) (q : Nat → SD) (w k : Nat), 2 * r + 9 ≤ D → tMem T I → EX I → fMem q I → vQ T q → (q 0).2.2.2 = k0 → (q 1).2.2.2 = k1 → w < 2 → I 32 3 = chI ch → MIv T (Vc T ch) k0 k1 e J → fsum q ≤ r + 1 → k < tC T → canN T (q w) (q (1 - w)).1 k = true →
  (∀ J', MIv T (Vc T ch) k0 k1 e J' → sameJ J J' → Q (some (.long (lN (WH - chance T ch (stepQ T q w k) (1 - w))))) (SH n, I, J')) → MT G D 18 [.ref 32, .int (nI w), .int (nI k), .int (nI (takesN T (q w) (q (1 - w)).1 k)), .int (nI dep)] (SH n, I, J) Q
theorem CBh_of {G : GG} {n : Nat} {T : TN} {ch k0 k1 e r dep : Nat} (hT : tOK T) (hE : CIn G n T ch k0 k1 e r (dep + 1)) : CBh G n T ch k0 k1 e r dep := by
  intro D I J Q q w k hD hM hX hm hv h0 h1 hw hch hMI hf hk hc h
  obtain ⟨x, rfl⟩ : ∃ x, D = x + 9 := ⟨D - 9, by omega⟩
  have s0 := sS_of hT hv.1
  have s1 := sS_of hT hv.2
  have hle : chance T ch (stepQ T q w k) (1 - w) ≤ WH := chF_le T ch 10 _ _
  refine MT.by ck18 (by decide) rfl (Nat.le_of_ble_eq_true rfl) rfl 300 [] ?_
  conv => whnf
  try dsimp only
  refine ⟨trivial, c_packedF hm s0 s1 ?_⟩
  refine EV.at ck18 (by decide) 300 [] ?_
  conv => whnf
  try dsimp only
  refine ⟨trivial, c_step hw hT hM hm hv hk hc ?_⟩
  refine EV.at ck18 (by decide) 300 [] ?_
  conv => whnf
  try dsimp only
  rw [one_sub hw, nI_1]
  refine ⟨trivial, hE (x + 8) _ _ _ (stepQ T q w k) (1 - w) (by omega) (tMem_of (fun r hr => stI_lo hr) hM) (EX_of (fun r hr => stI_lo hr) hX) (fMem_st hw hm) (vQ_step hT hw hk hv) (by rw [knows_step]; exact h0) (by rw [knows_step]; exact h1) (by omega) (by rw [show stI T I q w k 32 = I 32 from sd_oth (by omega)]; exact hch) hMI (by have := fsum_step hw hc; omega) (fun J' hJ' hs' => ?_)⟩
  refine EV.at ck18 (by decide) 300 [] ?_
  conv => whnf
  try dsimp only
  refine ⟨trivial, c_unpackF s0 s1 ?_⟩
  rw [fd_st hw hm]
  refine EV.at ck18 (by decide) 300 [] ?_
  conv => whnf
  try dsimp only
  rw [show (61917364224 : Int64) = lN WH from rfl, lN_sub hle]
  exact ⟨trivial, h J' hJ' hs'⟩
theorem CIn_zero {G : GG} {n : Nat} {T : TN} {ch k0 k1 e : Nat} : CIn G n T ch k0 k1 e 0 10 := by
  intro D I J Q q w hD hM hX hm hv h0 h1 hw hch hMI hf h
  obtain ⟨x, rfl⟩ : ∃ x, D = x + 8 := ⟨D - 8, by omega⟩
  have e0 : chance T ch q w = 0 := (chF_ch hw 10 0 rfl hf).symm
  have h := h J hMI (sameJ.rf _)
  rw [e0] at h
  refine MT.by ck17 (by decide) rfl (Nat.le_of_ble_eq_true rfl) rfl 300 [] ?_
  conv => whnf
  try dsimp only
  refine ⟨fun h1 => absurd h1 (by decide), fun _ => ?_⟩
  conv => whnf
  try dsimp only
  exact ⟨trivial, h⟩
theorem mx_l {a b : Nat} (ha : a < 2 ^ 63) (hb : b < 2 ^ 63) : jmaxL (lN a) (lN b) = lN (max a b) := by
  unfold jmaxL
  by_cases h : b < a
  · rw [if_pos ((pk_lLT hb ha).mpr h), Nat.max_eq_left (by omega)]
  · rw [if_neg (fun z => h ((pk_lLT hb ha).mp z)), Nat.max_eq_right (by omega)]
theorem CIn_succ {G : GG} {n : Nat} {T : TN} {ch k0 k1 e r dep : Nat} (hch2 : ch ≤ 2) (hT : tOK T) (hdep : dep + (r + 1) = 10) (hB : CBh G n T ch k0 k1 e r dep) : CIn G n T ch k0 k1 e (r + 1) dep := by
  intro D I J Q q w hD hM hX hm hv h0 h1 hw hch hMI hf h
  obtain ⟨x, rfl⟩ : ∃ x, D = x + 10 := ⟨D - 10, by omega⟩
  have s0 := sS_of hT hv.1
  have s1 := sS_of hT hv.2
  have pl := packF_lt s0 s1
  have t12 := hT.2.2.1
  have hC : I 6 3 = nI (tC T) := hM.2.2.1
  let cf := cFold (fun k => WH - chF T ch r (stepQ T q w k) (1 - w)) (fun k => canN T (q w) (q (1 - w)).1 k)
  have hend : chV ch w (cf (tC T)) = chance T ch q w := chF_ch hw dep (r + 1) (by omega) hf
  have hle : ∀ c, (cf c).1 ≤ WH ∧ (cf c).2.1 ≤ (cf c).2.2 * WH ∧ (cf c).2.2 ≤ c := fun c => cFold_le (fun k => Nat.sub_le _ _) c
  have hWH : WH = 61917364224 := rfl
  have loop : ∀ m j J1 (z12 z13 z14 : Value), j + m = tC T → MIv T (Vc T ch) k0 k1 e J1 → sameJ J J1 → ∀ (sl : Int32), EV G 17 (x + 9) 0 0 70 [.ref 32, .int (nI w), .int (nI dep), .long (lN (keyN e (packF q) w)), dm, .int sl, .long (lN (cf j).1), dm, .long (lN (cf j).2.1), dm, .int (nI (cf j).2.2), .int (nI j), z12, z13, z14] [] (SH n, I, J1) Q := by
    intro m
    induction m with
    | zero =>
      intro j J1 z12 z13 z14 hj hMI1 hs1 sl
      have hj : j = tC T := hj
      obtain ⟨l1, l2, l3⟩ := hle j
      rw [← hj] at hend
      have fin : ∀ v : Nat, v = chance T ch q w → EV G 17 (x + 9) 0 0 160 [.ref 32, .int (nI w), .int (nI dep), .long (lN (keyN e (packF q) w)), dm, .int sl, .long (lN (cf j).1), dm, .long (lN (cf j).2.1), dm, .int (nI (cf j).2.2), .int (nI j), z12, z13, z14] [.long (lN v)] (SH n, I, J1) Q := by
        intro v hvv
        subst hvv
        refine EV.at ck17 (by decide) 300 [] ?_
        conv => whnf
        try dsimp only
        refine ⟨trivial, c_store (fun J2 hJ2 => ?_)⟩
        obtain ⟨g1, g2⟩ := hMI1.put hT hv h0 h1 hw rfl hJ2
        refine EV.at ck17 (by decide) 300 [] ?_
        conv => whnf
        try dsimp only
        exact ⟨trivial, h J2 g1 (hs1.tr g2)⟩
      refine EV.at ck17 (by decide) 300 [160] ?_
      conv => whnf
      try dsimp only
      rw [hC, ← hj]
      refine ⟨fun _ => ?_, fun h1 => absurd (nI_le (Nat.le_refl j) (by omega)) h1⟩
      conv => whnf
      try dsimp only
      rw [hch]
      refine ⟨fun h2 => ?_, fun h2 => ?_⟩
      · conv => whnf
        try dsimp only
        exact ⟨trivial, fin _ (by rw [← hend]; unfold chV; rw [if_pos (Or.inl ((chI_eq hch2 hw).mp h2))])⟩
      · have h2' : ¬ w = ch := fun z => h2 ((chI_eq hch2 hw).mpr z)
        conv => whnf
        try dsimp only
        refine ⟨fun h3 => ?_, fun h3 => ?_⟩
        · have h3' : (cf j).2.2 ≠ 0 := fun z => h3 (by rw [z]; rfl)
          conv => whnf
          try dsimp only
          rw [nI_l (by omega)]
          refine ⟨fun z => h3' ((pk_lEQ (b := 0) (by omega) (by decide)).mp z), ?_⟩
          conv => whnf
          try dsimp only
          have hmul : (cf j).2.2 * WH ≤ 12 * WH := Nat.mul_le_mul_right _ (by omega)
          rw [pk_lDiv (by omega) (by omega) (by omega)]
          exact ⟨trivial, fin _ (by rw [← hend]; unfold chV; rw [if_neg (fun z => z.elim h2' h3')])⟩
        · have h3' : (cf j).2.2 = 0 := (nI_eq (b := 0) (by omega) (by decide)).mp h3
          conv => whnf
          try dsimp only
          exact ⟨trivial, fin _ (by rw [← hend]; unfold chV; rw [if_pos (Or.inr h3')])⟩
    | succ m ih =>
      intro j J1 z12 z13 z14 hj hMI1 hs1 sl
      have hjc : j < tC T := by omega
      obtain ⟨l1, l2, l3⟩ := hle j
      have tl := takes_lt (q := q w) (o := (q (1 - w)).1) hT hjc
      have hun : cf (j + 1) = if canN T (q w) (q (1 - w)).1 j then (max (cf j).1 (WH - chF T ch r (stepQ T q w j) (1 - w)), (cf j).2.1 + (WH - chF T ch r (stepQ T q w j) (1 - w)), (cf j).2.2 + 1) else cf j := rfl
      refine EV.at ck17 (by decide) 300 [] ?_
      conv => whnf
      try dsimp only
      rw [hC]
      refine ⟨fun h5 => absurd h5 (nI_ge hjc (by omega)), fun _ => ?_⟩
      conv => whnf
      try dsimp only
      refine ⟨trivial, c_takes hw hT hM hm hv.1 hv.2 hX hjc ?_⟩
      cases hb : canN T (q w) (q (1 - w)).1 j
      · have ht : takesN T (q w) (q (1 - w)).1 j = 0 := by unfold takesN; rw [hb]; rfl
        rw [hb] at hun
        have hun : cf (j + 1) = cf j := hun
        have ihj := ih (j + 1) J1 (.int (nI 0)) z13 z14 (by omega) hMI1 hs1 sl
        rw [hun, nI_succ j] at ihj
        rw [ht]
        refine EV.at ck17 (by decide) 300 [] ?_
        conv => whnf
        try dsimp only
        refine ⟨fun _ => ?_, fun h1 => absurd (by decide) h1⟩
        conv => whnf
        try dsimp only
        exact ⟨trivial, ihj⟩
      · have ht : 0 < takesN T (q w) (q (1 - w)).1 j := takes_pos.mpr hb
        rw [hb] at hun
        have hun : cf (j + 1) = (max (cf j).1 (WH - chF T ch r (stepQ T q w j) (1 - w)), (cf j).2.1 + (WH - chF T ch r (stepQ T q w j) (1 - w)), (cf j).2.2 + 1) := hun
        have hst : chF T ch r (stepQ T q w j) (1 - w) = chance T ch (stepQ T q w j) (1 - w) := chF_ch (by omega) (dep + 1) r (by omega) (by have := fsum_step hw hb; omega)
        rw [hst] at hun
        have hmul : (cf j).2.2 * WH ≤ 12 * WH := Nat.mul_le_mul_right _ (by omega)
        refine EV.at ck17 (by decide) 300 [] ?_
        conv => whnf
        try dsimp only
        refine ⟨fun h1 => absurd h1 (nI_nle ht (by omega)), fun _ => ?_⟩
        conv => whnf
        try dsimp only
        refine ⟨trivial, hB (x + 9) I J1 _ q w j (by omega) hM hX hm hv h0 h1 hw hch hMI1 hf hjc hb (fun J2 hJ2 hs2 => ?_)⟩
        have ihj := ih (j + 1) J2 (.int (nI (takesN T (q w) (q (1 - w)).1 j))) (.long (lN (WH - chance T ch (stepQ T q w j) (1 - w)))) dm (by omega) hJ2 (hs1.tr hs2) sl
        rw [hun] at ihj
        dsimp only at ihj
        rw [← mx_l (by omega) (by omega), ← lN_add, nI_succ j, nI_succ] at ihj
        refine EV.at ck17 (by decide) 300 [] ?_
        conv => whnf
        try dsimp only
        exact ⟨trivial, ihj⟩
  refine MT.by ck17 (by decide) rfl (Nat.le_of_ble_eq_true rfl) rfl 300 [70] ?_
  conv => whnf
  try dsimp only
  refine ⟨fun _ => ?_, fun h1 => absurd (nI_lt (a := dep) (b := 10) (by omega) (by decide)) h1⟩
  conv => whnf
  try dsimp only
  refine ⟨trivial, c_packedF hm s0 s1 ?_⟩
  refine EV.at ck17 (by decide) 300 [70] ?_
  conv => whnf
  try dsimp only
  refine ⟨trivial, c_keyOf hMI.2.1 pl hw hMI.1 ?_⟩
  refine EV.at ck17 (by decide) 300 [70] ?_
  conv => whnf
  try dsimp only
  refine ⟨trivial, c_slotFor (fun v hv' => ?_)⟩
  rcases hv' with rfl | ⟨s, hs, rfl, hv'⟩
  · refine EV.at ck17 (by decide) 300 [70] ?_
    conv => whnf
    try dsimp only
    refine ⟨trivial, c_hasN ?_⟩
    refine EV.at ck17 (by decide) 300 [70] ?_
    conv => whnf
    try dsimp only
    refine ⟨fun _ => ?_, fun h1 => absurd rfl h1⟩
    conv => whnf
    try dsimp only
    exact ⟨trivial, loop (tC T) 0 J dm dm dm (by omega) hMI (sameJ.rf _) _⟩
  · have cs : (nI s).toNatClampNeg = s := nI_clamp (by omega)
    refine EV.at ck17 (by decide) 300 [70] ?_
    conv => whnf
    try dsimp only
    refine ⟨trivial, c_has hs ?_⟩
    by_cases hk : J 29 s = lN (keyN e (packF q) w)
    · rw [decide_eq_true hk]
      have hval := hMI.hit (Vc_c T ch) hT hs hv h0 h1 hw hk
      refine EV.at ck17 (by decide) 300 [70] ?_
      conv => whnf
      try dsimp only
      refine ⟨fun h1 => absurd h1 (by decide), fun _ => ?_⟩
      conv => whnf
      try dsimp only
      refine ⟨in_nI hs (by decide), ?_⟩
      conv => whnf
      try dsimp only
      rw [cs, hval]
      exact ⟨trivial, h J hMI (sameJ.rf _)⟩
    · rw [decide_eq_false hk]
      refine EV.at ck17 (by decide) 300 [70] ?_
      conv => whnf
      try dsimp only
      refine ⟨fun _ => ?_, fun h1 => absurd rfl h1⟩
      conv => whnf
      try dsimp only
      exact ⟨trivial, loop (tC T) 0 J dm dm dm (by omega) hMI (sameJ.rf _) _⟩
theorem CIn_all {G : GG} {n : Nat} {T : TN} {ch k0 k1 e : Nat} (hch2 : ch ≤ 2) (hT : tOK T) : ∀ r dep, dep + r = 10 → CIn G n T ch k0 k1 e r dep
  | 0, dep, h => by have h : dep = 10 := h; subst h; exact CIn_zero
  | r + 1, dep, h => CIn_succ hch2 hT h (CBh_of hT (CIn_all hch2 hT r (dep + 1) (by omega)))
section
variable {G : GG} {d n : Nat} {I : Nat → Nat → Int32} {J : Nat → Nat → Int64} {Q : Option Value → MH → Prop} {T : TN} {q : Nat → SD}
theorem c_chanceByLots {z e : Nat} (hT : tOK T) (hM : tMem T I) (hX : EX I) (hm : fMem q I) (hv : vQ T q) (hz : z ≤ 40) (hI : I 12 5 = nI z) (hG : MG e J) (he : e + 1 < 2 ^ 30) (h : ∀ J', MG (e + 1) J' → sameM J J' → Q (some (.long (lN (chance T 2 q (z % 2))))) (SH n, upI I 32 3 (-9), J')) : MT G (d + 40) 15 [.ref 32] (SH n, I, J) Q := by
  have lo : ∀ r, r < 12 → upI I 32 3 (-9) r = I r := fun r hr => upI_oth (by omega)
  have fm : fMem q (upI I 32 3 (-9)) := ⟨sMem_oth hm.1 (upI_oth (by decide)), sMem_oth hm.2 (upI_oth (by decide))⟩
  refine MT.by ck15 (by decide) rfl (Nat.le_of_ble_eq_true rfl) rfl 300 [] ?_
  conv => whnf
  try dsimp only
  refine ⟨trivial, c_forget ?_⟩
  refine EV.at ck15 (by decide) 300 [] ?_
  conv => whnf
  try dsimp only
  refine ⟨trivial, c_mover hz (show upI I 32 3 (-9) 12 5 = nI z from hI) ?_⟩
  refine EV.at ck15 (by decide) 300 [] ?_
  conv => whnf
  try dsimp only
  refine ⟨trivial, CIn_all (ch := 2) (by decide) hT 10 0 rfl (d + 39) _ _ _ q (z % 2) (by omega) (tMem_of lo hM) (EX_of lo hX) fm hv rfl rfl (Nat.mod_lt _ (by decide)) rfl (hG.next he) (fsum_le hv) (fun J' hJ' hs' => ?_)⟩
  refine EV.at ck15 (by decide) 300 [] ?_
  conv => whnf
  try dsimp only
  exact ⟨trivial, h J' hJ'.mg (sameM.of hs')⟩
/-- the best chance of who chooses, and by which CHANGE first (NONE, if there is none) -/
def bcN (g : Nat → Nat) (can : Nat → Bool) : Nat → Nat × Int32
  | 0 => (0, -9)
  | k + 1 => if can k ∧ ((bcN g can k).2 = -9 ∨ (bcN g can k).1 < g k) then (g k, nI k) else bcN g can k
def bestC (T : TN) (q : Nat → SD) (w : Nat) : Nat → Nat × Int32 := bcN (fun k => WH - chance T w (stepQ T q w k) (1 - w)) (fun k => canN T (q w) (q (1 - w)).1 k)
theorem bcN_le {g : Nat → Nat} {can : Nat → Bool} {m : Nat} (h : ∀ k, g k ≤ m) : ∀ c, (bcN g can c).1 ≤ m
  | 0 => Nat.zero_le _
  | c + 1 => by
    unfold bcN
    split
    · exact h c
    · exact bcN_le h c
theorem gtc {x y : Int64} : lg_cmp x y ≤ 0 ↔ ¬ y < x := by
  unfold lg_cmp
  by_cases h1 : x > y
  · rw [if_pos h1]
    constructor
    · intro h; exact absurd h (by decide)
    · intro h; exact absurd h1 h
  · rw [if_neg h1]
    constructor
    · intro _; exact h1
    · intro _; split <;> decide
theorem c_bestChance {z e : Nat} (hT : tOK T) (hM : tMem T I) (hX : EX I) (hm : fMem q I) (hv : vQ T q) (hz : z ≤ 40) (hI : I 12 5 = nI z) (hG : MG e J) (he : e + 1 < 2 ^ 30) (h : ∀ J', MG (e + 1) J' → sameM J J' → Q (some (.long (lN (bestC T q (z % 2) (tC T)).1))) (SH n, upI (upI I 32 3 (nI (z % 2))) 32 4 (bestC T q (z % 2) (tC T)).2, J')) : MT G (d + 40) 16 [.ref 32] (SH n, I, J) Q := by
  have t12 := hT.2.2.1
  have hz2 : z % 2 < 2 := Nat.mod_lt _ (by decide)
  generalize hw : z % 2 = w at h hz2
  have bl : ∀ j, (bestC T q w j).1 ≤ WH := bcN_le (fun k => Nat.sub_le _ _)
  have hWH : WH = 61917364224 := rfl
  have loop : ∀ m j J1 (z4 z5 z6 : Value), j + m = tC T → MIv T (Vc T w) (q 0).2.2.2 (q 1).2.2.2 (e + 1) J1 → sameM J J1 → EV G 16 (d + 39) 0 0 28 [.ref 32, .long (lN (bestC T q w j).1), dm, .int (nI j), z4, z5, z6] [] (SH n, upI (upI I 32 3 (nI w)) 32 4 (bestC T q w j).2, J1) Q := by
    intro m
    induction m with
    | zero =>
      intro j J1 z4 z5 z6 hj h1 h2
      have hj : j = tC T := hj
      have hC : upI (upI I 32 3 (nI w)) 32 4 (bestC T q w j).2 6 3 = nI (tC T) := hM.2.2.1
      have hq := h J1 h1.mg h2
      rw [← hj] at hq
      refine EV.at ck16 (by decide) 300 [] ?_
      conv => whnf
      try dsimp only
      rw [hC, ← hj]
      refine ⟨fun _ => ?_, fun h1 => absurd (nI_le (Nat.le_refl j) (by omega)) h1⟩
      conv => whnf
      try dsimp only
      exact ⟨trivial, hq⟩
    | succ m ih =>
      intro j J1 z4 z5 z6 hj h1 h2
      have hjc : j < tC T := by omega
      have hC : upI (upI I 32 3 (nI w)) 32 4 (bestC T q w j).2 6 3 = nI (tC T) := hM.2.2.1
      have r3 : upI (upI I 32 3 (nI w)) 32 4 (bestC T q w j).2 32 3 = nI w := rfl
      have r4 : upI (upI I 32 3 (nI w)) 32 4 (bestC T q w j).2 32 4 = (bestC T q w j).2 := rfl
      have lo : ∀ (x y : Int32) r, r < 12 → upI (upI I 32 3 x) 32 4 y r = I r := fun x y r hr => by rw [upI_oth (by omega), upI_oth (by omega)]
      have fm : ∀ x y : Int32, fMem q (upI (upI I 32 3 x) 32 4 y) := fun x y => ⟨sMem_oth hm.1 (by rw [upI_oth (by decide), upI_oth (by decide)]), sMem_oth hm.2 (by rw [upI_oth (by decide), upI_oth (by decide)])⟩
      have hun : bestC T q w (j + 1) = if canN T (q w) (q (1 - w)).1 j ∧ ((bestC T q w j).2 = -9 ∨ (bestC T q w j).1 < WH - chance T w (stepQ T q w j) (1 - w)) then (WH - chance T w (stepQ T q w j) (1 - w), nI j) else bestC T q w j := rfl
      have tl := takes_lt (q := q w) (o := (q (1 - w)).1) hT hjc
      have blj := bl j
      refine EV.at ck16 (by decide) 300 [] ?_
      conv => whnf
      try dsimp only
      rw [hC]
      refine ⟨fun h5 => absurd h5 (nI_ge hjc (by omega)), fun _ => ?_⟩
      conv => whnf
      try dsimp only
      rw [r3]
      refine ⟨trivial, c_takes hz2 hT (tMem_of (lo _ _) hM) (fm _ _) hv.1 hv.2 (EX_of (lo _ _) hX) hjc ?_⟩
      cases hb : canN T (q w) (q (1 - w)).1 j
      · have ht : takesN T (q w) (q (1 - w)).1 j = 0 := by unfold takesN; rw [hb]; rfl
        rw [hb, if_neg (fun z => absurd z.1 (by decide))] at hun
        rw [ht]
        have ihj := ih (j + 1) J1 (.int (nI 0)) z5 z6 (by omega) h1 h2
        rw [hun, nI_succ j] at ihj
        refine EV.at ck16 (by decide) 300 [] ?_
        conv => whnf
        try dsimp only
        refine ⟨fun _ => ?_, fun h5 => absurd (by decide) h5⟩
        conv => whnf
        try dsimp only
        exact ⟨trivial, ihj⟩
      · have ht : 0 < takesN T (q w) (q (1 - w)).1 j := takes_pos.mpr hb
        refine EV.at ck16 (by decide) 300 [] ?_
        conv => whnf
        try dsimp only
        refine ⟨fun h5 => absurd h5 (nI_nle ht (by omega)), fun _ => ?_⟩
        conv => whnf
        try dsimp only
        rw [r3]
        refine ⟨trivial, CBh_of hT (CIn_all (ch := w) (by omega) hT 9 1 rfl) (d + 39) _ J1 _ q w j (by omega) (tMem_of (lo _ _) hM) (EX_of (lo _ _) hX) (fm _ _) hv rfl rfl hz2 (by rw [r3]; unfold chI; rw [if_neg (by omega)]) h1 (fsum_le hv) hjc hb (fun J2 hJ2 hs2 => ?_)⟩
        have hs3 : sameM J J2 := h2.tr (fun x a b c => hs2 x b c)
        have gle : WH - chance T w (stepQ T q w j) (1 - w) ≤ WH := Nat.sub_le _ _
        generalize WH - chance T w (stepQ T q w j) (1 - w) = g at hun gle ⊢
        have yes : (bestC T q w j).2 = -9 ∨ (bestC T q w j).1 < g → EV G 16 (d + 39) 0 0 88 [.ref 32, .long (lN (bestC T q w j).1), dm, .int (nI j), .int (nI (takesN T (q w) (q (1 - w)).1 j)), .long (lN g), dm] [] (SH n, upI (upI I 32 3 (nI w)) 32 4 (bestC T q w j).2, J2) Q := by
          intro hy
          rw [if_pos ⟨hb, hy⟩] at hun
          have ihj := ih (j + 1) J2 (.int (nI (takesN T (q w) (q (1 - w)).1 j))) (.long (lN g)) dm (by omega) hJ2 hs3
          rw [hun, nI_succ j] at ihj
          refine EV.at ck16 (by decide) 300 [] ?_
          conv => whnf
          try dsimp only
          rw [up_up]
          exact ⟨trivial, ihj⟩
        refine EV.at ck16 (by decide) 300 [88] ?_
        conv => whnf
        try dsimp only
        rw [r4]
        refine ⟨fun h5 => ⟨trivial, yes (Or.inl h5)⟩, fun h5 => ?_⟩
        conv => whnf
        try dsimp only
        refine ⟨fun h6 => ?_, fun h6 => ?_⟩
        · have h7 : ¬ (bestC T q w j).1 < g := fun z => gtc.mp h6 ((pk_lLT (by omega) (by omega)).mpr z)
          rw [if_neg (fun z => z.2.elim h5 h7)] at hun
          have ihj := ih (j + 1) J2 (.int (nI (takesN T (q w) (q (1 - w)).1 j))) (.long (lN g)) dm (by omega) hJ2 hs3
          rw [hun, nI_succ j] at ihj
          conv => whnf
          try dsimp only
          exact ⟨trivial, ihj⟩
        · have h7 : (bestC T q w j).1 < g := by
            have h8 := fun z => h6 (gtc.mpr z)
            have h9 : lN (bestC T q w j).1 < lN g := Classical.not_not.mp h8
            exact (pk_lLT (by omega) (by omega)).mp h9
          conv => whnf
          try dsimp only
          exact ⟨trivial, yes (Or.inr h7)⟩
  refine MT.by ck16 (by decide) rfl (Nat.le_of_ble_eq_true rfl) rfl 300 [28] ?_
  conv => whnf
  try dsimp only
  refine ⟨trivial, c_forget ?_⟩
  refine EV.at ck16 (by decide) 300 [28] ?_
  conv => whnf
  try dsimp only
  refine ⟨trivial, c_mover hz hI ?_⟩
  refine EV.at ck16 (by decide) 300 [28] ?_
  conv => whnf
  try dsimp only
  rw [hw]
  exact ⟨trivial, loop (tC T) 0 _ dm dm dm (by omega) (hG.next he) (fun x a b c => upL_oth a)⟩
end
