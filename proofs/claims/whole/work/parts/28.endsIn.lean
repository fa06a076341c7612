/-! endsIn and endsBehind: the memo holds what the search would find -/
theorem jsh_key {e p w : Nat} (he : e < 2 ^ 30) (hp : p < 2 ^ 22) (hw : w < 2) : jushrL (lN (keyN e p w)) 32 = lN e := by
  have h1 : keyN e p w < 2 ^ 64 := by unfold keyN; omega
  have h : jushrL (lN (keyN e p w)) 32 = lN (keyN e p w / 2 ^ 32) := wb_shr (k := 32) h1 (by decide)
  rw [h]
  congr 1
  unfold keyN
  omega
theorem key_inj {e p w p' w' : Nat} (he : e < 2 ^ 30) (hp : p < 2 ^ 22) (hw : w < 2) (hp' : p' < 2 ^ 22) (hw' : w' < 2) (h : lN (keyN e p w) = lN (keyN e p' w')) : p = p' ∧ w = w' := by
  have h2 := (pk_lEQ (show keyN e p w < 2 ^ 63 by unfold keyN; omega) (show keyN e p' w' < 2 ^ 63 by unfold keyN; omega)).mp h
  unfold keyN at h2
  omega
theorem packF_lt {q : Nat → SD} (h0 : sS (q 0)) (h1 : sS (q 1)) : packF q < 2 ^ 22 := by
  have := packS_lt h0
  have := packS_lt h1
  unfold packF
  omega
theorem packS_inj {x y : SD} (hx : sS x) (hy : sS y) (h : packS x = packS y) (hk : x.2.2.2 = y.2.2.2) : x = y := by
  obtain ⟨a, b, c, e⟩ := x
  obtain ⟨a', b', c', e'⟩ := y
  obtain ⟨x1, x2, x3⟩ := hx
  obtain ⟨y1, y2, y3⟩ := hy
  unfold packS at h
  dsimp only at *
  have h1 : a = a' := by omega
  have h2 : b = b' := by omega
  have h3 : c = c' := by omega
  rw [h1, h2, h3, hk]
theorem packF_inj {q q' : Nat → SD} (h0 : sS (q 0)) (h1 : sS (q 1)) (h0' : sS (q' 0)) (h1' : sS (q' 1)) (h : packF q = packF q') (k0 : (q 0).2.2.2 = (q' 0).2.2.2) (k1 : (q 1).2.2.2 = (q' 1).2.2.2) : q 0 = q' 0 ∧ q 1 = q' 1 := by
  have a := packS_lt h1
  have b := packS_lt h1'
  unfold packF at h
  exact ⟨packS_inj h0 h0' (by omega) k0, packS_inj h1 h1' (by omega) k1⟩
/-- the memo of an era: every key of that era stands beside its value, by V -/
def MIv (T : TN) (V : (Nat → SD) → Nat → Int64) (k0 k1 e : Nat) (J : Nat → Nat → Int64) : Prop := J 28 2 = lN e ∧ e < 2 ^ 30 ∧ (∀ s, s < 2048 → jushrL (J 29 s) 32 = lN e → ∃ (q : Nat → SD) (w : Nat), w < 2 ∧ vQ T q ∧ (q 0).2.2.2 = k0 ∧ (q 1).2.2.2 = k1 ∧ J 29 s = lN (keyN e (packF q) w) ∧ J 30 s = V q w) ∧ ∀ s, s < 2048 → ∃ y, y ≤ e ∧ jushrL (J 29 s) 32 = lN y
def sameJ (J J' : Nat → Nat → Int64) : Prop := ∀ x, x ≠ 29 → x ≠ 30 → J' x = J x
theorem sameJ.rf (J : Nat → Nat → Int64) : sameJ J J := fun _ _ _ => rfl
theorem sameJ.tr {J J' J'' : Nat → Nat → Int64} (h : sameJ J J') (h' : sameJ J' J'') : sameJ J J'' := fun x a b => (h' x a b).trans (h x a b)
theorem MIv.hit {T : TN} {V : (Nat → SD) → Nat → Int64} (hV : ∀ (q q' : Nat → SD) w, w < 2 → q 0 = q' 0 → q 1 = q' 1 → V q w = V q' w) {k0 k1 e : Nat} {J : Nat → Nat → Int64} {q : Nat → SD} {w s : Nat} (hT : tOK T) (h : MIv T V k0 k1 e J) (hs : s < 2048) (hv : vQ T q) (h0 : (q 0).2.2.2 = k0) (h1 : (q 1).2.2.2 = k1) (hw : w < 2) (hk : J 29 s = lN (keyN e (packF q) w)) : J 30 s = V q w := by
  have p1 := packF_lt (sS_of hT hv.1) (sS_of hT hv.2)
  obtain ⟨q', w', a1, a2, a3, a4, a5, a6⟩ := h.2.2.1 s hs (by rw [hk]; exact jsh_key h.2.1 p1 hw)
  have p2 := packF_lt (sS_of hT a2.1) (sS_of hT a2.2)
  obtain ⟨b1, b2⟩ := key_inj h.2.1 p1 hw p2 a1 (hk.symm.trans a5)
  obtain ⟨c0, c1⟩ := packF_inj (sS_of hT hv.1) (sS_of hT hv.2) (sS_of hT a2.1) (sS_of hT a2.2) b1 (by rw [h0, a3]) (by rw [h1, a4])
  rw [a6, ← b2]
  exact (hV q q' w hw c0 c1).symm
theorem MIv.put {T : TN} {V : (Nat → SD) → Nat → Int64} {k0 k1 e : Nat} {J J' : Nat → Nat → Int64} {q : Nat → SD} {w : Nat} {x : Int64} (hT : tOK T) (h : MIv T V k0 k1 e J) (hv : vQ T q) (h0 : (q 0).2.2.2 = k0) (h1 : (q 1).2.2.2 = k1) (hw : w < 2) (hx : x = V q w) (hS : ST J (lN (keyN e (packF q) w)) x J') : MIv T V k0 k1 e J' ∧ sameJ J J' := by
  rcases hS with rfl | ⟨s, hs, -, rfl⟩
  · exact ⟨h, sameJ.rf _⟩
  · have e29 : ∀ j, upL (upL J 29 s (lN (keyN e (packF q) w))) 30 s x 29 j = if j = s then lN (keyN e (packF q) w) else J 29 j := by
      intro j
      rw [upL_oth (by decide), upL_row]
      rfl
    refine ⟨⟨?_, h.2.1, fun s' hs' hk' => ?_, fun s' hs' => ?_⟩, fun r a b => ?_⟩
    · show upL (upL J 29 s _) 30 s x 28 2 = lN e
      rw [upL_oth (by decide), upL_oth (by decide)]
      exact h.1
    · have e30 : ∀ j, upL (upL J 29 s (lN (keyN e (packF q) w))) 30 s x 30 j = if j = s then x else J 30 j := by
        intro j
        rw [upL_row, upL_oth (by decide)]
        rfl
      by_cases z : s' = s
      · subst z
        exact ⟨q, w, hw, hv, h0, h1, by rw [e29, if_pos rfl], by rw [e30, if_pos rfl, hx]⟩
      · rw [e29, if_neg z] at hk'
        obtain ⟨q', w', a1, a2, a3, a4, a5, a6⟩ := h.2.2.1 s' hs' hk'
        exact ⟨q', w', a1, a2, a3, a4, by rw [e29, if_neg z]; exact a5, by rw [e30, if_neg z]; exact a6⟩
    · by_cases z : s' = s
      · subst z
        exact ⟨e, Nat.le_refl e, by rw [e29, if_pos rfl]; exact jsh_key h.2.1 (packF_lt (sS_of hT hv.1) (sS_of hT hv.2)) hw⟩
      · rw [e29, if_neg z]
        exact h.2.2.2 s' hs'
    · rw [upL_oth b, upL_oth a]
/-- the memo between searches: no key is of a later era -/
def MG (e : Nat) (J : Nat → Nat → Int64) : Prop := J 28 2 = lN e ∧ e < 2 ^ 30 ∧ ∀ s, s < 2048 → ∃ y, y ≤ e ∧ jushrL (J 29 s) 32 = lN y
theorem MIv.mg {T : TN} {V : (Nat → SD) → Nat → Int64} {k0 k1 e : Nat} {J : Nat → Nat → Int64} (h : MIv T V k0 k1 e J) : MG e J := ⟨h.1, h.2.1, h.2.2.2⟩
theorem MG.next {T : TN} {V : (Nat → SD) → Nat → Int64} {k0 k1 e : Nat} {J : Nat → Nat → Int64} (h : MG e J) (he : e + 1 < 2 ^ 30) : MIv T V k0 k1 (e + 1) (upL J 28 2 (J 28 2 + 1)) := by
  have e28 : upL J 28 2 (J 28 2 + 1) 28 2 = J 28 2 + 1 := by simp [upL]
  have e29 : upL J 28 2 (J 28 2 + 1) 29 = J 29 := upL_oth (by decide)
  refine ⟨by rw [e28, h.1, lN_1], he, fun s hs hk => ?_, fun s hs => ?_⟩
  · rw [e29] at hk
    obtain ⟨y, hy, hy2⟩ := h.2.2 s hs
    have := (pk_lEQ (show y < 2 ^ 63 by omega) (show e + 1 < 2 ^ 63 by omega)).mp (hy2.symm.trans hk)
    omega
  · rw [e29]
    obtain ⟨y, hy, hy2⟩ := h.2.2 s hs
    exact ⟨y, by omega, hy2⟩
def Ve (T : TN) : (Nat → SD) → Nat → Int64 := fun q w => lN (ends T q w)
theorem Ve_c (T : TN) : ∀ (q q' : Nat → SD) w, w < 2 → q 0 = q' 0 → q 1 = q' 1 → Ve T q w = Ve T q' w := fun q q' w hw h0 h1 => congrArg lN (endsF_congr 10 q q' w hw h0 h1)
def EIn (G : GG) (n : Nat) (T : TN) (k0 k1 e r dep : Nat) : Prop := ∀ (D : Nat) (I : Nat → Nat → Int32) (J : Nat → Nat → Int64) (Q : Option Value → MH → Prop) (q : Nat → SD) (w : Nat), 2 * r + 8 ≤ D → tMem T I → EX I → fMem q I → vQ T q → (q 0).2.2.2 = k0 → (q 1).2.2.2 = k1 → w < 2 → MIv T (Ve T) k0 k1 e J → fsum q ≤ r →
  (∀ J', MIv T (Ve T) k0 k1 e J' → sameJ J J' → Q (some (.int (nI (ends T q w)))) (SH n, I, J')) → MT G D 45 [.ref 31, .int (nI w), .int (nI dep)] (SH n, I, J) Q
def EBh (G : GG) (n : Nat) (T : TN) (k0 k1 e r dep : Nat) : Prop := ∀ (D : Nat) (I : Nat → Nat → Int32) (J : Nat → Nat → Int64) (Q : Option Value → MH → Prop) (q : Nat → SD) (w k : Nat), 2 * r + 9 ≤ D → tMem T I → EX I → fMem q I → vQ T q → (q 0).2.2.2 = k0 → (q 1).2.2.2 = k1 → w < 2 → MIv T (Ve T) k0 k1 e J → fsum q ≤ r + 1 → k < tC T → canN T (q w) (q (1 - w)).1 k = true →
  (∀ J', MIv T (Ve T) k0 k1 e J' → sameJ J J' → Q (some (.int (nI (ends T (stepQ T q w k) (1 - w))))) (SH n, I, J')) → MT G D 46 [.ref 31, .int (nI w), .int (nI k), .int (nI (takesN T (q w) (q (1 - w)).1 k)), .int (nI dep)] (SH n, I, J) Q
theorem one_sub {w : Nat} (hw : w < 2) : (1 : Int32) - nI w = nI (1 - w) := by
  rcases (show w = 0 ∨ w = 1 by omega) with rfl | rfl <;> rfl
theorem EBh_of {G : GG} {n : Nat} {T : TN} {k0 k1 e r dep : Nat} (hT : tOK T) (hE : EIn G n T k0 k1 e r (dep + 1)) : EBh G n T k0 k1 e r dep := by
  intro D I J Q q w k hD hM hX hm hv h0 h1 hw hMI hf hk hc h
  obtain ⟨x, rfl⟩ : ∃ x, D = x + 9 := ⟨D - 9, by omega⟩
  have s0 := sS_of hT hv.1
  have s1 := sS_of hT hv.2
  refine MT.by ck46 (by decide) rfl (Nat.le_of_ble_eq_true rfl) rfl 300 [] ?_
  conv => whnf
  try dsimp only
  refine ⟨trivial, c_packedF hm s0 s1 ?_⟩
  refine EV.at ck46 (by decide) 300 [] ?_
  conv => whnf
  try dsimp only
  refine ⟨trivial, c_step hw hT hM hm hv hk hc ?_⟩
  refine EV.at ck46 (by decide) 300 [] ?_
  conv => whnf
  try dsimp only
  rw [one_sub hw, nI_1]
  refine ⟨trivial, hE (x + 8) _ _ _ (stepQ T q w k) (1 - w) (by omega) (tMem_of (fun r hr => stI_lo hr) hM) (EX_of (fun r hr => stI_lo hr) hX) (fMem_st hw hm) (vQ_step hT hw hk hv) (by rw [knows_step]; exact h0) (by rw [knows_step]; exact h1) (by omega) hMI (by have := fsum_step hw hc; omega) (fun J' hJ' hs' => ?_)⟩
  refine EV.at ck46 (by decide) 300 [] ?_
  conv => whnf
  try dsimp only
  refine ⟨trivial, c_unpackF s0 s1 ?_⟩
  rw [fd_st hw hm]
  refine EV.at ck46 (by decide) 300 [] ?_
  conv => whnf
  try dsimp only
  exact ⟨trivial, h J' hJ' hs'⟩
theorem EIn_zero {G : GG} {n : Nat} {T : TN} {k0 k1 e : Nat} : EIn G n T k0 k1 e 0 10 := by
  intro D I J Q q w hD hM hX hm hv h0 h1 hw hMI hf h
  obtain ⟨x, rfl⟩ : ∃ x, D = x + 8 := ⟨D - 8, by omega⟩
  have e0 : ends T q w = 0 := (endsF_ends hw 10 0 rfl hf).symm
  have h := h J hMI (sameJ.rf _)
  rw [e0] at h
  refine MT.by ck45 (by decide) rfl (Nat.le_of_ble_eq_true rfl) rfl 300 [] ?_
  conv => whnf
  try dsimp only
  refine ⟨fun h1 => absurd h1 (by decide), fun _ => ?_⟩
  conv => whnf
  try dsimp only
  exact ⟨trivial, h⟩
theorem EIn_succ {G : GG} {n : Nat} {T : TN} {k0 k1 e r dep : Nat} (hT : tOK T) (hdep : dep + (r + 1) = 10) (hB : EBh G n T k0 k1 e r dep) : EIn G n T k0 k1 e (r + 1) dep := by
  intro D I J Q q w hD hM hX hm hv h0 h1 hw hMI hf h
  obtain ⟨x, rfl⟩ : ∃ x, D = x + 10 := ⟨D - 10, by omega⟩
  have s0 := sS_of hT hv.1
  have s1 := sS_of hT hv.2
  have pl := packF_lt s0 s1
  have t12 := hT.2.2.1
  have hC : I 6 3 = nI (tC T) := hM.2.2.1
  have hend : endsF T (r + 1) q w = ends T q w := endsF_ends hw dep (r + 1) (by omega) hf
  have hle : ∀ c, eFold (fun k => endsF T r (stepQ T q w k) (1 - w)) (fun k => canN T (q w) (q (1 - w)).1 k) c ≤ r + 1 := eFold_le (fun k => endsF_le T r _ _)
  have loop : ∀ m j J1 (z8 : Value), isDm z8 = true ∨ (∃ y, z8 = .int y) → j + m = tC T → MIv T (Ve T) k0 k1 e J1 → sameJ J J1 → ∀ (sl : Int32), EV G 45 (x + 9) 0 0 65 [.ref 31, .int (nI w), .int (nI dep), .long (lN (keyN e (packF q) w)), dm, .int sl, .int (nI (eFold (fun k => endsF T r (stepQ T q w k) (1 - w)) (fun k => canN T (q w) (q (1 - w)).1 k) j)), .int (nI j), z8] [] (SH n, I, J1) Q := by
    intro m
    induction m with
    | zero =>
      intro j J1 z8 hz hj hMI1 hs1 sl
      have hj : j = tC T := hj
      have hv1 : eFold (fun k => endsF T r (stepQ T q w k) (1 - w)) (fun k => canN T (q w) (q (1 - w)).1 k) j = ends T q w := by rw [hj]; exact hend
      have hl2 := hle j
      rw [hv1] at hl2 ⊢
      refine EV.at ck45 (by decide) 300 [] ?_
      conv => whnf
      try dsimp only
      rw [hC, ← hj]
      refine ⟨fun _ => ?_, fun h1 => absurd (nI_le (Nat.le_refl j) (by omega)) h1⟩
      conv => whnf
      try dsimp only
      refine ⟨trivial, c_store (fun J2 hJ2 => ?_)⟩
      rw [nI_l (by omega)] at hJ2
      obtain ⟨g1, g2⟩ := hMI1.put hT hv h0 h1 hw rfl hJ2
      refine EV.at ck45 (by decide) 300 [] ?_
      conv => whnf
      try dsimp only
      exact ⟨trivial, h J2 g1 (hs1.tr g2)⟩
    | succ m ih =>
      intro j J1 z8 hz hj hMI1 hs1 sl
      have hjc : j < tC T := by omega
      have cj : (nI j).toNatClampNeg = j := nI_clamp (by omega)
      have hl2 := hle j
      have hdm : ∀ v : Int32, EV G 45 (x + 9) 0 0 87 [.ref 31, .int (nI w), .int (nI dep), .long (lN (keyN e (packF q) w)), dm, .int sl, .int (nI (eFold (fun k => endsF T r (stepQ T q w k) (1 - w)) (fun k => canN T (q w) (q (1 - w)).1 k) j)), .int (nI j), z8] [.int (nI (takesN T (q w) (q (1 - w)).1 j))] (SH n, I, J1) Q := by
        intro _
        have tl := takes_lt (q := q w) (o := (q (1 - w)).1) hT hjc
        cases hb : canN T (q w) (q (1 - w)).1 j
        · have ht : takesN T (q w) (q (1 - w)).1 j = 0 := by unfold takesN; rw [hb]; rfl
          have e1 : eFold (fun k => endsF T r (stepQ T q w k) (1 - w)) (fun k => canN T (q w) (q (1 - w)).1 k) (j + 1) = eFold (fun k => endsF T r (stepQ T q w k) (1 - w)) (fun k => canN T (q w) (q (1 - w)).1 k) j := by
            show (if canN T (q w) (q (1 - w)).1 j = true then _ else _) = _
            rw [hb]; rfl
          have ihj := ih (j + 1) J1 (.int 0) (Or.inr ⟨0, rfl⟩) (by omega) hMI1 hs1 sl
          rw [e1, nI_succ] at ihj
          rw [ht]
          refine EV.at ck45 (by decide) 300 [] ?_
          conv => whnf
          try dsimp only
          refine ⟨fun _ => ?_, fun h1 => absurd (by decide) h1⟩
          conv => whnf
          try dsimp only
          exact ⟨trivial, ihj⟩
        · have ht : 0 < takesN T (q w) (q (1 - w)).1 j := takes_pos.mpr hb
          have e1 : eFold (fun k => endsF T r (stepQ T q w k) (1 - w)) (fun k => canN T (q w) (q (1 - w)).1 k) (j + 1) = betN (eFold (fun k => endsF T r (stepQ T q w k) (1 - w)) (fun k => canN T (q w) (q (1 - w)).1 k) j) (1 + endsF T r (stepQ T q w j) (1 - w)) := by
            show (if canN T (q w) (q (1 - w)).1 j = true then _ else _) = _
            rw [hb]; rfl
          have hst : endsF T r (stepQ T q w j) (1 - w) = ends T (stepQ T q w j) (1 - w) := endsF_ends (by omega) (dep + 1) r (by omega) (by have := fsum_step hw hb; omega)
          have hlr := endsF_le T r (stepQ T q w j) (1 - w)
          refine EV.at ck45 (by decide) 300 [] ?_
          conv => whnf
          try dsimp only
          refine ⟨fun h1 => absurd h1 (nI_nle ht (by omega)), fun _ => ?_⟩
          conv => whnf
          try dsimp only
          refine ⟨trivial, hB (x + 9) I J1 _ q w j (by omega) hM hX hm hv h0 h1 hw hMI1 hf hjc hb (fun J2 hJ2 hs2 => ?_)⟩
          rw [hst] at e1 hlr
          refine EV.at ck45 (by decide) 300 [] ?_
          conv => whnf
          try dsimp only
          rw [show (1 : Int32) + nI (ends T (stepQ T q w j) (1 - w)) = nI (1 + ends T (stepQ T q w j) (1 - w)) from nI_add 1 _]
          refine ⟨trivial, c_better (by omega) (by omega) ?_⟩
          have ihj := ih (j + 1) J2 (.int (nI (takesN T (q w) (q (1 - w)).1 j))) (Or.inr ⟨_, rfl⟩) (by omega) hJ2 (hs1.tr hs2) sl
          rw [e1, nI_succ] at ihj
          refine EV.at ck45 (by decide) 300 [] ?_
          conv => whnf
          try dsimp only
          exact ⟨trivial, ihj⟩
      refine EV.at ck45 (by decide) 300 [] ?_
      conv => whnf
      try dsimp only
      rw [hC]
      refine ⟨fun h1 => absurd h1 (nI_ge (show j < tC T by omega) (by omega)), fun _ => ?_⟩
      conv => whnf
      try dsimp only
      refine ⟨trivial, c_takes hw hT hM hm hv.1 hv.2 hX hjc ?_⟩
      exact hdm 0
  refine MT.by ck45 (by decide) rfl (Nat.le_of_ble_eq_true rfl) rfl 300 [65] ?_
  conv => whnf
  try dsimp only
  refine ⟨fun _ => ?_, fun h1 => absurd (nI_lt (a := dep) (b := 10) (by omega) (by decide)) h1⟩
  conv => whnf
  try dsimp only
  refine ⟨trivial, c_packedF hm s0 s1 ?_⟩
  refine EV.at ck45 (by decide) 300 [65] ?_
  conv => whnf
  try dsimp only
  refine ⟨trivial, c_keyOf hMI.2.1 pl hw hMI.1 ?_⟩
  refine EV.at ck45 (by decide) 300 [65] ?_
  conv => whnf
  try dsimp only
  refine ⟨trivial, c_slotFor (fun v hv' => ?_)⟩
  rcases hv' with rfl | ⟨s, hs, rfl, hv'⟩
  · refine EV.at ck45 (by decide) 300 [65] ?_
    conv => whnf
    try dsimp only
    refine ⟨trivial, c_hasN ?_⟩
    refine EV.at ck45 (by decide) 300 [65] ?_
    conv => whnf
    try dsimp only
    refine ⟨fun _ => ?_, fun h1 => absurd rfl h1⟩
    conv => whnf
    try dsimp only
    exact ⟨trivial, loop (tC T) 0 J dm (Or.inl rfl) (by omega) hMI (sameJ.rf _) _⟩
  · have cs : (nI s).toNatClampNeg = s := nI_clamp (by omega)
    refine EV.at ck45 (by decide) 300 [65] ?_
    conv => whnf
    try dsimp only
    refine ⟨trivial, c_has hs ?_⟩
    by_cases hk : J 29 s = lN (keyN e (packF q) w)
    · rw [decide_eq_true hk]
      have hval := hMI.hit (Ve_c T) hT hs hv h0 h1 hw hk
      refine EV.at ck45 (by decide) 300 [65] ?_
      conv => whnf
      try dsimp only
      refine ⟨fun h1 => absurd h1 (by decide), fun _ => ?_⟩
      conv => whnf
      try dsimp only
      refine ⟨in_nI hs (by decide), ?_⟩
      conv => whnf
      try dsimp only
      rw [cs, hval]
      show True ∧ Q (some (.int (lN (ends T q w)).toInt32)) _
      rw [lN_i]
      exact ⟨trivial, h J hMI (sameJ.rf _)⟩
    · rw [decide_eq_false hk]
      refine EV.at ck45 (by decide) 300 [65] ?_
      conv => whnf
      try dsimp only
      refine ⟨fun _ => ?_, fun h1 => absurd rfl h1⟩
      conv => whnf
      try dsimp only
      exact ⟨trivial, loop (tC T) 0 J dm (Or.inl rfl) (by omega) hMI (sameJ.rf _) _⟩
theorem EIn_all {G : GG} {n : Nat} {T : TN} {k0 k1 e : Nat} (hT : tOK T) : ∀ r dep, dep + r = 10 → EIn G n T k0 k1 e r dep
  | 0, dep, h => by have h : dep = 10 := h; subst h; exact EIn_zero
  | r + 1, dep, h => EIn_succ hT h (EBh_of hT (EIn_all hT r (dep + 1) (by omega)))
