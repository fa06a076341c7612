/-! Search: the best line; how many rows of CHANGES -/
def fstN (P : Nat → Bool) : Nat → Nat → Nat
  | 0, _ => 0
  | m + 1, v => if P v then v else fstN P m (v + 1)
def restP (T : TN) (q : Nat → SD) (w rest k : Nat) : Bool := canN T (q w) (q (1 - w)).1 k && decide (ends T (stepQ T q w k) (1 - w) = rest)
def lineK (T : TN) (q : Nat → SD) (w : Nat) : Nat := fstN (restP T q w (ends T q w - 1)) (tC T) 0
def lineQ (T : TN) (q : Nat → SD) (w : Nat) : Nat → (Nat → SD)
  | 0 => q
  | i + 1 => stepQ T (lineQ T q w i) ((w + i) % 2) (lineK T (lineQ T q w i) ((w + i) % 2))
theorem fstN_spec {P : Nat → Bool} : ∀ m v, (∃ k, v ≤ k ∧ k < v + m ∧ P k = true) → P (fstN P m v) = true ∧ v ≤ fstN P m v ∧ fstN P m v < v + m
  | 0, v, ⟨k, h1, h2, _⟩ => by omega
  | m + 1, v, ⟨k, h1, h2, h3⟩ => by
    unfold fstN
    by_cases hv : P v = true
    · rw [if_pos hv]; exact ⟨hv, Nat.le_refl _, by omega⟩
    · rw [if_neg hv]
      have hk : k ≠ v := fun z => hv (by rw [← z]; exact h3)
      have := fstN_spec m (v + 1) ⟨k, by omega, by omega, h3⟩
      exact ⟨this.1, by omega, by omega⟩
theorem eFold_at {g : Nat → Nat} {can : Nat → Bool} : ∀ c, 0 < eFold g can c → ∃ k, k < c ∧ can k = true ∧ 1 + g k = eFold g can c
  | 0, h => absurd h (Nat.lt_irrefl 0)
  | c + 1, h => by
    have hun : eFold g can (c + 1) = if can c then betN (eFold g can c) (1 + g c) else eFold g can c := rfl
    by_cases hc : can c = true
    · rw [if_pos hc] at hun
      rw [hun] at h ⊢
      have hb : betN (eFold g can c) (1 + g c) = eFold g can c ∨ betN (eFold g can c) (1 + g c) = 1 + g c := by unfold betN; split <;> split <;> omega
      rcases hb with hb | hb
      · rw [hb] at h ⊢
        obtain ⟨k, h1, h2, h3⟩ := eFold_at c h
        exact ⟨k, by omega, h2, h3⟩
      · exact ⟨c, by omega, hc, hb.symm⟩
    · rw [if_neg hc] at hun
      rw [hun] at h ⊢
      obtain ⟨k, h1, h2, h3⟩ := eFold_at c h
      exact ⟨k, by omega, h2, h3⟩
theorem ends_step {T : TN} {q : Nat → SD} {w : Nat} (hw : w < 2) (hv : vQ T q) : ends T q w = eFold (fun k => ends T (stepQ T q w k) (1 - w)) (fun k => canN T (q w) (q (1 - w)).1 k) (tC T) := by
  show eFold _ _ _ = _
  refine eFold_congr _ (fun k _ hc => ?_)
  exact endsF_ends (by omega) 1 9 rfl (by have := fsum_step hw hc; have := fsum_le hv; omega)
theorem lineK_ok {T : TN} {q : Nat → SD} {w : Nat} (hw : w < 2) (hv : vQ T q) (h : 0 < ends T q w) : restP T q w (ends T q w - 1) (lineK T q w) = true ∧ lineK T q w < tC T := by
  have h2 := ends_step hw hv
  rw [h2] at h
  obtain ⟨k, h3, h4, h5⟩ := eFold_at _ h
  rw [← h2] at h5
  have := fstN_spec (P := restP T q w (ends T q w - 1)) (tC T) 0 ⟨k, by omega, by omega, by unfold restP; rw [h4, decide_eq_true (by omega)]; rfl⟩
  exact ⟨this.1, by have := this.2.2; unfold lineK; omega⟩
theorem lineQ_ok {T : TN} {q : Nat → SD} {w : Nat} (hT : tOK T) (hw : w < 2) (hv : vQ T q) : ∀ i, i ≤ ends T q w → vQ T (lineQ T q w i) ∧ ends T (lineQ T q w i) ((w + i) % 2) + i = ends T q w ∧ ((lineQ T q w i) 0).2.2.2 = (q 0).2.2.2 ∧ ((lineQ T q w i) 1).2.2.2 = (q 1).2.2.2 ∧ fsum (lineQ T q w i) + i ≤ fsum q
  | 0, _ => ⟨hv, by rw [show (w + 0) % 2 = w by omega]; rfl, rfl, rfl, Nat.le_refl _⟩
  | i + 1, hi => by
    obtain ⟨h1, h2, h3, h4, h5⟩ := lineQ_ok hT hw hv i (by omega)
    have hw2 : (w + i) % 2 < 2 := Nat.mod_lt _ (by decide)
    obtain ⟨h6, h7⟩ := lineK_ok hw2 h1 (by omega)
    unfold restP at h6
    rw [Bool.and_eq_true, decide_eq_true_eq] at h6
    have h8 := fsum_step hw2 h6.1
    refine ⟨vQ_step hT hw2 h7 h1, ?_, by show (stepQ T _ _ _ 0).2.2.2 = _; rw [knows_step]; exact h3, by show (stepQ T _ _ _ 1).2.2.2 = _; rw [knows_step]; exact h4, by show fsum (stepQ T _ _ _) + (i + 1) ≤ _; omega⟩
    have h9 := h6.2
    rw [show 1 - (w + i) % 2 = (w + (i + 1)) % 2 by omega] at h9
    show ends T (stepQ T _ _ _) _ + (i + 1) = _
    omega
theorem sd_row {I I' : Nat → Nat → Int32} {c a b u r : Nat} (h : I r = I' r) : sdI I c a b u r = sdI I' c a b u r := by
  funext k
  unfold sdI
  rw [h]
theorem fd_row {I I' : Nat → Nat → Int32} {q : Nat → SD} {r : Nat} (h : I r = I' r) : fdI I q r = fdI I' q r := sd_row (sd_row h)
section
variable {G : GG} {d n : Nat} {I : Nat → Nat → Int32} {J : Nat → Nat → Int64} {Q : Option Value → MH → Prop} {T : TN} {q : Nat → SD}
theorem c_firstWithRest {e w dep rest k0 k1 : Nat} (hT : tOK T) (hM : tMem T I) (hX : EX I) (hm : fMem q I) (hv : vQ T q) (h0 : (q 0).2.2.2 = k0) (h1 : (q 1).2.2.2 = k1) (hw : w < 2) (hd : dep < 10) (hf : fsum q ≤ 10 - dep) (hre : rest < 65536) (hMI : MIv T (Ve T) k0 k1 e J) (h : ∀ J', MIv T (Ve T) k0 k1 e J' → sameJ J J' → Q (some (.int (nI (fstN (restP T q w rest) (tC T) 0)))) (SH n, I, J')) : MT G (d + 40) 50 [.ref 31, .int (nI w), .int (nI rest), .int (nI dep)] (SH n, I, J) Q := by
  have t12 := hT.2.2.1
  have hC : I 6 3 = nI (tC T) := hM.2.2.1
  have loop : ∀ m j J1 (z3 : Value), isDm z3 = true ∨ (∃ y, z3 = .int y) → j + m = tC T → MIv T (Ve T) k0 k1 e J1 → sameJ J J1 → fstN (restP T q w rest) (tC T) 0 = fstN (restP T q w rest) m j → EV G 50 (d + 39) 0 0 3 [.ref 31, .int (nI w), .int (nI rest), .int (nI dep), .int (nI j), z3] [] (SH n, I, J1) Q := by
    intro m
    induction m with
    | zero =>
      intro j J1 z3 hz3 hj h1 h2 h3
      have hj : j = tC T := hj
      have hq := h J1 h1 h2
      rw [h3] at hq
      refine EV.at ck50 (by decide) 300 [] ?_
      conv => whnf
      try dsimp only
      rw [hC, ← hj]
      refine ⟨fun _ => ?_, fun h1 => absurd (nI_le (Nat.le_refl j) (by omega)) h1⟩
      conv => whnf
      try dsimp only
      exact ⟨trivial, hq⟩
    | succ m ih =>
      intro j J1 z3 hz3 hj h4 h2 h3
      have hjc : j < tC T := by omega
      have hun : fstN (restP T q w rest) (m + 1) j = if restP T q w rest j then j else fstN (restP T q w rest) m (j + 1) := rfl
      have next : ∀ J2 (y : Int32), MIv T (Ve T) k0 k1 e J2 → sameJ J J2 → restP T q w rest j = false → EV G 50 (d + 39) 0 0 3 [.ref 31, .int (nI w), .int (nI rest), .int (nI dep), .int (nI j + 1), .int y] [] (SH n, I, J2) Q := by
        intro J2 y a1 a2 a3
        rw [a3] at hun
        have ihj := ih (j + 1) J2 (.int y) (Or.inr ⟨y, rfl⟩) (by omega) a1 a2 (h3.trans hun)
        rw [nI_succ j] at ihj
        exact ihj
      refine EV.at ck50 (by decide) 300 [] ?_
      conv => whnf
      try dsimp only
      rw [hC]
      refine ⟨fun h5 => absurd h5 (nI_ge hjc (by omega)), fun _ => ?_⟩
      conv => whnf
      try dsimp only
      refine ⟨trivial, c_takes hw hT hM hm hv.1 hv.2 hX hjc ?_⟩
      have tl := takes_lt (q := q w) (o := (q (1 - w)).1) hT hjc
      cases hb : canN T (q w) (q (1 - w)).1 j
      · have ht : takesN T (q w) (q (1 - w)).1 j = 0 := by unfold takesN; rw [hb]; rfl
        rw [ht]
        have hn := next J1 (nI 0) h4 h2 (by unfold restP; rw [hb]; rfl)
        refine EV.at ck50 (by decide) 300 [] ?_
        conv => whnf
        try dsimp only
        refine ⟨fun _ => ?_, fun h5 => absurd (by decide) h5⟩
        conv => whnf
        try dsimp only
        exact ⟨trivial, hn⟩
      · have ht : 0 < takesN T (q w) (q (1 - w)).1 j := takes_pos.mpr hb
        refine EV.at ck50 (by decide) 300 [] ?_
        conv => whnf
        try dsimp only
        refine ⟨fun h5 => absurd h5 (nI_nle ht (by omega)), fun _ => ?_⟩
        conv => whnf
        try dsimp only
        have hle : ends T (stepQ T q w j) (1 - w) ≤ 10 := endsF_le T 10 _ _
        refine ⟨trivial, EBh_of hT (EIn_all hT (9 - dep) (dep + 1) (by omega)) (d + 39) I J1 _ q w j (by omega) hM hX hm hv h0 h1 hw h4 (by omega) hjc hb (fun J2 hJ2 hs2 => ?_)⟩
        have hs3 : sameJ J J2 := h2.tr hs2
        have heq : nI (ends T (stepQ T q w j) (1 - w)) = nI rest ↔ ends T (stepQ T q w j) (1 - w) = rest := nI_eq (by omega) (by omega)
        refine EV.at ck50 (by decide) 300 [] ?_
        conv => whnf
        try dsimp only
        refine ⟨fun h5 => ?_, fun h5 => ?_⟩
        · have hn := next J2 (nI (takesN T (q w) (q (1 - w)).1 j)) hJ2 hs3 (by unfold restP; rw [hb, decide_eq_false (fun y => h5 (heq.mpr y))]; rfl)
          conv => whnf
          try dsimp only
          exact ⟨trivial, hn⟩
        · have hp : restP T q w rest j = true := by unfold restP; rw [hb, decide_eq_true (heq.mp h5)]; rfl
          rw [hp] at hun
          have hq := h J2 hJ2 hs3
          rw [h3, hun] at hq
          conv => whnf
          try dsimp only
          exact ⟨trivial, hq⟩
  refine MT.by ck50 (by decide) rfl (Nat.le_of_ble_eq_true rfl) rfl 300 [3] ?_
  conv => whnf
  try dsimp only
  exact ⟨trivial, loop (tC T) 0 J dm (Or.inl rfl) (by omega) hMI (sameJ.rf _) rfl⟩
theorem c_bestLine {z e c a : Nat} (hT : tOK T) (hM : tMem T I) (hX : EX I) (hm : fMem q I) (hv : vQ T q) (hz : z ≤ 40) (hI : I 12 5 = nI z) (hG : MG e J) (he : e + 1 < 2 ^ 30) (hc : (SH n)[c]? = some (8, 2, [some a, none])) (ha : (SH n)[a]? = some (12, 40, [])) (ha4 : 15 < a) (hc4 : 15 < c) (hca : c ≠ a) (h : ∀ I' J', I' c 1 = nI (ends T q (z % 2)) → (∀ i, i < ends T q (z % 2) → I' a i = nI (lineK T (lineQ T q (z % 2) i) ((z % 2 + i) % 2))) → (∀ r, r ≠ c → r ≠ a → I' r = I r) → MG (e + 1) J' → sameM J J' → Q none (SH n, I', J')) : MT G (d + 50) 49 [.ref 31, .ref c] (SH n, I, J) Q := by
  have hz2 : z % 2 < 2 := Nat.mod_lt _ (by decide)
  have s0 := sS_of hT hv.1
  have s1 := sS_of hT hv.2
  have hL10 : ends T q (z % 2) ≤ 10 := endsF_le T 10 _ _
  have lq := lineQ_ok hT hz2 hv
  generalize hL : ends T q (z % 2) = L at h hL10 lq
  have loop : ∀ m i (I1 : Nat → Nat → Int32) (J1 : Nat → Nat → Int64) (x5 x6 : Value), (isDm x5 = true ∨ ∃ y, x5 = .int y) → (isDm x6 = true ∨ ∃ y, x6 = .int y) → i + m = L → I1 c 1 = nI L → (∀ j, j < i → I1 a j = nI (lineK T (lineQ T q (z % 2) j) ((z % 2 + j) % 2))) → (∀ r, r ≠ c → r ≠ a → I1 r = fdI I (lineQ T q (z % 2) i) r) → MIv T (Ve T) (q 0).2.2.2 (q 1).2.2.2 (e + 1) J1 → sameM J J1 → EV G 49 (d + 49) 0 0 22 [.ref 31, .ref c, .int (nI (packF q)), .int (nI L), .int (nI i), x5, x6] [] (SH n, I1, J1) Q := by
    intro m
    induction m with
    | zero =>
      intro i I1 J1 x5 x6 d5 d6 hi h1 h2 h3 h4 h5
      have hi : i = L := hi
      subst hi
      refine EV.at ck49 (by decide) 300 [] ?_
      conv => whnf
      try dsimp only
      refine ⟨fun _ => ?_, fun h1 => absurd (nI_le (Nat.le_refl i) (by omega)) h1⟩
      conv => whnf
      try dsimp only
      refine ⟨trivial, c_unpackF s0 s1 ?_⟩
      refine EV.at ck49 (by decide) 300 [] ?_
      conv => whnf
      try dsimp only
      refine ⟨trivial, h _ _ (by rw [fd_oth (by omega) (by omega)]; exact h1) (fun j hj => by rw [fd_oth (by omega) (by omega)]; exact h2 j hj) (fun r hr hr2 => ?_) h4.mg h5⟩
      have hx : fdI (fdI I (lineQ T q (z % 2) i)) q r = I r := by rw [fd_fd, fd_self hm]
      rw [← hx]
      exact fd_row (h3 r hr hr2)
    | succ m ih =>
      intro i I1 J1 x5 x6 d5 d6 hi h1 h2 h3 h4 h5
      obtain ⟨g1, g2, g3, g4, g5⟩ := lq i (by omega)
      have hw2 : (z % 2 + i) % 2 < 2 := Nat.mod_lt _ (by decide)
      obtain ⟨g6, g7⟩ := lineK_ok hw2 g1 (by omega)
      have g8 := g6
      unfold restP at g8
      rw [Bool.and_eq_true] at g8
      have ci : (nI i).toNatClampNeg = i := nI_clamp (by omega)
      have lo1 : ∀ r, r < 12 → I1 r = I r := fun r hr => by rw [h3 r (by omega) (by omega)]; exact fd_lo r hr
      have fm1 : fMem (lineQ T q (z % 2) i) I1 := ⟨sMem_oth (fMem_fd hm g3 g4).1 (h3 14 (by omega) (by omega)), sMem_oth (fMem_fd hm g3 g4).2 (h3 15 (by omega) (by omega))⟩
      have hI1 : I1 12 5 = nI z := by rw [h3 12 (by omega) (by omega), fd_oth (by decide) (by decide)]; exact hI
      have hsub : nI L - 1 - nI i = nI (L - 1 - i) := by
        rw [show (1 : Int32) = nI 1 from rfl, pk_sub (by omega), pk_sub (by omega)]
      have hK : fstN (restP T (lineQ T q (z % 2) i) ((z % 2 + i) % 2) (L - 1 - i)) (tC T) 0 = lineK T (lineQ T q (z % 2) i) ((z % 2 + i) % 2) := by
        unfold lineK
        rw [show L - 1 - i = ends T (lineQ T q (z % 2) i) ((z % 2 + i) % 2) - 1 by omega]
      have hmv : nI (z % 2) + nI i &&& 1 = nI ((z % 2 + i) % 2) := by rw [mov_eq (by omega) (by omega)]; congr 1; omega
      refine EV.at ck49 (by decide) 300 [] ?_
      conv => whnf
      try dsimp only
      refine ⟨fun h1 => absurd h1 (nI_ge (show i < L by omega) (by omega)), fun _ => ?_⟩
      conv => whnf
      try dsimp only
      refine ⟨trivial, c_mover hz hI1 ?_⟩
      refine EV.at ck49 (by decide) 300 [] ?_
      conv => whnf
      try dsimp only
      rw [hmv, hsub]
      have hfs := fsum_le hv
      refine ⟨trivial, c_firstWithRest (d := d + 9) hT (tMem_of lo1 hM) (EX_of lo1 hX) fm1 g1 g3 g4 hw2 (by omega) (by omega) (by omega) h4 (fun J2 hJ2 hs2 => ?_)⟩
      rw [hK]
      generalize hkk : lineK T (lineQ T q (z % 2) i) ((z % 2 + i) % 2) = kk at g6 g7 g8
      refine EV.at ck49 (by decide) 300 [] ?_
      conv => whnf
      try dsimp only
      rw [hc]
      conv => whnf
      try dsimp only
      rw [ha]
      conv => whnf
      try dsimp only
      refine ⟨in_nI (show i < 40 by omega) (by decide), ?_⟩
      conv => whnf
      try dsimp only
      rw [ci]
      have lo2 : ∀ r, r ≠ a → upI I1 a i (nI kk) r = I1 r := fun r hr => upI_oth hr
      have lo3 : ∀ r, r < 12 → upI I1 a i (nI kk) r = I r := fun r hr => by rw [lo2 r (by omega)]; exact lo1 r hr
      have fm2 : fMem (lineQ T q (z % 2) i) (upI I1 a i (nI kk)) := ⟨sMem_oth fm1.1 (lo2 14 (by omega)), sMem_oth fm1.2 (lo2 15 (by omega))⟩
      refine ⟨trivial, c_takes hw2 hT (tMem_of lo3 hM) fm2 g1.1 g1.2 (EX_of lo3 hX) g7 ?_⟩
      refine EV.at ck49 (by decide) 300 [] ?_
      conv => whnf
      try dsimp only
      refine ⟨trivial, c_step hw2 hT (tMem_of lo3 hM) fm2 g1 g7 g8.1 ?_⟩
      refine EV.at ck49 (by decide) 300 [] ?_
      conv => whnf
      try dsimp only
      have ihj := ih (i + 1) (stI T (upI I1 a i (nI kk)) (lineQ T q (z % 2) i) ((z % 2 + i) % 2) kk) J2 (.int (nI ((z % 2 + i) % 2))) (.int (nI kk)) (Or.inr ⟨_, rfl⟩) (Or.inr ⟨_, rfl⟩) (by omega) ?_ ?_ ?_ hJ2 (h5.tr (fun x a b c => hs2 x b c))
      · rw [nI_succ i] at ihj
        exact ⟨trivial, ihj⟩
      · show stI T _ _ _ _ c 1 = _
        rw [show stI T (upI I1 a i (nI kk)) (lineQ T q (z % 2) i) ((z % 2 + i) % 2) kk c = upI I1 a i (nI kk) c from sd_oth (by omega), upI_oth hca]
        exact h1
      · intro j hj
        rw [show stI T (upI I1 a i (nI kk)) (lineQ T q (z % 2) i) ((z % 2 + i) % 2) kk a = upI I1 a i (nI kk) a from sd_oth (by omega)]
        by_cases hji : j = i
        · subst hji
          rw [hkk]
          simp [upI]
        · have : upI I1 a i (nI kk) a j = I1 a j := by simp [upI, hji]
          rw [this]
          exact h2 j (by omega)
      · intro r hr hr2
        show _ = fdI I (stepQ T (lineQ T q (z % 2) i) ((z % 2 + i) % 2) (lineK T (lineQ T q (z % 2) i) ((z % 2 + i) % 2))) r
        rw [hkk, ← fd_st2 hw2]
        unfold stI
        exact sd_row (by rw [lo2 r hr2]; exact h3 r hr hr2)
  refine MT.by ck49 (by decide) rfl (Nat.le_of_ble_eq_true rfl) rfl 300 [22] ?_
  conv => whnf
  try dsimp only
  refine ⟨trivial, c_packedF hm s0 s1 ?_⟩
  refine EV.at ck49 (by decide) 300 [22] ?_
  conv => whnf
  try dsimp only
  refine ⟨trivial, c_length (d := d + 19) hT hM hX hm hv hz hI hG he (fun J2 hJ2 hs2 => ?_)⟩
  rw [hL]
  refine EV.at ck49 (by decide) 300 [22] ?_
  conv => whnf
  try dsimp only
  rw [hc]
  conv => whnf
  try dsimp only
  refine ⟨trivial, c_fillAnew hc ha (by omega) (by decide) ?_⟩
  refine EV.at ck49 (by decide) 300 [22] ?_
  conv => whnf
  try dsimp only
  have hfl : ∀ r, r ≠ a → flI (upI I c 1 (nI L)) a 0 L 0 r = upI I c 1 (nI L) r := fun r hr => by funext k; unfold flI; rw [if_neg (fun z => hr z.1)]
  refine ⟨trivial, loop L 0 _ J2 dm dm (Or.inl rfl) (Or.inl rfl) (by omega) ?_ (fun j hj => absurd hj (by omega)) (fun r hr hr2 => ?_) hJ2 hs2⟩
  · rw [hfl c hca]
    simp [upI]
  · show _ = fdI I q r
    rw [hfl r hr2, upI_oth hr, fd_self hm]
/-- rows of so many CHANGES, and behind how many of them none can be -/
def rFold (g : Nat → Nat × Nat) (can : Nat → Bool) : Nat → Nat × Nat
  | 0 => (0, 0)
  | k + 1 => if can k then ((rFold g can k).1 + (g k).1, (rFold g can k).2 + (g k).2) else rFold g can k
def rowN (T : TN) : Nat → (Nat → SD) → Nat → Nat × Nat
  | 0, q, w => (1, if optN T (q w) (q (1 - w)).1 (tC T) = 0 then 1 else 0)
  | f + 1, q, w => rFold (fun k => rowN T f (stepQ T q w k) (1 - w)) (fun k => canN T (q w) (q (1 - w)).1 k) (tC T)
theorem optN_lt {T : TN} {q : SD} {o : Nat} : ∀ c, optN T q o c < 2 ^ c
  | 0 => by show 0 < 1; decide
  | c + 1 => by
    have h1 := optN_lt (T := T) (q := q) (o := o) c
    show _ ||| _ < _
    refine Nat.or_lt_two_pow (by have : 2 ^ (c + 1) = 2 ^ c * 2 := Nat.pow_succ ..; omega) ?_
    split
    · exact Nat.pow_lt_pow_right (by decide) (by omega)
    · exact Nat.two_pow_pos _
def RFr (G : GG) (n : Nat) (T : TN) (f : Nat) : Prop := ∀ (D : Nat) (I : Nat → Nat → Int32) (J : Nat → Nat → Int64) (Q : Option Value → MH → Prop) (q : Nat → SD) (w : Nat), f + 9 ≤ D → tMem T I → EX I → fMem q I → vQ T q → w < 2 →
  Q (some (.int (nI (rowN T f q w).1))) (SH n, upI I 31 3 (I 31 3 + nI (rowN T f q w).2), J) → MT G D 56 [.ref 31, .int (nI w), .int (nI f)] (SH n, I, J) Q
theorem RFr_zero (hT : tOK T) : RFr G n T 0 := by
  intro D I J Q q w hD hM hX hm hv hw h
  obtain ⟨x, rfl⟩ : ∃ x, D = x + 9 := ⟨D - 9, by omega⟩
  have t12 := hT.2.2.1
  have hol := optN_lt (T := T) (q := q w) (o := (q (1 - w)).1) (tC T)
  have h212 : 2 ^ tC T ≤ 2 ^ 12 := Nat.pow_le_pow_right (by decide) t12
  refine MT.by ck56 (by decide) rfl (Nat.le_of_ble_eq_true rfl) rfl 300 [] ?_
  conv => whnf
  try dsimp only
  refine ⟨fun h1 => absurd h1 (by decide), fun _ => ?_⟩
  conv => whnf
  try dsimp only
  refine ⟨trivial, c_options hw hT hM hm hv.1 hv.2 hX ?_⟩
  by_cases ho : optN T (q w) (q (1 - w)).1 (tC T) = 0
  · have hr : (rowN T 0 q w).2 = 1 := by show (if _ then _ else _) = _; rw [if_pos ho]
    rw [hr] at h
    rw [ho]
    refine EV.at ck56 (by decide) 300 [] ?_
    conv => whnf
    try dsimp only
    refine ⟨fun h1 => absurd (by decide) h1, fun _ => ?_⟩
    conv => whnf
    try dsimp only
    exact ⟨trivial, h⟩
  · have hr : (rowN T 0 q w).2 = 0 := by show (if _ then _ else _) = _; rw [if_neg ho]
    rw [hr] at h
    refine EV.at ck56 (by decide) 300 [] ?_
    conv => whnf
    try dsimp only
    refine ⟨fun _ => ?_, fun h1 => absurd h1 (nI_ne0 (by omega) (by omega))⟩
    conv => whnf
    try dsimp only
    exact ⟨trivial, h⟩
theorem RFr_succ {f : Nat} (hf : f ≤ 6) (hT : tOK T) (hR : RFr G n T f) : RFr G n T (f + 1) := by
  intro D I J Q q w hD hM hX hm hv hw h
  obtain ⟨x, rfl⟩ : ∃ x, D = x + 10 := ⟨D - 10, by omega⟩
  have t12 := hT.2.2.1
  have hC : I 6 3 = nI (tC T) := hM.2.2.1
  have s0 := sS_of hT hv.1
  have s1 := sS_of hT hv.2
  let rf := rFold (fun k => rowN T f (stepQ T q w k) (1 - w)) (fun k => canN T (q w) (q (1 - w)).1 k)
  have h : Q (some (.int (nI (rf (tC T)).1))) (SH n, upI I 31 3 (I 31 3 + nI (rf (tC T)).2), J) := h
  have loop : ∀ m j (x5 x6 : Value), (isDm x5 = true ∨ ∃ y, x5 = .int y) → (isDm x6 = true ∨ ∃ y, x6 = .int y) → j + m = tC T → EV G 56 (x + 9) 0 0 36 [.ref 31, .int (nI w), .int (nI (f + 1)), .int (nI (rf j).1), .int (nI j), x5, x6] [] (SH n, upI I 31 3 (I 31 3 + nI (rf j).2), J) Q := by
    intro m
    induction m with
    | zero =>
      intro j x5 x6 d5 d6 hj
      have hj : j = tC T := hj
      have hC' : upI I 31 3 (I 31 3 + nI (rf j).2) 6 3 = nI (tC T) := hC
      refine EV.at ck56 (by decide) 300 [] ?_
      conv => whnf
      try dsimp only
      rw [hC', ← hj]
      refine ⟨fun _ => ?_, fun h1 => absurd (nI_le (Nat.le_refl j) (by omega)) h1⟩
      conv => whnf
      try dsimp only
      rw [← hj] at h
      exact ⟨trivial, h⟩
    | succ m ih =>
      intro j x5 x6 d5 d6 hj
      have hjc : j < tC T := by omega
      have hC' : upI I 31 3 (I 31 3 + nI (rf j).2) 6 3 = nI (tC T) := hC
      have lo : ∀ (y : Int32) r, r < 12 → upI I 31 3 y r = I r := fun y r hr => upI_oth (by omega)
      have fm : ∀ (y : Int32), fMem q (upI I 31 3 y) := fun y => ⟨sMem_oth hm.1 (upI_oth (by decide)), sMem_oth hm.2 (upI_oth (by decide))⟩
      have hun : rf (j + 1) = if canN T (q w) (q (1 - w)).1 j then ((rf j).1 + (rowN T f (stepQ T q w j) (1 - w)).1, (rf j).2 + (rowN T f (stepQ T q w j) (1 - w)).2) else rf j := rfl
      refine EV.at ck56 (by decide) 300 [] ?_
      conv => whnf
      try dsimp only
      rw [hC']
      refine ⟨fun h5 => absurd h5 (nI_ge hjc (by omega)), fun _ => ?_⟩
      conv => whnf
      try dsimp only
      refine ⟨trivial, c_takes hw hT (tMem_of (lo _) hM) (fm _) hv.1 hv.2 (EX_of (lo _) hX) hjc ?_⟩
      have tl := takes_lt (q := q w) (o := (q (1 - w)).1) hT hjc
      cases hb : canN T (q w) (q (1 - w)).1 j
      · have ht : takesN T (q w) (q (1 - w)).1 j = 0 := by unfold takesN; rw [hb]; rfl
        rw [ht]
        rw [hb] at hun
        have hun : rf (j + 1) = rf j := hun
        have ihj := ih (j + 1) (.int (nI 0)) x6 (Or.inr ⟨_, rfl⟩) d6 (by omega)
        rw [nI_succ j, hun] at ihj
        refine EV.at ck56 (by decide) 300 [] ?_
        conv => whnf
        try dsimp only
        refine ⟨fun _ => ?_, fun h5 => absurd (by decide) h5⟩
        conv => whnf
        try dsimp only
        exact ⟨trivial, ihj⟩
      · have ht : 0 < takesN T (q w) (q (1 - w)).1 j := takes_pos.mpr hb
        rw [hb] at hun
        have hun : rf (j + 1) = ((rf j).1 + (rowN T f (stepQ T q w j) (1 - w)).1, (rf j).2 + (rowN T f (stepQ T q w j) (1 - w)).2) := hun
        refine EV.at ck56 (by decide) 300 [] ?_
        conv => whnf
        try dsimp only
        refine ⟨fun h5 => absurd h5 (nI_nle ht (by omega)), fun _ => ?_⟩
        conv => whnf
        try dsimp only
        refine ⟨trivial, c_packedF (fm _) s0 s1 ?_⟩
        refine EV.at ck56 (by decide) 300 [] ?_
        conv => whnf
        try dsimp only
        refine ⟨trivial, c_step hw hT (tMem_of (lo _) hM) (fm _) hv hjc hb ?_⟩
        refine EV.at ck56 (by decide) 300 [] ?_
        conv => whnf
        try dsimp only
        rw [one_sub hw, nI_pred f]
        refine ⟨trivial, hR (x + 9) _ _ _ (stepQ T q w j) (1 - w) (by omega) (tMem_of (fun r hr => (stI_lo hr).trans (lo _ r hr)) hM) (EX_of (fun r hr => (stI_lo hr).trans (lo _ r hr)) hX) (fMem_st hw (fm _)) (vQ_step hT hw hjc hv) (by omega) ?_⟩
        refine EV.at ck56 (by decide) 300 [] ?_
        conv => whnf
        try dsimp only
        refine ⟨trivial, c_unpackF s0 s1 ?_⟩
        have ihj := ih (j + 1) (.int (nI (takesN T (q w) (q (1 - w)).1 j))) (.int (nI (packF q))) (Or.inr ⟨_, rfl⟩) (Or.inr ⟨_, rfl⟩) (by omega)
        rw [nI_succ j, hun] at ihj
        have r31 : stI T (upI I 31 3 (I 31 3 + nI (rf j).2)) q w j 31 3 = I 31 3 + nI (rf j).2 := by
          rw [show stI T (upI I 31 3 (I 31 3 + nI (rf j).2)) q w j 31 = upI I 31 3 (I 31 3 + nI (rf j).2) 31 from sd_oth (by omega)]
          simp [upI]
        have hmem : fdI (upI (stI T (upI I 31 3 (I 31 3 + nI (rf j).2)) q w j) 31 3 (stI T (upI I 31 3 (I 31 3 + nI (rf j).2)) q w j 31 3 + nI (rowN T f (stepQ T q w j) (1 - w)).2)) q = upI I 31 3 (I 31 3 + nI ((rf j).2 + (rowN T f (stepQ T q w j) (1 - w)).2)) := by
          rw [r31]
          funext r k
          by_cases hr : r = 31
          · subst hr
            rw [fd_oth (by decide) (by decide)]
            by_cases hk : k = 3
            · subst hk
              simp only [upI, and_self, if_true]
              rw [← nI_add, ← Int32.add_assoc]
            · simp only [upI, hk, and_false, if_false]
              rw [show stI T (upI I 31 3 (I 31 3 + nI (rf j).2)) q w j 31 = upI I 31 3 (I 31 3 + nI (rf j).2) 31 from sd_oth (by omega)]
              simp [upI, hk]
          · have hb2 := fd_st (T := T) (k := j) hw (fm (I 31 3 + nI (rf j).2))
            have hb3 : fdI (stI T (upI I 31 3 (I 31 3 + nI (rf j).2)) q w j) q r k = upI I 31 3 (I 31 3 + nI (rf j).2) r k := by rw [hb2]
            rw [upI_oth hr] at hb3
            rw [upI_oth hr, ← hb3]
            exact congrFun (fd_row (upI_oth hr)) k
        rw [hmem]
        refine EV.at ck56 (by decide) 300 [] ?_
        conv => whnf
        try dsimp only
        rw [nI_add]
        exact ⟨trivial, ihj⟩
  refine MT.by ck56 (by decide) rfl (Nat.le_of_ble_eq_true rfl) rfl 300 [36] ?_
  conv => whnf
  try dsimp only
  refine ⟨fun _ => ?_, fun h1 => absurd (nI_lt (a := 0) (by omega) (by omega)) h1⟩
  conv => whnf
  try dsimp only
  have hl := loop (tC T) 0 dm dm (Or.inl rfl) (Or.inl rfl) (by omega)
  have e0 : upI I 31 3 (I 31 3 + nI (rf 0).2) = I := by
    rw [show I 31 3 + nI (rf 0).2 = I 31 3 from Int32.add_zero _]
    exact up_self
  rw [e0] at hl
  exact ⟨trivial, hl⟩
theorem RFr_all (hT : tOK T) : ∀ f, f ≤ 7 → RFr G n T f
  | 0, _ => RFr_zero hT
  | f + 1, h => RFr_succ (by omega) hT (RFr_all hT f (by omega))
theorem c_countRows {z f : Nat} (hf : f ≤ 6) (hT : tOK T) (hM : tMem T I) (hX : EX I) (hm : fMem q I) (hv : vQ T q) (hz : z ≤ 40) (hI : I 12 5 = nI z) (h : Q (some (.int (nI (rowN T f q (z % 2)).1))) (SH n, upI I 31 3 (nI (rowN T f q (z % 2)).2), J)) : MT G (d + 20) 55 [.ref 31, .int (nI f)] (SH n, I, J) Q := by
  have lo : ∀ (y : Int32) r, r < 12 → upI I 31 3 y r = I r := fun y r hr => upI_oth (by omega)
  have fm : ∀ (y : Int32), fMem q (upI I 31 3 y) := fun y => ⟨sMem_oth hm.1 (upI_oth (by decide)), sMem_oth hm.2 (upI_oth (by decide))⟩
  refine MT.by ck55 (by decide) rfl (Nat.le_of_ble_eq_true rfl) rfl 300 [] ?_
  conv => whnf
  try dsimp only
  refine ⟨trivial, c_mover hz (show upI I 31 3 0 12 5 = nI z from hI) ?_⟩
  refine EV.at ck55 (by decide) 300 [] ?_
  conv => whnf
  try dsimp only
  refine ⟨trivial, RFr_all hT f (by omega) (d + 19) _ _ _ q (z % 2) (by omega) (tMem_of (lo _) hM) (EX_of (lo _) hX) (fm _) hv (Nat.mod_lt _ (by decide)) ?_⟩
  rw [up_up, show upI I 31 3 0 31 3 = 0 from rfl, Int32.zero_add]
  refine EV.at ck55 (by decide) 300 [] ?_
  conv => whnf
  try dsimp only
  exact ⟨trivial, h⟩
end
