/-! the reference's search: chances -/
theorem cF_dvd {g : Nat → Nat} {can : Nat → Bool} {m : Nat} : ∀ c, (∀ k, k < c → can k = true → m ∣ g k) → m ∣ (cFold g can c).1 ∧ m ∣ (cFold g can c).2.1
  | 0, _ => ⟨Nat.dvd_zero m, Nat.dvd_zero m⟩
  | c + 1, h => by
    obtain ⟨a, b⟩ := cF_dvd c (fun k hk => h k (by omega))
    unfold cFold
    by_cases hc : can c = true
    · rw [if_pos hc]
      have hg := h c (by omega) hc
      refine ⟨?_, Nat.dvd_add b hg⟩
      show m ∣ max _ _
      rcases Nat.le_total (cFold g can c).1 (g c) with h1 | h1
      · rw [Nat.max_eq_right h1]; exact hg
      · rw [Nat.max_eq_left h1]; exact a
    · rw [if_neg hc]
      exact ⟨a, b⟩
theorem cF_cnt {g : Nat → Nat} {can p : Nat → Bool} (h : ∀ k, can k = true → p k = true) : ∀ c, (cFold g can c).2.2 ≤ cntN p c
  | 0 => Nat.le_refl _
  | c + 1 => by
    have ih := cF_cnt (g := g) h c
    unfold cFold cntN
    by_cases hc : can c = true
    · rw [if_pos hc, if_pos (h c hc)]
      show _ + 1 ≤ _ + 1
      omega
    · rw [if_neg hc]
      omega
theorem cF_zero {g : Nat → Nat} {can : Nat → Bool} : ∀ c, (cFold g can c).2.2 = 0 → cFold g can c = (0, 0, 0)
  | 0, _ => rfl
  | c + 1, h => by
    unfold cFold at h ⊢
    by_cases hc : can c = true
    · rw [if_pos hc] at h
      exact absurd h (Nat.succ_ne_zero _)
    · rw [if_neg hc] at h ⊢
      exact cF_zero c h
theorem cF_four {T : TN} {q : SD} {o : Nat} {g : Nat → Nat} (h4 : four T) : ∀ c, c ≤ tC T → (cFold g (fun k => canN T q o k) c).2.2 ≤ 4 := by
  intro c hc
  have h1 := cF_cnt (g := g) (can := fun k => canN T q o k) (p := fun k => tF T k == q.1) (fun k hk => by
    unfold canN at hk
    rw [Bool.and_eq_true, Bool.and_eq_true] at hk
    exact hk.2.1) c
  have mono : ∀ x, cntN (fun k => tF T k == q.1) c ≤ cntN (fun k => tF T k == q.1) (c + x) := by
    intro x
    induction x with
    | zero => exact Nat.le_refl _
    | succ x ih =>
      rw [← Nat.add_assoc]
      exact Nat.le_trans ih (Nat.le_add_right _ _)
  have h2 := mono (tC T - c)
  rw [show c + (tC T - c) = tC T by omega] at h2
  have := h4 q.1
  omega
theorem d12 {N : Nat} (h0 : N ≠ 0) (h : N ≤ 4) : N ∣ 12 := by
  rcases (show N = 1 ∨ N = 2 ∨ N = 3 ∨ N = 4 by omega) with rfl | rfl | rfl | rfl <;> decide
theorem div12 {N S m : Nat} (h0 : N ≠ 0) (h : N ≤ 4) (hS : 12 * m ∣ S) : N ∣ S ∧ m ∣ S / N := by
  obtain ⟨t, ht⟩ := d12 h0 h
  obtain ⟨u, rfl⟩ := hS
  rw [ht]
  have e : N * t * m * u = N * (m * (t * u)) := by
    rw [Nat.mul_assoc, Nat.mul_assoc, Nat.mul_left_comm t m u]
  rw [e, Nat.mul_div_cancel_left _ (Nat.pos_of_ne_zero h0)]
  exact ⟨Nat.dvd_mul_right _ _, Nat.dvd_mul_right _ _⟩
theorem chV_zero {ch w : Nat} {x : Nat × Nat × Nat} (h : x = (0, 0, 0)) : chV ch w x = 0 := by
  subst h
  unfold chV
  rw [if_pos (Or.inr rfl)]
theorem chF_dvd {T : TN} {ch : Nat} (h4 : four T) : ∀ r, r ≤ 10 → ∀ q w, 12 ^ (10 - r) ∣ chF T ch r q w
  | 0, _, _, _ => Nat.dvd_zero _
  | r + 1, hr, q, w => by
    have ih := chF_dvd (ch := ch) h4 r (by omega)
    have e : 12 ^ (10 - r) = 12 * 12 ^ (10 - (r + 1)) := by
      rw [show 10 - r = (10 - (r + 1)) + 1 by omega, Nat.pow_succ']
    have hW : 12 ^ (10 - r) ∣ WH := by
      rw [show WH = 12 ^ 10 from rfl]
      exact Nat.pow_dvd_pow 12 (by omega)
    obtain ⟨a, b⟩ := cF_dvd (g := fun k => WH - chF T ch r (stepQ T q w k) (1 - w)) (can := fun k => canN T (q w) (q (1 - w)).1 k) (m := 12 ^ (10 - r)) (tC T) (fun k _ _ => Nat.dvd_sub hW (ih _ _))
    have c4 := cF_four (T := T) (q := q w) (o := (q (1 - w)).1) (g := fun k => WH - chF T ch r (stepQ T q w k) (1 - w)) h4 (tC T) (Nat.le_refl _)
    show 12 ^ (10 - (r + 1)) ∣ chV ch w (cFold _ _ _)
    unfold chV
    rw [e] at a b
    split
    · exact Nat.dvd_trans (Nat.dvd_mul_left _ _) a
    · rename_i hn
      exact (div12 (fun z => hn (Or.inr z)) c4 b).2
theorem chance_step {T : TN} {ch : Nat} {q : Nat → SD} {w : Nat} (hw : w < 2) (hv : vQ T q) : chance T ch q w = chV ch w (cFold (fun k => WH - chance T ch (stepQ T q w k) (1 - w)) (fun k => canN T (q w) (q (1 - w)).1 k) (tC T)) :=
  (chF_stable 10 q w hw (fsum_le hv)).symm
theorem chance_d12 {T : TN} {ch : Nat} {q : Nat → SD} {w : Nat} (h4 : four T) (hw : w < 2) (h : fsum q ≤ 9) : 12 ∣ chance T ch q w := by
  rw [← chF_ch hw 1 9 rfl h]
  exact chF_dvd h4 9 (by omega) q w
/-- who chooses and by which CHANGE: the two foldings agree -/
theorem bc_of {g : Nat → Nat} {can : Nat → Bool} : ∀ c, c < 2 ^ 31 → (bcN g can c).1 = (cFold g can c).1 ∧ ((bcN g can c).2 = -9 ↔ (cFold g can c).2.2 = 0)
  | 0, _ => ⟨rfl, ⟨fun _ => rfl, fun _ => rfl⟩⟩
  | c + 1, hb => by
    obtain ⟨h1, h2⟩ := bc_of (g := g) (can := can) c (by omega)
    unfold bcN cFold
    by_cases hc : can c = true
    · rw [if_pos hc]
      by_cases hm : (bcN g can c).2 = -9 ∨ (bcN g can c).1 < g c
      · rw [if_pos ⟨hc, hm⟩]
        refine ⟨?_, ⟨fun z => absurd z (ne_m9 (by omega)), fun z => absurd z (Nat.succ_ne_zero _)⟩⟩
        show g c = max _ _
        rcases hm with z | z
        · rw [cF_zero c (h2.mp z)]
          exact (Nat.max_eq_right (Nat.zero_le _)).symm
        · rw [← h1]
          exact (Nat.max_eq_right (by omega)).symm
      · rw [if_neg (fun z => hm z.2)]
        refine ⟨?_, ⟨fun z => absurd (Or.inl z) hm, fun z => absurd z (Nat.succ_ne_zero _)⟩⟩
        show _ = max _ _
        rw [← h1]
        exact (Nat.max_eq_left (by omega)).symm
    · rw [if_neg (fun z => hc z.1), if_neg hc]
      exact ⟨h1, h2⟩
/-- a chance seen from the FIGHTER at the root -/
def rt (d c : Nat) : Nat := if d % 2 = 0 then c else WH - c
def ac (o : Bool) (d : Nat) (x : Nat × Nat × Nat) : Nat := if o then x.1 else if d % 2 = 0 then x.2.1 else x.2.2 * WH - x.2.1
theorem rt_le {d c : Nat} (h : c ≤ WH) : rt d c ≤ WH := by
  unfold rt
  split
  · exact h
  · exact Nat.sub_le _ _
theorem ac_le {o : Bool} {d N : Nat} {x : Nat × Nat × Nat} (h0 : x.1 ≤ WH) (h1 : x.2.1 ≤ x.2.2 * WH) (h2 : x.2.2 ≤ N) (hN : 1 ≤ N) : ac o d x ≤ N * WH := by
  have h3 : x.2.2 * WH ≤ N * WH := Nat.mul_le_mul_right _ h2
  have h4 : 1 * WH ≤ N * WH := Nat.mul_le_mul_right _ hN
  unfold ac
  split
  · omega
  · split
    · omega
    · exact Nat.le_trans (Nat.sub_le _ _) h3
theorem ac_add {g : Nat → Nat} {can : Nat → Bool} {d k c : Nat} (hc : can k = true) (hle : c ≤ WH) (hg : g k = WH - c) (h1 : (cFold g can k).2.1 ≤ (cFold g can k).2.2 * WH) : ac false d (cFold g can (k + 1)) = ac false d (cFold g can k) + rt (d + 1) c := by
  have e : cFold g can (k + 1) = (max (cFold g can k).1 (g k), (cFold g can k).2.1 + g k, (cFold g can k).2.2 + 1) := by
    rw [cFold, if_pos hc]
  rw [e]
  unfold ac rt
  simp only [Bool.false_eq_true, if_false]
  by_cases h : d % 2 = 0
  · rw [if_pos h, if_pos h, if_neg (by omega), hg]
  · rw [if_neg h, if_neg h, if_pos (by omega), hg, Nat.add_mul]
    omega
theorem rt_close {d N : Nat} {x : Nat × Nat × Nat} (h : x.2.2 ∣ x.2.1) : rt d (x.2.1 / x.2.2) * x.2.2 = ac false d x := by
  unfold rt ac
  simp only [Bool.false_eq_true, if_false]
  split
  · exact Nat.div_mul_cancel h
  · rw [Nat.sub_mul, Nat.div_mul_cancel h, Nat.mul_comm]
theorem cF_skip {g : Nat → Nat} {can : Nat → Bool} {j : Nat} : ∀ m, (∀ x, j ≤ x → x < j + m → can x = false) → cFold g can (j + m) = cFold g can j ∧ bcN g can (j + m) = bcN g can j
  | 0, _ => ⟨rfl, rfl⟩
  | m + 1, h => by
    obtain ⟨h1, h2⟩ := cF_skip (g := g) m (fun x a b => h x a (by omega))
    have hc := h (j + m) (by omega) (by omega)
    rw [← Nat.add_assoc]
    exact ⟨by rw [cFold, if_neg (by rw [hc]; decide)]; exact h1, by rw [bcN, if_neg (fun z => by rw [hc] at z; exact Bool.noConfusion z.1)]; exact h2⟩
section
variable {G : GG} {D n : Nat} {I : Nat → Nat → Int32} {J : Nat → Nat → Int64} {Q : Option Value → MH → Prop}
theorem r_closes {both : Bool} {d S N P : Nat} (hd : d < 13) (hN : N ≤ 4) (hS : S ≤ 5 * WH) (hm : I 109 d = nI N) (hc : cM d S J) (h0 : N = 0 → P = rt d 0) (h1 : N ≠ 0 → both = false ∧ d % 2 = 0 → P = S) (h2 : N ≠ 0 → ¬ (both = false ∧ d % 2 = 0) → P * N = S) (h : ∀ J', cM d P J' → (∀ r x, (r ≠ 107 ∧ r ≠ 108) ∨ x ≠ d → J' r x = J r x) → Q none (SH n, I, J')) : MT G (D + 3) 240 [.ref 77, .int (nI d), .int (b2i both)] (SH n, I, J) Q := by
  have cd : (nI d).toNatClampNeg = d := nI_clamp (by omega)
  have fr : ∀ (u v : Int64) r x, (r ≠ 107 ∧ r ≠ 108) ∨ x ≠ d → upL (upL J 107 d u) 108 d v r x = J r x := fun u v r x hx => by
    unfold upL
    rw [if_neg (by omega), if_neg (by omega)]
  have eW : WH = 61917364224 := rfl
  refine MT.by ck240 (by decide) rfl (Nat.le_of_ble_eq_true rfl) rfl 300 [47] ?_
  conv => whnf
  try dsimp only
  refine ⟨in_nI hd (by decide), ?_⟩
  conv => whnf
  try dsimp only
  rw [cd, hm]
  refine ⟨fun z => ?_, fun z => ?_⟩
  · have z' : N ≠ 0 := fun y => z (by rw [y]; rfl)
    have run : ¬ (both = false ∧ d % 2 = 0) → EV G 240 (D + 2) 0 0 47 [.ref 77, .int (nI d), .int (b2i both)] [] (SH n, I, J) Q := by
      intro hn
      have hP := h2 z' hn
      have l1 := redL_pos S
      have l2 := Nat.le_of_dvd WH_pos (redL_dvd S)
      have u1 := redU_le hS
      have v1 : redL S * N ≤ WH * 4 := Nat.mul_le_mul l2 hN
      have v0 : 0 < redL S * N := Nat.mul_pos l1 (Nat.pos_of_ne_zero z')
      refine EV.at ck240 (by decide) 300 [] ?_
      conv => whnf
      try dsimp only
      refine ⟨in_nI hd (by decide), ?_⟩
      conv => whnf
      try dsimp only
      refine ⟨in_nI hd (by decide), ?_⟩
      conv => whnf
      try dsimp only
      refine ⟨in_nI hd (by decide), ?_⟩
      conv => whnf
      try dsimp only
      rw [cd, hm, hc.2, show (nI N).toInt64 = lN N from nI_l (by omega), lN_mul]
      refine ⟨trivial, r_lowest (u := redU S) (v := redL S * N) (P := P) hd (by omega) (by omega) v0 (by rw [upL_oth (by decide)]; exact hc.1) ul_same ?_ ?_⟩
      · rw [red_mul, ← hP, Nat.mul_assoc, Nat.mul_comm N]
      · refine EV.at ck240 (by decide) 300 [] ?_
        conv => whnf
        try dsimp only
        refine ⟨trivial, h _ ⟨by rw [upL_oth (by decide), ul_same], ul_same⟩ (fun r x hx => ?_)⟩
        unfold upL
        rw [if_neg (by omega), if_neg (by omega), if_neg (by omega)]
    cases hb : both
    · rw [hb] at run h1
      refine ⟨fun y => absurd rfl y, fun _ => ?_⟩
      conv => whnf
      try dsimp only
      refine ⟨by decide, ?_⟩
      conv => whnf
      try dsimp only
      rw [rem2 (show d < 65536 by omega)]
      refine ⟨fun y => ?_, fun y => ?_⟩
      · have y' : d % 2 = 0 := by
          rcases (show d % 2 = 0 ∨ d % 2 = 1 by omega) with e | e
          · exact e
          · exact absurd (by rw [e]; rfl) y
        rw [h1 z' ⟨rfl, y'⟩] at h
        conv => whnf
        try dsimp only
        exact ⟨trivial, h J hc (fun _ _ _ => rfl)⟩
      · have y' : ¬ d % 2 = 0 := fun e => by
          rw [e] at y
          exact absurd y (by decide)
        conv => whnf
        try dsimp only
        exact ⟨trivial, run (fun e => y' e.2)⟩
    · rw [hb] at run
      refine ⟨fun _ => ?_, fun y => absurd y (by decide)⟩
      conv => whnf
      try dsimp only
      exact ⟨trivial, run (fun e => Bool.noConfusion e.1)⟩
  · have z' : N = 0 := (nu_eq (by omega) (by decide)).mp z
    have hP := h0 z'
    conv => whnf
    try dsimp only
    refine ⟨by decide, ?_⟩
    conv => whnf
    try dsimp only
    rw [rem2 (show d < 65536 by omega)]
    refine ⟨fun y => ?_, fun y => ?_⟩
    · have y' : ¬ d % 2 = 0 := fun e => by
        rw [e] at y
        exact absurd rfl y
      have hP : P = WH := by rw [hP]; unfold rt; rw [if_neg y', Nat.sub_zero]
      rw [hP] at h
      conv => whnf
      try dsimp only
      refine ⟨in_nI hd (by decide), ?_⟩
      conv => whnf
      try dsimp only
      refine ⟨in_nI hd (by decide), ?_⟩
      conv => whnf
      try dsimp only
      rw [cd]
      exact ⟨trivial, h _ ⟨by rw [upL_oth (by decide), ul_same, red_W.1]; rfl, by rw [ul_same, red_W.2]; rfl⟩ (fr _ _)⟩
    · have y' : d % 2 = 0 := (nu_eq (by omega) (by decide)).mp y
      have hP : P = 0 := by rw [hP]; unfold rt; rw [if_pos y']
      rw [hP] at h
      conv => whnf
      try dsimp only
      refine ⟨in_nI hd (by decide), ?_⟩
      conv => whnf
      try dsimp only
      refine ⟨in_nI hd (by decide), ?_⟩
      conv => whnf
      try dsimp only
      rw [cd]
      exact ⟨trivial, h _ ⟨by rw [upL_oth (by decide), ul_same, red_0.1]; rfl, by rw [ul_same, red_0.2]; rfl⟩ (fr _ _)⟩
end
