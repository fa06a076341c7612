/-! the fight solved: in how many CHANGES it ends (the class's Search, cell 31) -/
def betN (a b : Nat) : Nat := if (b % 2 = 1) ↔ (a % 2 = 1) then (if b % 2 = 1 then min a b else max a b) else (if b % 2 = 1 then b else a)
theorem betN_le {a b m : Nat} (ha : a ≤ m) (hb : b ≤ m) : betN a b ≤ m := by
  unfold betN
  split
  · split <;> omega
  · split <;> omega
/-- the fighters behind a CHANGE of w -/
def stepQ (T : TN) (q : Nat → SD) (w k : Nat) : Nat → SD := fun v => if v = w then stepS T (q w) k (takesN T (q w) (q (1 - w)).1 k) else q v
def eFold (g : Nat → Nat) (can : Nat → Bool) : Nat → Nat
  | 0 => 0
  | k + 1 => if can k then betN (eFold g can k) (1 + g k) else eFold g can k
def endsF (T : TN) : Nat → (Nat → SD) → Nat → Nat
  | 0, _, _ => 0
  | f + 1, q, w => eFold (fun k => endsF T f (stepQ T q w k) (1 - w)) (fun k => canN T (q w) (q (1 - w)).1 k) (tC T)
def ends (T : TN) (q : Nat → SD) (w : Nat) : Nat := endsF T 10 q w
def fsum (q : Nat → SD) : Nat := (q 0).2.1 + (q 1).2.1
def vQ (T : TN) (q : Nat → SD) : Prop := sOK T (q 0) ∧ sOK T (q 1)
theorem eFold_le {g : Nat → Nat} {can : Nat → Bool} {m : Nat} (h : ∀ k, g k ≤ m) : ∀ c, eFold g can c ≤ m + 1
  | 0 => Nat.zero_le _
  | c + 1 => by
    unfold eFold
    split
    · exact betN_le (eFold_le h c) (by have := h c; omega)
    · exact eFold_le h c
theorem endsF_le (T : TN) : ∀ f q w, endsF T f q w ≤ f
  | 0, _, _ => Nat.le_refl 0
  | f + 1, q, w => eFold_le (fun k => endsF_le T f _ _) _
theorem eFold_congr {g g' : Nat → Nat} {can : Nat → Bool} : ∀ c, (∀ k, k < c → can k = true → g k = g' k) → eFold g can c = eFold g' can c
  | 0, _ => rfl
  | c + 1, h => by
    unfold eFold
    rw [eFold_congr c (fun k hk => h k (by omega))]
    by_cases hc : can c = true
    · rw [if_pos hc, if_pos hc, h c (by omega) hc]
    · rw [if_neg hc, if_neg hc]
theorem can_price {T : TN} {q : SD} {o k : Nat} (h : canN T q o k = true) : takesN T q o k ≤ q.2.1 ∧ 1 ≤ takesN T q o k := by
  have h2 : priceN T k o ≤ q.2.1 := by
    unfold canN at h
    simp only [Bool.and_eq_true, decide_eq_true_eq] at h
    exact h.2.2.2.2
  have h3 : 1 ≤ priceN T k o := by unfold priceN; omega
  unfold takesN
  rw [if_pos h]
  exact ⟨h2, h3⟩
theorem fsum_step {T : TN} {q : Nat → SD} {w k : Nat} (hw : w < 2) (h : canN T (q w) (q (1 - w)).1 k = true) : fsum (stepQ T q w k) + 1 ≤ fsum q := by
  obtain ⟨h1, h2⟩ := can_price h
  rcases (show w = 0 ∨ w = 1 by omega) with rfl | rfl
  · show (q 0).2.1 - _ + (q 1).2.1 + 1 ≤ (q 0).2.1 + (q 1).2.1
    omega
  · show (q 0).2.1 + ((q 1).2.1 - _) + 1 ≤ (q 0).2.1 + (q 1).2.1
    omega
theorem eFold_none {g : Nat → Nat} {can : Nat → Bool} : ∀ c, (∀ k, k < c → can k = false) → eFold g can c = 0
  | 0, _ => rfl
  | c + 1, h => by
    unfold eFold
    rw [h c (by omega)]
    exact eFold_none c (fun k hk => h k (by omega))
theorem endsF_stable {T : TN} : ∀ f q w, w < 2 → fsum q ≤ f → endsF T (f + 1) q w = endsF T f q w
  | 0, q, w, hw, h => by
    show eFold _ _ _ = 0
    refine eFold_none _ (fun k _ => ?_)
    cases hc : canN T (q w) (q (1 - w)).1 k with
    | false => rfl
    | true => exact absurd (fsum_step hw hc) (by omega)
  | f + 1, q, w, hw, h => by
    show eFold _ _ _ = eFold _ _ _
    refine eFold_congr _ (fun k _ hc => ?_)
    exact endsF_stable f _ _ (by omega) (by have := fsum_step hw hc; omega)
theorem endsF_ends {T : TN} {q : Nat → SD} {w : Nat} (hw : w < 2) : ∀ m f, f + m = 10 → fsum q ≤ f → endsF T f q w = ends T q w
  | 0, f, hf, _ => by have : f = 10 := hf; subst this; rfl
  | m + 1, f, hf, h => by
    rw [← endsF_stable f q w hw h]
    exact endsF_ends hw m (f + 1) (by omega) (by omega)
theorem stepQ_congr {T : TN} {q q' : Nat → SD} {w k : Nat} (hw : w < 2) (h0 : q 0 = q' 0) (h1 : q 1 = q' 1) : stepQ T q w k 0 = stepQ T q' w k 0 ∧ stepQ T q w k 1 = stepQ T q' w k 1 := by
  rcases (show w = 0 ∨ w = 1 by omega) with rfl | rfl <;> simp [stepQ, h0, h1]
theorem endsF_congr {T : TN} : ∀ f (q q' : Nat → SD) w, w < 2 → q 0 = q' 0 → q 1 = q' 1 → endsF T f q w = endsF T f q' w
  | 0, _, _, _, _, _, _ => rfl
  | f + 1, q, q', w, hw, h0, h1 => by
    have hc : (fun k => canN T (q w) (q (1 - w)).1 k) = (fun k => canN T (q' w) (q' (1 - w)).1 k) := by
      rcases (show w = 0 ∨ w = 1 by omega) with rfl | rfl <;> simp [h0, h1]
    show eFold _ _ _ = eFold _ _ _
    rw [hc]
    refine eFold_congr _ (fun k _ _ => ?_)
    obtain ⟨a, b⟩ := stepQ_congr (T := T) (k := k) hw h0 h1
    exact endsF_congr f _ _ _ (by omega) a b
theorem vQ_step {T : TN} {q : Nat → SD} {w k : Nat} (hT : tOK T) (hw : w < 2) (hk : k < tC T) (hv : vQ T q) : vQ T (stepQ T q w k) := by
  have hs : ∀ x : SD, ∀ t, sOK T x → sOK T (stepS T x k t) := by
    intro x t hx
    have hi := (hT.2.2.2 k hk).2.1
    have h5 := hT.1
    refine ⟨hi, by show x.2.1 - t ≤ 5; have := hx.2.1; omega, ?_, hx.2.2.2⟩
    show x.2.2.1 ||| 2 ^ tI T k < 2 ^ 5
    exact Nat.or_lt_two_pow hx.2.2.1 (Nat.pow_lt_pow_right (by decide) (by omega))
  rcases (show w = 0 ∨ w = 1 by omega) with rfl | rfl
  · exact ⟨hs _ _ hv.1, hv.2⟩
  · exact ⟨hv.1, hs _ _ hv.2⟩
theorem knows_step {T : TN} {q : Nat → SD} {w k v : Nat} : (stepQ T q w k v).2.2.2 = (q v).2.2.2 := by
  unfold stepQ
  split
  · rename_i h; rw [h]; rfl
  · rfl
theorem sS_of {T : TN} {x : SD} (hT : tOK T) (h : sOK T x) : sS x := ⟨by have := h.1; have := hT.1; omega, by have := h.2.1; omega, h.2.2.1⟩
-- ===== memories that differ in the fighters alone
theorem sd_oth {I : Nat → Nat → Int32} {c a b u r : Nat} (h : r ≠ c) : sdI I c a b u r = I r := by
  funext k
  simp [sdI, h]
theorem tMem_of {T : TN} {I I' : Nat → Nat → Int32} (h : ∀ r, r < 12 → I' r = I r) (hM : tMem T I) : tMem T I' := by
  unfold tMem at *
  rw [h 6 (by omega), h 7 (by omega), h 8 (by omega), h 9 (by omega), h 10 (by omega), h 11 (by omega)]
  exact hM
theorem EX_of {I I' : Nat → Nat → Int32} (h : ∀ r, r < 12 → I' r = I r) (hE : EX I) : EX I' := by
  unfold EX at *
  rw [h 1 (by omega), h 2 (by omega)]
  exact hE
theorem sMem_sd {I : Nat → Nat → Int32} {c : Nat} {q : SD} {x : SD} (h : sMem c q I) (hx : x.2.2.2 = q.2.2.2) : sMem c x (sdI I c x.1 x.2.1 x.2.2.1) := ⟨by simp [sdI], by simp [sdI], by simp [sdI], by rw [hx, ← h.2.2.2]; simp [sdI]⟩
theorem sMem_oth {I I' : Nat → Nat → Int32} {c : Nat} {q : SD} (h : sMem c q I) (he : I' c = I c) : sMem c q I' := by
  unfold sMem at *
  rw [he]
  exact h
theorem sd_comm {I : Nat → Nat → Int32} {c c' a b u a' b' u' : Nat} (h : c ≠ c') : sdI (sdI I c a b u) c' a' b' u' = sdI (sdI I c' a' b' u') c a b u := by
  funext r k
  by_cases hr : r = c
  · subst hr
    rw [sd_oth (I := sdI I r a b u) h]
    unfold sdI
    simp [h]
  · by_cases hr' : r = c'
    · subst hr'
      rw [sd_oth (I := sdI I r a' b' u') hr]
      unfold sdI
      simp [hr]
    · rw [sd_oth hr', sd_oth hr, sd_oth hr, sd_oth hr']
/-- the memory behind a CHANGE of w -/
def stI (T : TN) (I : Nat → Nat → Int32) (q : Nat → SD) (w k : Nat) : Nat → Nat → Int32 := sdI I (14 + w) (stepQ T q w k w).1 (stepQ T q w k w).2.1 (stepQ T q w k w).2.2.1
theorem stI_lo {T : TN} {I : Nat → Nat → Int32} {q : Nat → SD} {w k r : Nat} (h : r < 12) : stI T I q w k r = I r := sd_oth (by omega)
theorem fMem_st {T : TN} {I : Nat → Nat → Int32} {q : Nat → SD} {w k : Nat} (hw : w < 2) (hm : fMem q I) : fMem (stepQ T q w k) (stI T I q w k) := by
  rcases (show w = 0 ∨ w = 1 by omega) with rfl | rfl
  · exact ⟨sMem_sd hm.1 knows_step, sMem_oth hm.2 (sd_oth (by decide))⟩
  · exact ⟨sMem_oth hm.1 (sd_oth (by decide)), sMem_sd hm.2 knows_step⟩
theorem fd_st {T : TN} {I : Nat → Nat → Int32} {q : Nat → SD} {w k : Nat} (hw : w < 2) (hm : fMem q I) : fdI (stI T I q w k) q = I := by
  unfold fdI stI
  rcases (show w = 0 ∨ w = 1 by omega) with rfl | rfl
  · show sdI (sdI (sdI I 14 _ _ _) 14 _ _ _) 15 _ _ _ = I
    rw [sd_sd, sd_self hm.1, sd_self hm.2]
  · show sdI (sdI (sdI I 15 _ _ _) 14 _ _ _) 15 _ _ _ = I
    rw [sd_comm (c := 15) (c' := 14) (by decide), sd_sd, sd_self hm.1, sd_self hm.2]
section
variable {G : GG} {d n : Nat} {I : Nat → Nat → Int32} {J : Nat → Nat → Int64} {Q : Option Value → MH → Prop} {T : TN} {q : Nat → SD}
theorem c_step {k w : Nat} (hw : w < 2) (hT : tOK T) (hM : tMem T I) (hm : fMem q I) (hv : vQ T q) (hk : k < tC T) (hc : canN T (q w) (q (1 - w)).1 k = true) (h : Q none (SH n, stI T I q w k, J)) : MT G (d + 1) 8 [.ref 12, .int (nI w), .int (nI k), .int (nI (takesN T (q w) (q (1 - w)).1 k))] (SH n, I, J) Q := by
  have ht := (can_price hc).1
  rcases (show w = 0 ∨ w = 1 by omega) with rfl | rfl
  · exact c_step0 hT hM hm hv.1 hk ht h
  · exact c_step1 hT hM hm hv.2 hk ht h
theorem odd_nI {a : Nat} (ha : a < 65536) : (nI a &&& 1 = 1) ↔ a % 2 = 1 := by
  rw [nu_a1 (by omega)]
  exact nI_eq (b := 1) (by omega) (by decide)
theorem c_better {σ : MH} {a b : Nat} (ha : a < 65536) (hb : b < 65536) (h : Q (some (.int (nI (betN a b)))) σ) : MT G (d + 1) 47 [.int (nI a), .int (nI b)] σ Q := by
  have mn : jmin (nI a) (nI b) = nI (min a b) := by
    unfold jmin
    by_cases z : b < a
    · rw [if_pos ((nI_ltI (by omega) (by omega)).mpr z), Nat.min_eq_right (by omega)]
    · rw [if_neg (fun y => z ((nI_ltI (by omega) (by omega)).mp y)), Nat.min_eq_left (by omega)]
  have mx : jmax (nI a) (nI b) = nI (max a b) := by
    unfold jmax
    by_cases z : a < b
    · rw [if_pos ((nI_ltI (by omega) (by omega)).mpr z), Nat.max_eq_right (by omega)]
    · rw [if_neg (fun y => z ((nI_ltI (by omega) (by omega)).mp y)), Nat.max_eq_left (by omega)]
  unfold betN at h
  refine MT.by ck47 (by decide) rfl (Nat.le_of_ble_eq_true rfl) rfl 300 [] ?_
  conv => whnf
  try dsimp only
  refine ⟨fun h1 => ?_, fun h1 => ?_⟩
  · have g1 : ¬ b % 2 = 1 := fun z => h1 ((odd_nI hb).mpr z)
    conv => whnf
    try dsimp only
    refine ⟨fun h2 => ?_, fun h2 => ?_⟩
    · have g2 : ¬ a % 2 = 1 := fun z => h2 ((odd_nI ha).mpr z)
      rw [if_pos (by simp only [g1, g2]), if_neg g1] at h
      conv => whnf
      try dsimp only
      refine ⟨fun _ => ?_, fun h3 => absurd rfl h3⟩
      conv => whnf
      try dsimp only
      refine ⟨fun _ => ?_, fun h3 => absurd rfl h3⟩
      conv => whnf
      try dsimp only
      rw [mx]
      exact ⟨trivial, h⟩
    · have g2 : a % 2 = 1 := (odd_nI ha).mp h2
      rw [if_neg (by simp only [g1, g2]; decide), if_neg g1] at h
      conv => whnf
      try dsimp only
      refine ⟨fun h3 => absurd h3 (by decide), fun _ => ?_⟩
      conv => whnf
      try dsimp only
      refine ⟨fun _ => ?_, fun h3 => absurd rfl h3⟩
      conv => whnf
      try dsimp only
      exact ⟨trivial, h⟩
  · have g1 : b % 2 = 1 := (odd_nI hb).mp h1
    conv => whnf
    try dsimp only
    refine ⟨fun h2 => ?_, fun h2 => ?_⟩
    · have g2 : ¬ a % 2 = 1 := fun z => h2 ((odd_nI ha).mpr z)
      rw [if_neg (by simp only [g1, g2]; decide), if_pos g1] at h
      conv => whnf
      try dsimp only
      refine ⟨fun h3 => absurd h3 (by decide), fun _ => ?_⟩
      conv => whnf
      try dsimp only
      refine ⟨fun h3 => absurd h3 (by decide), fun _ => ?_⟩
      conv => whnf
      try dsimp only
      exact ⟨trivial, h⟩
    · have g2 : a % 2 = 1 := (odd_nI ha).mp h2
      rw [if_pos (by simp only [g1, g2]), if_pos g1] at h
      conv => whnf
      try dsimp only
      refine ⟨fun _ => ?_, fun h3 => absurd rfl h3⟩
      conv => whnf
      try dsimp only
      refine ⟨fun h3 => absurd h3 (by decide), fun _ => ?_⟩
      conv => whnf
      try dsimp only
      rw [mn]
      exact ⟨trivial, h⟩
end
