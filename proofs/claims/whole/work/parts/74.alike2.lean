/-! alike: all codes against the search -/
/-- sums and unions over a range -/
def wS (h : Nat → Nat × Nat) : Nat → Nat × Nat
  | 0 => (0, 0)
  | m + 1 => ((wS h m).1 + (h m).1, (wS h m).2 ||| (h m).2)
theorem wS_congr {h k : Nat → Nat × Nat} : ∀ m, (∀ x, x < m → h x = k x) → wS h m = wS k m
  | 0, _ => rfl
  | m + 1, e => by rw [wS, wS, wS_congr m (fun x hx => e x (by omega)), e m (by omega)]
theorem wS_zero {h : Nat → Nat × Nat} : ∀ m, (∀ x, x < m → h x = (0, 0)) → wS h m = (0, 0)
  | 0, _ => rfl
  | m + 1, e => by rw [wS, wS_zero m (fun x hx => e x (by omega)), e m (by omega)]; rfl
theorem wS_app (h : Nat → Nat × Nat) (a : Nat) : ∀ b, wS h (a + b) = ((wS h a).1 + (wS (fun x => h (a + x)) b).1, (wS h a).2 ||| (wS (fun x => h (a + x)) b).2)
  | 0 => by simp [wS]
  | b + 1 => by
    rw [← Nat.add_assoc, wS, wS_app h a b, wS]
    simp only [Nat.add_assoc, Nat.or_assoc]
theorem wS_two (h k : Nat → Nat × Nat) : ∀ m, wS (fun x => ((h x).1 + (k x).1, (h x).2 ||| (k x).2)) m = ((wS h m).1 + (wS k m).1, (wS h m).2 ||| (wS k m).2)
  | 0 => by simp [wS]
  | m + 1 => by
    rw [wS, wS_two h k m, wS, wS]
    refine Prod.ext ?_ ?_
    · show _ + _ + (_ + _) = _ + _ + (_ + _)
      omega
    · show (_ ||| _) ||| (_ ||| _) = (_ ||| _) ||| (_ ||| _)
      rw [Nat.or_assoc, Nat.or_assoc]
      congr 1
      rw [← Nat.or_assoc, ← Nat.or_assoc, Nat.or_comm (wS k m).2]
theorem wS_swap (h : Nat → Nat → Nat × Nat) (n : Nat) : ∀ m, wS (fun i => wS (fun j => h i j) n) m = wS (fun j => wS (fun i => h i j) m) n
  | 0 => by
    rw [wS_zero (h := fun j => wS (fun i => h i j) 0) n (fun x _ => rfl)]
    rfl
  | m + 1 => by
    rw [wS, wS_swap h n m]
    exact (wS_two _ _ n).symm
theorem wS_block (h : Nat → Nat × Nat) (s : Nat) : ∀ N, wS h (s * N) = wS (fun c => wS (fun p => h (s * c + p)) s) N
  | 0 => rfl
  | N + 1 => by
    rw [Nat.mul_succ, wS_app, wS_block h s N]
    rfl
theorem wS_digit (h : Nat → Nat × Nat) (s N : Nat) : wS h (s * N) = wS (fun p => wS (fun c => h (s * c + p)) N) s := by
  rw [wS_block]
  exact wS_swap (fun c p => h (s * c + p)) s N
theorem alW_wS {h : Nat → Nat × Nat} {c : Nat → Bool} : ∀ m, alW h c m = wS (fun p => if c p then h p else (0, 0)) m
  | 0 => rfl
  | m + 1 => by
    rw [alW, wS, alW_wS m]
    split
    · rfl
    · rw [Nat.add_zero, Nat.or_zero]
/-- the placing that a code stands for -/
def extG (s : Nat) : Nat → Nat → (Nat → Nat) → Nat → Nat → Nat
  | 0, _, g, _ => g
  | m + 1, i, g, c => extG s m (i + 1) (setG g i (c % s)) (c / s)
theorem ext_old {s : Nat} : ∀ m i g c x, x < i → extG s m i g c x = g x
  | 0, _, _, _, _, _ => rfl
  | m + 1, i, g, c, x, hx => by
    rw [extG, ext_old m (i + 1) _ _ x (by omega)]
    unfold setG
    rw [if_neg (by omega)]
theorem ext_lt {s : Nat} (hs : 0 < s) : ∀ m i g c x, i ≤ x → x < i + m → extG s m i g c x < s
  | 0, _, _, _, _, h1, h2 => by omega
  | m + 1, i, g, c, x, h1, h2 => by
    rw [extG]
    by_cases hx : x = i
    · subst hx
      rw [ext_old m (x + 1) _ _ x (by omega)]
      unfold setG
      rw [if_pos rfl]
      exact Nat.mod_lt _ hs
    · exact ext_lt hs m (i + 1) _ _ x (by omega) (by omega)
def orG (g : Nat → Nat) : Nat → Nat
  | 0 => 0
  | i + 1 => orG g i ||| 2 ^ g i
theorem orG_congr {g k : Nat → Nat} : ∀ i, (∀ x, x < i → g x = k x) → orG g i = orG k i
  | 0, _ => rfl
  | i + 1, e => by rw [orG, orG, orG_congr i (fun x hx => e x (by omega)), e i (by omega)]
theorem ftB_congr {T : TN} {g k : Nat → Nat} {i p : Nat} : ∀ m, (∀ x, x < m → g x = k x) → ftB T g i p m = ftB T k i p m
  | 0, _ => rfl
  | m + 1, e => by rw [ftB, ftB, ftB_congr m (fun x hx => e x (by omega)), e m (by omega)]
/-- what the search asks of the first places -/
def preG (T : TN) (g : Nat → Nat) : Nat → Bool
  | 0 => true
  | i + 1 => preG T g i && (!((orG g i).testBit (g i)) && ftB T g i (g i) i)
theorem pre_congr {T : TN} {g k : Nat → Nat} : ∀ i, (∀ x, x < i → g x = k x) → preG T g i = preG T k i
  | 0, _ => rfl
  | i + 1, e => by
    rw [preG, preG, pre_congr i (fun x hx => e x (by omega)), e i (by omega), orG_congr i (fun x hx => e x (by omega)), ftB_congr i (fun x hx => e x (by omega))]
theorem pre_more {T : TN} {g : Nat → Nat} {i : Nat} (h : preG T g i = false) : ∀ m, preG T g (i + m) = false
  | 0 => h
  | m + 1 => by rw [← Nat.add_assoc, preG, pre_more h m]; rfl
def valG (T : TN) (g : Nat → Nat) : Nat × Nat := if preG T g (tS T) then (1, mvN g (tS T)) else (0, 0)
theorem ext_no {T : TN} {m i : Nat} {g : Nat → Nat} (him : i + m = tS T) (h : preG T g i = false) (c : Nat) : valG T (extG (tS T) m i g c) = (0, 0) := by
  have h1 : preG T (extG (tS T) m i g c) i = false := by
    rw [pre_congr i (fun x hx => ext_old m i g c x hx)]
    exact h
  have h2 := pre_more h1 m
  rw [him] at h2
  unfold valG
  rw [if_neg (by rw [h2]; decide)]
theorem set_old {g : Nat → Nat} {i p : Nat} : ∀ x, x < i → setG g i p x = g x := fun x hx => by
  unfold setG
  rw [if_neg (by omega)]
theorem set_at {g : Nat → Nat} {i p : Nat} : setG g i p i = p := by
  unfold setG
  rw [if_pos rfl]
theorem alF_code {T : TN} (hs : 0 < tS T) : ∀ m i g, i + m = tS T → preG T g i = true → alF T m i (orG g i) g = wS (fun c => valG T (extG (tS T) m i g c)) (tS T ^ m)
  | 0, i, g, him, h => by
    have him : i = tS T := him
    rw [him] at h
    show (1, mvN g (tS T)) = wS _ 1
    simp only [wS, extG]
    unfold valG
    rw [if_pos h, Nat.zero_add, Nat.zero_or]
  | m + 1, i, g, him, h => by
    rw [Nat.pow_succ, Nat.mul_comm, wS_digit]
    show alW _ _ _ = _
    rw [alW_wS]
    refine wS_congr _ (fun p hp => ?_)
    have hm : ∀ c, extG (tS T) (m + 1) i g (tS T * c + p) = extG (tS T) m (i + 1) (setG g i p) c := fun c => by
      rw [extG, Nat.mul_add_mod, Nat.mod_eq_of_lt hp, Nat.mul_add_div hs, Nat.div_eq_of_lt hp]
      rfl
    have eo : orG (setG g i p) (i + 1) = orG g i ||| 2 ^ p := by
      rw [orG, set_at, orG_congr i set_old]
    have ep : preG T (setG g i p) (i + 1) = (!((orG g i).testBit p) && ftB T g i p i) := by
      rw [preG, set_at, pre_congr i set_old, orG_congr i set_old, ftB_congr i set_old, h, Bool.true_and]
    rw [wS_congr (k := fun c => valG T (extG (tS T) m (i + 1) (setG g i p) c)) _ (fun c _ => by rw [hm])]
    by_cases hc : (!((orG g i).testBit p) && ftB T g i p i) = true
    · rw [if_pos hc]
      have := alF_code hs m (i + 1) (setG g i p) (by omega) (by rw [ep]; exact hc)
      rw [eo] at this
      exact this
    · rw [if_neg hc]
      exact (wS_zero _ (fun c _ => ext_no (by omega) (by rw [ep]; exact Bool.eq_false_iff.mpr hc) c)).symm
theorem alN_code {T : TN} : alN T = wS (fun c => valG T (extG (tS T) (tS T) 0 (fun _ => 0) c)) (tS T ^ tS T) := by
  rcases Nat.eq_zero_or_pos (tS T) with h0 | h0
  · unfold alN
    rw [h0]
    show (1, mvN _ (tS T)) = wS _ 1
    simp only [wS, extG]
    unfold valG
    rw [h0]
    simp [preG, mvN]
  · exact alF_code h0 (tS T) 0 (fun _ => 0) (Nat.zero_add _) rfl
theorem pc_set : ∀ x, x < 32 → ∀ p, p < 5 → pcN 12 (x ||| 2 ^ p) = pcN 12 x + (if x.testBit p then 0 else 1) ∧ x ||| 2 ^ p < 32 := by decide +kernel
theorem pc_full : ∀ s, s < 6 → ∀ x, x < 2 ^ s → (x = 2 ^ s - 1 ↔ pcN 12 x = s) := by decide +kernel
theorem orG_lt {g : Nat → Nat} {s : Nat} : ∀ i, (∀ x, x < i → g x < s) → orG g i < 2 ^ s
  | 0, _ => Nat.two_pow_pos _
  | i + 1, h => by
    rw [orG]
    exact Nat.or_lt_two_pow (orG_lt i (fun x hx => h x (by omega))) (Nat.pow_lt_pow_right (by decide) (h i (by omega)))
/-- no place twice -/
def freG (g : Nat → Nat) : Nat → Bool
  | 0 => true
  | i + 1 => freG g i && !((orG g i).testBit (g i))
theorem fre_pc {g : Nat → Nat} {s : Nat} (hs : s < 6) : ∀ i, (∀ x, x < i → g x < s) → pcN 12 (orG g i) ≤ i ∧ (pcN 12 (orG g i) = i ↔ freG g i = true)
  | 0, _ => ⟨by show pcN 12 0 ≤ 0; decide, ⟨fun _ => rfl, fun _ => by show pcN 12 0 = 0; decide⟩⟩
  | i + 1, h => by
    obtain ⟨h1, h2⟩ := fre_pc (g := g) hs i (fun x hx => h x (by omega))
    have hl := orG_lt (g := g) (s := s) i (fun x hx => h x (by omega))
    have h32 : 2 ^ s ≤ 2 ^ 5 := Nat.pow_le_pow_right (by decide) (by omega)
    have hp := (pc_set (orG g i) (by omega) (g i) (by have := h i (by omega); omega)).1
    rw [orG, hp, freG]
    cases hb : (orG g i).testBit (g i)
    · rw [if_neg (by decide)]
      refine ⟨by omega, ?_⟩
      rw [Bool.not_false, Bool.and_true, ← h2]
      omega
    · rw [if_pos rfl]
      refine ⟨by omega, ⟨fun z => by omega, fun z => ?_⟩⟩
      rw [Bool.not_true, Bool.and_false] at z
      exact Bool.noConfusion z
theorem fre_full {g : Nat → Nat} {s : Nat} (hs : s < 6) (h : ∀ x, x < s → g x < s) : (orG g s = 2 ^ s - 1) ↔ freG g s = true := by
  rw [pc_full s hs (orG g s) (orG_lt s h), (fre_pc hs s h).2]
/-- the reference's own asking: all pairs, one after the other -/
def okG (T : TN) (g : Nat → Nat) : Nat → Bool
  | 0 => decide (orG g (tS T) = 2 ^ tS T - 1)
  | k + 1 => okG T g k && (btT T (k / tS T) (k % tS T) == btT T (g (k / tS T)) (g (k % tS T)))
theorem okG_iff {T : TN} {g : Nat → Nat} : ∀ k, (okG T g k = true ↔ (orG g (tS T) = 2 ^ tS T - 1) ∧ ∀ j, j < k → btT T (j / tS T) (j % tS T) = btT T (g (j / tS T)) (g (j % tS T)))
  | 0 => by
    unfold okG
    rw [decide_eq_true_iff]
    exact ⟨fun h => ⟨h, fun j hj => absurd hj (Nat.not_lt_zero j)⟩, fun h => h.1⟩
  | k + 1 => by
    rw [okG, Bool.and_eq_true, okG_iff k, beq_iff_eq]
    constructor
    · rintro ⟨⟨h1, h2⟩, h3⟩
      refine ⟨h1, fun j hj => ?_⟩
      by_cases e : j = k
      · subst e; exact h3
      · exact h2 j (by omega)
    · rintro ⟨h1, h2⟩
      exact ⟨⟨h1, fun j hj => h2 j (by omega)⟩, h2 k (by omega)⟩
theorem ftB_iff {T : TN} {g : Nat → Nat} {i p : Nat} : ∀ m, (ftB T g i p m = true ↔ ∀ j, j < m → btT T i j = btT T p (g j) ∧ btT T j i = btT T (g j) p)
  | 0 => ⟨fun _ j hj => absurd hj (Nat.not_lt_zero j), fun _ => rfl⟩
  | m + 1 => by
    rw [ftB, Bool.and_eq_true, Bool.and_eq_true, beq_iff_eq, beq_iff_eq, ftB_iff m]
    constructor
    · rintro ⟨h1, h2⟩ j hj
      by_cases e : j = m
      · subst e; exact h2
      · exact h1 j (by omega)
    · intro h
      exact ⟨fun j hj => h j (by omega), h m (by omega)⟩
theorem pre_iff {T : TN} {g : Nat → Nat} : ∀ i, (preG T g i = true ↔ freG g i = true ∧ ∀ x, x < i → ftB T g x (g x) x = true)
  | 0 => ⟨fun _ => ⟨rfl, fun x hx => absurd hx (Nat.not_lt_zero x)⟩, fun _ => rfl⟩
  | i + 1 => by
    rw [preG, Bool.and_eq_true, Bool.and_eq_true, pre_iff i, freG, Bool.and_eq_true]
    constructor
    · rintro ⟨⟨h1, h2⟩, h3, h4⟩
      refine ⟨⟨h1, h3⟩, fun x hx => ?_⟩
      by_cases e : x = i
      · subst e; exact h4
      · exact h2 x (by omega)
    · rintro ⟨⟨h1, h3⟩, h2⟩
      exact ⟨⟨h1, fun x hx => h2 x (by omega)⟩, h3, h2 i (by omega)⟩
theorem ok_pre {T : TN} {g : Nat → Nat} (h5 : tS T ≤ 5) (hN : ∀ i, i < tS T → btT T i i = false) (h : ∀ x, x < tS T → g x < tS T) : okG T g (tS T * tS T) = preG T g (tS T) := by
  rw [Bool.eq_iff_iff, okG_iff, pre_iff, fre_full (by omega) h]
  constructor
  · rintro ⟨h1, h2⟩
    refine ⟨h1, fun x hx => (ftB_iff x).mpr (fun j hj => ?_)⟩
    have hs : 0 < tS T := by omega
    have key : ∀ a b, a < tS T → b < tS T → btT T a b = btT T (g a) (g b) := fun a b ha hb => by
      have hlt : tS T * a + b < tS T * tS T := by
        have : tS T * (a + 1) ≤ tS T * tS T := Nat.mul_le_mul_left _ ha
        rw [Nat.mul_succ] at this
        omega
      have := h2 (tS T * a + b) hlt
      rw [Nat.mul_add_div hs, Nat.div_eq_of_lt hb, Nat.add_zero, Nat.mul_add_mod, Nat.mod_eq_of_lt hb] at this
      exact this
    exact ⟨key x j hx (by omega), key j x (by omega) hx⟩
  · rintro ⟨h1, h2⟩
    refine ⟨h1, fun j hj => ?_⟩
    have hs : 0 < tS T := by
      rcases Nat.eq_zero_or_pos (tS T) with h0 | h0
      · rw [h0] at hj; exact absurd hj (Nat.not_lt_zero j)
      · exact h0
    have ha : j / tS T < tS T := Nat.div_lt_of_lt_mul hj
    have hb : j % tS T < tS T := Nat.mod_lt _ hs
    generalize j / tS T = x at ha
    generalize j % tS T = y at hb
    rcases Nat.lt_trichotomy x y with hxy | hxy | hxy
    · exact ((ftB_iff y).mp (h2 y hb) x hxy).2
    · subst hxy
      rw [hN x ha, hN _ (h x ha)]
    · exact ((ftB_iff x).mp (h2 x ha) y hxy).1
