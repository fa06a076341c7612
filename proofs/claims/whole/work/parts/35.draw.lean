/-! the class's lots drawn; the greatest shared part -/
def nz5 (n i : Int32) : Int32 := n + jushr i 1
def nz4 (n i : Int32) : Int32 := if i ≤ 4 then nz5 n i else nz5 (n + 2) (jushr i 2)
def nz3 (n i : Int32) : Int32 := if i ≤ 16 then nz4 n i else nz4 (n + 4) (jushr i 4)
def nz2 (n i : Int32) : Int32 := if i ≤ 256 then nz3 n i else nz3 (n + 8) (jushr i 8)
def nz1 (n i : Int32) : Int32 := if i ≤ 65536 then nz2 n i else nz2 (n + 16) (jushr i 16)
def ntzJ (x : Int32) : Int32 := if 0 < ((x ^^^ (-1)) &&& (x - 1)) then nz1 1 ((x ^^^ (-1)) &&& (x - 1)) else ((x ^^^ (-1)) &&& (x - 1)) &&& 32
/-- the place of the bit of a set behind which so many others stand below -/
def nthF : Nat → Nat → Nat → Nat
  | 0, _, _ => 0
  | f + 1, x, l => if x % 2 = 1 then (if l = 0 then 0 else 1 + nthF f (x / 2) (l - 1)) else 1 + nthF f (x / 2) l
def nthK (x r : Nat) : Nat := nthF 12 x r
set_option maxRecDepth 100000 in
theorem ntz_eq : ∀ x, x < 4096 → 0 < x → ntzJ (nI x) = nI (nthK x 0) := by decide +kernel
theorem clr_par (x : Nat) : (x &&& (x - 1)) % 2 = 0 := by
  have h := Nat.testBit_and x (x - 1) 0
  rw [Nat.testBit_zero, Nat.testBit_zero, Nat.testBit_zero] at h
  have h2 : ¬ (x &&& (x - 1)) % 2 = 1 := by
    intro h3
    rw [decide_eq_true h3] at h
    have h := h.symm
    rw [Bool.and_eq_true, decide_eq_true_eq, decide_eq_true_eq] at h
    omega
  omega
theorem clr_half (x : Nat) : (x &&& (x - 1)) / 2 = if x % 2 = 1 then x / 2 else (x / 2) &&& (x / 2 - 1) := by
  rw [Nat.and_div_two]
  split
  · rw [show (x - 1) / 2 = x / 2 by omega, Nat.and_self]
  · rw [show (x - 1) / 2 = x / 2 - 1 by omega]
theorem nth_stepF : ∀ f x r, r + 1 < pcN f x → nthF f x (r + 1) = nthF f (x &&& (x - 1)) r ∧ r < pcN f (x &&& (x - 1))
  | 0, x, r, h => absurd h (Nat.not_lt_zero _)
  | f + 1, x, r, h => by
    have h : r + 1 < x % 2 + pcN f (x / 2) := h
    show (if x % 2 = 1 then (if r + 1 = 0 then 0 else 1 + nthF f (x / 2) (r + 1 - 1)) else 1 + nthF f (x / 2) (r + 1)) = (if (x &&& (x - 1)) % 2 = 1 then (if r = 0 then 0 else 1 + nthF f ((x &&& (x - 1)) / 2) (r - 1)) else 1 + nthF f ((x &&& (x - 1)) / 2) r) ∧ r < (x &&& (x - 1)) % 2 + pcN f ((x &&& (x - 1)) / 2)
    rw [clr_par, clr_half, if_neg (show ¬ 0 = 1 by decide)]
    by_cases h1 : x % 2 = 1
    · rw [if_pos h1, if_pos h1, if_neg (by omega)]
      exact ⟨rfl, by omega⟩
    · rw [if_neg h1, if_neg h1]
      obtain ⟨a, b⟩ := nth_stepF f (x / 2) r (by omega)
      exact ⟨by rw [a], by omega⟩
theorem nth_step : ∀ x, x < 4096 → ∀ r, r < 12 → r + 1 < pcN 12 x → nthK x (r + 1) = nthK (x &&& (x - 1)) r ∧ r < pcN 12 (x &&& (x - 1)) := fun x _ r _ h => nth_stepF 12 x r h
theorem nth_okF : ∀ f x r, r < pcN f x → x.testBit (nthF f x r) = true ∧ nthF f x r < f
  | 0, x, r, h => absurd h (Nat.not_lt_zero _)
  | f + 1, x, r, h => by
    have h : r < x % 2 + pcN f (x / 2) := h
    show x.testBit (if x % 2 = 1 then (if r = 0 then 0 else 1 + nthF f (x / 2) (r - 1)) else 1 + nthF f (x / 2) r) = true ∧ (if x % 2 = 1 then (if r = 0 then 0 else 1 + nthF f (x / 2) (r - 1)) else 1 + nthF f (x / 2) r) < f + 1
    by_cases h1 : x % 2 = 1
    · rw [if_pos h1]
      by_cases h2 : r = 0
      · rw [if_pos h2]
        exact ⟨by rw [Nat.testBit_zero]; exact decide_eq_true h1, by omega⟩
      · rw [if_neg h2]
        obtain ⟨a, b⟩ := nth_okF f (x / 2) (r - 1) (by omega)
        exact ⟨by rw [Nat.add_comm, Nat.testBit_succ]; exact a, by omega⟩
    · rw [if_neg h1]
      obtain ⟨a, b⟩ := nth_okF f (x / 2) r (by omega)
      exact ⟨by rw [Nat.add_comm, Nat.testBit_succ]; exact a, by omega⟩
theorem nth_ok : ∀ x, x < 4096 → ∀ r, r < 12 → r < pcN 12 x → x.testBit (nthK x r) = true ∧ nthK x r < 12 := fun x _ r _ h => nth_okF 12 x r h
theorem pc_leF : ∀ f x, pcN f x ≤ f
  | 0, _ => Nat.le_refl _
  | f + 1, x => by show x % 2 + pcN f (x / 2) ≤ f + 1; have := pc_leF f (x / 2); omega
theorem pc_posF : ∀ f x, x < 2 ^ f → 0 < x → 0 < pcN f x
  | 0, x, h, h0 => by have : x < 1 := h; omega
  | f + 1, x, h, h0 => by
    show 0 < x % 2 + pcN f (x / 2)
    have h2 : 2 ^ (f + 1) = 2 ^ f * 2 := Nat.pow_succ ..
    by_cases h1 : x % 2 = 1
    · omega
    · have := pc_posF f (x / 2) (by omega) (by omega); omega
theorem pc_le : ∀ x, x < 4096 → pcN 12 x ≤ 12 ∧ (0 < x → 0 < pcN 12 x) := fun x hx => ⟨pc_leF 12 x, pc_posF 12 x hx⟩
section
variable {G : GG} {d n : Nat} {σ : MH} {I : Nat → Nat → Int32} {J : Nat → Nat → Int64} {Q : Option Value → MH → Prop} {T : TN} {q : Nat → SD}
theorem c_ntz {x : Int32} (h : Q (some (.int (ntzJ x))) σ) : MT G (d + 1) 260 [.int x] σ Q := by
  unfold ntzJ at h
  have l5 : ∀ a b : Int32, Q (some (.int (nz5 a b))) σ → EV G 260 d 0 0 74 [.int b, .int a] [] σ Q := by
    intro a b h
    refine EV.at ck260 (by decide) 300 [] ?_
    conv => whnf
    try dsimp only
    exact ⟨trivial, h⟩
  have l4 : ∀ a b : Int32, Q (some (.int (nz4 a b))) σ → EV G 260 d 0 0 62 [.int b, .int a] [] σ Q := by
    intro a b h
    unfold nz4 at h
    refine EV.at ck260 (by decide) 300 [74] ?_
    conv => whnf
    try dsimp only
    refine ⟨fun h1 => ?_, fun h1 => ?_⟩
    · rw [if_pos h1] at h
      exact ⟨trivial, l5 _ _ h⟩
    · rw [if_neg h1] at h
      conv => whnf
      try dsimp only
      exact ⟨trivial, l5 _ _ h⟩
  have l3 : ∀ a b : Int32, Q (some (.int (nz3 a b))) σ → EV G 260 d 0 0 49 [.int b, .int a] [] σ Q := by
    intro a b h
    unfold nz3 at h
    refine EV.at ck260 (by decide) 300 [62] ?_
    conv => whnf
    try dsimp only
    refine ⟨fun h1 => ?_, fun h1 => ?_⟩
    · rw [if_pos h1] at h
      exact ⟨trivial, l4 _ _ h⟩
    · rw [if_neg h1] at h
      conv => whnf
      try dsimp only
      exact ⟨trivial, l4 _ _ h⟩
  have l2 : ∀ a b : Int32, Q (some (.int (nz2 a b))) σ → EV G 260 d 0 0 34 [.int b, .int a] [] σ Q := by
    intro a b h
    unfold nz2 at h
    refine EV.at ck260 (by decide) 300 [49] ?_
    conv => whnf
    try dsimp only
    refine ⟨fun h1 => ?_, fun h1 => ?_⟩
    · rw [if_pos h1] at h
      exact ⟨trivial, l3 _ _ h⟩
    · rw [if_neg h1] at h
      conv => whnf
      try dsimp only
      exact ⟨trivial, l3 _ _ h⟩
  refine MT.by ck260 (by decide) rfl (Nat.le_of_ble_eq_true rfl) rfl 300 [34] ?_
  conv => whnf
  try dsimp only
  refine ⟨fun h1 => ?_, fun h1 => ?_⟩
  · rw [if_pos h1] at h
    unfold nz1 at h
    conv => whnf
    try dsimp only
    refine ⟨fun h2 => ?_, fun h2 => ?_⟩
    · rw [if_pos h2] at h
      exact ⟨trivial, l2 _ _ h⟩
    · rw [if_neg h2] at h
      conv => whnf
      try dsimp only
      exact ⟨trivial, l2 _ _ h⟩
  · rw [if_neg h1] at h
    conv => whnf
    try dsimp only
    exact ⟨trivial, h⟩
theorem c_nthBit {x r : Nat} (hx : x < 4096) (hr : r < pcN 12 x) (h : Q (some (.int (nI (nthK x r)))) σ) : MT G (d + 2) 20 [.int (nI x), .int (nI r)] σ Q := by
  have hpc := pc_le
  have loop : ∀ m j y, j + m = r → y < 4096 → m < pcN 12 y → nthK x r = nthK y m → EV G 20 (d + 1) 0 0 4 [.int (nI x), .int (nI r), .int (nI y), .int (nI j)] [] σ Q := by
    intro m
    induction m with
    | zero =>
      intro j y hj hy hm he
      have hj : j = r := hj
      have hy0 : 0 < y := by
        rcases Nat.eq_zero_or_pos y with rfl | h0
        · exact absurd hm (by decide)
        · exact h0
      have hr12 := (hpc x hx).1
      rw [he, ← ntz_eq y hy hy0] at h
      refine EV.at ck20 (by decide) 300 [] ?_
      conv => whnf
      try dsimp only
      rw [← hj]
      refine ⟨fun _ => ?_, fun h1 => absurd (nI_le (Nat.le_refl j) (by omega)) h1⟩
      conv => whnf
      try dsimp only
      refine ⟨trivial, c_ntz ?_⟩
      refine EV.at ck20 (by decide) 300 [] ?_
      conv => whnf
      try dsimp only
      exact ⟨trivial, h⟩
    | succ m ih =>
      intro j y hj hy hm he
      have hr12 := (hpc x hx).1
      have hy12 := (hpc y hy).1
      have hy0 : 0 < y := by
        rcases Nat.eq_zero_or_pos y with rfl | h0
        · exact absurd hm (by rw [show pcN 12 0 = 0 from rfl]; omega)
        · exact h0
      obtain ⟨g1, g2⟩ := nth_step y hy m (by omega) hm
      have hlt : y &&& (y - 1) < 4096 := Nat.and_lt_two_pow (n := 12) _ (by omega)
      have ihj := ih (j + 1) (y &&& (y - 1)) (by omega) hlt g2 (he.trans g1)
      have e1 : nI y &&& (nI y - 1) = nI (y &&& (y - 1)) := by
        rw [show (1 : Int32) = nI 1 from rfl, pk_sub (by omega), fa_and]
      rw [nI_succ j, ← e1] at ihj
      refine EV.at ck20 (by decide) 300 [] ?_
      conv => whnf
      try dsimp only
      refine ⟨fun h1 => absurd h1 (nI_ge (show j < r by omega) (by omega)), fun _ => ?_⟩
      conv => whnf
      try dsimp only
      exact ⟨trivial, ihj⟩
  refine MT.by ck20 (by decide) rfl (Nat.le_of_ble_eq_true rfl) rfl 300 [4] ?_
  conv => whnf
  try dsimp only
  exact ⟨trivial, loop r 0 x (by omega) hx hr rfl⟩
theorem optN_bit {T : TN} {q : SD} {o k : Nat} : ∀ c, (optN T q o c).testBit k = (decide (k < c) && canN T q o k)
  | 0 => by show (0 : Nat).testBit k = _; simp
  | c + 1 => by
    show (_ ||| _ : Nat).testBit k = _
    rw [Nat.testBit_or, optN_bit c]
    by_cases hk : k = c
    · subst hk
      cases canN T q o k <;> simp
    · have : (if canN T q o c = true then 2 ^ c else 0 : Nat).testBit k = false := by
        split
        · rw [Nat.testBit_two_pow]; simp [Ne.symm hk]
        · simp
      rw [this, Bool.or_false]
      by_cases h : k < c
      · simp [h, show k < c + 1 by omega]
      · simp [h, show ¬ k < c + 1 by omega]
/-- a CHANGE truly done -/
def doF (T : TN) (F : FG) (k : Nat) : FG := (stepQ T F.1 (F.2.1 % 2) k, F.2.1 + 1, (fun i => if i = F.2.1 then k else F.2.2.1 i), (fun i => if i = F.2.1 then F.1 else F.2.2.2 i))
theorem gMem_do {F : FG} {k : Nat} (hF : gMem 12 F I) : gMem 12 (doF T F k) (pfI T I F.1 F.2.1 k) ∧ (∀ r, r < 12 ∨ 17 < r → pfI T I F.1 F.2.1 k r = I r) ∧ pfI T I F.1 F.2.1 k 12 1 = I 12 1 := by
  obtain ⟨f0, f1, f2, f3⟩ := hF
  have hw : F.2.1 % 2 < 2 := Nat.mod_lt _ (by decide)
  have o1 : ∀ r, r ≠ 16 → r ≠ 17 → upI (upI I 16 F.2.1 (nI k)) 17 F.2.1 (nI (packF F.1)) r = I r := fun r a b => by rw [upI_oth b, upI_oth a]
  have fm : fMem F.1 (upI (upI I 16 F.2.1 (nI k)) 17 F.2.1 (nI (packF F.1))) := ⟨sMem_oth f1 (o1 14 (by decide) (by decide)), sMem_oth f2 (o1 15 (by decide) (by decide))⟩
  have fs := fMem_st (T := T) (k := k) hw fm
  have o2 : ∀ r, r ≠ 12 → r ≠ 14 → r ≠ 15 → pfI T I F.1 F.2.1 k r = upI (upI I 16 F.2.1 (nI k)) 17 F.2.1 (nI (packF F.1)) r := fun r a b c => by
    unfold pfI
    rw [upI_oth a]
    exact sd_oth (by omega)
  refine ⟨⟨?_, ?_, ?_, fun i hi => ⟨?_, ?_⟩⟩, fun r hr => ?_, ?_⟩
  · exact up_same
  · exact sMem_oth fs.1 (upI_oth (by decide))
  · exact sMem_oth fs.2 (upI_oth (by decide))
  · show pfI T I F.1 F.2.1 k 16 i = nI (if i = F.2.1 then k else F.2.2.1 i)
    rw [o2 16 (by decide) (by decide) (by decide), upI_oth (by decide)]
    by_cases hi2 : i = F.2.1
    · rw [hi2, up_same, if_pos rfl]
    · rw [up_ne hi2, if_neg hi2]
      have hi : i < F.2.1 + 1 := hi
      exact (f3 i (by omega)).1
  · show pfI T I F.1 F.2.1 k 17 i = nI (packF (if i = F.2.1 then F.1 else F.2.2.2 i))
    rw [o2 17 (by decide) (by decide) (by decide)]
    by_cases hi2 : i = F.2.1
    · rw [hi2, up_same, if_pos rfl]
    · rw [up_ne hi2, if_neg hi2, upI_oth (by decide)]
      have hi : i < F.2.1 + 1 := hi
      exact (f3 i (by omega)).2
  · rw [o2 r (by omega) (by omega) (by omega)]
    exact o1 r (by omega) (by omega)
  · unfold pfI
    rw [up_ne (by decide)]
    rw [show stI T (upI (upI I 16 F.2.1 (nI k)) 17 F.2.1 (nI (packF F.1))) F.1 (F.2.1 % 2) k 12 = upI (upI I 16 F.2.1 (nI k)) 17 F.2.1 (nI (packF F.1)) 12 from sd_oth (by omega)]
    rw [o1 12 (by decide) (by decide)]
/-- the set of CHANGES that can be now -/
def optF (T : TN) (F : FG) : Nat := optN T (F.1 (F.2.1 % 2)) (F.1 (1 - F.2.1 % 2)).1 (tC T)
def drawN (T : TN) : Nat → Nat → Nat → FG → Nat × FG
  | 0, i, _, F => (i, F)
  | m + 1, i, x, F => if optF T F = 0 then (i, F) else drawN T m (i + 1) (x * 48271 % 2147483647) (doF T F (nthK (optF T F) (x * 48271 % 2147483647 % pcN 12 (optF T F))))
theorem optF_lt {F : FG} (hT : tOK T) : optF T F < 4096 := by
  have h1 := optN_lt (T := T) (q := F.1 (F.2.1 % 2)) (o := (F.1 (1 - F.2.1 % 2)).1) (tC T)
  have h2 : 2 ^ tC T ≤ 2 ^ 12 := Nat.pow_le_pow_right (by decide) hT.2.2.1
  unfold optF
  omega
theorem c_draw {m : Nat} {F : FG} {s : Nat} (hT : tOK T) (hM : tMem T I) (hX : EX I) (hF : gMem 12 F I) (hv : vQ T F.1) (hz : F.2.1 + m ≤ 40) (hs : s < 2147483647) (h : ∀ I', gMem 12 (drawN T m 0 s F).2 I' → (∀ r, r < 12 ∨ 17 < r → I' r = I r) → I' 12 1 = I 12 1 → Q (some (.int (nI (drawN T m 0 s F).1))) (SH n, I', J)) : MT G (d + 8) 19 [.ref 32, .int (nI m), .int (nI s)] (SH n, I, J) Q := by
  have loop : ∀ l i x F1 I1 (z6 z7 z8 : Value), i + l = m → x < 2147483647 → gMem 12 F1 I1 → vQ T F1.1 → F1.2.1 + l ≤ 40 → (∀ r, r < 12 ∨ 17 < r → I1 r = I r) → I1 12 1 = I 12 1 → drawN T m 0 s F = drawN T l i x F1 → EV G 19 (d + 7) 0 0 6 [.ref 32, .int (nI m), .int (nI s), .long (lN x), dm, .int (nI i), z6, z7, z8] [] (SH n, I1, J) Q := by
    intro l
    induction l with
    | zero =>
      intro i x F1 I1 z6 z7 z8 hi hx hF1 hv1 hz1 ho h1 he
      have hi : i = m := hi
      rw [he] at h
      have hq := h I1 hF1 ho h1
      refine EV.at ck19 (by decide) 300 [] ?_
      conv => whnf
      try dsimp only
      rw [← hi]
      refine ⟨fun _ => ?_, fun h1 => absurd (nI_le (Nat.le_refl i) (by omega)) h1⟩
      conv => whnf
      try dsimp only
      exact ⟨trivial, hq⟩
    | succ l ih =>
      intro i x F1 I1 z6 z7 z8 hi hx hF1 hv1 hz1 ho h1 he
      have hw : F1.2.1 % 2 < 2 := Nat.mod_lt _ (by decide)
      have fm : fMem F1.1 I1 := ⟨hF1.2.1, hF1.2.2.1⟩
      have hM1 := tMem_of (fun r hr => ho r (Or.inl hr)) hM
      have hX1 := EX_of (fun r hr => ho r (Or.inl hr)) hX
      have hol := optF_lt (F := F1) hT
      have hun : drawN T (l + 1) i x F1 = if optF T F1 = 0 then (i, F1) else drawN T l (i + 1) (x * 48271 % 2147483647) (doF T F1 (nthK (optF T F1) (x * 48271 % 2147483647 % pcN 12 (optF T F1)))) := rfl
      refine EV.at ck19 (by decide) 300 [] ?_
      conv => whnf
      try dsimp only
      refine ⟨fun h1 => absurd h1 (nI_ge (show i < m by omega) (by omega)), fun _ => ?_⟩
      conv => whnf
      try dsimp only
      refine ⟨trivial, c_mover (by omega) hF1.1 ?_⟩
      refine EV.at ck19 (by decide) 300 [] ?_
      conv => whnf
      try dsimp only
      refine ⟨trivial, c_options hw hT hM1 fm hv1.1 hv1.2 hX1 ?_⟩
      rw [show optN T (F1.1 (F1.2.1 % 2)) (F1.1 (1 - F1.2.1 % 2)).1 (tC T) = optF T F1 from rfl]
      by_cases ho0 : optF T F1 = 0
      · rw [if_pos ho0] at hun
        rw [he, hun] at h
        have hq := h I1 hF1 ho h1
        rw [ho0]
        refine EV.at ck19 (by decide) 300 [] ?_
        conv => whnf
        try dsimp only
        refine ⟨fun h1 => absurd (by decide) h1, fun _ => ?_⟩
        conv => whnf
        try dsimp only
        exact ⟨trivial, hq⟩
      · rw [if_neg ho0] at hun
        obtain ⟨p1, p2⟩ := pc_le _ hol
        have p3 := p2 (by omega)
        have hx2 : x * 48271 % 2147483647 < 2147483647 := Nat.mod_lt _ (by decide)
        generalize hx3 : x * 48271 % 2147483647 = x' at hun hx2
        have hr : x' % pcN 12 (optF T F1) < pcN 12 (optF T F1) := Nat.mod_lt _ p3
        obtain ⟨k1, k2⟩ := nth_ok _ hol _ (by omega) hr
        have e1 : jremL (lN x * 48271) 2147483647 = lN x' := by
          rw [show (48271 : Int64) = lN 48271 from rfl, show (2147483647 : Int64) = lN 2147483647 from rfl, lN_mul]
          unfold jremL
          rw [pk_lRem (by omega) (by decide) (by decide), hx3]
        have e2 : jremL (lN x') (popJ (nI (optF T F1))).toInt64 = lN (x' % pcN 12 (optF T F1)) := by
          rw [nu_pop _ hol, nI_l (by omega)]
          unfold jremL
          rw [pk_lRem (by omega) p3 (by omega)]
        have e3 : ¬ (popJ (nI (optF T F1))).toInt64 = 0 := by
          rw [nu_pop _ hol, nI_l (by omega)]
          exact fun z => absurd ((pk_lEQ (b := 0) (by omega) (by decide)).mp z) (by omega)
        generalize hkk : nthK (optF T F1) (x' % pcN 12 (optF T F1)) = k at hun k1 k2
        have hb := optN_bit (T := T) (q := F1.1 (F1.2.1 % 2)) (o := (F1.1 (1 - F1.2.1 % 2)).1) (k := k) (tC T)
        rw [show optN T (F1.1 (F1.2.1 % 2)) (F1.1 (1 - F1.2.1 % 2)).1 (tC T) = optF T F1 from rfl, k1] at hb
        have hb := hb.symm
        rw [Bool.and_eq_true, decide_eq_true_eq] at hb
        refine EV.at ck19 (by decide) 300 [] ?_
        conv => whnf
        try dsimp only
        refine ⟨fun _ => ?_, fun h1 => absurd h1 (nI_ne0 (by omega) (by omega))⟩
        conv => whnf
        try dsimp only
        refine ⟨by decide, ?_⟩
        conv => whnf
        try dsimp only
        refine ⟨trivial, c_bitCount ?_⟩
        refine EV.at ck19 (by decide) 300 [] ?_
        conv => whnf
        try dsimp only
        refine ⟨e3, ?_⟩
        conv => whnf
        try dsimp only
        rw [e1, e2, lN_i]
        refine ⟨trivial, c_nthBit hol hr ?_⟩
        rw [hkk]
        refine EV.at ck19 (by decide) 300 [] ?_
        conv => whnf
        try dsimp only
        refine ⟨trivial, c_takes hw hT hM1 fm hv1.1 hv1.2 hX1 hb.1 ?_⟩
        refine EV.at ck19 (by decide) 300 [] ?_
        conv => whnf
        try dsimp only
        refine ⟨trivial, c_perform (by omega) hF1.1 hT hM1 fm hv1 hb.1 hb.2 ?_⟩
        obtain ⟨d1, d2, d3⟩ := gMem_do (T := T) (k := k) hF1
        have ihj := ih (i + 1) x' (doF T F1 k) (pfI T I1 F1.1 F1.2.1 k) (.int (nI (F1.2.1 % 2))) (.int (nI (optF T F1))) (.int (nI k)) (by omega) hx2 d1 (vQ_step hT hw hb.1 hv1) (by show F1.2.1 + 1 + l ≤ 40; omega) (fun r hr => (d2 r hr).trans (ho r hr)) (d3.trans h1) (he.trans hun)
        rw [nI_succ i] at ihj
        refine EV.at ck19 (by decide) 300 [] ?_
        conv => whnf
        try dsimp only
        exact ⟨trivial, ihj⟩
  refine MT.by ck19 (by decide) rfl (Nat.le_of_ble_eq_true rfl) rfl 300 [6] ?_
  conv => whnf
  try dsimp only
  rw [nI_l (by omega)]
  exact ⟨trivial, loop m 0 s F I dm dm dm (by omega) hs hF hv hz (fun r _ => rfl) rfl rfl⟩
theorem gcd_st (a b : Nat) : Nat.gcd a b = Nat.gcd b (a % b) := by rw [Nat.gcd_comm a b, Nat.gcd_rec b a, Nat.gcd_comm]
theorem c_shared {p : Nat} (hp : p ≤ WH) (h : Q (some (.long (lN (Nat.gcd WH p)))) σ) : MT G (d + 1) 149 [.long (lN p), .long (lN WH)] σ Q := by
  have hWH : WH = 61917364224 := rfl
  have fin : ∀ (i a : Nat) (z9 z10 : Value), a = Nat.gcd WH p → EV G 149 d 0 0 9 [.long (lN p), dm, .long (lN WH), dm, .long (lN a), dm, .long (lN 0), dm, .int (nI i), z9, z10] [] σ Q := by
    intro i a z9 z10 ha
    have ha1 : 1 ≤ a := by rw [ha]; exact Nat.gcd_pos_of_pos_left _ (by decide)
    have ha2 : a ≤ WH := by rw [ha]; exact Nat.gcd_le_left _ (by decide)
    have hmx : jmaxL (lN a) 1 = lN a := by
      rw [show (1 : Int64) = lN 1 from rfl, mx_l (by omega) (by decide), Nat.max_eq_left ha1]
    rw [← ha, ← hmx] at h
    refine EV.at ck149 (by decide) 300 [] ?_
    conv => whnf
    try dsimp only
    refine ⟨fun _ => ?_, fun _ => ?_⟩
    · conv => whnf
      try dsimp only
      exact ⟨trivial, h⟩
    · conv => whnf
      try dsimp only
      refine ⟨fun _ => ?_, fun h1 => absurd (lgc.mpr rfl) h1⟩
      conv => whnf
      try dsimp only
      exact ⟨trivial, h⟩
  have one : ∀ (i a b : Nat) (z9 z10 : Value), i < 128 → 0 < b → b < 2 ^ 40 → a < 2 ^ 40 → EV G 149 d 0 0 9 [.long (lN p), dm, .long (lN WH), dm, .long (lN b), dm, .long (lN (a % b)), dm, .int (nI (i + 1)), .long (lN (a % b)), dm] [] σ Q → EV G 149 d 0 0 9 [.long (lN p), dm, .long (lN WH), dm, .long (lN a), dm, .long (lN b), dm, .int (nI i), z9, z10] [] σ Q := by
    intro i a b z9 z10 hi hb hb2 ha2 hn
    have hb0 : ¬ lN b = 0 := fun z => absurd ((pk_lEQ (b := 0) (by omega) (by decide)).mp z) (by omega)
    rw [nI_succ i] at hn
    refine EV.at ck149 (by decide) 300 [] ?_
    conv => whnf
    try dsimp only
    refine ⟨fun h1 => absurd h1 (nI_ge (b := 128) hi (by decide)), fun _ => ?_⟩
    conv => whnf
    try dsimp only
    refine ⟨fun h1 => absurd (lgc.mp h1) hb0, fun _ => ?_⟩
    conv => whnf
    try dsimp only
    refine ⟨hb0, ?_⟩
    conv => whnf
    try dsimp only
    rw [show jremL (lN a) (lN b) = lN (a % b) from by unfold jremL; rw [pk_lRem (by omega) hb (by omega)]]
    exact ⟨trivial, hn⟩
  have main : ∀ e i a b (z9 z10 : Value), b ≤ a → a < 2 ^ e → e ≤ 40 → i + 2 * e ≤ 128 → Nat.gcd a b = Nat.gcd WH p → EV G 149 d 0 0 9 [.long (lN p), dm, .long (lN WH), dm, .long (lN a), dm, .long (lN b), dm, .int (nI i), z9, z10] [] σ Q := by
    intro e
    induction e with
    | zero =>
      intro i a b z9 z10 hba ha he hi hg
      have hb : b = 0 := by have : a < 1 := ha; omega
      subst hb
      exact fin i a z9 z10 (by rw [← hg, Nat.gcd_zero_right])
    | succ e ih =>
      intro i a b z9 z10 hba ha he hi hg
      have h240 : 2 ^ (e + 1) ≤ 2 ^ 40 := Nat.pow_le_pow_right (by decide) he
      have h2e : 2 ^ (e + 1) = 2 ^ e * 2 := Nat.pow_succ ..
      rcases Nat.eq_zero_or_pos b with rfl | hb
      · exact fin i a z9 z10 (by rw [← hg, Nat.gcd_zero_right])
      · have hr : a % b < b := Nat.mod_lt _ hb
        refine one i a b z9 z10 (by omega) hb (by omega) (by omega) ?_
        rcases Nat.eq_zero_or_pos (a % b) with hr0 | hr0
        · rw [hr0]
          exact fin (i + 1) b _ _ (by rw [← hg, gcd_st, hr0, Nat.gcd_zero_right])
        · refine one (i + 1) b (a % b) _ _ (by omega) hr0 (by omega) (by omega) ?_
          have hr2 : b % (a % b) < a % b := Nat.mod_lt _ hr0
          have hhalf : 2 * (a % b) < a + 1 := by
            have := Nat.div_add_mod a b
            have h1 : 1 ≤ a / b := (Nat.one_le_div_iff hb).mpr hba
            have h2 : b * 1 ≤ b * (a / b) := Nat.mul_le_mul_left b h1
            omega
          exact ih (i + 1 + 1) (a % b) (b % (a % b)) _ _ (by omega) (by omega) (by omega) (by omega) (by rw [← hg, gcd_st a b, gcd_st b (a % b)])
  refine MT.by ck149 (by decide) rfl (Nat.le_of_ble_eq_true rfl) rfl 300 [9] ?_
  conv => whnf
  try dsimp only
  exact ⟨trivial, main 36 0 WH p dm dm hp (by decide) (by decide) (by decide) rfl⟩
/-- a chance in its lowest parts -/
def redU (p : Nat) : Nat := p / Nat.gcd WH p
def redL (p : Nat) : Nat := WH / Nat.gcd WH p
theorem c_tellChance {p : Nat} (hp : p ≤ WH) (h : Q none (SH n, I, upL (upL J 3 14 (lN (redU p))) 3 15 (lN (redL p)))) : MT G (d + 2) 148 [.ref 3, .long (lN p)] (SH n, I, J) Q := by
  have hWH : WH = 61917364224 := rfl
  have hg : 0 < Nat.gcd WH p := Nat.gcd_pos_of_pos_left _ (by decide)
  have hg2 : Nat.gcd WH p ≤ WH := Nat.gcd_le_left _ (by decide)
  have hg0 : ¬ lN (Nat.gcd WH p) = 0 := fun z => absurd ((pk_lEQ (b := 0) (by omega) (by decide)).mp z) (by omega)
  refine MT.by ck148 (by decide) rfl (Nat.le_of_ble_eq_true rfl) rfl 300 [] ?_
  conv => whnf
  try dsimp only
  refine ⟨trivial, c_shared hp ?_⟩
  refine EV.at ck148 (by decide) 300 [] ?_
  conv => whnf
  try dsimp only
  refine ⟨hg0, ?_⟩
  conv => whnf
  try dsimp only
  refine ⟨hg0, ?_⟩
  conv => whnf
  try dsimp only
  rw [pk_lDiv (by omega) hg (by omega), show (61917364224 : Int64) = lN WH from rfl, pk_lDiv (by omega) hg (by omega)]
  exact ⟨trivial, h⟩
end
