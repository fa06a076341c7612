/-! chances in lowest terms -/
theorem ul_same {J : Nat → Nat → Int64} {r k : Nat} {x : Int64} : upL J r k x r k = x := by simp [upL]
theorem ul_ne {J : Nat → Nat → Int64} {r k k' : Nat} {x : Int64} (h : k' ≠ k) : upL J r k x r k' = J r k' := by simp [upL, h]
theorem WH_pos : 0 < WH := by decide
theorem red_pos (P : Nat) : 0 < Nat.gcd WH P := Nat.gcd_pos_of_pos_left _ WH_pos
theorem red_mul (P : Nat) : redU P * WH = P * redL P := by
  unfold redU redL
  have h1 : Nat.gcd WH P ∣ P := Nat.gcd_dvd_right _ _
  have h2 : Nat.gcd WH P ∣ WH := Nat.gcd_dvd_left _ _
  obtain ⟨p, hp⟩ := h1
  obtain ⟨w, hw⟩ := h2
  have hg := red_pos P
  generalize Nat.gcd WH P = g at hp hw hg
  rw [hp, hw, Nat.mul_div_cancel_left _ hg, Nat.mul_div_cancel_left _ hg]
  rw [Nat.mul_comm p (g * w), Nat.mul_assoc, Nat.mul_comm w p, ← Nat.mul_assoc]
theorem red_cop (P : Nat) : Nat.gcd (redU P) (redL P) = 1 := by
  unfold redU redL
  rw [Nat.gcd_comm WH P]
  have hg : 0 < Nat.gcd P WH := by rw [Nat.gcd_comm]; exact red_pos P
  exact Nat.gcd_div_gcd_div_gcd_of_pos_right WH_pos
theorem redL_dvd (P : Nat) : redL P ∣ WH := ⟨Nat.gcd WH P, by unfold redL; rw [Nat.div_mul_cancel (Nat.gcd_dvd_left _ _)]⟩
theorem redL_pos (P : Nat) : 0 < redL P := Nat.pos_of_dvd_of_pos (redL_dvd P) WH_pos
theorem frac_eq {a b c d : Nat} (hb : 0 < b) (hd : 0 < d) (h1 : Nat.gcd a b = 1) (h2 : Nat.gcd c d = 1) (h : a * d = c * b) : a = c ∧ b = d := by
  have k1 : b ∣ d := by
    have : b ∣ a * d := ⟨c, by rw [h, Nat.mul_comm]⟩
    exact (Nat.Coprime.dvd_of_dvd_mul_left (show Nat.Coprime b a by rw [Nat.Coprime, Nat.gcd_comm]; exact h1) this)
  have k2 : d ∣ b := by
    have : d ∣ c * b := ⟨a, by rw [← h, Nat.mul_comm]⟩
    exact (Nat.Coprime.dvd_of_dvd_mul_left (show Nat.Coprime d c by rw [Nat.Coprime, Nat.gcd_comm]; exact h2) this)
  have e := Nat.dvd_antisymm k1 k2
  subst e
  exact ⟨Nat.eq_of_mul_eq_mul_right hb h, rfl⟩
/-- a chance put in lowest terms -/
theorem fr_of {u v P : Nat} (hv : 0 < v) (h : u * WH = P * v) : u / Nat.gcd u v = redU P ∧ v / Nat.gcd u v = redL P := by
  have hg : 0 < Nat.gcd u v := Nat.gcd_pos_of_pos_right _ hv
  have d1 : Nat.gcd u v ∣ u := Nat.gcd_dvd_left _ _
  have d2 : Nat.gcd u v ∣ v := Nat.gcd_dvd_right _ _
  have hc : Nat.gcd (u / Nat.gcd u v) (v / Nat.gcd u v) = 1 := Nat.gcd_div_gcd_div_gcd_of_pos_right hv
  obtain ⟨u', hu⟩ := d1
  obtain ⟨v', hv'⟩ := d2
  generalize Nat.gcd u v = g at hg hc hu hv'
  have eu : u / g = u' := by rw [hu, Nat.mul_div_cancel_left _ hg]
  have ev : v / g = v' := by rw [hv', Nat.mul_div_cancel_left _ hg]
  rw [eu, ev] at hc ⊢
  have hv0 : 0 < v' := by
    rcases Nat.eq_zero_or_pos v' with h0 | h0
    · subst h0; omega
    · exact h0
  refine frac_eq hv0 (redL_pos P) hc (red_cop P) ?_
  have h3 : u' * WH = P * v' := by
    have : g * (u' * WH) = g * (P * v') := by rw [← Nat.mul_assoc, ← hu, h, hv', Nat.mul_left_comm]
    exact Nat.eq_of_mul_eq_mul_left hg this
  have h4 := red_mul P
  have : WH * (u' * redL P) = WH * (redU P * v') := by
    rw [show WH * (u' * redL P) = (u' * WH) * redL P by rw [Nat.mul_comm u' WH, Nat.mul_assoc], h3, show WH * (redU P * v') = (redU P * WH) * v' by rw [Nat.mul_comm (redU P) WH, Nat.mul_assoc], h4]
    rw [Nat.mul_assoc, Nat.mul_assoc, Nat.mul_comm v']
  exact Nat.eq_of_mul_eq_mul_left WH_pos this
theorem redU_le {P k : Nat} (h : P ≤ k) : redU P ≤ k := Nat.le_trans (Nat.div_le_self _ _) h
theorem red_0 : redU 0 = 0 ∧ redL 0 = 1 := by decide
theorem red_W : redU WH = 1 ∧ redL WH = 1 := by
  unfold redU redL
  rw [Nat.gcd_self]
  exact ⟨Nat.div_self WH_pos, Nat.div_self WH_pos⟩
/-- the least common multiple, as the reference has it -/
def lcW (v w : Nat) : Nat := v / Nat.gcd v w * w
theorem lcW_ok {S X : Nat} : redL S ∣ lcW (redL S) (redL X) ∧ redL X ∣ lcW (redL S) (redL X) ∧ 0 < lcW (redL S) (redL X) ∧ lcW (redL S) (redL X) ≤ WH := by
  have e : lcW (redL S) (redL X) = Nat.lcm (redL S) (redL X) := by
    unfold lcW Nat.lcm
    rw [Nat.mul_comm, ← Nat.mul_div_assoc _ (Nat.gcd_dvd_left _ _), Nat.mul_comm]
  rw [e]
  have hd : Nat.lcm (redL S) (redL X) ∣ WH := Nat.lcm_dvd (redL_dvd S) (redL_dvd X)
  exact ⟨Nat.dvd_lcm_left _ _, Nat.dvd_lcm_right _ _, Nat.pos_of_dvd_of_pos hd WH_pos, Nat.le_of_dvd WH_pos hd⟩
theorem part_of {S v : Nat} (hv : redL S ∣ v) : redU S * (v / redL S) * WH = S * v := by
  obtain ⟨t, rfl⟩ := hv
  rw [Nat.mul_div_cancel_left _ (redL_pos S), Nat.mul_assoc, Nat.mul_comm t WH, ← Nat.mul_assoc, red_mul, Nat.mul_assoc]
theorem part_le {S v k : Nat} (hv : redL S ∣ v) (h1 : v ≤ WH) (h2 : S ≤ k) : redU S * (v / redL S) ≤ k := by
  have h := part_of hv
  have h3 : S * v ≤ k * WH := Nat.mul_le_mul h2 h1
  rw [← h] at h3
  exact Nat.le_of_mul_le_mul_right h3 WH_pos
section
variable {G : GG} {D n : Nat} {σ : MH} {I : Nat → Nat → Int32} {J : Nat → Nat → Int64} {Q : Option Value → MH → Prop}
theorem r_common {a b : Nat} (ha : a < 2 ^ 62) (hb : b < 2 ^ 62) (h : Q (some (.long (lN (Nat.gcd a b)))) σ) : MT G (D + 1) 234 [.long (lN a), .long (lN b)] σ Q := by
  have loop : ∀ y x (v8 v9 : Value), x < 2 ^ 62 → y < 2 ^ 62 → Nat.gcd x y = Nat.gcd a b → EV G 234 D 0 0 6 [.long (lN a), dm, .long (lN b), dm, .long (lN x), dm, .long (lN y), dm, v8, v9] [] σ Q := by
    intro y
    induction y using Nat.strongRecOn with
    | _ y ih =>
      intro x v8 v9 hx hy hg
      refine EV.at ck234 (by decide) 300 [] ?_
      conv => whnf
      try dsimp only
      refine ⟨fun z => ?_, fun z => ?_⟩
      · have z' : y = 0 := (pk_lEQ (b := 0) (by omega) (by decide)).mp (lgc.mp z)
        subst z'
        rw [Nat.gcd_zero_right] at hg
        rw [← hg] at h
        conv => whnf
        try dsimp only
        exact ⟨trivial, h⟩
      · have z' : 0 < y := by
          rcases Nat.eq_zero_or_pos y with rfl | h0
          · exact absurd (lgc.mpr rfl) z
          · exact h0
        have hr := Nat.mod_lt x z'
        conv => whnf
        try dsimp only
        refine ⟨fun u => absurd ((pk_lEQ (b := 0) (by omega) (by decide)).mp u) (by omega), ?_⟩
        conv => whnf
        try dsimp only
        rw [show jremL (lN x) (lN y) = lN (x % y) from pk_lRem (by omega) z' (by omega)]
        exact ⟨trivial, ih (x % y) hr y _ _ hy (by omega) (by rw [← hg, gcd_st x y])⟩
  refine MT.by ck234 (by decide) rfl (Nat.le_of_ble_eq_true rfl) rfl 300 [6] ?_
  conv => whnf
  try dsimp only
  exact ⟨trivial, loop b a dm dm ha hb rfl⟩
theorem r_lowest {d u v P : Nat} (hd : d < 13) (hu : u < 2 ^ 62) (hv : v < 2 ^ 62) (hv0 : 0 < v) (ju : J 107 d = lN u) (jv : J 108 d = lN v) (hP : u * WH = P * v) (h : Q none (SH n, I, upL (upL J 107 d (lN (redU P))) 108 d (lN (redL P)))) : MT G (D + 2) 235 [.ref 77, .int (nI d)] (SH n, I, J) Q := by
  have cd : (nI d).toNatClampNeg = d := nI_clamp (by omega)
  obtain ⟨f1, f2⟩ := fr_of hv0 hP
  have hg : 0 < Nat.gcd u v := Nat.gcd_pos_of_pos_right _ hv0
  have hgl : Nat.gcd u v ≤ v := Nat.gcd_le_right _ hv0
  have ng : ¬ lN (Nat.gcd u v) = 0 := fun y => absurd ((pk_lEQ (b := 0) (by omega) (by decide)).mp y) (by omega)
  refine MT.by ck235 (by decide) rfl (Nat.le_of_ble_eq_true rfl) rfl 300 [] ?_
  conv => whnf
  try dsimp only
  refine ⟨in_nI hd (by decide), ?_⟩
  conv => whnf
  try dsimp only
  refine ⟨in_nI hd (by decide), ?_⟩
  conv => whnf
  try dsimp only
  rw [cd, ju, jv]
  refine ⟨trivial, r_common hu hv ?_⟩
  refine EV.at ck235 (by decide) 300 [] ?_
  conv => whnf
  try dsimp only
  refine ⟨in_nI hd (by decide), ?_⟩
  conv => whnf
  try dsimp only
  refine ⟨ng, ?_⟩
  conv => whnf
  try dsimp only
  refine ⟨in_nI hd (by decide), ?_⟩
  conv => whnf
  try dsimp only
  rw [cd, ju, pk_lDiv (by omega) hg (by omega), f1]
  refine ⟨in_nI hd (by decide), ?_⟩
  conv => whnf
  try dsimp only
  refine ⟨ng, ?_⟩
  conv => whnf
  try dsimp only
  refine ⟨in_nI hd (by decide), ?_⟩
  conv => whnf
  try dsimp only
  rw [cd, upL_oth (r' := 108) (by decide), jv, pk_lDiv (by omega) hg (by omega), f2]
  exact ⟨trivial, h⟩
theorem r_isChance {d : Nat} (hd : d < 13) (h : Q none (SH n, upI I 109 d 0, upL (upL J 107 d 0) 108 d 1)) : MT G (D + 1) 236 [.ref 77, .int (nI d), .long 0] (SH n, I, J) Q := by
  have cd : (nI d).toNatClampNeg = d := nI_clamp (by omega)
  refine MT.by ck236 (by decide) rfl (Nat.le_of_ble_eq_true rfl) rfl 300 [] ?_
  conv => whnf
  try dsimp only
  refine ⟨in_nI hd (by decide), ?_⟩
  conv => whnf
  try dsimp only
  refine ⟨in_nI hd (by decide), ?_⟩
  conv => whnf
  try dsimp only
  refine ⟨in_nI hd (by decide), ?_⟩
  conv => whnf
  try dsimp only
  rw [cd]
  exact ⟨trivial, h⟩
/-- a chance at a depth -/
def cM (d S : Nat) (J : Nat → Nat → Int64) : Prop := J 107 d = lN (redU S) ∧ J 108 d = lN (redL S)
theorem r_adds {d S X : Nat} (hd : d < 13) (hS : S ≤ 5 * WH) (hX : X ≤ WH) (hc : cM d S J) (h : ∀ J', cM d (S + X) J' → (∀ r x, (r ≠ 107 ∧ r ≠ 108) ∨ x ≠ d → J' r x = J r x) → Q none (SH n, I, J')) : MT G (D + 3) 237 [.ref 77, .int (nI d), .long (lN (redU X)), .long (lN (redL X))] (SH n, I, J) Q := by
  have cd : (nI d).toNatClampNeg = d := nI_clamp (by omega)
  have eW : WH = 61917364224 := rfl
  have ls := redL_pos S
  have lx := redL_pos X
  have ls2 := Nat.le_of_dvd WH_pos (redL_dvd S)
  have lx2 := Nat.le_of_dvd WH_pos (redL_dvd X)
  have hg : 0 < Nat.gcd (redL S) (redL X) := Nat.gcd_pos_of_pos_left _ ls
  have hg2 : Nat.gcd (redL S) (redL X) ≤ redL S := Nat.gcd_le_left _ ls
  have ng : ¬ lN (Nat.gcd (redL S) (redL X)) = 0 := fun y => absurd ((pk_lEQ (b := 0) (by omega) (by decide)).mp y) (by omega)
  have ns : ¬ lN (redL S) = 0 := fun y => absurd ((pk_lEQ (b := 0) (by omega) (by decide)).mp y) (by omega)
  have nx : ¬ lN (redL X) = 0 := fun y => absurd ((pk_lEQ (b := 0) (by omega) (by decide)).mp y) (by omega)
  obtain ⟨a1, a2, a3, a4⟩ := lcW_ok (S := S) (X := X)
  have p1 := part_of (S := S) a1
  have p2 := part_of (S := X) a2
  have q1 := part_le (S := S) a1 a4 hS
  have q2 := part_le (S := X) a2 a4 hX
  have eL : lN (redL S) / lN (Nat.gcd (redL S) (redL X)) * lN (redL X) = lN (lcW (redL S) (redL X)) := by rw [pk_lDiv (by omega) hg (by omega), lN_mul]; rfl
  refine MT.by ck237 (by decide) rfl (Nat.le_of_ble_eq_true rfl) rfl 300 [] ?_
  conv => whnf
  try dsimp only
  refine ⟨in_nI hd (by decide), ?_⟩
  conv => whnf
  try dsimp only
  refine ⟨in_nI hd (by decide), ?_⟩
  conv => whnf
  try dsimp only
  rw [cd, hc.2]
  refine ⟨trivial, r_common (by omega) (by omega) ?_⟩
  refine EV.at ck237 (by decide) 300 [] ?_
  conv => whnf
  try dsimp only
  refine ⟨ng, ?_⟩
  conv => whnf
  try dsimp only
  rw [eL]
  refine ⟨in_nI hd (by decide), ?_⟩
  conv => whnf
  try dsimp only
  refine ⟨in_nI hd (by decide), ?_⟩
  conv => whnf
  try dsimp only
  rw [cd, hc.1, hc.2]
  refine ⟨ns, ?_⟩
  conv => whnf
  try dsimp only
  refine ⟨nx, ?_⟩
  conv => whnf
  try dsimp only
  rw [pk_lDiv (by omega) ls (by omega), pk_lDiv (by omega) lx (by omega), lN_mul, lN_mul, lN_add]
  refine ⟨in_nI hd (by decide), ?_⟩
  conv => whnf
  try dsimp only
  refine ⟨in_nI hd (by decide), ?_⟩
  conv => whnf
  try dsimp only
  rw [cd]
  generalize hu : redU S * (lcW (redL S) (redL X) / redL S) + redU X * (lcW (redL S) (redL X) / redL X) = u
  generalize hv : lcW (redL S) (redL X) = v at *
  refine ⟨trivial, r_lowest (u := u) (v := v) (P := S + X) hd (by omega) (by omega) a3 (by rw [upL_oth (by decide), ul_same]) ul_same (by rw [← hu, Nat.add_mul, p1, p2, ← Nat.add_mul]) ?_⟩
  refine EV.at ck237 (by decide) 300 [] ?_
  conv => whnf
  try dsimp only
  refine ⟨trivial, h _ ⟨by rw [upL_oth (by decide), ul_same], ul_same⟩ (fun r x hx => ?_)⟩
  unfold upL
  rw [if_neg (by omega), if_neg (by omega), if_neg (by omega), if_neg (by omega)]
theorem r_isMore {d S X : Nat} (hd : d < 13) (hS : S ≤ 5 * WH) (hX : X ≤ WH) (hc : cM d S J) (h : Q (some (.int (b2i (decide (S < X))))) (SH n, I, J)) : MT G (D + 2) 238 [.ref 77, .long (lN (redU X)), .long (lN (redL X)), .int (nI d)] (SH n, I, J) Q := by
  have cd : (nI d).toNatClampNeg = d := nI_clamp (by omega)
  have eW : WH = 61917364224 := rfl
  have ls := redL_pos S
  have lx := redL_pos X
  have ls2 := Nat.le_of_dvd WH_pos (redL_dvd S)
  have lx2 := Nat.le_of_dvd WH_pos (redL_dvd X)
  have hg : 0 < Nat.gcd (redL S) (redL X) := Nat.gcd_pos_of_pos_left _ ls
  have hg2 : Nat.gcd (redL S) (redL X) ≤ redL S := Nat.gcd_le_left _ ls
  have ng : ¬ lN (Nat.gcd (redL S) (redL X)) = 0 := fun y => absurd ((pk_lEQ (b := 0) (by omega) (by decide)).mp y) (by omega)
  have ns : ¬ lN (redL S) = 0 := fun y => absurd ((pk_lEQ (b := 0) (by omega) (by decide)).mp y) (by omega)
  have nx : ¬ lN (redL X) = 0 := fun y => absurd ((pk_lEQ (b := 0) (by omega) (by decide)).mp y) (by omega)
  obtain ⟨a1, a2, a3, a4⟩ := lcW_ok (S := S) (X := X)
  have p1 := part_of (S := S) a1
  have p2 := part_of (S := X) a2
  have q1 := part_le (S := S) a1 a4 hS
  have q2 := part_le (S := X) a2 a4 hX
  have eL : lN (redL S) / lN (Nat.gcd (redL S) (redL X)) * lN (redL X) = lN (lcW (redL S) (redL X)) := by rw [pk_lDiv (by omega) hg (by omega), lN_mul]; rfl
  refine MT.by ck238 (by decide) rfl (Nat.le_of_ble_eq_true rfl) rfl 300 [] ?_
  conv => whnf
  try dsimp only
  refine ⟨in_nI hd (by decide), ?_⟩
  conv => whnf
  try dsimp only
  refine ⟨in_nI hd (by decide), ?_⟩
  conv => whnf
  try dsimp only
  rw [cd, hc.2]
  refine ⟨trivial, r_common (by omega) (by omega) ?_⟩
  refine EV.at ck238 (by decide) 300 [] ?_
  conv => whnf
  try dsimp only
  refine ⟨ng, ?_⟩
  conv => whnf
  try dsimp only
  rw [eL]
  refine ⟨nx, ?_⟩
  conv => whnf
  try dsimp only
  refine ⟨in_nI hd (by decide), ?_⟩
  conv => whnf
  try dsimp only
  refine ⟨in_nI hd (by decide), ?_⟩
  conv => whnf
  try dsimp only
  rw [cd, hc.1, hc.2]
  refine ⟨ns, ?_⟩
  conv => whnf
  try dsimp only
  rw [pk_lDiv (by omega) ls (by omega), pk_lDiv (by omega) lx (by omega), lN_mul, lN_mul]
  have key : redU S * (lcW (redL S) (redL X) / redL S) < redU X * (lcW (redL S) (redL X) / redL X) ↔ S < X := by
    rw [← Nat.mul_lt_mul_right WH_pos, p1, p2, Nat.mul_lt_mul_right a3]
  generalize redU S * (lcW (redL S) (redL X) / redL S) = u at key q1 ⊢
  generalize redU X * (lcW (redL S) (redL X) / redL X) = v at key q2 ⊢
  have hlt : lN u < lN v ↔ u < v := pk_lLT (by omega) (by omega)
  refine ⟨fun z => ?_, fun z => ?_⟩
  · rw [decide_eq_false (fun y => gtc.mp z (hlt.mpr (key.mpr y)))] at h
    conv => whnf
    try dsimp only
    exact ⟨Or.inl rfl, h⟩
  · have y : S < X := by
      rcases Nat.lt_or_ge S X with y | y
      · exact y
      · exact absurd (gtc.mpr (fun u' => absurd (key.mp (hlt.mp u')) (by omega))) z
    rw [decide_eq_true y] at h
    conv => whnf
    try dsimp only
    exact ⟨Or.inr rfl, h⟩
end
