/-! the class: a fight taken over, a night begun, a table taken over -/
/-- a fight: fighters, how many done, which, and the fighters ahead of each -/
abbrev FG : Type := (Nat → SD) × Nat × (Nat → Nat) × (Nat → Nat → SD)
def gMem (b : Nat) (F : FG) (I : Nat → Nat → Int32) : Prop := I b 5 = nI F.2.1 ∧ sMem (b + 2) (F.1 0) I ∧ sMem (b + 3) (F.1 1) I ∧ ∀ i, i < F.2.1 → I (b + 4) i = nI (F.2.2.1 i) ∧ I (b + 5) i = nI (packF (F.2.2.2 i))
def gSh (S : SHL) (b : Nat) : Prop := S[b]? = some (0, 6, [some 6, none, some (b + 1), some (b + 4), some (b + 5), none]) ∧ S[b + 1]? = some (16, 2, [some (b + 2), some (b + 3)]) ∧ S[b + 2]? = some (7, 4, [none, none, none, none]) ∧ S[b + 3]? = some (7, 4, [none, none, none, none]) ∧ S[b + 4]? = some (12, 40, []) ∧ S[b + 5]? = some (12, 40, [])
theorem gSh_at (n : Nat) : gSh (SH n) 12 ∧ gSh (SH n) 59 ∧ gSh (SH n) 65 ∧ gSh (SH n) 71 := ⟨⟨rfl, rfl, rfl, rfl, rfl, rfl⟩, ⟨rfl, rfl, rfl, rfl, rfl, rfl⟩, ⟨rfl, rfl, rfl, rfl, rfl, rfl⟩, ⟨rfl, rfl, rfl, rfl, rfl, rfl⟩⟩
theorem up_same {I : Nat → Nat → Int32} {r k : Nat} {x : Int32} : upI I r k x r k = x := by simp [upI]
theorem up_ne {I : Nat → Nat → Int32} {r k k' : Nat} {x : Int32} (h : k' ≠ k) : upI I r k x r k' = I r k' := by simp [upI, h]
section
variable {G : GG} {d n : Nat} {S : SHL} {I : Nat → Nat → Int32} {J : Nat → Nat → Int64} {Q : Option Value → MH → Prop} {T : TN} {q : Nat → SD}
theorem c_takeOverS2 {c c' : Nat} {x : SD} (hc : S[c]? = some (7, 4, [none, none, none, none])) (hc' : S[c']? = some (7, 4, [none, none, none, none])) (hne : c' ≠ c) (hx : sMem c' x I) (h : ∀ I', sMem c x I' → (∀ r, r ≠ c → I' r = I r) → Q none (S, I', J)) : MT G (d + 1) 67 [.ref c, .ref c'] (S, I, J) Q := by
  refine c_takeOverS hc hc' hne (h _ ?_ (fun r hr => ?_))
  · obtain ⟨x0, x1, x2, x3⟩ := hx
    refine ⟨?_, ?_, ?_, ?_⟩
    · rw [up_ne (by decide), up_ne (by decide), up_ne (by decide), up_same]; exact x0
    · rw [up_ne (by decide), up_ne (by decide), up_same]; exact x1
    · rw [up_ne (by decide), up_same]; exact x2
    · rw [up_same]; exact x3
  · rw [upI_oth hr, upI_oth hr, upI_oth hr, upI_oth hr]
theorem cp_oth {I : Nat → Nat → Int32} {a0 a sp dp m r : Nat} (h : r ≠ a) : cpI I a0 a sp dp m r = I r := by
  funext k
  simp [cpI, h]
theorem cp_in {I : Nat → Nat → Int32} {a0 a m k : Nat} (h : k < m) : cpI I a0 a 0 0 m a k = I a0 k := by
  simp [cpI, h]
theorem c_takeOverF {b b' : Nat} {F : FG} (hb : gSh S b) (hb' : gSh S b') (hne : b + 5 < b' ∨ b' + 5 < b) (hz : F.2.1 ≤ 40) (h01 : I b' 1 = 0 ∨ I b' 1 = 1) (hF : gMem b' F I) (h : ∀ I', gMem b F I' → I' b 1 = I b' 1 → (∀ r, r < b ∨ b + 5 < r → I' r = I r) → Q none (S, I', J)) : MT G (d + 2) 2 [.ref b, .ref b'] (S, I, J) Q := by
  obtain ⟨s0, s1, s2, s3, s4, s5⟩ := hb
  obtain ⟨t0, t1, t2, t3, t4, t5⟩ := hb'
  obtain ⟨f0, f1, f2, f3⟩ := hF
  have cz : (nI F.2.1).toNatClampNeg = F.2.1 := nI_clamp (by omega)
  refine MT.by ck2 (by decide) rfl (Nat.le_of_ble_eq_true rfl) rfl 300 [] ?_
  conv => whnf
  try dsimp only
  rw [t0]
  conv => whnf
  try dsimp only
  rw [s0]
  conv => whnf
  try dsimp only
  refine ⟨h01, ?_⟩
  conv => whnf
  try dsimp only
  rw [t0]
  conv => whnf
  try dsimp only
  rw [s0]
  conv => whnf
  try dsimp only
  rw [s0]
  conv => whnf
  try dsimp only
  rw [s1]
  conv => whnf
  try dsimp only
  refine ⟨by unfold vp_in; decide, ?_⟩
  conv => whnf
  try dsimp only
  rw [t0]
  conv => whnf
  try dsimp only
  rw [t1]
  conv => whnf
  try dsimp only
  refine ⟨by unfold vp_in; decide, ?_⟩
  conv => whnf
  try dsimp only
  rw [s2]
  conv => whnf
  try dsimp only
  have g1 : sMem (b' + 2) (F.1 0) (upI (upI I b 1 (I b' 1)) b 5 (upI I b 1 (I b' 1) b' 5)) := sMem_oth f1 (by rw [upI_oth (by omega), upI_oth (by omega)])
  refine ⟨trivial, c_takeOverS2 s2 t2 (by omega) g1 (fun I2 p1 p2 => ?_)⟩
  refine EV.at ck2 (by decide) 300 [] ?_
  conv => whnf
  try dsimp only
  rw [s0]
  conv => whnf
  try dsimp only
  rw [s1]
  conv => whnf
  try dsimp only
  refine ⟨by unfold vp_in; decide, ?_⟩
  conv => whnf
  try dsimp only
  rw [t0]
  conv => whnf
  try dsimp only
  rw [t1]
  conv => whnf
  try dsimp only
  refine ⟨by unfold vp_in; decide, ?_⟩
  conv => whnf
  try dsimp only
  rw [s3]
  conv => whnf
  try dsimp only
  have g2 : sMem (b' + 3) (F.1 1) I2 := sMem_oth f2 (by rw [p2 _ (by omega), upI_oth (by omega), upI_oth (by omega)])
  refine ⟨trivial, c_takeOverS2 s3 t3 (by omega) g2 (fun I3 p3 p4 => ?_)⟩
  have e5 : I3 b 5 = nI F.2.1 := by rw [p4 _ (by omega), p2 _ (by omega), up_same, upI_oth (by omega)]; exact f0
  have e1 : I3 b 1 = I b' 1 := by rw [p4 _ (by omega), p2 _ (by omega), up_ne (by decide), up_same]
  have eo : ∀ r, r ≠ b → r ≠ b + 2 → r ≠ b + 3 → I3 r = I r := fun r h1 h2 h3 => by rw [p4 r h3, p2 r h2, upI_oth h1, upI_oth h1]
  have es : sMem (b + 2) (F.1 0) I3 := sMem_oth p1 (p4 _ (by omega))
  refine EV.at ck2 (by decide) 300 [] ?_
  conv => whnf
  try dsimp only
  rw [t0]
  conv => whnf
  try dsimp only
  rw [s0]
  conv => whnf
  try dsimp only
  rw [s0]
  conv => whnf
  try dsimp only
  rw [t4]
  conv => whnf
  try dsimp only
  rw [s4]
  conv => whnf
  try dsimp only
  rw [e5]
  refine ⟨⟨by decide, by decide, nI_pos (by omega), ?_, ?_⟩, ?_⟩
  · rw [cz]; show 0 + F.2.1 ≤ 40; omega
  · rw [cz]; show 0 + F.2.1 ≤ 40; omega
  conv => whnf
  try dsimp only
  rw [cz]
  rw [t0]
  conv => whnf
  try dsimp only
  rw [s0]
  conv => whnf
  try dsimp only
  rw [s0]
  conv => whnf
  try dsimp only
  have e5' : ∀ x y u v w, x ≠ b → cpI I3 y x u v w b 5 = nI F.2.1 := fun x y u v w hx => by rw [cp_oth (Ne.symm hx)]; exact e5
  rw [t5]
  conv => whnf
  try dsimp only
  rw [s5]
  conv => whnf
  try dsimp only
  have c0 : Int32.toNatClampNeg 0 = 0 := by decide
  simp only [c0]
  rw [show cpI I3 (b' + 4) (b + 4) 0 0 F.2.1 b 5 = nI F.2.1 from e5' _ _ _ _ _ (by omega)]
  refine ⟨⟨by decide, by decide, nI_pos (by omega), ?_, ?_⟩, ?_⟩
  · rw [cz]; show 0 + F.2.1 ≤ 40; omega
  · rw [cz]; show 0 + F.2.1 ≤ 40; omega
  conv => whnf
  try dsimp only
  rw [cz]
  refine ⟨trivial, h _ ⟨?_, ?_, ?_, fun i hi => ⟨?_, ?_⟩⟩ ?_ (fun r hr => ?_)⟩
  · rw [cp_oth (by omega), cp_oth (by omega)]; exact e5
  · exact sMem_oth es (by rw [cp_oth (by omega), cp_oth (by omega)])
  · exact sMem_oth p3 (by rw [cp_oth (by omega), cp_oth (by omega)])
  · rw [cp_oth (by omega), cp_in hi, eo _ (by omega) (by omega) (by omega)]; exact (f3 i hi).1
  · rw [cp_in hi, cp_oth (by omega), eo _ (by omega) (by omega) (by omega)]; exact (f3 i hi).2
  · rw [cp_oth (by omega), cp_oth (by omega)]; exact e1
  · rw [cp_oth (by omega), cp_oth (by omega)]; exact eo r (by omega) (by omega) (by omega)
/-- fighters as a night begins -/
def begQ (c : Nat) (sh fi : Nat → Nat) : Nat → SD := fun w => (sh w, fi w, 2 ^ sh w, 2 ^ c - 1)
theorem c_begin {c : Nat} {sh fi : Nat → Nat} (hc : c ≤ 12) (hC : I 6 3 = nI c) (hs0 : sh 0 < 5) (hs1 : sh 1 < 5) (e0 : I 26 0 = nI (sh 0)) (e1 : I 26 1 = nI (sh 1)) (e2 : I 27 0 = nI (fi 0)) (e3 : I 27 1 = nI (fi 1)) (h : ∀ I', I' 12 1 = 1 → I' 12 5 = nI 0 → fMem (begQ c sh fi) I' → (∀ r, r ≠ 12 → r ≠ 14 → r ≠ 15 → I' r = I r) → Q none (SH n, I', J)) : MT G (d + 1) 1 [.ref 12, .ref 26, .ref 27] (SH n, I, J) Q := by
  have ek : jshl 1 (nI c) - 1 = nI (2 ^ c - 1) := by
    rw [nu_one (by omega), show (1 : Int32) = nI 1 from rfl, pk_sub (Nat.two_pow_pos c)]
  refine MT.by ck1 (by decide) rfl (Nat.le_of_ble_eq_true rfl) rfl 300 [12] ?_
  conv => whnf
  try dsimp only
  refine ⟨Or.inr rfl, ?_⟩
  conv => whnf
  try dsimp only
  refine ⟨trivial, ?_⟩
  generalize hI0 : upI (upI I 12 1 1) 12 5 0 = I0
  have o0 : ∀ r, r ≠ 12 → I0 r = I r := fun r hr => by rw [← hI0, upI_oth hr, upI_oth hr]
  have a1 : I0 12 1 = 1 := by rw [← hI0]; rfl
  have a5 : I0 12 5 = nI 0 := by rw [← hI0]; rfl
  have b0 : I0 26 0 = nI (sh 0) := by rw [o0 26 (by decide)]; exact e0
  have b1 : I0 26 1 = nI (sh 1) := by rw [o0 26 (by decide)]; exact e1
  have b2 : I0 27 0 = nI (fi 0) := by rw [o0 27 (by decide)]; exact e2
  have b3 : I0 27 1 = nI (fi 1) := by rw [o0 27 (by decide)]; exact e3
  have b4 : I0 6 3 = nI c := by rw [o0 6 (by decide)]; exact hC
  have k2 : ∀ I2, sMem 14 (begQ c sh fi 0) I2 → sMem 15 (begQ c sh fi 1) I2 → (∀ r, r ≠ 14 → r ≠ 15 → I2 r = I0 r) → EV G 1 d 0 0 12 [.ref 12, .ref 26, .ref 27, .int 2] [] (SH n, I2, J) Q := by
    intro I2 p1 p2 p3
    refine EV.at ck1 (by decide) 300 [] ?_
    conv => whnf
    try dsimp only
    first | refine ⟨fun h1 => absurd h1 (by decide), fun _ => ?_⟩ | refine ⟨fun _ => ?_, fun h1 => absurd (by decide) h1⟩ | refine ⟨fun h1 => absurd (by decide) h1, fun _ => ?_⟩ | refine ⟨fun _ => ?_, fun h1 => absurd h1 (by decide)⟩
    conv => whnf
    try dsimp only
    refine ⟨trivial, h I2 (by rw [p3 12 (by decide) (by decide)]; exact a1) (by rw [p3 12 (by decide) (by decide)]; exact a5) ⟨p1, p2⟩ (fun r h1 h2 h3 => by rw [p3 r h2 h3]; exact o0 r h1)⟩
  have k1 : ∀ I1, sMem 14 (begQ c sh fi 0) I1 → (∀ r, r ≠ 14 → I1 r = I0 r) → EV G 1 d 0 0 12 [.ref 12, .ref 26, .ref 27, .int 1] [] (SH n, I1, J) Q := by
    intro I1 p1 p2
    have d1 : I1 26 1 = nI (sh 1) := by rw [p2 26 (by decide)]; exact b1
    have d3 : I1 27 1 = nI (fi 1) := by rw [p2 27 (by decide)]; exact b3
    have d4 : I1 6 3 = nI c := by rw [p2 6 (by decide)]; exact b4
    refine EV.at ck1 (by decide) 300 [] ?_
    conv => whnf
    try dsimp only
    first | refine ⟨fun h1 => absurd h1 (by decide), fun _ => ?_⟩ | refine ⟨fun _ => ?_, fun h1 => absurd (by decide) h1⟩ | refine ⟨fun h1 => absurd (by decide) h1, fun _ => ?_⟩ | refine ⟨fun _ => ?_, fun h1 => absurd h1 (by decide)⟩
    conv => whnf
    try dsimp only
    refine ⟨by unfold vp_in; decide, ?_⟩
    conv => whnf
    try dsimp only
    refine ⟨by unfold vp_in; decide, ?_⟩
    conv => whnf
    try dsimp only
    refine ⟨by unfold vp_in; decide, ?_⟩
    conv => whnf
    try dsimp only
    refine ⟨by unfold vp_in; decide, ?_⟩
    conv => whnf
    try dsimp only
    refine ⟨by unfold vp_in; decide, ?_⟩
    conv => whnf
    try dsimp only
    refine ⟨by unfold vp_in; decide, ?_⟩
    conv => whnf
    try dsimp only
    refine ⟨by unfold vp_in; decide, ?_⟩
    conv => whnf
    try dsimp only
    refine ⟨trivial, k2 _ (sMem_oth p1 ?_) ⟨?_, ?_, ?_, ?_⟩ (fun r h1 h2 => ?_)⟩
    · rw [upI_oth (by decide), upI_oth (by decide), upI_oth (by decide), upI_oth (by decide)]
    · rw [up_ne (by decide), up_ne (by decide), up_ne (by decide), up_same]; exact d1
    · rw [up_ne (by decide), up_ne (by decide), up_same]; exact d3
    · rw [up_ne (by decide), up_same, upI_oth (by decide), upI_oth (by decide)]
      exact (congrArg (jshl 1) d1).trans (nu_one (by omega))
    · rw [up_same, upI_oth (by decide), upI_oth (by decide), upI_oth (by decide), d4]; exact ek
    · rw [upI_oth h2, upI_oth h2, upI_oth h2, upI_oth h2]; exact p2 r h1
  refine EV.at ck1 (by decide) 300 [] ?_
  conv => whnf
  try dsimp only
  first | refine ⟨fun h1 => absurd h1 (by decide), fun _ => ?_⟩ | refine ⟨fun _ => ?_, fun h1 => absurd (by decide) h1⟩ | refine ⟨fun h1 => absurd (by decide) h1, fun _ => ?_⟩ | refine ⟨fun _ => ?_, fun h1 => absurd h1 (by decide)⟩
  conv => whnf
  try dsimp only
  refine ⟨by unfold vp_in; decide, ?_⟩
  conv => whnf
  try dsimp only
  refine ⟨by unfold vp_in; decide, ?_⟩
  conv => whnf
  try dsimp only
  refine ⟨by unfold vp_in; decide, ?_⟩
  conv => whnf
  try dsimp only
  refine ⟨by unfold vp_in; decide, ?_⟩
  conv => whnf
  try dsimp only
  refine ⟨by unfold vp_in; decide, ?_⟩
  conv => whnf
  try dsimp only
  refine ⟨by unfold vp_in; decide, ?_⟩
  conv => whnf
  try dsimp only
  refine ⟨by unfold vp_in; decide, ?_⟩
  conv => whnf
  try dsimp only
  refine ⟨trivial, k1 _ ⟨?_, ?_, ?_, ?_⟩ (fun r h1 => ?_)⟩
  · rw [up_ne (by decide), up_ne (by decide), up_ne (by decide), up_same]; exact b0
  · rw [up_ne (by decide), up_ne (by decide), up_same]; exact b2
  · rw [up_ne (by decide), up_same, upI_oth (by decide), upI_oth (by decide)]
    exact (congrArg (jshl 1) b0).trans (nu_one (by omega))
  · rw [up_same, upI_oth (by decide), upI_oth (by decide), upI_oth (by decide), b4]; exact ek
  · rw [upI_oth h1, upI_oth h1, upI_oth h1, upI_oth h1]
/-- a table as it is taken over from a draft: figures beyond the shapes, and a shape's own, end -/
def ownT (T : TN) : TN := (tS T, tK T, (fun i => clrN (tT T i % 2 ^ tS T) i), tC T, tF T, tI T, tW T)
def dMem (T : TN) (I : Nat → Nat → Int32) : Prop := I 20 0 = nI (tS T) ∧ (∀ i, i < tS T → I 21 i = nI (tK T i) ∧ I 22 i = nI (tT T i)) ∧ I 20 3 = nI (tC T) ∧ ∀ k, k < tC T → I 23 k = nI (tF T k) ∧ I 24 k = nI (tI T k) ∧ I 25 k = nI (tW T k)
theorem own_eq {s i t : Nat} (hs : s ≤ 5) (hi : i < s) : nI t &&& (jshl 1 (nI s) - 1) &&& (jshl 1 (nI i) ^^^ (-1)) = nI (clrN (t % 2 ^ s) i) := by
  rw [nu_one (show s < 31 by omega), show (1 : Int32) = nI 1 from rfl, pk_sub (Nat.two_pow_pos s), fa_and, Nat.and_two_pow_sub_one_eq_mod]
  exact nu_clr (by omega)
theorem c_takeOverT (hs : tS T ≤ 5) (hcc : tC T ≤ 12) (hD : dMem T I) (h : ∀ I', tMem (ownT T) I' → (∀ r, r < 6 ∨ 11 < r → I' r = I r) → Q none (SH n, I', J)) : MT G (d + 1) 79 [.ref 6, .ref 20] (SH n, I, J) Q := by
  obtain ⟨D0, D1, D2, D3⟩ := hD
  have cc : (nI (tC T)).toNatClampNeg = tC T := nI_clamp (by omega)
  have c0 : Int32.toNatClampNeg 0 = 0 := by decide
  have loop : ∀ m j I1, j + m = tS T → I1 6 0 = nI (tS T) → I1 6 3 = nI (tC T) → (∀ i, i < j → I1 7 i = nI (tK T i) ∧ I1 8 i = nI (clrN (tT T i % 2 ^ tS T) i)) → (∀ r, r < 6 ∨ 8 < r → I1 r = I r) → EV G 79 d 0 0 18 [.ref 6, .ref 20, .int (nI j)] [] (SH n, I1, J) Q := by
    intro m
    induction m with
    | zero =>
      intro j I1 hj p0 p1 p2 p3
      have hj : j = tS T := hj
      refine EV.at ck79 (by decide) 300 [] ?_
      conv => whnf
      try dsimp only
      rw [p0, ← hj]
      refine ⟨fun _ => ?_, fun h1 => absurd (nI_le (Nat.le_refl j) (by omega)) h1⟩
      conv => whnf
      try dsimp only
      rw [p1]
      refine ⟨⟨by decide, by decide, nI_pos (by omega), ?_, ?_⟩, ?_⟩
      · rw [cc]; show 0 + tC T ≤ 12; omega
      · rw [cc]; show 0 + tC T ≤ 12; omega
      conv => whnf
      try dsimp only
      simp only [cc, c0]
      rw [show cpI I1 23 9 0 0 (tC T) 6 3 = nI (tC T) from by rw [cp_oth (by decide)]; exact p1]
      refine ⟨⟨by decide, by decide, nI_pos (by omega), ?_, ?_⟩, ?_⟩
      · rw [cc]; show 0 + tC T ≤ 12; omega
      · rw [cc]; show 0 + tC T ≤ 12; omega
      conv => whnf
      try dsimp only
      simp only [cc, c0]
      rw [show cpI (cpI I1 23 9 0 0 (tC T)) 24 10 0 0 (tC T) 6 3 = nI (tC T) from by rw [cp_oth (by decide), cp_oth (by decide)]; exact p1]
      refine ⟨⟨by decide, by decide, nI_pos (by omega), ?_, ?_⟩, ?_⟩
      · rw [cc]; show 0 + tC T ≤ 12; omega
      · rw [cc]; show 0 + tC T ≤ 12; omega
      conv => whnf
      try dsimp only
      simp only [cc, c0]
      refine ⟨trivial, h _ ⟨?_, fun i hi => ?_, ?_, fun k hk => ⟨?_, ?_, ?_⟩⟩ (fun r hr => ?_)⟩
      · rw [cp_oth (by decide), cp_oth (by decide), cp_oth (by decide)]; exact p0
      · rw [cp_oth (by decide), cp_oth (by decide), cp_oth (by decide), cp_oth (by decide), cp_oth (by decide), cp_oth (by decide)]; exact p2 i (by have : i < tS T := hi; omega)
      · rw [cp_oth (by decide), cp_oth (by decide), cp_oth (by decide)]; exact p1
      · rw [cp_oth (by decide), cp_oth (by decide), cp_in (m := tC T) hk, p3 23 (by decide)]; exact (D3 k hk).1
      · rw [cp_oth (by decide), cp_in (m := tC T) hk, cp_oth (by decide), p3 24 (by decide)]; exact (D3 k hk).2.1
      · rw [cp_in (m := tC T) hk, cp_oth (by decide), cp_oth (by decide), p3 25 (by decide)]; exact (D3 k hk).2.2
      · rw [cp_oth (by omega), cp_oth (by omega), cp_oth (by omega)]; exact p3 r (by omega)
    | succ m ih =>
      intro j I1 hj p0 p1 p2 p3
      have cj : (nI j).toNatClampNeg = j := nI_clamp (by omega)
      have q1 : I1 21 j = nI (tK T j) := by rw [p3 21 (by decide)]; exact (D1 j (by omega)).1
      have q2 : I1 22 j = nI (tT T j) := by rw [p3 22 (by decide)]; exact (D1 j (by omega)).2
      refine EV.at ck79 (by decide) 300 [] ?_
      conv => whnf
      try dsimp only
      rw [p0]
      refine ⟨fun h1 => absurd h1 (nI_ge (show j < tS T by omega) (by omega)), fun _ => ?_⟩
      conv => whnf
      try dsimp only
      refine ⟨in_nI (show j < 5 by omega) (by decide), ?_⟩
      conv => whnf
      try dsimp only
      refine ⟨in_nI (show j < 5 by omega) (by decide), ?_⟩
      conv => whnf
      try dsimp only
      refine ⟨in_nI (show j < 5 by omega) (by decide), ?_⟩
      conv => whnf
      try dsimp only
      refine ⟨in_nI (show j < 5 by omega) (by decide), ?_⟩
      conv => whnf
      try dsimp only
      rw [cj, q1]
      have ihj := ih (j + 1) (upI (upI I1 7 j (nI (tK T j))) 8 j (nI (clrN (tT T j % 2 ^ tS T) j))) (by omega) (by rw [upI_oth (by decide), upI_oth (by decide)]; exact p0) (by rw [upI_oth (by decide), upI_oth (by decide)]; exact p1) (fun i hi => ?_) (fun r hr => by rw [upI_oth (by omega), upI_oth (by omega)]; exact p3 r hr)
      · rw [show upI I1 7 j (nI (tK T j)) 22 j = nI (tT T j) from q2, show upI I1 7 j (nI (tK T j)) 6 0 = nI (tS T) from p0, own_eq hs (by omega)]
        rw [nI_succ j] at ihj
        exact ⟨trivial, ihj⟩
      · by_cases hij : i = j
        · subst hij
          exact ⟨by rw [upI_oth (by decide), up_same], up_same⟩
        · rw [upI_oth (by decide), up_ne hij, up_ne hij, upI_oth (by decide)]
          exact p2 i (by omega)
  refine MT.by ck79 (by decide) rfl (Nat.le_of_ble_eq_true rfl) rfl 300 [18] ?_
  conv => whnf
  try dsimp only
  rw [show upI I 6 0 (I 20 0) 20 3 = I 20 3 from rfl, D0, D2]
  refine ⟨trivial, loop (tS T) 0 _ (by omega) rfl rfl (fun i hi => absurd hi (by omega)) (fun r hr => by rw [upI_oth (by omega), upI_oth (by omega)])⟩
theorem c_aboutShape {i : Nat} {x : Int32} (hT : tOK T) (hM : tMem T I) (hi : i < tS T) (h : Q (some (.int (if x = 0 then nI (tK T i) else if x = 1 then bset (fun j => btB (I 8) (I 7) i j) (tS T) else if x = 2 then bset (fun j => btB (I 8) (I 7) j i) (tS T) else cntI (fun k => decide (I 10 k = nI i)) (tC T)))) (SH n, I, J)) : MT G (d + 4) 85 [.ref 6, .int (nI i), .int x] (SH n, I, J) Q := by
  have h5 := hT.1
  have ci : (nI i).toNatClampNeg = i := nI_clamp (by omega)
  refine MT.by ck85 (by decide) rfl (Nat.le_of_ble_eq_true rfl) rfl 300 [] ?_
  conv => whnf
  try dsimp only
  refine ⟨fun h1 => ?_, fun h1 => ?_⟩
  · rw [if_pos h1] at h
    conv => whnf
    try dsimp only
    refine ⟨in_nI (show i < 5 by omega) (by decide), ?_⟩
    conv => whnf
    try dsimp only
    rw [ci, (hM.2.1 i hi).1]
    exact ⟨trivial, h⟩
  rw [if_neg h1] at h
  refine ⟨fun h2 => ?_, fun h2 => ?_⟩
  · rw [if_pos h2] at h
    conv => whnf
    try dsimp only
    refine ⟨trivial, c_beatenBy (by omega) h5 hM.1 ?_⟩
    refine EV.at ck85 (by decide) 300 [] ?_
    conv => whnf
    try dsimp only
    exact ⟨trivial, h⟩
  rw [if_neg h2] at h
  refine ⟨fun h3 => ?_, fun h3 => ?_⟩
  · rw [if_pos h3] at h
    conv => whnf
    try dsimp only
    refine ⟨trivial, c_beatersOf (by omega) h5 hM.1 ?_⟩
    refine EV.at ck85 (by decide) 300 [] ?_
    conv => whnf
    try dsimp only
    exact ⟨trivial, h⟩
  rw [if_neg h3] at h
  conv => whnf
  try dsimp only
  refine ⟨trivial, c_changesInto hT.2.2.1 hM.2.2.1 ?_⟩
  refine EV.at ck85 (by decide) 300 [] ?_
  conv => whnf
  try dsimp only
  exact ⟨trivial, h⟩
end
