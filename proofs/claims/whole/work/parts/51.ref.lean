/-! the reference's memory of the common state (cells 77 to 109) -/
def pl (q : Nat → SD) (e : Nat) : Nat := if e = 0 then (q 0).1 else if e = 1 then (q 1).1 else if e = 2 then (q 0).2.1 else if e = 3 then (q 1).2.1 else if e = 4 then (q 0).2.2.1 else (q 1).2.2.1
def wM (b : Nat) (F : FG) (I : Nat → Nat → Int32) : Prop := (∀ e, e < 6 → I 78 (b + e) = nI (pl F.1 e)) ∧ I 78 (b + 6) = nI (F.1 0).2.2.2 ∧ I 78 (b + 7) = nI (F.1 1).2.2.2 ∧ I 78 (b + 8) = nI F.2.1 ∧ ∀ i, i < F.2.1 → I 78 (b + 9 + i) = nI (F.2.2.1 i) ∧ ∀ e, e < 6 → I 78 (b + 49 + 6 * i + e) = nI (pl (F.2.2.2 i) e)
def mT (T : TN) (I : Nat → Nat → Int32) : Prop := I 77 3 = nI (tS T) ∧ (∀ i, i < tS T → I 80 i = nI (tK T i) ∧ I 81 i = nI (tT T i)) ∧ I 77 6 = nI (tC T) ∧ ∀ k, k < tC T → I 82 k = nI (tF T k) ∧ I 83 k = nI (tI T k) ∧ I 84 k = nI (tW T k)
def mF (b : Bool) (F : FG) (I : Nat → Nat → Int32) : Prop := I 77 2 = b2i b ∧ wM 0 F I
def mK (K : Nat → Bool × FG) (I : Nat → Nat → Int32) : Prop := ∀ k, k < 3 → I 79 k = b2i (K k).1 ∧ ((K k).1 = true → wM (289 * (k + 1)) (K k).2 I)
def mR (s : Nat → Nat) (c : Nat → Nat → Int32) (I : Nat → Nat → Int32) : Prop := ∀ r, r < 6 → I 86 r = szI (s r) ∧ ∀ i, i + 1 < s r → I 87 (40 * r + i) = c r i
def mX (s : Nat → Nat) (c : Nat → Nat → Int32) (I : Nat → Nat → Int32) : Prop := ∀ r, r < 4 → I 88 r = szI (s r) ∧ ∀ i, i + 1 < s r → I 89 (80 * r + i) = c r i
def mN (l : Int32) (m : Nat → Int32) (I : Nat → Nat → Int32) : Prop := I 77 10 = l ∧ ∀ f, f < 6 → I 85 f = m f
def MA (a : AB) (I : Nat → Nat → Int32) (J : Nat → Nat → Int64) : Prop := mT (aT a) I ∧ mF (aH a) (aF a) I ∧ mK (aK a) I ∧ mR (aRs a) (aRc a) I ∧ mX (aTs a) (aTc a) I ∧ mN (aL a) (aM a) I ∧ I 77 12 = aA a ∧ (J 77 13 = aU a ∧ J 77 14 = aW a)
/-- the reference's own cells beside it may have changed -/
def SR (I I' : Nat → Nat → Int32) : Prop := (∀ r, r < 90 → r ≠ 77 → I' r = I r) ∧ I' 77 2 = I 77 2 ∧ I' 77 3 = I 77 3 ∧ I' 77 6 = I 77 6 ∧ I' 77 10 = I 77 10 ∧ I' 77 12 = I 77 12
theorem SR.rf (I : Nat → Nat → Int32) : SR I I := ⟨fun _ _ _ => rfl, rfl, rfl, rfl, rfl, rfl⟩
theorem SR.tr {I I' I'' : Nat → Nat → Int32} (h : SR I I') (h' : SR I' I'') : SR I I'' := by
  obtain ⟨a0, a1, a2, a3, a4, a5⟩ := h
  obtain ⟨b0, b1, b2, b3, b4, b5⟩ := h'
  exact ⟨fun r h1 h2 => (b0 r h1 h2).trans (a0 r h1 h2), b1.trans a1, b2.trans a2, b3.trans a3, b4.trans a4, b5.trans a5⟩
theorem SR.hi {I : Nat → Nat → Int32} {r k : Nat} {x : Int32} (h : 90 ≤ r) : SR I (upI I r k x) := ⟨fun r' h1 h2 => upI_oth (by omega), by rw [upI_oth (by omega)], by rw [upI_oth (by omega)], by rw [upI_oth (by omega)], by rw [upI_oth (by omega)], by rw [upI_oth (by omega)]⟩
theorem SR.fl {I : Nat → Nat → Int32} {k : Nat} {x : Int32} (h : 13 ≤ k) : SR I (upI I 77 k x) := ⟨fun r' h1 h2 => upI_oth h2, up_ne (by omega), up_ne (by omega), up_ne (by omega), up_ne (by omega), up_ne (by omega)⟩
def FM (I I' : Nat → Nat → Int32) : Prop := ∀ r, r < 77 → I' r = I r
def FMJ (J J' : Nat → Nat → Int64) : Prop := ∀ r, r < 77 → J' r = J r
theorem FM.rf (I : Nat → Nat → Int32) : FM I I := fun _ _ => rfl
theorem FMJ.rf (J : Nat → Nat → Int64) : FMJ J J := fun _ _ => rfl
theorem FM.up {I I' : Nat → Nat → Int32} {r k : Nat} {x : Int32} (h : FM I I') (hr : 77 ≤ r) : FM I (upI I' r k x) := fun c hc => by rw [upI_oth (by omega)]; exact h c hc
theorem FM.tr {I I' I'' : Nat → Nat → Int32} (h : FM I I') (h' : FM I' I'') : FM I I'' := fun c hc => (h' c hc).trans (h c hc)
theorem SR.fm {I I' : Nat → Nat → Int32} (h : SR I I') : FM I I' := fun c hc => h.1 c (by omega) (by omega)
def RS (G : GG) (n y : Nat) (as : List Value) (sp : AB → SP) : Prop := ∀ (D : Nat) (I : Nat → Nat → Int32) (J : Nat → Nat → Int64) (Q : Option Value → MH → Prop) (a : AB), aOK a → MA a I J →
  (∀ I' J', MA (sp a).2 I' J' → FM I I' → FMJ J J' → Q (some (.int (sp a).1)) (SH n, I', J')) → MT G (D + 60) y (.ref 77 :: as) (SH n, I, J) Q
def RSL (G : GG) (n y : Nat) (f : AB → Int64) : Prop := ∀ (D : Nat) (I : Nat → Nat → Int32) (J : Nat → Nat → Int64) (Q : Option Value → MH → Prop) (a : AB), aOK a → MA a I J →
  (∀ I' J', MA a I' J' → FM I I' → FMJ J J' → Q (some (.long (f a))) (SH n, I', J')) → MT G (D + 60) y [.ref 77] (SH n, I, J) Q
theorem rfin {n : Nat} {I I' : Nat → Nat → Int32} {J J' : Nat → Nat → Int64} {Q : Option Value → MH → Prop} {sp : SP} {v : Int32} {a' : AB} (hs : sp = (v, a')) (hC : MA a' I' J') (h1 : FM I I') (h2 : FMJ J J') (h : ∀ I' J', MA sp.2 I' J' → FM I I' → FMJ J J' → Q (some (.int sp.1)) (SH n, I', J')) : Q (some (.int v)) (SH n, I', J') := by
  subst hs
  exact h I' J' hC h1 h2
section
variable {I I' : Nat → Nat → Int32} {J J' : Nat → Nat → Int64} {a : AB}
theorem wM.of {b : Nat} {F : FG} (h : wM b F I) (h78 : I' 78 = I 78) : wM b F I' := by
  unfold wM at *
  rw [h78]
  exact h
theorem mT.of {T : TN} (h : mT T I) (hf : ∀ r, 80 ≤ r → r < 85 → I' r = I r) (h3 : I' 77 3 = I 77 3) (h6 : I' 77 6 = I 77 6) : mT T I' := by
  unfold mT at *
  rw [hf 80 (by omega) (by omega), hf 81 (by omega) (by omega), hf 82 (by omega) (by omega), hf 83 (by omega) (by omega), hf 84 (by omega) (by omega), h3, h6]
  exact h
theorem mF.of {b : Bool} {F : FG} (h : mF b F I) (h78 : I' 78 = I 78) (h2 : I' 77 2 = I 77 2) : mF b F I' := ⟨by rw [h2]; exact h.1, h.2.of h78⟩
theorem mK.of {K : Nat → Bool × FG} (h : mK K I) (h78 : I' 78 = I 78) (h79 : I' 79 = I 79) : mK K I' := fun k hk => ⟨by rw [h79]; exact (h k hk).1, fun hb => ((h k hk).2 hb).of h78⟩
theorem mR.of {s : Nat → Nat} {c : Nat → Nat → Int32} (h : mR s c I) (h86 : I' 86 = I 86) (h87 : I' 87 = I 87) : mR s c I' := fun r hr => by rw [h86, h87]; exact h r hr
theorem mX.of {s : Nat → Nat} {c : Nat → Nat → Int32} (h : mX s c I) (h86 : I' 88 = I 88) (h87 : I' 89 = I 89) : mX s c I' := fun r hr => by rw [h86, h87]; exact h r hr
theorem mN.of {l : Int32} {m : Nat → Int32} (h : mN l m I) (h3 : I' 77 10 = I 77 10) (h38 : I' 85 = I 85) : mN l m I' := ⟨by rw [h3]; exact h.1, fun f hf => by rw [h38]; exact h.2 f hf⟩
theorem MA.scr (h : MA a I J) (hf : SR I I') (hJ : J' 77 13 = J 77 13) (hJ2 : J' 77 14 = J 77 14) : MA a I' J' := by
  obtain ⟨h1, h2, h3, h4, h5, h6, h7, h8⟩ := h
  obtain ⟨s0, s1, s2, s3, s4, s5⟩ := hf
  exact ⟨h1.of (fun r x y => s0 r (by omega) (by omega)) s2 s3, h2.of (s0 78 (by omega) (by omega)) s1, h3.of (s0 78 (by omega) (by omega)) (s0 79 (by omega) (by omega)), h4.of (s0 86 (by omega) (by omega)) (s0 87 (by omega) (by omega)), h5.of (s0 88 (by omega) (by omega)) (s0 89 (by omega) (by omega)), h6.of s4 (s0 85 (by omega) (by omega)), by rw [s5]; exact h7, by rw [hJ, hJ2]; exact h8⟩
theorem MA.ask {x : Int32} (h : MA a I J) : MA (uA a x) (upI I 77 12 x) J := by
  obtain ⟨h1, h2, h3, h4, h5, h6, h7, h8⟩ := h
  have o : ∀ r, r ≠ 77 → upI I 77 12 x r = I r := fun r hr => upI_oth hr
  have f : ∀ k, k ≠ 12 → upI I 77 12 x 77 k = I 77 k := fun k hk => up_ne hk
  exact ⟨h1.of (fun r x y => o r (by omega)) (f 3 (by omega)) (f 6 (by omega)), h2.of (o 78 (by omega)) (f 2 (by omega)), h3.of (o 78 (by omega)) (o 79 (by omega)), h4.of (o 86 (by omega)) (o 87 (by omega)), h5.of (o 88 (by omega)) (o 89 (by omega)), h6.of (f 10 (by omega)) (o 85 (by omega)), up_same, h8⟩
theorem MA.fnd {f : Nat} (h : MA a I J) (hf : f < 6) : MA (fnd a f) (upI (upI I 77 10 (nI f)) 85 f (I 85 f + 1)) J := by
  obtain ⟨h1, h2, h3, h4, h5, h6, h7, h8⟩ := h
  have o : ∀ r, r ≠ 77 → r ≠ 85 → upI (upI I 77 10 (nI f)) 85 f (I 85 f + 1) r = I r := fun r hr hr2 => by rw [upI_oth hr2, upI_oth hr]
  have g : ∀ k, k ≠ 10 → upI (upI I 77 10 (nI f)) 85 f (I 85 f + 1) 77 k = I 77 k := fun k hk => by rw [upI_oth (by decide), up_ne hk]
  refine ⟨h1.of (fun r x y => o r (by omega) (by omega)) (g 3 (by omega)) (g 6 (by omega)), h2.of (o 78 (by omega) (by omega)) (g 2 (by omega)), h3.of (o 78 (by omega) (by omega)) (o 79 (by omega) (by omega)), h4.of (o 86 (by omega) (by omega)) (o 87 (by omega) (by omega)), h5.of (o 88 (by omega) (by omega)) (o 89 (by omega) (by omega)), ⟨?_, fun k hk => ?_⟩, by rw [g 12 (by omega)]; exact h7, h8⟩
  · rw [upI_oth (by decide), up_same]
    rfl
  · show _ = if k = f then aM a k + 1 else aM a k
    by_cases hgf : k = f
    · subst hgf
      rw [up_same, if_pos rfl, h6.2 k hk]
    · rw [up_ne hgf, upI_oth (by decide), if_neg hgf]
      exact h6.2 k hk
theorem MA.row {j m : Nat} {c : Nat → Int32} (h : MA a I J) (hj : j < 6) (hf : ∀ r, r < 90 → r ≠ 86 → r ≠ 87 → I' r = I r) (h86 : ∀ r, r ≠ j → I' 86 r = I 86 r) (hs : I' 86 j = szI m) (h87 : ∀ x, x < 40 * j ∨ 40 * j + 40 ≤ x → I' 87 x = I 87 x) (hc : ∀ i, i + 1 < m → I' 87 (40 * j + i) = c i) (h41 : ∀ r, r < 6 → aRs a r ≤ 41) : MA (sRow a j m c) I' J := by
  obtain ⟨h1, h2, h3, h4, h5, h6, h7, h8⟩ := h
  have e7 : I' 77 = I 77 := hf 77 (by omega) (by omega) (by omega)
  refine ⟨h1.of (fun r x y => hf r (by omega) (by omega) (by omega)) (by rw [e7]) (by rw [e7]), h2.of (hf 78 (by omega) (by omega) (by omega)) (by rw [e7]), h3.of (hf 78 (by omega) (by omega) (by omega)) (hf 79 (by omega) (by omega) (by omega)), fun r hr => ?_, h5.of (hf 88 (by omega) (by omega) (by omega)) (hf 89 (by omega) (by omega) (by omega)), h6.of (by rw [e7]) (hf 85 (by omega) (by omega) (by omega)), by rw [e7]; exact h7, h8⟩
  show I' 86 r = szI (if r = j then m else aRs a r) ∧ ∀ i, i + 1 < (if r = j then m else aRs a r) → I' 87 (40 * r + i) = (if r = j then c else aRc a r) i
  by_cases hrj : r = j
  · subst hrj
    rw [if_pos rfl, if_pos rfl]
    exact ⟨hs, hc⟩
  · rw [if_neg hrj, if_neg hrj, h86 r hrj]
    refine ⟨(h4 r hr).1, fun i hi => ?_⟩
    have := h41 r hr
    rw [h87 _ (by omega)]
    exact (h4 r hr).2 i hi
theorem MA.txt {j m : Nat} {c : Nat → Int32} (h : MA a I J) (hj : j < 4) (hf : ∀ r, r < 90 → r ≠ 88 → r ≠ 89 → I' r = I r) (h86 : ∀ r, r ≠ j → I' 88 r = I 88 r) (hs : I' 88 j = szI m) (h87 : ∀ x, x < 80 * j ∨ 80 * j + 80 ≤ x → I' 89 x = I 89 x) (hc : ∀ i, i + 1 < m → I' 89 (80 * j + i) = c i) (h41 : ∀ r, r < 4 → aTs a r ≤ 81) : MA (sTxt a j m c) I' J := by
  obtain ⟨h1, h2, h3, h4, h5, h6, h7, h8⟩ := h
  have e7 : I' 77 = I 77 := hf 77 (by omega) (by omega) (by omega)
  refine ⟨h1.of (fun r x y => hf r (by omega) (by omega) (by omega)) (by rw [e7]) (by rw [e7]), h2.of (hf 78 (by omega) (by omega) (by omega)) (by rw [e7]), h3.of (hf 78 (by omega) (by omega) (by omega)) (hf 79 (by omega) (by omega) (by omega)), h4.of (hf 86 (by omega) (by omega) (by omega)) (hf 87 (by omega) (by omega) (by omega)), fun r hr => ?_, h6.of (by rw [e7]) (hf 85 (by omega) (by omega) (by omega)), by rw [e7]; exact h7, h8⟩
  show I' 88 r = szI (if r = j then m else aTs a r) ∧ ∀ i, i + 1 < (if r = j then m else aTs a r) → I' 89 (80 * r + i) = (if r = j then c else aTc a r) i
  by_cases hrj : r = j
  · subst hrj
    rw [if_pos rfl, if_pos rfl]
    exact ⟨hs, hc⟩
  · rw [if_neg hrj, if_neg hrj, h86 r hrj]
    refine ⟨(h5 r hr).1, fun i hi => ?_⟩
    have := h41 r hr
    rw [h87 _ (by omega)]
    exact (h5 r hr).2 i hi
theorem MA.cell {j i : Nat} {v : Int32} (h : MA a I J) (hj : j < 6) (hi : i < 40) (h41 : ∀ r, r < 6 → aRs a r ≤ 41) : MA (sRow a j (aRs a j) (fun x => if x = i then v else aRc a j x)) (upI I 87 (40 * j + i) v) J := by
  have h4 := h.2.2.2.1 j hj
  refine MA.row h hj (fun r _ _ h2 => upI_oth h2) (fun r _ => by rw [upI_oth (by decide)]) (by rw [upI_oth (by decide)]; exact h4.1) (fun x hx => up_ne (by omega)) (fun x hx => ?_) h41
  by_cases hxi : x = i
  · subst hxi
    rw [up_same, if_pos rfl]
  · rw [up_ne (by omega), if_neg hxi]
    exact h4.2 x hx
theorem MA.tcell {j i : Nat} {v : Int32} (h : MA a I J) (hj : j < 4) (hi : i < 80) (h41 : ∀ r, r < 4 → aTs a r ≤ 81) : MA (sTxt a j (aTs a j) (fun x => if x = i then v else aTc a j x)) (upI I 89 (80 * j + i) v) J := by
  have h4 := h.2.2.2.2.1 j hj
  refine MA.txt h hj (fun r _ _ h2 => upI_oth h2) (fun r _ => by rw [upI_oth (by decide)]) (by rw [upI_oth (by decide)]; exact h4.1) (fun x hx => up_ne (by omega)) (fun x hx => ?_) h41
  by_cases hxi : x = i
  · subst hxi
    rw [up_same, if_pos rfl]
  · rw [up_ne (by omega), if_neg hxi]
    exact h4.2 x hx
end
theorem cp_0 (I : Nat → Nat → Int32) (a0 a sp dp : Nat) : cpI I a0 a sp dp 0 = I := by
  funext r k
  unfold cpI
  rw [if_neg (by omega)]
theorem cp_s {I : Nat → Nat → Int32} {a0 a sp dp m : Nat} : upI (cpI I a0 a sp dp m) a (dp + m) (I a0 (sp + m)) = cpI I a0 a sp dp (m + 1) := by
  funext r k
  unfold upI cpI
  by_cases h1 : r = a ∧ k = dp + m
  · rw [if_pos h1, if_pos ⟨h1.1, by omega, by omega⟩, h1.2, Nat.add_sub_cancel_left]
  · rw [if_neg h1]
    by_cases h2 : r = a ∧ dp ≤ k ∧ k < dp + m
    · rw [if_pos h2, if_pos ⟨h2.1, h2.2.1, by omega⟩]
    · rw [if_neg h2, if_neg (fun q => ?_)]
      by_cases h3 : k = dp + m
      · exact h1 ⟨q.1, h3⟩
      · exact h2 ⟨q.1, q.2.1, by omega⟩
theorem i40 (r k : Nat) : (40 : Int32) * nI r + nI k = nI (40 * r + k) := by
  rw [show (40 : Int32) * nI r = nI (40 * r) from pk_mul 40 r, nI_add]
theorem i80 (r k : Nat) : (80 : Int32) * nI r + nI k = nI (80 * r + k) := by
  rw [show (80 : Int32) * nI r = nI (80 * r) from pk_mul 80 r, nI_add]
theorem sub1 {m : Nat} (hm : m < 65536) : (nI m - 1).toInt64.toInt = (m : Int) - 1 := by
  rw [Int32.toInt_toInt64]
  exact pk_sub_toInt (b := 1) (by omega) (by decide)
def onesN (x : Nat) : Nat → Nat
  | 0 => 0
  | k + 1 => onesN x k + x / 2 ^ k % 2
theorem ones_sh : ∀ f x, onesN x (f + 1) = x % 2 + onesN (x / 2) f
  | 0, x => by simp [onesN]
  | f + 1, x => by
    rw [onesN, ones_sh f x, onesN, Nat.div_div_eq_div_mul, ← Nat.pow_succ', Nat.succ_eq_add_one]
    omega
theorem ones_pc : ∀ f x, onesN x f = pcN f x
  | 0, _ => rfl
  | f + 1, x => by rw [ones_sh, ones_pc f, pcN]
section
variable {G : GG} {d n : Nat} {σ : MH} {I : Nat → Nat → Int32} {J : Nat → Nat → Int64} {Q : Option Value → MH → Prop}
theorem r_in {v lo hi : Int64} (h : Q (some (.int (b2i (decide (lo ≤ v ∧ v ≤ hi))))) σ) : MT G (d + 1) 158 [.long v, .long lo, .long hi] σ Q := by
  refine MT.by ck158 (by decide) rfl (Nat.le_of_ble_eq_true rfl) rfl 300 [] ?_
  conv => whnf
  try dsimp only
  refine ⟨fun z1 => ?_, fun z1 => ?_⟩
  · rw [decide_eq_false (fun q => Int64.not_le.mpr (ltc.mp z1) q.1)] at h
    conv => whnf
    try dsimp only
    exact ⟨Or.inl rfl, h⟩
  conv => whnf
  try dsimp only
  refine ⟨fun z2 => ?_, fun z2 => ?_⟩
  · have y2 : hi < v := by
      by_cases y : hi < v
      · exact y
      · exact absurd (gtc.mpr y) (Int32.not_le.mpr z2)
    rw [decide_eq_false (fun q => Int64.not_le.mpr y2 q.2)] at h
    conv => whnf
    try dsimp only
    exact ⟨Or.inl rfl, h⟩
  · have y1 : ¬ v < lo := fun y => z1 (ltc.mpr y)
    have y2 : ¬ hi < v := gtc.mp (Int32.not_lt.mp z2)
    rw [decide_eq_true ⟨Int64.not_lt.mp y1, Int64.not_lt.mp y2⟩] at h
    conv => whnf
    try dsimp only
    exact ⟨Or.inr rfl, h⟩
theorem r_ix {K : Nat} {x : Int32} {y : Int64} (hy : y.toInt = (K : Int) - 1) (hK : K < 65536) (hbad : ix K x = none → Q (some (.int 0)) σ) (hok : ∀ j, j < K → x = nI j → ix K x = some j → Q (some (.int 1)) σ) : MT G (d + 1) 158 [.long x.toInt64, .long 0, .long y] σ Q := by
  refine r_in ?_
  have e : decide ((0 : Int64) ≤ x.toInt64 ∧ x.toInt64 ≤ y) = decide (0 ≤ x ∧ x < nI K) := by
    apply decide_eq_decide.mpr
    rw [Int64.le_iff_toInt_le, Int64.le_iff_toInt_le, Int32.le_iff_toInt_le, Int32.lt_iff_toInt_lt, Int32.toInt_toInt64, hy, nI_toInt (by omega), show (0 : Int64).toInt = 0 from by decide, show (0 : Int32).toInt = 0 from by decide]
    omega
  rw [e]
  rcases ix_cases hK x with ⟨e1, e2⟩ | ⟨j, hj, hr, e1, e2⟩
  · rw [e2]
    exact hbad e1
  · rw [e2]
    exact hok j hj hr e1
theorem r_has {x k : Nat} (hx : x < 2 ^ 31) (hk : k < 32) (h : Q (some (.int (b2i (x.testBit k)))) σ) : MT G (d + 1) 159 [.int (nI x), .int (nI k)] σ Q := by
  refine MT.by ck159 (by decide) rfl (Nat.le_of_ble_eq_true rfl) rfl 300 [] ?_
  conv => whnf
  try dsimp only
  rw [nu_bit hx hk]
  cases hb : x.testBit k
  · rw [hb] at h
    first | refine ⟨fun h1 => absurd h1 (by decide), fun _ => ?_⟩ | refine ⟨fun _ => ?_, fun h1 => absurd (by decide) h1⟩ | refine ⟨fun h1 => absurd (by decide) h1, fun _ => ?_⟩ | refine ⟨fun _ => ?_, fun h1 => absurd h1 (by decide)⟩
    conv => whnf
    try dsimp only
    exact ⟨Or.inl rfl, h⟩
  · rw [hb] at h
    first | refine ⟨fun h1 => absurd h1 (by decide), fun _ => ?_⟩ | refine ⟨fun _ => ?_, fun h1 => absurd (by decide) h1⟩ | refine ⟨fun h1 => absurd (by decide) h1, fun _ => ?_⟩ | refine ⟨fun _ => ?_, fun h1 => absurd h1 (by decide)⟩
    conv => whnf
    try dsimp only
    exact ⟨Or.inr rfl, h⟩
theorem r_ones {x : Nat} (hx : x < 4096) (h : Q (some (.int (nI (pcN 12 x)))) σ) : MT G (d + 1) 160 [.int (nI x)] σ Q := by
  rw [← ones_pc] at h
  have loop : ∀ m j, j + m = 12 → EV G 160 d 0 0 4 [.int (nI x), .int (nI (onesN x j)), .int (nI j)] [] σ Q := by
    intro m
    induction m with
    | zero =>
      intro j hj
      have hj : j = 12 := hj
      subst hj
      refine EV.at ck160 (by decide) 300 [] ?_
      conv => whnf
      try dsimp only
      first | refine ⟨fun h1 => absurd h1 (by decide), fun _ => ?_⟩ | refine ⟨fun _ => ?_, fun h1 => absurd (by decide) h1⟩ | refine ⟨fun h1 => absurd (by decide) h1, fun _ => ?_⟩ | refine ⟨fun _ => ?_, fun h1 => absurd h1 (by decide)⟩
      conv => whnf
      try dsimp only
      exact ⟨trivial, h⟩
    | succ m ih =>
      intro j hj
      have ihj := ih (j + 1) (by omega)
      have e : onesN x (j + 1) = onesN x j + x / 2 ^ j % 2 := rfl
      rw [e, ← nI_add, nI_succ j, ← nu_a1 (Nat.lt_of_le_of_lt (Nat.div_le_self _ _) (by omega)), ← nu_shr (by omega) (by omega)] at ihj
      refine EV.at ck160 (by decide) 300 [] ?_
      conv => whnf
      try dsimp only
      refine ⟨fun z => absurd z (nI_ge (b := 12) (show j < 12 by omega) (by decide)), fun _ => ?_⟩
      conv => whnf
      try dsimp only
      exact ⟨trivial, ihj⟩
  refine MT.by ck160 (by decide) rfl (Nat.le_of_ble_eq_true rfl) rfl 300 [4] ?_
  conv => whnf
  try dsimp only
  exact ⟨trivial, loop 12 0 (by omega)⟩
theorem r_found {f : Nat} (hf : f < 6) (h : Q (some (.int (-3))) (SH n, upI (upI I 77 10 (nI f)) 85 f (I 85 f + 1), J)) : MT G (d + 1) 161 [.ref 77, .int (nI f)] (SH n, I, J) Q := by
  have cf : (nI f).toNatClampNeg = f := nI_clamp (by omega)
  refine MT.by ck161 (by decide) rfl (Nat.le_of_ble_eq_true rfl) rfl 300 [] ?_
  conv => whnf
  try dsimp only
  refine ⟨in_nI hf (by decide), ?_⟩
  conv => whnf
  try dsimp only
  refine ⟨in_nI hf (by decide), ?_⟩
  conv => whnf
  try dsimp only
  rw [cf, upI_oth (r' := 85) (by decide)]
  exact ⟨trivial, h⟩
theorem r_says {v x : Int32} (h : Q (some (.int v)) (SH n, upI I 77 12 x, J)) : MT G (d + 1) 162 [.ref 77, .int v, .int x] (SH n, I, J) Q := by
  refine MT.by ck162 (by decide) rfl (Nat.le_of_ble_eq_true rfl) rfl 300 [] ?_
  conv => whnf
  try dsimp only
  exact ⟨trivial, h⟩
theorem r_isRow {x : Int32} (hbad : ix 6 x = none → Q (some (.int 0)) σ) (hok : ∀ j, j < 6 → x = nI j → ix 6 x = some j → Q (some (.int 1)) σ) : MT G (d + 2) 163 [.int x] σ Q := by
  refine MT.by ck163 (by decide) rfl (Nat.le_of_ble_eq_true rfl) rfl 300 [] ?_
  conv => whnf
  try dsimp only
  refine ⟨trivial, r_ix (K := 6) (by decide) (by decide) (fun e1 => ?_) (fun j hj hr e1 => ?_)⟩
  · refine EV.at ck163 (by decide) 300 [] ?_
    conv => whnf
    try dsimp only
    exact ⟨Or.inl rfl, hbad e1⟩
  · refine EV.at ck163 (by decide) 300 [] ?_
    conv => whnf
    try dsimp only
    exact ⟨Or.inr rfl, hok j hj hr e1⟩
theorem r_isText {x : Int32} (hbad : ix 4 x = none → Q (some (.int 0)) σ) (hok : ∀ j, j < 4 → x = nI j → ix 4 x = some j → Q (some (.int 1)) σ) : MT G (d + 2) 164 [.int x] σ Q := by
  refine MT.by ck164 (by decide) rfl (Nat.le_of_ble_eq_true rfl) rfl 300 [] ?_
  conv => whnf
  try dsimp only
  refine ⟨trivial, r_ix (K := 4) (by decide) (by decide) (fun e1 => ?_) (fun j hj hr e1 => ?_)⟩
  · refine EV.at ck164 (by decide) 300 [] ?_
    conv => whnf
    try dsimp only
    exact ⟨Or.inl rfl, hbad e1⟩
  · refine EV.at ck164 (by decide) 300 [] ?_
    conv => whnf
    try dsimp only
    exact ⟨Or.inr rfl, hok j hj hr e1⟩
theorem r_anew {j : Nat} {x : Int32} (hj : j < 6) (h : Q none (SH n, flI (upI I 86 j x) 87 (40 * j) (40 * j + 40) 0, J)) : MT G (d + 1) 165 [.ref 77, .int (nI j), .int x] (SH n, I, J) Q := by
  have cj : (nI j).toNatClampNeg = j := nI_clamp (by omega)
  have loop : ∀ m k, k + m = 40 → EV G 165 d 0 0 9 [.ref 77, .int (nI j), .int x, .int (nI k)] [] (SH n, flI (upI I 86 j x) 87 (40 * j) (40 * j + k) 0, J) Q := by
    intro m
    induction m with
    | zero =>
      intro k hk
      have hk : k = 40 := hk
      subst hk
      refine EV.at ck165 (by decide) 300 [] ?_
      conv => whnf
      try dsimp only
      first | refine ⟨fun h1 => absurd h1 (by decide), fun _ => ?_⟩ | refine ⟨fun _ => ?_, fun h1 => absurd (by decide) h1⟩ | refine ⟨fun h1 => absurd (by decide) h1, fun _ => ?_⟩ | refine ⟨fun _ => ?_, fun h1 => absurd h1 (by decide)⟩
      conv => whnf
      try dsimp only
      exact ⟨trivial, h⟩
    | succ m ih =>
      intro k hk
      have ihj := ih (k + 1) (by omega)
      have ck : (nI (40 * j + k)).toNatClampNeg = 40 * j + k := nI_clamp (by omega)
      rw [← Nat.add_assoc, ← fl_s (by omega), nI_succ k] at ihj
      refine EV.at ck165 (by decide) 300 [] ?_
      conv => whnf
      try dsimp only
      refine ⟨fun z => absurd z (nI_ge (b := 40) (show k < 40 by omega) (by decide)), fun _ => ?_⟩
      conv => whnf
      try dsimp only
      rw [i40]
      refine ⟨in_nI (show 40 * j + k < 240 by omega) (by decide), ?_⟩
      conv => whnf
      try dsimp only
      rw [ck]
      exact ⟨trivial, ihj⟩
  refine MT.by ck165 (by decide) rfl (Nat.le_of_ble_eq_true rfl) rfl 300 [9] ?_
  conv => whnf
  try dsimp only
  refine ⟨in_nI hj (by decide), ?_⟩
  conv => whnf
  try dsimp only
  rw [cj]
  have l0 := loop 40 0 (by omega)
  rw [Nat.add_zero, fl_0] at l0
  exact ⟨trivial, l0⟩
end
