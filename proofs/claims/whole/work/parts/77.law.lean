/-! the law: both sides, call by call -/
theorem MA.fc {a : AB} {I I' : Nat → Nat → Int32} {J J' : Nat → Nat → Int64} (h : MA a I J) (hf : FC I I') (hj : FJ J J') : MA a I' J' := by
  obtain ⟨h1, h2, h3, h4, h5, h6, h7, h8⟩ := h
  have o : ∀ r, 77 ≤ r → I' r = I r := fun r hr => hf r (by omega)
  have o7 := o 77 (by omega)
  exact ⟨h1.of (fun r x y => o r (by omega)) (by rw [o7]) (by rw [o7]), h2.of (o 78 (by omega)) (by rw [o7]), h3.of (o 78 (by omega)) (o 79 (by omega)), h4.of (o 86 (by omega)) (o 87 (by omega)), h5.of (o 88 (by omega)) (o 89 (by omega)), h6.of (by rw [o7]) (o 85 (by omega)), by rw [o7]; exact h7, by rw [hj 77 (by omega)]; exact h8⟩
theorem CA.fm {a : AB} {e : Nat} {I I' : Nat → Nat → Int32} {J J' : Nat → Nat → Int64} (h : CA a e I J) (hf : FM I I') (hj : FMJ J J') : CA a e I' J' := by
  obtain ⟨h1, h2, h3, h4, h5, h6, h7, h8, h9⟩ := h
  refine ⟨h1.of (fun r h _ => hf r (by omega)), h2.of (fun r _ h => hf r (by omega)), h3.of (fun r h _ => hf r (by omega)), h4.of (fun r h _ => hf r (by omega)), h5.of (fun r h _ => hf r (by omega)), h6.of (by rw [hf 3 (by omega)]) (hf 38 (by omega)), by rw [hf 3 (by omega)]; exact h7, by rw [hj 3 (by omega)]; exact h8, ?_⟩
  obtain ⟨g1, g2, g3⟩ := h9
  exact ⟨by rw [hj 28 (by omega)]; exact g1, g2, fun s hs => by rw [hj 29 (by omega)]; exact g3 s hs⟩
theorem EV.atL {G : GG} {d k n pc : Nat} {L st : List Value} {σ : MH} {Q : Option Value → MH → Prop} {C : List CE} (hC : ∀ ce ∈ C, okB (yO 265) (yC 265) ce = true) (f : Nat) (cuts : List Nat) (h : findC C pc (fun r => wp G 265 d Q cuts C f r k n L st σ)) : EV G 265 d k n pc L st σ Q := by
  obtain ⟨pre, r, h1, h2, h3, h4⟩ := findC_s h
  have h5 := EV.of_wp hC (by decide +kernel) (by decide +kernel) (fun h => absurd h (by decide +kernel)) f r k n L st σ (fun c hc => by rw [h1]; exact List.mem_append_right _ hc) h4
  rw [h2] at h5
  exact h5
theorem lw_gt {n i : Nat} (hn : n ≤ 384) (hi : i ≤ 400) : nI n - 6 < nI i ↔ n < i + 6 := by
  rw [Int32.lt_iff_toInt_lt, show nI n - 6 = nI n - nI 6 from rfl, pk_sub_toInt (by omega) (by decide), nI_toInt (by omega)]
  omega
/-- both sides hold the same state -/
def BO (a : AB) (e : Nat) (X : Nat → Int32) (I : Nat → Nat → Int32) (J : Nat → Nat → Int64) : Prop := aOK a ∧ CA a e I J ∧ MA a I J ∧ e + 20 < 2 ^ 30 ∧ I 0 = X
section
variable {G : GG} {D n : Nat} {Q : Option Value → MH → Prop} {X : Nat → Int32} {I : Nat → Nat → Int32} {J : Nat → Nat → Int64} {a : AB} {e i kk nn : Nat}
set_option maxRecDepth 100000 in
theorem lc_row (hn : n ≤ 384) (hi : i + 6 ≤ n) (hB : BO a e X I J) (K : ∀ a' e' I' J', aOK a' → CA a' e' I' J' → MA a' I' J' → e' ≤ e + 20 → I' 0 = X → EV G 265 (D + 60) kk nn 1437 [.ref 0, .ref 3, .ref 77, .int (nI i)] [] (SH n, I', J') Q) : EV G 265 (D + 60) kk nn 240 [.ref 0, .ref 3, .ref 77, .int (nI i)] [] (SH n, I, J) Q := by
  obtain ⟨hO, hC, hM, he, h0⟩ := hB
  have c1 : (nI (i + 1)).toNatClampNeg = i + 1 := nI_clamp (by omega)
  have c2 : (nI (i + 2)).toNatClampNeg = i + 2 := nI_clamp (by omega)
  refine EV.atL ck265 300 [1437] ?_
  conv => whnf
  try dsimp only
  rw [show nI i + 1 = nI (i + 1) from nI_add i 1]
  refine ⟨in_nI (show i + 1 < n by omega) (by omega), ?_⟩
  conv => whnf
  try dsimp only
  rw [show nI i + 2 = nI (i + 2) from nI_add i 2]
  refine ⟨in_nI (show i + 2 < n by omega) (by omega), ?_⟩
  conv => whnf
  try dsimp only
  rw [c1, c2, h0]
  refine ⟨trivial, k_row _ _ _ _ a e hO hC he (fun I1 J1 e1 he1 hC1 f1 g1 => ?_)⟩
  have hM1 := hM.fc f1 g1
  have h01 : I1 0 = X := by rw [f1 0 (by omega)]; exact h0
  refine EV.atL ck265 300 [1437] ?_
  conv => whnf
  try dsimp only
  rw [show nI i + 1 = nI (i + 1) from nI_add i 1]
  refine ⟨in_nI (show i + 1 < n by omega) (by omega), ?_⟩
  conv => whnf
  try dsimp only
  rw [show nI i + 2 = nI (i + 2) from nI_add i 2]
  refine ⟨in_nI (show i + 2 < n by omega) (by omega), ?_⟩
  conv => whnf
  try dsimp only
  rw [c1, c2, h01]
  refine ⟨trivial, m_row _ _ _ _ a hO hM1 (fun I2 J2 hM2 f2 g2 => ?_)⟩
  have fin := K _ _ I2 J2 (ok_row hO) (hC1.fm f2 g2) hM2 he1 (by rw [f2 0 (by omega)]; exact h01)
  refine EV.atL ck265 300 [1437] ?_
  conv => whnf
  try dsimp only
  refine ⟨fun _ => ?_, fun z => absurd rfl z⟩
  conv => whnf
  try dsimp only
  exact ⟨trivial, fin⟩
set_option maxRecDepth 100000 in
theorem lc_lay (hn : n ≤ 384) (hi : i + 6 ≤ n) (hB : BO a e X I J) (K : ∀ a' e' I' J', aOK a' → CA a' e' I' J' → MA a' I' J' → e' ≤ e + 20 → I' 0 = X → EV G 265 (D + 60) kk nn 1437 [.ref 0, .ref 3, .ref 77, .int (nI i)] [] (SH n, I', J') Q) : EV G 265 (D + 60) kk nn 273 [.ref 0, .ref 3, .ref 77, .int (nI i)] [] (SH n, I, J) Q := by
  obtain ⟨hO, hC, hM, he, h0⟩ := hB
  have c1 : (nI (i + 1)).toNatClampNeg = i + 1 := nI_clamp (by omega)
  have c2 : (nI (i + 2)).toNatClampNeg = i + 2 := nI_clamp (by omega)
  have c3 : (nI (i + 3)).toNatClampNeg = i + 3 := nI_clamp (by omega)
  refine EV.atL ck265 300 [1437] ?_
  conv => whnf
  try dsimp only
  rw [show nI i + 1 = nI (i + 1) from nI_add i 1]
  refine ⟨in_nI (show i + 1 < n by omega) (by omega), ?_⟩
  conv => whnf
  try dsimp only
  rw [show nI i + 2 = nI (i + 2) from nI_add i 2]
  refine ⟨in_nI (show i + 2 < n by omega) (by omega), ?_⟩
  conv => whnf
  try dsimp only
  rw [show nI i + 3 = nI (i + 3) from nI_add i 3]
  refine ⟨in_nI (show i + 3 < n by omega) (by omega), ?_⟩
  conv => whnf
  try dsimp only
  rw [c1, c2, c3, h0]
  refine ⟨trivial, k_lay _ _ _ _ a e hO hC he (fun I1 J1 e1 he1 hC1 f1 g1 => ?_)⟩
  have hM1 := hM.fc f1 g1
  have h01 : I1 0 = X := by rw [f1 0 (by omega)]; exact h0
  refine EV.atL ck265 300 [1437] ?_
  conv => whnf
  try dsimp only
  rw [show nI i + 1 = nI (i + 1) from nI_add i 1]
  refine ⟨in_nI (show i + 1 < n by omega) (by omega), ?_⟩
  conv => whnf
  try dsimp only
  rw [show nI i + 2 = nI (i + 2) from nI_add i 2]
  refine ⟨in_nI (show i + 2 < n by omega) (by omega), ?_⟩
  conv => whnf
  try dsimp only
  rw [show nI i + 3 = nI (i + 3) from nI_add i 3]
  refine ⟨in_nI (show i + 3 < n by omega) (by omega), ?_⟩
  conv => whnf
  try dsimp only
  rw [c1, c2, c3, h01]
  refine ⟨trivial, m_lay _ _ _ _ a hO hM1 (fun I2 J2 hM2 f2 g2 => ?_)⟩
  have fin := K _ _ I2 J2 (ok_lay hO) (hC1.fm f2 g2) hM2 he1 (by rw [f2 0 (by omega)]; exact h01)
  refine EV.atL ck265 300 [1437] ?_
  conv => whnf
  try dsimp only
  refine ⟨fun _ => ?_, fun z => absurd rfl z⟩
  conv => whnf
  try dsimp only
  exact ⟨trivial, fin⟩
set_option maxRecDepth 100000 in
theorem lc_at (hn : n ≤ 384) (hi : i + 6 ≤ n) (hB : BO a e X I J) (K : ∀ a' e' I' J', aOK a' → CA a' e' I' J' → MA a' I' J' → e' ≤ e + 20 → I' 0 = X → EV G 265 (D + 60) kk nn 1437 [.ref 0, .ref 3, .ref 77, .int (nI i)] [] (SH n, I', J') Q) : EV G 265 (D + 60) kk nn 316 [.ref 0, .ref 3, .ref 77, .int (nI i)] [] (SH n, I, J) Q := by
  obtain ⟨hO, hC, hM, he, h0⟩ := hB
  have c1 : (nI (i + 1)).toNatClampNeg = i + 1 := nI_clamp (by omega)
  have c2 : (nI (i + 2)).toNatClampNeg = i + 2 := nI_clamp (by omega)
  refine EV.atL ck265 300 [1437] ?_
  conv => whnf
  try dsimp only
  rw [show nI i + 1 = nI (i + 1) from nI_add i 1]
  refine ⟨in_nI (show i + 1 < n by omega) (by omega), ?_⟩
  conv => whnf
  try dsimp only
  rw [show nI i + 2 = nI (i + 2) from nI_add i 2]
  refine ⟨in_nI (show i + 2 < n by omega) (by omega), ?_⟩
  conv => whnf
  try dsimp only
  rw [c1, c2, h0]
  refine ⟨trivial, k_at _ _ _ _ a e hO hC he (fun I1 J1 e1 he1 hC1 f1 g1 => ?_)⟩
  have hM1 := hM.fc f1 g1
  have h01 : I1 0 = X := by rw [f1 0 (by omega)]; exact h0
  refine EV.atL ck265 300 [1437] ?_
  conv => whnf
  try dsimp only
  rw [show nI i + 1 = nI (i + 1) from nI_add i 1]
  refine ⟨in_nI (show i + 1 < n by omega) (by omega), ?_⟩
  conv => whnf
  try dsimp only
  rw [show nI i + 2 = nI (i + 2) from nI_add i 2]
  refine ⟨in_nI (show i + 2 < n by omega) (by omega), ?_⟩
  conv => whnf
  try dsimp only
  rw [c1, c2, h01]
  refine ⟨trivial, m_at _ _ _ _ a hO hM1 (fun I2 J2 hM2 f2 g2 => ?_)⟩
  have fin := K _ _ I2 J2 (ok_at hO) (hC1.fm f2 g2) hM2 he1 (by rw [f2 0 (by omega)]; exact h01)
  refine EV.atL ck265 300 [1437] ?_
  conv => whnf
  try dsimp only
  refine ⟨fun _ => ?_, fun z => absurd rfl z⟩
  conv => whnf
  try dsimp only
  exact ⟨trivial, fin⟩
set_option maxRecDepth 100000 in
theorem lc_tear (hn : n ≤ 384) (hi : i + 6 ≤ n) (hB : BO a e X I J) (K : ∀ a' e' I' J', aOK a' → CA a' e' I' J' → MA a' I' J' → e' ≤ e + 20 → I' 0 = X → EV G 265 (D + 60) kk nn 1437 [.ref 0, .ref 3, .ref 77, .int (nI i)] [] (SH n, I', J') Q) : EV G 265 (D + 60) kk nn 349 [.ref 0, .ref 3, .ref 77, .int (nI i)] [] (SH n, I, J) Q := by
  obtain ⟨hO, hC, hM, he, h0⟩ := hB
  have c1 : (nI (i + 1)).toNatClampNeg = i + 1 := nI_clamp (by omega)
  refine EV.atL ck265 300 [1437] ?_
  conv => whnf
  try dsimp only
  rw [show nI i + 1 = nI (i + 1) from nI_add i 1]
  refine ⟨in_nI (show i + 1 < n by omega) (by omega), ?_⟩
  conv => whnf
  try dsimp only
  rw [c1, h0]
  refine ⟨trivial, k_tear _ _ _ _ a e hO hC he (fun I1 J1 e1 he1 hC1 f1 g1 => ?_)⟩
  have hM1 := hM.fc f1 g1
  have h01 : I1 0 = X := by rw [f1 0 (by omega)]; exact h0
  refine EV.atL ck265 300 [1437] ?_
  conv => whnf
  try dsimp only
  rw [show nI i + 1 = nI (i + 1) from nI_add i 1]
  refine ⟨in_nI (show i + 1 < n by omega) (by omega), ?_⟩
  conv => whnf
  try dsimp only
  rw [c1, h01]
  refine ⟨trivial, m_tear _ _ _ _ a hO hM1 (fun I2 J2 hM2 f2 g2 => ?_)⟩
  have fin := K _ _ I2 J2 (ok_tear hO) (hC1.fm f2 g2) hM2 he1 (by rw [f2 0 (by omega)]; exact h01)
  refine EV.atL ck265 300 [1437] ?_
  conv => whnf
  try dsimp only
  refine ⟨fun _ => ?_, fun z => absurd rfl z⟩
  conv => whnf
  try dsimp only
  exact ⟨trivial, fin⟩
set_option maxRecDepth 100000 in
theorem lc_copy (hn : n ≤ 384) (hi : i + 6 ≤ n) (hB : BO a e X I J) (K : ∀ a' e' I' J', aOK a' → CA a' e' I' J' → MA a' I' J' → e' ≤ e + 20 → I' 0 = X → EV G 265 (D + 60) kk nn 1437 [.ref 0, .ref 3, .ref 77, .int (nI i)] [] (SH n, I', J') Q) : EV G 265 (D + 60) kk nn 372 [.ref 0, .ref 3, .ref 77, .int (nI i)] [] (SH n, I, J) Q := by
  obtain ⟨hO, hC, hM, he, h0⟩ := hB
  have c1 : (nI (i + 1)).toNatClampNeg = i + 1 := nI_clamp (by omega)
  have c2 : (nI (i + 2)).toNatClampNeg = i + 2 := nI_clamp (by omega)
  have c3 : (nI (i + 3)).toNatClampNeg = i + 3 := nI_clamp (by omega)
  have c4 : (nI (i + 4)).toNatClampNeg = i + 4 := nI_clamp (by omega)
  have c5 : (nI (i + 5)).toNatClampNeg = i + 5 := nI_clamp (by omega)
  refine EV.atL ck265 300 [1437] ?_
  conv => whnf
  try dsimp only
  rw [show nI i + 1 = nI (i + 1) from nI_add i 1]
  refine ⟨in_nI (show i + 1 < n by omega) (by omega), ?_⟩
  conv => whnf
  try dsimp only
  rw [show nI i + 2 = nI (i + 2) from nI_add i 2]
  refine ⟨in_nI (show i + 2 < n by omega) (by omega), ?_⟩
  conv => whnf
  try dsimp only
  rw [show nI i + 3 = nI (i + 3) from nI_add i 3]
  refine ⟨in_nI (show i + 3 < n by omega) (by omega), ?_⟩
  conv => whnf
  try dsimp only
  rw [show nI i + 4 = nI (i + 4) from nI_add i 4]
  refine ⟨in_nI (show i + 4 < n by omega) (by omega), ?_⟩
  conv => whnf
  try dsimp only
  rw [show nI i + 5 = nI (i + 5) from nI_add i 5]
  refine ⟨in_nI (show i + 5 < n by omega) (by omega), ?_⟩
  conv => whnf
  try dsimp only
  rw [c1, c2, c3, c4, c5, h0]
  refine ⟨trivial, k_copy _ _ _ _ a e hO hC he (fun I1 J1 e1 he1 hC1 f1 g1 => ?_)⟩
  have hM1 := hM.fc f1 g1
  have h01 : I1 0 = X := by rw [f1 0 (by omega)]; exact h0
  refine EV.atL ck265 300 [1437] ?_
  conv => whnf
  try dsimp only
  rw [show nI i + 1 = nI (i + 1) from nI_add i 1]
  refine ⟨in_nI (show i + 1 < n by omega) (by omega), ?_⟩
  conv => whnf
  try dsimp only
  rw [show nI i + 2 = nI (i + 2) from nI_add i 2]
  refine ⟨in_nI (show i + 2 < n by omega) (by omega), ?_⟩
  conv => whnf
  try dsimp only
  rw [show nI i + 3 = nI (i + 3) from nI_add i 3]
  refine ⟨in_nI (show i + 3 < n by omega) (by omega), ?_⟩
  conv => whnf
  try dsimp only
  rw [show nI i + 4 = nI (i + 4) from nI_add i 4]
  refine ⟨in_nI (show i + 4 < n by omega) (by omega), ?_⟩
  conv => whnf
  try dsimp only
  rw [show nI i + 5 = nI (i + 5) from nI_add i 5]
  refine ⟨in_nI (show i + 5 < n by omega) (by omega), ?_⟩
  conv => whnf
  try dsimp only
  rw [c1, c2, c3, c4, c5, h01]
  refine ⟨trivial, m_copy _ _ _ _ a hO hM1 (fun I2 J2 hM2 f2 g2 => ?_)⟩
  have fin := K _ _ I2 J2 (ok_copy hO) (hC1.fm f2 g2) hM2 he1 (by rw [f2 0 (by omega)]; exact h01)
  refine EV.atL ck265 300 [1437] ?_
  conv => whnf
  try dsimp only
  refine ⟨fun _ => ?_, fun z => absurd rfl z⟩
  conv => whnf
  try dsimp only
  exact ⟨trivial, fin⟩
set_option maxRecDepth 100000 in
theorem lc_mean (hn : n ≤ 384) (hi : i + 6 ≤ n) (hB : BO a e X I J) (K : ∀ a' e' I' J', aOK a' → CA a' e' I' J' → MA a' I' J' → e' ≤ e + 20 → I' 0 = X → EV G 265 (D + 60) kk nn 1437 [.ref 0, .ref 3, .ref 77, .int (nI i)] [] (SH n, I', J') Q) : EV G 265 (D + 60) kk nn 435 [.ref 0, .ref 3, .ref 77, .int (nI i)] [] (SH n, I, J) Q := by
  obtain ⟨hO, hC, hM, he, h0⟩ := hB
  have c1 : (nI (i + 1)).toNatClampNeg = i + 1 := nI_clamp (by omega)
  refine EV.atL ck265 300 [1437] ?_
  conv => whnf
  try dsimp only
  rw [show nI i + 1 = nI (i + 1) from nI_add i 1]
  refine ⟨in_nI (show i + 1 < n by omega) (by omega), ?_⟩
  conv => whnf
  try dsimp only
  rw [c1, h0]
  refine ⟨trivial, k_mean _ _ _ _ a e hO hC he (fun I1 J1 e1 he1 hC1 f1 g1 => ?_)⟩
  have hM1 := hM.fc f1 g1
  have h01 : I1 0 = X := by rw [f1 0 (by omega)]; exact h0
  refine EV.atL ck265 300 [1437] ?_
  conv => whnf
  try dsimp only
  rw [show nI i + 1 = nI (i + 1) from nI_add i 1]
  refine ⟨in_nI (show i + 1 < n by omega) (by omega), ?_⟩
  conv => whnf
  try dsimp only
  rw [c1, h01]
  refine ⟨trivial, m_mean _ _ _ _ a hO hM1 (fun I2 J2 hM2 f2 g2 => ?_)⟩
  have fin := K _ _ I2 J2 (ok_mean hO) (hC1.fm f2 g2) hM2 he1 (by rw [f2 0 (by omega)]; exact h01)
  refine EV.atL ck265 300 [1437] ?_
  conv => whnf
  try dsimp only
  refine ⟨fun _ => ?_, fun z => absurd rfl z⟩
  conv => whnf
  try dsimp only
  exact ⟨trivial, fin⟩
set_option maxRecDepth 100000 in
theorem lc_text (hn : n ≤ 384) (hi : i + 6 ≤ n) (hB : BO a e X I J) (K : ∀ a' e' I' J', aOK a' → CA a' e' I' J' → MA a' I' J' → e' ≤ e + 20 → I' 0 = X → EV G 265 (D + 60) kk nn 1437 [.ref 0, .ref 3, .ref 77, .int (nI i)] [] (SH n, I', J') Q) : EV G 265 (D + 60) kk nn 458 [.ref 0, .ref 3, .ref 77, .int (nI i)] [] (SH n, I, J) Q := by
  obtain ⟨hO, hC, hM, he, h0⟩ := hB
  have c1 : (nI (i + 1)).toNatClampNeg = i + 1 := nI_clamp (by omega)
  have c2 : (nI (i + 2)).toNatClampNeg = i + 2 := nI_clamp (by omega)
  refine EV.atL ck265 300 [1437] ?_
  conv => whnf
  try dsimp only
  rw [show nI i + 1 = nI (i + 1) from nI_add i 1]
  refine ⟨in_nI (show i + 1 < n by omega) (by omega), ?_⟩
  conv => whnf
  try dsimp only
  rw [show nI i + 2 = nI (i + 2) from nI_add i 2]
  refine ⟨in_nI (show i + 2 < n by omega) (by omega), ?_⟩
  conv => whnf
  try dsimp only
  rw [c1, c2, h0]
  refine ⟨trivial, k_text _ _ _ _ a e hO hC he (fun I1 J1 e1 he1 hC1 f1 g1 => ?_)⟩
  have hM1 := hM.fc f1 g1
  have h01 : I1 0 = X := by rw [f1 0 (by omega)]; exact h0
  refine EV.atL ck265 300 [1437] ?_
  conv => whnf
  try dsimp only
  rw [show nI i + 1 = nI (i + 1) from nI_add i 1]
  refine ⟨in_nI (show i + 1 < n by omega) (by omega), ?_⟩
  conv => whnf
  try dsimp only
  rw [show nI i + 2 = nI (i + 2) from nI_add i 2]
  refine ⟨in_nI (show i + 2 < n by omega) (by omega), ?_⟩
  conv => whnf
  try dsimp only
  rw [c1, c2, h01]
  refine ⟨trivial, m_text _ _ _ _ a hO hM1 (fun I2 J2 hM2 f2 g2 => ?_)⟩
  have fin := K _ _ I2 J2 (ok_text hO) (hC1.fm f2 g2) hM2 he1 (by rw [f2 0 (by omega)]; exact h01)
  refine EV.atL ck265 300 [1437] ?_
  conv => whnf
  try dsimp only
  refine ⟨fun _ => ?_, fun z => absurd rfl z⟩
  conv => whnf
  try dsimp only
  exact ⟨trivial, fin⟩
set_option maxRecDepth 100000 in
theorem lc_put (hn : n ≤ 384) (hi : i + 6 ≤ n) (hB : BO a e X I J) (K : ∀ a' e' I' J', aOK a' → CA a' e' I' J' → MA a' I' J' → e' ≤ e + 20 → I' 0 = X → EV G 265 (D + 60) kk nn 1437 [.ref 0, .ref 3, .ref 77, .int (nI i)] [] (SH n, I', J') Q) : EV G 265 (D + 60) kk nn 491 [.ref 0, .ref 3, .ref 77, .int (nI i)] [] (SH n, I, J) Q := by
  obtain ⟨hO, hC, hM, he, h0⟩ := hB
  have c1 : (nI (i + 1)).toNatClampNeg = i + 1 := nI_clamp (by omega)
  have c2 : (nI (i + 2)).toNatClampNeg = i + 2 := nI_clamp (by omega)
  have c3 : (nI (i + 3)).toNatClampNeg = i + 3 := nI_clamp (by omega)
  refine EV.atL ck265 300 [1437] ?_
  conv => whnf
  try dsimp only
  rw [show nI i + 1 = nI (i + 1) from nI_add i 1]
  refine ⟨in_nI (show i + 1 < n by omega) (by omega), ?_⟩
  conv => whnf
  try dsimp only
  rw [show nI i + 2 = nI (i + 2) from nI_add i 2]
  refine ⟨in_nI (show i + 2 < n by omega) (by omega), ?_⟩
  conv => whnf
  try dsimp only
  rw [show nI i + 3 = nI (i + 3) from nI_add i 3]
  refine ⟨in_nI (show i + 3 < n by omega) (by omega), ?_⟩
  conv => whnf
  try dsimp only
  rw [c1, c2, c3, h0]
  refine ⟨trivial, k_put _ _ _ _ a e hO hC he (fun I1 J1 e1 he1 hC1 f1 g1 => ?_)⟩
  have hM1 := hM.fc f1 g1
  have h01 : I1 0 = X := by rw [f1 0 (by omega)]; exact h0
  refine EV.atL ck265 300 [1437] ?_
  conv => whnf
  try dsimp only
  rw [show nI i + 1 = nI (i + 1) from nI_add i 1]
  refine ⟨in_nI (show i + 1 < n by omega) (by omega), ?_⟩
  conv => whnf
  try dsimp only
  rw [show nI i + 2 = nI (i + 2) from nI_add i 2]
  refine ⟨in_nI (show i + 2 < n by omega) (by omega), ?_⟩
  conv => whnf
  try dsimp only
  rw [show nI i + 3 = nI (i + 3) from nI_add i 3]
  refine ⟨in_nI (show i + 3 < n by omega) (by omega), ?_⟩
  conv => whnf
  try dsimp only
  rw [c1, c2, c3, h01]
  refine ⟨trivial, m_put _ _ _ _ a hO hM1 (fun I2 J2 hM2 f2 g2 => ?_)⟩
  have fin := K _ _ I2 J2 (ok_put hO) (hC1.fm f2 g2) hM2 he1 (by rw [f2 0 (by omega)]; exact h01)
  refine EV.atL ck265 300 [1437] ?_
  conv => whnf
  try dsimp only
  refine ⟨fun _ => ?_, fun z => absurd rfl z⟩
  conv => whnf
  try dsimp only
  exact ⟨trivial, fin⟩
set_option maxRecDepth 100000 in
theorem lc_fault (hn : n ≤ 384) (hi : i + 6 ≤ n) (hB : BO a e X I J) (K : ∀ a' e' I' J', aOK a' → CA a' e' I' J' → MA a' I' J' → e' ≤ e + 20 → I' 0 = X → EV G 265 (D + 60) kk nn 1437 [.ref 0, .ref 3, .ref 77, .int (nI i)] [] (SH n, I', J') Q) : EV G 265 (D + 60) kk nn 534 [.ref 0, .ref 3, .ref 77, .int (nI i)] [] (SH n, I, J) Q := by
  obtain ⟨hO, hC, hM, he, h0⟩ := hB
  have c1 : (nI (i + 1)).toNatClampNeg = i + 1 := nI_clamp (by omega)
  refine EV.atL ck265 300 [1437] ?_
  conv => whnf
  try dsimp only
  rw [show nI i + 1 = nI (i + 1) from nI_add i 1]
  refine ⟨in_nI (show i + 1 < n by omega) (by omega), ?_⟩
  conv => whnf
  try dsimp only
  rw [c1, h0]
  refine ⟨trivial, k_fault _ _ _ _ a e hO hC he (fun I1 J1 e1 he1 hC1 f1 g1 => ?_)⟩
  have hM1 := hM.fc f1 g1
  have h01 : I1 0 = X := by rw [f1 0 (by omega)]; exact h0
  refine EV.atL ck265 300 [1437] ?_
  conv => whnf
  try dsimp only
  rw [show nI i + 1 = nI (i + 1) from nI_add i 1]
  refine ⟨in_nI (show i + 1 < n by omega) (by omega), ?_⟩
  conv => whnf
  try dsimp only
  rw [c1, h01]
  refine ⟨trivial, m_fault _ _ _ _ a hO hM1 (fun I2 J2 hM2 f2 g2 => ?_)⟩
  have fin := K _ _ I2 J2 (ok_fault hO) (hC1.fm f2 g2) hM2 he1 (by rw [f2 0 (by omega)]; exact h01)
  refine EV.atL ck265 300 [1437] ?_
  conv => whnf
  try dsimp only
  refine ⟨fun _ => ?_, fun z => absurd rfl z⟩
  conv => whnf
  try dsimp only
  exact ⟨trivial, fin⟩
set_option maxRecDepth 100000 in
theorem lc_night (hn : n ≤ 384) (hi : i + 6 ≤ n) (hB : BO a e X I J) (K : ∀ a' e' I' J', aOK a' → CA a' e' I' J' → MA a' I' J' → e' ≤ e + 20 → I' 0 = X → EV G 265 (D + 60) kk nn 1437 [.ref 0, .ref 3, .ref 77, .int (nI i)] [] (SH n, I', J') Q) : EV G 265 (D + 60) kk nn 557 [.ref 0, .ref 3, .ref 77, .int (nI i)] [] (SH n, I, J) Q := by
  obtain ⟨hO, hC, hM, he, h0⟩ := hB
  have c1 : (nI (i + 1)).toNatClampNeg = i + 1 := nI_clamp (by omega)
  refine EV.atL ck265 300 [1437] ?_
  conv => whnf
  try dsimp only
  rw [show nI i + 1 = nI (i + 1) from nI_add i 1]
  refine ⟨in_nI (show i + 1 < n by omega) (by omega), ?_⟩
  conv => whnf
  try dsimp only
  rw [c1, h0]
  refine ⟨trivial, k_night _ _ _ _ a e hO hC he (fun I1 J1 e1 he1 hC1 f1 g1 => ?_)⟩
  have hM1 := hM.fc f1 g1
  have h01 : I1 0 = X := by rw [f1 0 (by omega)]; exact h0
  refine EV.atL ck265 300 [1437] ?_
  conv => whnf
  try dsimp only
  rw [show nI i + 1 = nI (i + 1) from nI_add i 1]
  refine ⟨in_nI (show i + 1 < n by omega) (by omega), ?_⟩
  conv => whnf
  try dsimp only
  rw [c1, h01]
  refine ⟨trivial, m_night _ _ _ _ a hO hM1 (fun I2 J2 hM2 f2 g2 => ?_)⟩
  have fin := K _ _ I2 J2 (ok_night hO) (hC1.fm f2 g2) hM2 he1 (by rw [f2 0 (by omega)]; exact h01)
  refine EV.atL ck265 300 [1437] ?_
  conv => whnf
  try dsimp only
  refine ⟨fun _ => ?_, fun z => absurd rfl z⟩
  conv => whnf
  try dsimp only
  exact ⟨trivial, fin⟩
set_option maxRecDepth 100000 in
theorem lc_shape (hn : n ≤ 384) (hi : i + 6 ≤ n) (hB : BO a e X I J) (K : ∀ a' e' I' J', aOK a' → CA a' e' I' J' → MA a' I' J' → e' ≤ e + 20 → I' 0 = X → EV G 265 (D + 60) kk nn 1437 [.ref 0, .ref 3, .ref 77, .int (nI i)] [] (SH n, I', J') Q) : EV G 265 (D + 60) kk nn 580 [.ref 0, .ref 3, .ref 77, .int (nI i)] [] (SH n, I, J) Q := by
  obtain ⟨hO, hC, hM, he, h0⟩ := hB
  have c1 : (nI (i + 1)).toNatClampNeg = i + 1 := nI_clamp (by omega)
  have c2 : (nI (i + 2)).toNatClampNeg = i + 2 := nI_clamp (by omega)
  refine EV.atL ck265 300 [1437] ?_
  conv => whnf
  try dsimp only
  rw [show nI i + 1 = nI (i + 1) from nI_add i 1]
  refine ⟨in_nI (show i + 1 < n by omega) (by omega), ?_⟩
  conv => whnf
  try dsimp only
  rw [show nI i + 2 = nI (i + 2) from nI_add i 2]
  refine ⟨in_nI (show i + 2 < n by omega) (by omega), ?_⟩
  conv => whnf
  try dsimp only
  rw [c1, c2, h0]
  refine ⟨trivial, k_shape _ _ _ _ a e hO hC he (fun I1 J1 e1 he1 hC1 f1 g1 => ?_)⟩
  have hM1 := hM.fc f1 g1
  have h01 : I1 0 = X := by rw [f1 0 (by omega)]; exact h0
  refine EV.atL ck265 300 [1437] ?_
  conv => whnf
  try dsimp only
  rw [show nI i + 1 = nI (i + 1) from nI_add i 1]
  refine ⟨in_nI (show i + 1 < n by omega) (by omega), ?_⟩
  conv => whnf
  try dsimp only
  rw [show nI i + 2 = nI (i + 2) from nI_add i 2]
  refine ⟨in_nI (show i + 2 < n by omega) (by omega), ?_⟩
  conv => whnf
  try dsimp only
  rw [c1, c2, h01]
  refine ⟨trivial, m_shape _ _ _ _ a hO hM1 (fun I2 J2 hM2 f2 g2 => ?_)⟩
  have fin := K _ _ I2 J2 (ok_shape hO) (hC1.fm f2 g2) hM2 he1 (by rw [f2 0 (by omega)]; exact h01)
  refine EV.atL ck265 300 [1437] ?_
  conv => whnf
  try dsimp only
  refine ⟨fun _ => ?_, fun z => absurd rfl z⟩
  conv => whnf
  try dsimp only
  exact ⟨trivial, fin⟩
set_option maxRecDepth 100000 in
theorem lc_change (hn : n ≤ 384) (hi : i + 6 ≤ n) (hB : BO a e X I J) (K : ∀ a' e' I' J', aOK a' → CA a' e' I' J' → MA a' I' J' → e' ≤ e + 20 → I' 0 = X → EV G 265 (D + 60) kk nn 1437 [.ref 0, .ref 3, .ref 77, .int (nI i)] [] (SH n, I', J') Q) : EV G 265 (D + 60) kk nn 613 [.ref 0, .ref 3, .ref 77, .int (nI i)] [] (SH n, I, J) Q := by
  obtain ⟨hO, hC, hM, he, h0⟩ := hB
  have c1 : (nI (i + 1)).toNatClampNeg = i + 1 := nI_clamp (by omega)
  have c2 : (nI (i + 2)).toNatClampNeg = i + 2 := nI_clamp (by omega)
  refine EV.atL ck265 300 [1437] ?_
  conv => whnf
  try dsimp only
  rw [show nI i + 1 = nI (i + 1) from nI_add i 1]
  refine ⟨in_nI (show i + 1 < n by omega) (by omega), ?_⟩
  conv => whnf
  try dsimp only
  rw [show nI i + 2 = nI (i + 2) from nI_add i 2]
  refine ⟨in_nI (show i + 2 < n by omega) (by omega), ?_⟩
  conv => whnf
  try dsimp only
  rw [c1, c2, h0]
  refine ⟨trivial, k_change _ _ _ _ a e hO hC he (fun I1 J1 e1 he1 hC1 f1 g1 => ?_)⟩
  have hM1 := hM.fc f1 g1
  have h01 : I1 0 = X := by rw [f1 0 (by omega)]; exact h0
  refine EV.atL ck265 300 [1437] ?_
  conv => whnf
  try dsimp only
  rw [show nI i + 1 = nI (i + 1) from nI_add i 1]
  refine ⟨in_nI (show i + 1 < n by omega) (by omega), ?_⟩
  conv => whnf
  try dsimp only
  rw [show nI i + 2 = nI (i + 2) from nI_add i 2]
  refine ⟨in_nI (show i + 2 < n by omega) (by omega), ?_⟩
  conv => whnf
  try dsimp only
  rw [c1, c2, h01]
  refine ⟨trivial, m_change _ _ _ _ a hO hM1 (fun I2 J2 hM2 f2 g2 => ?_)⟩
  have fin := K _ _ I2 J2 (ok_change hO) (hC1.fm f2 g2) hM2 he1 (by rw [f2 0 (by omega)]; exact h01)
  refine EV.atL ck265 300 [1437] ?_
  conv => whnf
  try dsimp only
  refine ⟨fun _ => ?_, fun z => absurd rfl z⟩
  conv => whnf
  try dsimp only
  exact ⟨trivial, fin⟩
set_option maxRecDepth 100000 in
theorem lc_mark (hn : n ≤ 384) (hi : i + 6 ≤ n) (hB : BO a e X I J) (K : ∀ a' e' I' J', aOK a' → CA a' e' I' J' → MA a' I' J' → e' ≤ e + 20 → I' 0 = X → EV G 265 (D + 60) kk nn 1437 [.ref 0, .ref 3, .ref 77, .int (nI i)] [] (SH n, I', J') Q) : EV G 265 (D + 60) kk nn 646 [.ref 0, .ref 3, .ref 77, .int (nI i)] [] (SH n, I, J) Q := by
  obtain ⟨hO, hC, hM, he, h0⟩ := hB
  have c1 : (nI (i + 1)).toNatClampNeg = i + 1 := nI_clamp (by omega)
  have c2 : (nI (i + 2)).toNatClampNeg = i + 2 := nI_clamp (by omega)
  refine EV.atL ck265 300 [1437] ?_
  conv => whnf
  try dsimp only
  rw [show nI i + 1 = nI (i + 1) from nI_add i 1]
  refine ⟨in_nI (show i + 1 < n by omega) (by omega), ?_⟩
  conv => whnf
  try dsimp only
  rw [show nI i + 2 = nI (i + 2) from nI_add i 2]
  refine ⟨in_nI (show i + 2 < n by omega) (by omega), ?_⟩
  conv => whnf
  try dsimp only
  rw [c1, c2, h0]
  refine ⟨trivial, k_mark _ _ _ _ a e hO hC he (fun I1 J1 e1 he1 hC1 f1 g1 => ?_)⟩
  have hM1 := hM.fc f1 g1
  have h01 : I1 0 = X := by rw [f1 0 (by omega)]; exact h0
  refine EV.atL ck265 300 [1437] ?_
  conv => whnf
  try dsimp only
  rw [show nI i + 1 = nI (i + 1) from nI_add i 1]
  refine ⟨in_nI (show i + 1 < n by omega) (by omega), ?_⟩
  conv => whnf
  try dsimp only
  rw [show nI i + 2 = nI (i + 2) from nI_add i 2]
  refine ⟨in_nI (show i + 2 < n by omega) (by omega), ?_⟩
  conv => whnf
  try dsimp only
  rw [c1, c2, h01]
  refine ⟨trivial, m_mark _ _ _ _ a hO hM1 (fun I2 J2 hM2 f2 g2 => ?_)⟩
  have fin := K _ _ I2 J2 (ok_mark hO) (hC1.fm f2 g2) hM2 he1 (by rw [f2 0 (by omega)]; exact h01)
  refine EV.atL ck265 300 [1437] ?_
  conv => whnf
  try dsimp only
  refine ⟨fun _ => ?_, fun z => absurd rfl z⟩
  conv => whnf
  try dsimp only
  exact ⟨trivial, fin⟩
set_option maxRecDepth 100000 in
theorem lc_fighter (hn : n ≤ 384) (hi : i + 6 ≤ n) (hB : BO a e X I J) (K : ∀ a' e' I' J', aOK a' → CA a' e' I' J' → MA a' I' J' → e' ≤ e + 20 → I' 0 = X → EV G 265 (D + 60) kk nn 1437 [.ref 0, .ref 3, .ref 77, .int (nI i)] [] (SH n, I', J') Q) : EV G 265 (D + 60) kk nn 679 [.ref 0, .ref 3, .ref 77, .int (nI i)] [] (SH n, I, J) Q := by
  obtain ⟨hO, hC, hM, he, h0⟩ := hB
  have c1 : (nI (i + 1)).toNatClampNeg = i + 1 := nI_clamp (by omega)
  have c2 : (nI (i + 2)).toNatClampNeg = i + 2 := nI_clamp (by omega)
  refine EV.atL ck265 300 [1437] ?_
  conv => whnf
  try dsimp only
  rw [show nI i + 1 = nI (i + 1) from nI_add i 1]
  refine ⟨in_nI (show i + 1 < n by omega) (by omega), ?_⟩
  conv => whnf
  try dsimp only
  rw [show nI i + 2 = nI (i + 2) from nI_add i 2]
  refine ⟨in_nI (show i + 2 < n by omega) (by omega), ?_⟩
  conv => whnf
  try dsimp only
  rw [c1, c2, h0]
  refine ⟨trivial, k_fighter _ _ _ _ a e hO hC he (fun I1 J1 e1 he1 hC1 f1 g1 => ?_)⟩
  have hM1 := hM.fc f1 g1
  have h01 : I1 0 = X := by rw [f1 0 (by omega)]; exact h0
  refine EV.atL ck265 300 [1437] ?_
  conv => whnf
  try dsimp only
  rw [show nI i + 1 = nI (i + 1) from nI_add i 1]
  refine ⟨in_nI (show i + 1 < n by omega) (by omega), ?_⟩
  conv => whnf
  try dsimp only
  rw [show nI i + 2 = nI (i + 2) from nI_add i 2]
  refine ⟨in_nI (show i + 2 < n by omega) (by omega), ?_⟩
  conv => whnf
  try dsimp only
  rw [c1, c2, h01]
  refine ⟨trivial, m_fighter _ _ _ _ a hO hM1 (fun I2 J2 hM2 f2 g2 => ?_)⟩
  have fin := K _ _ I2 J2 (ok_fighter hO) (hC1.fm f2 g2) hM2 he1 (by rw [f2 0 (by omega)]; exact h01)
  refine EV.atL ck265 300 [1437] ?_
  conv => whnf
  try dsimp only
  refine ⟨fun _ => ?_, fun z => absurd rfl z⟩
  conv => whnf
  try dsimp only
  exact ⟨trivial, fin⟩
set_option maxRecDepth 100000 in
theorem lc_teach (hn : n ≤ 384) (hi : i + 6 ≤ n) (hB : BO a e X I J) (K : ∀ a' e' I' J', aOK a' → CA a' e' I' J' → MA a' I' J' → e' ≤ e + 20 → I' 0 = X → EV G 265 (D + 60) kk nn 1437 [.ref 0, .ref 3, .ref 77, .int (nI i)] [] (SH n, I', J') Q) : EV G 265 (D + 60) kk nn 712 [.ref 0, .ref 3, .ref 77, .int (nI i)] [] (SH n, I, J) Q := by
  obtain ⟨hO, hC, hM, he, h0⟩ := hB
  have c1 : (nI (i + 1)).toNatClampNeg = i + 1 := nI_clamp (by omega)
  have c2 : (nI (i + 2)).toNatClampNeg = i + 2 := nI_clamp (by omega)
  have c3 : (nI (i + 3)).toNatClampNeg = i + 3 := nI_clamp (by omega)
  refine EV.atL ck265 300 [1437] ?_
  conv => whnf
  try dsimp only
  rw [show nI i + 1 = nI (i + 1) from nI_add i 1]
  refine ⟨in_nI (show i + 1 < n by omega) (by omega), ?_⟩
  conv => whnf
  try dsimp only
  rw [show nI i + 2 = nI (i + 2) from nI_add i 2]
  refine ⟨in_nI (show i + 2 < n by omega) (by omega), ?_⟩
  conv => whnf
  try dsimp only
  rw [show nI i + 3 = nI (i + 3) from nI_add i 3]
  refine ⟨in_nI (show i + 3 < n by omega) (by omega), ?_⟩
  conv => whnf
  try dsimp only
  rw [c1, c2, c3, h0]
  refine ⟨trivial, k_teach _ _ _ _ a e hO hC he (fun I1 J1 e1 he1 hC1 f1 g1 => ?_)⟩
  have hM1 := hM.fc f1 g1
  have h01 : I1 0 = X := by rw [f1 0 (by omega)]; exact h0
  refine EV.atL ck265 300 [1437] ?_
  conv => whnf
  try dsimp only
  rw [show nI i + 1 = nI (i + 1) from nI_add i 1]
  refine ⟨in_nI (show i + 1 < n by omega) (by omega), ?_⟩
  conv => whnf
  try dsimp only
  rw [show nI i + 2 = nI (i + 2) from nI_add i 2]
  refine ⟨in_nI (show i + 2 < n by omega) (by omega), ?_⟩
  conv => whnf
  try dsimp only
  rw [show nI i + 3 = nI (i + 3) from nI_add i 3]
  refine ⟨in_nI (show i + 3 < n by omega) (by omega), ?_⟩
  conv => whnf
  try dsimp only
  rw [c1, c2, c3, h01]
  refine ⟨trivial, m_teach _ _ _ _ a hO hM1 (fun I2 J2 hM2 f2 g2 => ?_)⟩
  have fin := K _ _ I2 J2 (ok_teach hO) (hC1.fm f2 g2) hM2 he1 (by rw [f2 0 (by omega)]; exact h01)
  refine EV.atL ck265 300 [1437] ?_
  conv => whnf
  try dsimp only
  refine ⟨fun _ => ?_, fun z => absurd rfl z⟩
  conv => whnf
  try dsimp only
  exact ⟨trivial, fin⟩
set_option maxRecDepth 100000 in
theorem lc_fire (hn : n ≤ 384) (hi : i + 6 ≤ n) (hB : BO a e X I J) (K : ∀ a' e' I' J', aOK a' → CA a' e' I' J' → MA a' I' J' → e' ≤ e + 20 → I' 0 = X → EV G 265 (D + 60) kk nn 1437 [.ref 0, .ref 3, .ref 77, .int (nI i)] [] (SH n, I', J') Q) : EV G 265 (D + 60) kk nn 755 [.ref 0, .ref 3, .ref 77, .int (nI i)] [] (SH n, I, J) Q := by
  obtain ⟨hO, hC, hM, he, h0⟩ := hB
  have c1 : (nI (i + 1)).toNatClampNeg = i + 1 := nI_clamp (by omega)
  have c2 : (nI (i + 2)).toNatClampNeg = i + 2 := nI_clamp (by omega)
  refine EV.atL ck265 300 [1437] ?_
  conv => whnf
  try dsimp only
  rw [show nI i + 1 = nI (i + 1) from nI_add i 1]
  refine ⟨in_nI (show i + 1 < n by omega) (by omega), ?_⟩
  conv => whnf
  try dsimp only
  rw [show nI i + 2 = nI (i + 2) from nI_add i 2]
  refine ⟨in_nI (show i + 2 < n by omega) (by omega), ?_⟩
  conv => whnf
  try dsimp only
  rw [c1, c2, h0]
  refine ⟨trivial, k_fire _ _ _ _ a e hO hC he (fun I1 J1 e1 he1 hC1 f1 g1 => ?_)⟩
  have hM1 := hM.fc f1 g1
  have h01 : I1 0 = X := by rw [f1 0 (by omega)]; exact h0
  refine EV.atL ck265 300 [1437] ?_
  conv => whnf
  try dsimp only
  rw [show nI i + 1 = nI (i + 1) from nI_add i 1]
  refine ⟨in_nI (show i + 1 < n by omega) (by omega), ?_⟩
  conv => whnf
  try dsimp only
  rw [show nI i + 2 = nI (i + 2) from nI_add i 2]
  refine ⟨in_nI (show i + 2 < n by omega) (by omega), ?_⟩
  conv => whnf
  try dsimp only
  rw [c1, c2, h01]
  refine ⟨trivial, m_fire _ _ _ _ a hO hM1 (fun I2 J2 hM2 f2 g2 => ?_)⟩
  have fin := K _ _ I2 J2 (ok_fire hO) (hC1.fm f2 g2) hM2 he1 (by rw [f2 0 (by omega)]; exact h01)
  refine EV.atL ck265 300 [1437] ?_
  conv => whnf
  try dsimp only
  refine ⟨fun _ => ?_, fun z => absurd rfl z⟩
  conv => whnf
  try dsimp only
  exact ⟨trivial, fin⟩
set_option maxRecDepth 100000 in
theorem lc_beat (hn : n ≤ 384) (hi : i + 6 ≤ n) (hB : BO a e X I J) (K : ∀ a' e' I' J', aOK a' → CA a' e' I' J' → MA a' I' J' → e' ≤ e + 20 → I' 0 = X → EV G 265 (D + 60) kk nn 1437 [.ref 0, .ref 3, .ref 77, .int (nI i)] [] (SH n, I', J') Q) : EV G 265 (D + 60) kk nn 788 [.ref 0, .ref 3, .ref 77, .int (nI i)] [] (SH n, I, J) Q := by
  obtain ⟨hO, hC, hM, he, h0⟩ := hB
  have c1 : (nI (i + 1)).toNatClampNeg = i + 1 := nI_clamp (by omega)
  have c2 : (nI (i + 2)).toNatClampNeg = i + 2 := nI_clamp (by omega)
  have c3 : (nI (i + 3)).toNatClampNeg = i + 3 := nI_clamp (by omega)
  refine EV.atL ck265 300 [1437] ?_
  conv => whnf
  try dsimp only
  rw [show nI i + 1 = nI (i + 1) from nI_add i 1]
  refine ⟨in_nI (show i + 1 < n by omega) (by omega), ?_⟩
  conv => whnf
  try dsimp only
  rw [show nI i + 2 = nI (i + 2) from nI_add i 2]
  refine ⟨in_nI (show i + 2 < n by omega) (by omega), ?_⟩
  conv => whnf
  try dsimp only
  rw [show nI i + 3 = nI (i + 3) from nI_add i 3]
  refine ⟨in_nI (show i + 3 < n by omega) (by omega), ?_⟩
  conv => whnf
  try dsimp only
  rw [c1, c2, c3, h0]
  refine ⟨trivial, k_beat _ _ _ _ a e hO hC he (fun I1 J1 e1 he1 hC1 f1 g1 => ?_)⟩
  have hM1 := hM.fc f1 g1
  have h01 : I1 0 = X := by rw [f1 0 (by omega)]; exact h0
  refine EV.atL ck265 300 [1437] ?_
  conv => whnf
  try dsimp only
  rw [show nI i + 1 = nI (i + 1) from nI_add i 1]
  refine ⟨in_nI (show i + 1 < n by omega) (by omega), ?_⟩
  conv => whnf
  try dsimp only
  rw [show nI i + 2 = nI (i + 2) from nI_add i 2]
  refine ⟨in_nI (show i + 2 < n by omega) (by omega), ?_⟩
  conv => whnf
  try dsimp only
  rw [show nI i + 3 = nI (i + 3) from nI_add i 3]
  refine ⟨in_nI (show i + 3 < n by omega) (by omega), ?_⟩
  conv => whnf
  try dsimp only
  rw [c1, c2, c3, h01]
  refine ⟨trivial, m_beat _ _ _ _ a hO hM1 (fun I2 J2 hM2 f2 g2 => ?_)⟩
  have fin := K _ _ I2 J2 (ok_beat hO) (hC1.fm f2 g2) hM2 he1 (by rw [f2 0 (by omega)]; exact h01)
  refine EV.atL ck265 300 [1437] ?_
  conv => whnf
  try dsimp only
  refine ⟨fun _ => ?_, fun z => absurd rfl z⟩
  conv => whnf
  try dsimp only
  exact ⟨trivial, fin⟩
set_option maxRecDepth 100000 in
theorem lc_can (hn : n ≤ 384) (hi : i + 6 ≤ n) (hB : BO a e X I J) (K : ∀ a' e' I' J', aOK a' → CA a' e' I' J' → MA a' I' J' → e' ≤ e + 20 → I' 0 = X → EV G 265 (D + 60) kk nn 1437 [.ref 0, .ref 3, .ref 77, .int (nI i)] [] (SH n, I', J') Q) : EV G 265 (D + 60) kk nn 831 [.ref 0, .ref 3, .ref 77, .int (nI i)] [] (SH n, I, J) Q := by
  obtain ⟨hO, hC, hM, he, h0⟩ := hB
  have c1 : (nI (i + 1)).toNatClampNeg = i + 1 := nI_clamp (by omega)
  refine EV.atL ck265 300 [1437] ?_
  conv => whnf
  try dsimp only
  rw [show nI i + 1 = nI (i + 1) from nI_add i 1]
  refine ⟨in_nI (show i + 1 < n by omega) (by omega), ?_⟩
  conv => whnf
  try dsimp only
  rw [c1, h0]
  refine ⟨trivial, k_can _ _ _ _ a e hO hC he (fun I1 J1 e1 he1 hC1 f1 g1 => ?_)⟩
  have hM1 := hM.fc f1 g1
  have h01 : I1 0 = X := by rw [f1 0 (by omega)]; exact h0
  refine EV.atL ck265 300 [1437] ?_
  conv => whnf
  try dsimp only
  rw [show nI i + 1 = nI (i + 1) from nI_add i 1]
  refine ⟨in_nI (show i + 1 < n by omega) (by omega), ?_⟩
  conv => whnf
  try dsimp only
  rw [c1, h01]
  refine ⟨trivial, m_can _ _ _ _ a hO hM1 (fun I2 J2 hM2 f2 g2 => ?_)⟩
  have fin := K _ _ I2 J2 (ok_can hO) (hC1.fm f2 g2) hM2 he1 (by rw [f2 0 (by omega)]; exact h01)
  refine EV.atL ck265 300 [1437] ?_
  conv => whnf
  try dsimp only
  refine ⟨fun _ => ?_, fun z => absurd rfl z⟩
  conv => whnf
  try dsimp only
  exact ⟨trivial, fin⟩
set_option maxRecDepth 100000 in
theorem lc_turn (hn : n ≤ 384) (hi : i + 6 ≤ n) (hB : BO a e X I J) (K : ∀ a' e' I' J', aOK a' → CA a' e' I' J' → MA a' I' J' → e' ≤ e + 20 → I' 0 = X → EV G 265 (D + 60) kk nn 1437 [.ref 0, .ref 3, .ref 77, .int (nI i)] [] (SH n, I', J') Q) : EV G 265 (D + 60) kk nn 854 [.ref 0, .ref 3, .ref 77, .int (nI i)] [] (SH n, I, J) Q := by
  obtain ⟨hO, hC, hM, he, h0⟩ := hB
  refine EV.atL ck265 300 [1437] ?_
  conv => whnf
  try dsimp only
  refine ⟨trivial, k_turn _ _ _ _ a e hO hC he (fun I1 J1 e1 he1 hC1 f1 g1 => ?_)⟩
  have hM1 := hM.fc f1 g1
  have h01 : I1 0 = X := by rw [f1 0 (by omega)]; exact h0
  refine EV.atL ck265 300 [1437] ?_
  conv => whnf
  try dsimp only
  refine ⟨trivial, m_turn _ _ _ _ a hO hM1 (fun I2 J2 hM2 f2 g2 => ?_)⟩
  have fin := K _ _ I2 J2 (ok_turn hO) (hC1.fm f2 g2) hM2 he1 (by rw [f2 0 (by omega)]; exact h01)
  refine EV.atL ck265 300 [1437] ?_
  conv => whnf
  try dsimp only
  refine ⟨fun _ => ?_, fun z => absurd rfl z⟩
  conv => whnf
  try dsimp only
  exact ⟨trivial, fin⟩
set_option maxRecDepth 100000 in
theorem lc_go (hn : n ≤ 384) (hi : i + 6 ≤ n) (hB : BO a e X I J) (K : ∀ a' e' I' J', aOK a' → CA a' e' I' J' → MA a' I' J' → e' ≤ e + 20 → I' 0 = X → EV G 265 (D + 60) kk nn 1437 [.ref 0, .ref 3, .ref 77, .int (nI i)] [] (SH n, I', J') Q) : EV G 265 (D + 60) kk nn 867 [.ref 0, .ref 3, .ref 77, .int (nI i)] [] (SH n, I, J) Q := by
  obtain ⟨hO, hC, hM, he, h0⟩ := hB
  have c1 : (nI (i + 1)).toNatClampNeg = i + 1 := nI_clamp (by omega)
  refine EV.atL ck265 300 [1437] ?_
  conv => whnf
  try dsimp only
  rw [show nI i + 1 = nI (i + 1) from nI_add i 1]
  refine ⟨in_nI (show i + 1 < n by omega) (by omega), ?_⟩
  conv => whnf
  try dsimp only
  rw [c1, h0]
  refine ⟨trivial, k_go _ _ _ _ a e hO hC he (fun I1 J1 e1 he1 hC1 f1 g1 => ?_)⟩
  have hM1 := hM.fc f1 g1
  have h01 : I1 0 = X := by rw [f1 0 (by omega)]; exact h0
  refine EV.atL ck265 300 [1437] ?_
  conv => whnf
  try dsimp only
  rw [show nI i + 1 = nI (i + 1) from nI_add i 1]
  refine ⟨in_nI (show i + 1 < n by omega) (by omega), ?_⟩
  conv => whnf
  try dsimp only
  rw [c1, h01]
  refine ⟨trivial, m_go _ _ _ _ a hO hM1 (fun I2 J2 hM2 f2 g2 => ?_)⟩
  have fin := K _ _ I2 J2 (ok_go hO) (hC1.fm f2 g2) hM2 he1 (by rw [f2 0 (by omega)]; exact h01)
  refine EV.atL ck265 300 [1437] ?_
  conv => whnf
  try dsimp only
  refine ⟨fun _ => ?_, fun z => absurd rfl z⟩
  conv => whnf
  try dsimp only
  exact ⟨trivial, fin⟩
set_option maxRecDepth 100000 in
theorem lc_undo (hn : n ≤ 384) (hi : i + 6 ≤ n) (hB : BO a e X I J) (K : ∀ a' e' I' J', aOK a' → CA a' e' I' J' → MA a' I' J' → e' ≤ e + 20 → I' 0 = X → EV G 265 (D + 60) kk nn 1437 [.ref 0, .ref 3, .ref 77, .int (nI i)] [] (SH n, I', J') Q) : EV G 265 (D + 60) kk nn 890 [.ref 0, .ref 3, .ref 77, .int (nI i)] [] (SH n, I, J) Q := by
  obtain ⟨hO, hC, hM, he, h0⟩ := hB
  have c1 : (nI (i + 1)).toNatClampNeg = i + 1 := nI_clamp (by omega)
  refine EV.atL ck265 300 [1437] ?_
  conv => whnf
  try dsimp only
  rw [show nI i + 1 = nI (i + 1) from nI_add i 1]
  refine ⟨in_nI (show i + 1 < n by omega) (by omega), ?_⟩
  conv => whnf
  try dsimp only
  rw [c1, h0]
  refine ⟨trivial, k_undo _ _ _ _ a e hO hC he (fun I1 J1 e1 he1 hC1 f1 g1 => ?_)⟩
  have hM1 := hM.fc f1 g1
  have h01 : I1 0 = X := by rw [f1 0 (by omega)]; exact h0
  refine EV.atL ck265 300 [1437] ?_
  conv => whnf
  try dsimp only
  rw [show nI i + 1 = nI (i + 1) from nI_add i 1]
  refine ⟨in_nI (show i + 1 < n by omega) (by omega), ?_⟩
  conv => whnf
  try dsimp only
  rw [c1, h01]
  refine ⟨trivial, m_undo _ _ _ _ a hO hM1 (fun I2 J2 hM2 f2 g2 => ?_)⟩
  have fin := K _ _ I2 J2 (ok_undo hO) (hC1.fm f2 g2) hM2 he1 (by rw [f2 0 (by omega)]; exact h01)
  refine EV.atL ck265 300 [1437] ?_
  conv => whnf
  try dsimp only
  refine ⟨fun _ => ?_, fun z => absurd rfl z⟩
  conv => whnf
  try dsimp only
  exact ⟨trivial, fin⟩
set_option maxRecDepth 100000 in
theorem lc_told (hn : n ≤ 384) (hi : i + 6 ≤ n) (hB : BO a e X I J) (K : ∀ a' e' I' J', aOK a' → CA a' e' I' J' → MA a' I' J' → e' ≤ e + 20 → I' 0 = X → EV G 265 (D + 60) kk nn 1437 [.ref 0, .ref 3, .ref 77, .int (nI i)] [] (SH n, I', J') Q) : EV G 265 (D + 60) kk nn 913 [.ref 0, .ref 3, .ref 77, .int (nI i)] [] (SH n, I, J) Q := by
  obtain ⟨hO, hC, hM, he, h0⟩ := hB
  have c1 : (nI (i + 1)).toNatClampNeg = i + 1 := nI_clamp (by omega)
  refine EV.atL ck265 300 [1437] ?_
  conv => whnf
  try dsimp only
  rw [show nI i + 1 = nI (i + 1) from nI_add i 1]
  refine ⟨in_nI (show i + 1 < n by omega) (by omega), ?_⟩
  conv => whnf
  try dsimp only
  rw [c1, h0]
  refine ⟨trivial, k_told _ _ _ _ a e hO hC he (fun I1 J1 e1 he1 hC1 f1 g1 => ?_)⟩
  have hM1 := hM.fc f1 g1
  have h01 : I1 0 = X := by rw [f1 0 (by omega)]; exact h0
  refine EV.atL ck265 300 [1437] ?_
  conv => whnf
  try dsimp only
  rw [show nI i + 1 = nI (i + 1) from nI_add i 1]
  refine ⟨in_nI (show i + 1 < n by omega) (by omega), ?_⟩
  conv => whnf
  try dsimp only
  rw [c1, h01]
  refine ⟨trivial, m_told _ _ _ _ a hO hM1 (fun I2 J2 hM2 f2 g2 => ?_)⟩
  have fin := K _ _ I2 J2 (ok_told hO) (hC1.fm f2 g2) hM2 he1 (by rw [f2 0 (by omega)]; exact h01)
  refine EV.atL ck265 300 [1437] ?_
  conv => whnf
  try dsimp only
  refine ⟨fun _ => ?_, fun z => absurd rfl z⟩
  conv => whnf
  try dsimp only
  exact ⟨trivial, fin⟩
set_option maxRecDepth 100000 in
theorem lc_keep (hn : n ≤ 384) (hi : i + 6 ≤ n) (hB : BO a e X I J) (K : ∀ a' e' I' J', aOK a' → CA a' e' I' J' → MA a' I' J' → e' ≤ e + 20 → I' 0 = X → EV G 265 (D + 60) kk nn 1437 [.ref 0, .ref 3, .ref 77, .int (nI i)] [] (SH n, I', J') Q) : EV G 265 (D + 60) kk nn 936 [.ref 0, .ref 3, .ref 77, .int (nI i)] [] (SH n, I, J) Q := by
  obtain ⟨hO, hC, hM, he, h0⟩ := hB
  have c1 : (nI (i + 1)).toNatClampNeg = i + 1 := nI_clamp (by omega)
  refine EV.atL ck265 300 [1437] ?_
  conv => whnf
  try dsimp only
  rw [show nI i + 1 = nI (i + 1) from nI_add i 1]
  refine ⟨in_nI (show i + 1 < n by omega) (by omega), ?_⟩
  conv => whnf
  try dsimp only
  rw [c1, h0]
  refine ⟨trivial, k_keep _ _ _ _ a e hO hC he (fun I1 J1 e1 he1 hC1 f1 g1 => ?_)⟩
  have hM1 := hM.fc f1 g1
  have h01 : I1 0 = X := by rw [f1 0 (by omega)]; exact h0
  refine EV.atL ck265 300 [1437] ?_
  conv => whnf
  try dsimp only
  rw [show nI i + 1 = nI (i + 1) from nI_add i 1]
  refine ⟨in_nI (show i + 1 < n by omega) (by omega), ?_⟩
  conv => whnf
  try dsimp only
  rw [c1, h01]
  refine ⟨trivial, m_keep _ _ _ _ a hO hM1 (fun I2 J2 hM2 f2 g2 => ?_)⟩
  have fin := K _ _ I2 J2 (ok_keep hO) (hC1.fm f2 g2) hM2 he1 (by rw [f2 0 (by omega)]; exact h01)
  refine EV.atL ck265 300 [1437] ?_
  conv => whnf
  try dsimp only
  refine ⟨fun _ => ?_, fun z => absurd rfl z⟩
  conv => whnf
  try dsimp only
  exact ⟨trivial, fin⟩
set_option maxRecDepth 100000 in
theorem lc_on (hn : n ≤ 384) (hi : i + 6 ≤ n) (hB : BO a e X I J) (K : ∀ a' e' I' J', aOK a' → CA a' e' I' J' → MA a' I' J' → e' ≤ e + 20 → I' 0 = X → EV G 265 (D + 60) kk nn 1437 [.ref 0, .ref 3, .ref 77, .int (nI i)] [] (SH n, I', J') Q) : EV G 265 (D + 60) kk nn 959 [.ref 0, .ref 3, .ref 77, .int (nI i)] [] (SH n, I, J) Q := by
  obtain ⟨hO, hC, hM, he, h0⟩ := hB
  have c1 : (nI (i + 1)).toNatClampNeg = i + 1 := nI_clamp (by omega)
  refine EV.atL ck265 300 [1437] ?_
  conv => whnf
  try dsimp only
  rw [show nI i + 1 = nI (i + 1) from nI_add i 1]
  refine ⟨in_nI (show i + 1 < n by omega) (by omega), ?_⟩
  conv => whnf
  try dsimp only
  rw [c1, h0]
  refine ⟨trivial, k_on _ _ _ _ a e hO hC he (fun I1 J1 e1 he1 hC1 f1 g1 => ?_)⟩
  have hM1 := hM.fc f1 g1
  have h01 : I1 0 = X := by rw [f1 0 (by omega)]; exact h0
  refine EV.atL ck265 300 [1437] ?_
  conv => whnf
  try dsimp only
  rw [show nI i + 1 = nI (i + 1) from nI_add i 1]
  refine ⟨in_nI (show i + 1 < n by omega) (by omega), ?_⟩
  conv => whnf
  try dsimp only
  rw [c1, h01]
  refine ⟨trivial, m_on _ _ _ _ a hO hM1 (fun I2 J2 hM2 f2 g2 => ?_)⟩
  have fin := K _ _ I2 J2 (ok_on hO) (hC1.fm f2 g2) hM2 he1 (by rw [f2 0 (by omega)]; exact h01)
  refine EV.atL ck265 300 [1437] ?_
  conv => whnf
  try dsimp only
  refine ⟨fun _ => ?_, fun z => absurd rfl z⟩
  conv => whnf
  try dsimp only
  exact ⟨trivial, fin⟩
set_option maxRecDepth 100000 in
theorem lc_wins (hn : n ≤ 384) (hi : i + 6 ≤ n) (hB : BO a e X I J) (K : ∀ a' e' I' J', aOK a' → CA a' e' I' J' → MA a' I' J' → e' ≤ e + 20 → I' 0 = X → EV G 265 (D + 60) kk nn 1437 [.ref 0, .ref 3, .ref 77, .int (nI i)] [] (SH n, I', J') Q) : EV G 265 (D + 60) kk nn 982 [.ref 0, .ref 3, .ref 77, .int (nI i)] [] (SH n, I, J) Q := by
  obtain ⟨hO, hC, hM, he, h0⟩ := hB
  refine EV.atL ck265 300 [1437] ?_
  conv => whnf
  try dsimp only
  refine ⟨trivial, k_wins _ _ _ _ a e hO hC he (fun I1 J1 e1 he1 hC1 f1 g1 => ?_)⟩
  have hM1 := hM.fc f1 g1
  have h01 : I1 0 = X := by rw [f1 0 (by omega)]; exact h0
  refine EV.atL ck265 300 [1437] ?_
  conv => whnf
  try dsimp only
  refine ⟨trivial, m_wins _ _ _ _ a hO hM1 (fun I2 J2 hM2 f2 g2 => ?_)⟩
  have fin := K _ _ I2 J2 (ok_wins hO) (hC1.fm f2 g2) hM2 he1 (by rw [f2 0 (by omega)]; exact h01)
  refine EV.atL ck265 300 [1437] ?_
  conv => whnf
  try dsimp only
  refine ⟨fun _ => ?_, fun z => absurd rfl z⟩
  conv => whnf
  try dsimp only
  exact ⟨trivial, fin⟩
set_option maxRecDepth 100000 in
theorem lc_ends (hn : n ≤ 384) (hi : i + 6 ≤ n) (hB : BO a e X I J) (K : ∀ a' e' I' J', aOK a' → CA a' e' I' J' → MA a' I' J' → e' ≤ e + 20 → I' 0 = X → EV G 265 (D + 60) kk nn 1437 [.ref 0, .ref 3, .ref 77, .int (nI i)] [] (SH n, I', J') Q) : EV G 265 (D + 60) kk nn 995 [.ref 0, .ref 3, .ref 77, .int (nI i)] [] (SH n, I, J) Q := by
  obtain ⟨hO, hC, hM, he, h0⟩ := hB
  refine EV.atL ck265 300 [1437] ?_
  conv => whnf
  try dsimp only
  refine ⟨trivial, k_ends _ _ _ _ a e hO hC he (fun I1 J1 e1 he1 hC1 f1 g1 => ?_)⟩
  have hM1 := hM.fc f1 g1
  have h01 : I1 0 = X := by rw [f1 0 (by omega)]; exact h0
  refine EV.atL ck265 300 [1437] ?_
  conv => whnf
  try dsimp only
  refine ⟨trivial, m_ends _ _ _ _ a hO hM1 (fun I2 J2 hM2 f2 g2 => ?_)⟩
  have fin := K _ _ I2 J2 (ok_ends hO) (hC1.fm f2 g2) hM2 he1 (by rw [f2 0 (by omega)]; exact h01)
  refine EV.atL ck265 300 [1437] ?_
  conv => whnf
  try dsimp only
  refine ⟨fun _ => ?_, fun z => absurd rfl z⟩
  conv => whnf
  try dsimp only
  exact ⟨trivial, fin⟩
set_option maxRecDepth 100000 in
theorem lc_line (hn : n ≤ 384) (hi : i + 6 ≤ n) (hB : BO a e X I J) (K : ∀ a' e' I' J', aOK a' → CA a' e' I' J' → MA a' I' J' → e' ≤ e + 20 → I' 0 = X → EV G 265 (D + 60) kk nn 1437 [.ref 0, .ref 3, .ref 77, .int (nI i)] [] (SH n, I', J') Q) : EV G 265 (D + 60) kk nn 1008 [.ref 0, .ref 3, .ref 77, .int (nI i)] [] (SH n, I, J) Q := by
  obtain ⟨hO, hC, hM, he, h0⟩ := hB
  have c1 : (nI (i + 1)).toNatClampNeg = i + 1 := nI_clamp (by omega)
  refine EV.atL ck265 300 [1437] ?_
  conv => whnf
  try dsimp only
  rw [show nI i + 1 = nI (i + 1) from nI_add i 1]
  refine ⟨in_nI (show i + 1 < n by omega) (by omega), ?_⟩
  conv => whnf
  try dsimp only
  rw [c1, h0]
  refine ⟨trivial, k_line _ _ _ _ a e hO hC he (fun I1 J1 e1 he1 hC1 f1 g1 => ?_)⟩
  have hM1 := hM.fc f1 g1
  have h01 : I1 0 = X := by rw [f1 0 (by omega)]; exact h0
  refine EV.atL ck265 300 [1437] ?_
  conv => whnf
  try dsimp only
  rw [show nI i + 1 = nI (i + 1) from nI_add i 1]
  refine ⟨in_nI (show i + 1 < n by omega) (by omega), ?_⟩
  conv => whnf
  try dsimp only
  rw [c1, h01]
  refine ⟨trivial, m_line _ _ _ _ a hO hM1 (fun I2 J2 hM2 f2 g2 => ?_)⟩
  have fin := K _ _ I2 J2 (ok_line hO) (hC1.fm f2 g2) hM2 he1 (by rw [f2 0 (by omega)]; exact h01)
  refine EV.atL ck265 300 [1437] ?_
  conv => whnf
  try dsimp only
  refine ⟨fun _ => ?_, fun z => absurd rfl z⟩
  conv => whnf
  try dsimp only
  exact ⟨trivial, fin⟩
set_option maxRecDepth 100000 in
theorem lc_least (hn : n ≤ 384) (hi : i + 6 ≤ n) (hB : BO a e X I J) (K : ∀ a' e' I' J', aOK a' → CA a' e' I' J' → MA a' I' J' → e' ≤ e + 20 → I' 0 = X → EV G 265 (D + 60) kk nn 1437 [.ref 0, .ref 3, .ref 77, .int (nI i)] [] (SH n, I', J') Q) : EV G 265 (D + 60) kk nn 1031 [.ref 0, .ref 3, .ref 77, .int (nI i)] [] (SH n, I, J) Q := by
  obtain ⟨hO, hC, hM, he, h0⟩ := hB
  have c1 : (nI (i + 1)).toNatClampNeg = i + 1 := nI_clamp (by omega)
  refine EV.atL ck265 300 [1437] ?_
  conv => whnf
  try dsimp only
  rw [show nI i + 1 = nI (i + 1) from nI_add i 1]
  refine ⟨in_nI (show i + 1 < n by omega) (by omega), ?_⟩
  conv => whnf
  try dsimp only
  rw [c1, h0]
  refine ⟨trivial, k_least _ _ _ _ a e hO hC he (fun I1 J1 e1 he1 hC1 f1 g1 => ?_)⟩
  have hM1 := hM.fc f1 g1
  have h01 : I1 0 = X := by rw [f1 0 (by omega)]; exact h0
  refine EV.atL ck265 300 [1437] ?_
  conv => whnf
  try dsimp only
  rw [show nI i + 1 = nI (i + 1) from nI_add i 1]
  refine ⟨in_nI (show i + 1 < n by omega) (by omega), ?_⟩
  conv => whnf
  try dsimp only
  rw [c1, h01]
  refine ⟨trivial, m_least _ _ _ _ a hO hM1 (fun I2 J2 hM2 f2 g2 => ?_)⟩
  have fin := K _ _ I2 J2 (ok_least hO) (hC1.fm f2 g2) hM2 he1 (by rw [f2 0 (by omega)]; exact h01)
  refine EV.atL ck265 300 [1437] ?_
  conv => whnf
  try dsimp only
  refine ⟨fun _ => ?_, fun z => absurd rfl z⟩
  conv => whnf
  try dsimp only
  exact ⟨trivial, fin⟩
set_option maxRecDepth 100000 in
theorem lc_learn (hn : n ≤ 384) (hi : i + 6 ≤ n) (hB : BO a e X I J) (K : ∀ a' e' I' J', aOK a' → CA a' e' I' J' → MA a' I' J' → e' ≤ e + 20 → I' 0 = X → EV G 265 (D + 60) kk nn 1437 [.ref 0, .ref 3, .ref 77, .int (nI i)] [] (SH n, I', J') Q) : EV G 265 (D + 60) kk nn 1054 [.ref 0, .ref 3, .ref 77, .int (nI i)] [] (SH n, I, J) Q := by
  obtain ⟨hO, hC, hM, he, h0⟩ := hB
  have c1 : (nI (i + 1)).toNatClampNeg = i + 1 := nI_clamp (by omega)
  refine EV.atL ck265 300 [1437] ?_
  conv => whnf
  try dsimp only
  rw [show nI i + 1 = nI (i + 1) from nI_add i 1]
  refine ⟨in_nI (show i + 1 < n by omega) (by omega), ?_⟩
  conv => whnf
  try dsimp only
  rw [c1, h0]
  refine ⟨trivial, k_learn _ _ _ _ a e hO hC he (fun I1 J1 e1 he1 hC1 f1 g1 => ?_)⟩
  have hM1 := hM.fc f1 g1
  have h01 : I1 0 = X := by rw [f1 0 (by omega)]; exact h0
  refine EV.atL ck265 300 [1437] ?_
  conv => whnf
  try dsimp only
  rw [show nI i + 1 = nI (i + 1) from nI_add i 1]
  refine ⟨in_nI (show i + 1 < n by omega) (by omega), ?_⟩
  conv => whnf
  try dsimp only
  rw [c1, h01]
  refine ⟨trivial, m_learn _ _ _ _ a hO hM1 (fun I2 J2 hM2 f2 g2 => ?_)⟩
  have fin := K _ _ I2 J2 (ok_learn hO) (hC1.fm f2 g2) hM2 he1 (by rw [f2 0 (by omega)]; exact h01)
  refine EV.atL ck265 300 [1437] ?_
  conv => whnf
  try dsimp only
  refine ⟨fun _ => ?_, fun z => absurd rfl z⟩
  conv => whnf
  try dsimp only
  exact ⟨trivial, fin⟩
set_option maxRecDepth 100000 in
theorem lc_needs (hn : n ≤ 384) (hi : i + 6 ≤ n) (hB : BO a e X I J) (K : ∀ a' e' I' J', aOK a' → CA a' e' I' J' → MA a' I' J' → e' ≤ e + 20 → I' 0 = X → EV G 265 (D + 60) kk nn 1437 [.ref 0, .ref 3, .ref 77, .int (nI i)] [] (SH n, I', J') Q) : EV G 265 (D + 60) kk nn 1077 [.ref 0, .ref 3, .ref 77, .int (nI i)] [] (SH n, I, J) Q := by
  obtain ⟨hO, hC, hM, he, h0⟩ := hB
  have c1 : (nI (i + 1)).toNatClampNeg = i + 1 := nI_clamp (by omega)
  refine EV.atL ck265 300 [1437] ?_
  conv => whnf
  try dsimp only
  rw [show nI i + 1 = nI (i + 1) from nI_add i 1]
  refine ⟨in_nI (show i + 1 < n by omega) (by omega), ?_⟩
  conv => whnf
  try dsimp only
  rw [c1, h0]
  refine ⟨trivial, k_needs _ _ _ _ a e hO hC he (fun I1 J1 e1 he1 hC1 f1 g1 => ?_)⟩
  have hM1 := hM.fc f1 g1
  have h01 : I1 0 = X := by rw [f1 0 (by omega)]; exact h0
  refine EV.atL ck265 300 [1437] ?_
  conv => whnf
  try dsimp only
  rw [show nI i + 1 = nI (i + 1) from nI_add i 1]
  refine ⟨in_nI (show i + 1 < n by omega) (by omega), ?_⟩
  conv => whnf
  try dsimp only
  rw [c1, h01]
  refine ⟨trivial, m_needs _ _ _ _ a hO hM1 (fun I2 J2 hM2 f2 g2 => ?_)⟩
  have fin := K _ _ I2 J2 (ok_needs hO) (hC1.fm f2 g2) hM2 he1 (by rw [f2 0 (by omega)]; exact h01)
  refine EV.atL ck265 300 [1437] ?_
  conv => whnf
  try dsimp only
  refine ⟨fun _ => ?_, fun z => absurd rfl z⟩
  conv => whnf
  try dsimp only
  exact ⟨trivial, fin⟩
set_option maxRecDepth 100000 in
theorem lc_lines (hn : n ≤ 384) (hi : i + 6 ≤ n) (hB : BO a e X I J) (K : ∀ a' e' I' J', aOK a' → CA a' e' I' J' → MA a' I' J' → e' ≤ e + 20 → I' 0 = X → EV G 265 (D + 60) kk nn 1437 [.ref 0, .ref 3, .ref 77, .int (nI i)] [] (SH n, I', J') Q) : EV G 265 (D + 60) kk nn 1100 [.ref 0, .ref 3, .ref 77, .int (nI i)] [] (SH n, I, J) Q := by
  obtain ⟨hO, hC, hM, he, h0⟩ := hB
  have c1 : (nI (i + 1)).toNatClampNeg = i + 1 := nI_clamp (by omega)
  refine EV.atL ck265 300 [1437] ?_
  conv => whnf
  try dsimp only
  rw [show nI i + 1 = nI (i + 1) from nI_add i 1]
  refine ⟨in_nI (show i + 1 < n by omega) (by omega), ?_⟩
  conv => whnf
  try dsimp only
  rw [c1, h0]
  refine ⟨trivial, k_lines _ _ _ _ a e hO hC he (fun I1 J1 e1 he1 hC1 f1 g1 => ?_)⟩
  have hM1 := hM.fc f1 g1
  have h01 : I1 0 = X := by rw [f1 0 (by omega)]; exact h0
  refine EV.atL ck265 300 [1437] ?_
  conv => whnf
  try dsimp only
  rw [show nI i + 1 = nI (i + 1) from nI_add i 1]
  refine ⟨in_nI (show i + 1 < n by omega) (by omega), ?_⟩
  conv => whnf
  try dsimp only
  rw [c1, h01]
  refine ⟨trivial, m_lines _ _ _ _ a hO hM1 (fun I2 J2 hM2 f2 g2 => ?_)⟩
  have fin := K _ _ I2 J2 (ok_lines hO) (hC1.fm f2 g2) hM2 he1 (by rw [f2 0 (by omega)]; exact h01)
  refine EV.atL ck265 300 [1437] ?_
  conv => whnf
  try dsimp only
  refine ⟨fun _ => ?_, fun z => absurd rfl z⟩
  conv => whnf
  try dsimp only
  exact ⟨trivial, fin⟩
set_option maxRecDepth 100000 in
theorem lc_judge (hn : n ≤ 384) (hi : i + 6 ≤ n) (hB : BO a e X I J) (K : ∀ a' e' I' J', aOK a' → CA a' e' I' J' → MA a' I' J' → e' ≤ e + 20 → I' 0 = X → EV G 265 (D + 60) kk nn 1437 [.ref 0, .ref 3, .ref 77, .int (nI i)] [] (SH n, I', J') Q) : EV G 265 (D + 60) kk nn 1123 [.ref 0, .ref 3, .ref 77, .int (nI i)] [] (SH n, I, J) Q := by
  obtain ⟨hO, hC, hM, he, h0⟩ := hB
  have c1 : (nI (i + 1)).toNatClampNeg = i + 1 := nI_clamp (by omega)
  refine EV.atL ck265 300 [1437] ?_
  conv => whnf
  try dsimp only
  rw [show nI i + 1 = nI (i + 1) from nI_add i 1]
  refine ⟨in_nI (show i + 1 < n by omega) (by omega), ?_⟩
  conv => whnf
  try dsimp only
  rw [c1, h0]
  refine ⟨trivial, k_judge _ _ _ _ a e hO hC he (fun I1 J1 e1 he1 hC1 f1 g1 => ?_)⟩
  have hM1 := hM.fc f1 g1
  have h01 : I1 0 = X := by rw [f1 0 (by omega)]; exact h0
  refine EV.atL ck265 300 [1437] ?_
  conv => whnf
  try dsimp only
  rw [show nI i + 1 = nI (i + 1) from nI_add i 1]
  refine ⟨in_nI (show i + 1 < n by omega) (by omega), ?_⟩
  conv => whnf
  try dsimp only
  rw [c1, h01]
  refine ⟨trivial, m_judge _ _ _ _ a hO hM1 (fun I2 J2 hM2 f2 g2 => ?_)⟩
  have fin := K _ _ I2 J2 (ok_judge hO) (hC1.fm f2 g2) hM2 he1 (by rw [f2 0 (by omega)]; exact h01)
  refine EV.atL ck265 300 [1437] ?_
  conv => whnf
  try dsimp only
  refine ⟨fun _ => ?_, fun z => absurd rfl z⟩
  conv => whnf
  try dsimp only
  exact ⟨trivial, fin⟩
set_option maxRecDepth 100000 in
theorem lc_shown (hn : n ≤ 384) (hi : i + 6 ≤ n) (hB : BO a e X I J) (K : ∀ a' e' I' J', aOK a' → CA a' e' I' J' → MA a' I' J' → e' ≤ e + 20 → I' 0 = X → EV G 265 (D + 60) kk nn 1437 [.ref 0, .ref 3, .ref 77, .int (nI i)] [] (SH n, I', J') Q) : EV G 265 (D + 60) kk nn 1146 [.ref 0, .ref 3, .ref 77, .int (nI i)] [] (SH n, I, J) Q := by
  obtain ⟨hO, hC, hM, he, h0⟩ := hB
  have c1 : (nI (i + 1)).toNatClampNeg = i + 1 := nI_clamp (by omega)
  have c2 : (nI (i + 2)).toNatClampNeg = i + 2 := nI_clamp (by omega)
  refine EV.atL ck265 300 [1437] ?_
  conv => whnf
  try dsimp only
  rw [show nI i + 1 = nI (i + 1) from nI_add i 1]
  refine ⟨in_nI (show i + 1 < n by omega) (by omega), ?_⟩
  conv => whnf
  try dsimp only
  rw [show nI i + 2 = nI (i + 2) from nI_add i 2]
  refine ⟨in_nI (show i + 2 < n by omega) (by omega), ?_⟩
  conv => whnf
  try dsimp only
  rw [c1, c2, h0]
  refine ⟨trivial, k_shown _ _ _ _ a e hO hC he (fun I1 J1 e1 he1 hC1 f1 g1 => ?_)⟩
  have hM1 := hM.fc f1 g1
  have h01 : I1 0 = X := by rw [f1 0 (by omega)]; exact h0
  refine EV.atL ck265 300 [1437] ?_
  conv => whnf
  try dsimp only
  rw [show nI i + 1 = nI (i + 1) from nI_add i 1]
  refine ⟨in_nI (show i + 1 < n by omega) (by omega), ?_⟩
  conv => whnf
  try dsimp only
  rw [show nI i + 2 = nI (i + 2) from nI_add i 2]
  refine ⟨in_nI (show i + 2 < n by omega) (by omega), ?_⟩
  conv => whnf
  try dsimp only
  rw [c1, c2, h01]
  refine ⟨trivial, m_shown _ _ _ _ a hO hM1 (fun I2 J2 hM2 f2 g2 => ?_)⟩
  have fin := K _ _ I2 J2 (ok_shown hO) (hC1.fm f2 g2) hM2 he1 (by rw [f2 0 (by omega)]; exact h01)
  refine EV.atL ck265 300 [1437] ?_
  conv => whnf
  try dsimp only
  refine ⟨fun _ => ?_, fun z => absurd rfl z⟩
  conv => whnf
  try dsimp only
  exact ⟨trivial, fin⟩
set_option maxRecDepth 100000 in
theorem lc_must (hn : n ≤ 384) (hi : i + 6 ≤ n) (hB : BO a e X I J) (K : ∀ a' e' I' J', aOK a' → CA a' e' I' J' → MA a' I' J' → e' ≤ e + 20 → I' 0 = X → EV G 265 (D + 60) kk nn 1437 [.ref 0, .ref 3, .ref 77, .int (nI i)] [] (SH n, I', J') Q) : EV G 265 (D + 60) kk nn 1179 [.ref 0, .ref 3, .ref 77, .int (nI i)] [] (SH n, I, J) Q := by
  obtain ⟨hO, hC, hM, he, h0⟩ := hB
  have c1 : (nI (i + 1)).toNatClampNeg = i + 1 := nI_clamp (by omega)
  have c2 : (nI (i + 2)).toNatClampNeg = i + 2 := nI_clamp (by omega)
  refine EV.atL ck265 300 [1437] ?_
  conv => whnf
  try dsimp only
  rw [show nI i + 1 = nI (i + 1) from nI_add i 1]
  refine ⟨in_nI (show i + 1 < n by omega) (by omega), ?_⟩
  conv => whnf
  try dsimp only
  rw [show nI i + 2 = nI (i + 2) from nI_add i 2]
  refine ⟨in_nI (show i + 2 < n by omega) (by omega), ?_⟩
  conv => whnf
  try dsimp only
  rw [c1, c2, h0]
  refine ⟨trivial, k_must _ _ _ _ a e hO hC he (fun I1 J1 e1 he1 hC1 f1 g1 => ?_)⟩
  have hM1 := hM.fc f1 g1
  have h01 : I1 0 = X := by rw [f1 0 (by omega)]; exact h0
  refine EV.atL ck265 300 [1437] ?_
  conv => whnf
  try dsimp only
  rw [show nI i + 1 = nI (i + 1) from nI_add i 1]
  refine ⟨in_nI (show i + 1 < n by omega) (by omega), ?_⟩
  conv => whnf
  try dsimp only
  rw [show nI i + 2 = nI (i + 2) from nI_add i 2]
  refine ⟨in_nI (show i + 2 < n by omega) (by omega), ?_⟩
  conv => whnf
  try dsimp only
  rw [c1, c2, h01]
  refine ⟨trivial, m_must _ _ _ _ a hO hM1 (fun I2 J2 hM2 f2 g2 => ?_)⟩
  have fin := K _ _ I2 J2 (ok_must hO) (hC1.fm f2 g2) hM2 he1 (by rw [f2 0 (by omega)]; exact h01)
  refine EV.atL ck265 300 [1437] ?_
  conv => whnf
  try dsimp only
  refine ⟨fun _ => ?_, fun z => absurd rfl z⟩
  conv => whnf
  try dsimp only
  exact ⟨trivial, fin⟩
set_option maxRecDepth 100000 in
theorem lc_odds (hn : n ≤ 384) (hi : i + 6 ≤ n) (hB : BO a e X I J) (K : ∀ a' e' I' J', aOK a' → CA a' e' I' J' → MA a' I' J' → e' ≤ e + 20 → I' 0 = X → EV G 265 (D + 60) kk nn 1437 [.ref 0, .ref 3, .ref 77, .int (nI i)] [] (SH n, I', J') Q) : EV G 265 (D + 60) kk nn 1212 [.ref 0, .ref 3, .ref 77, .int (nI i)] [] (SH n, I, J) Q := by
  obtain ⟨hO, hC, hM, he, h0⟩ := hB
  refine EV.atL ck265 300 [1437] ?_
  conv => whnf
  try dsimp only
  refine ⟨trivial, k_odds _ _ _ _ a e hO hC he (fun I1 J1 e1 he1 hC1 f1 g1 => ?_)⟩
  have hM1 := hM.fc f1 g1
  have h01 : I1 0 = X := by rw [f1 0 (by omega)]; exact h0
  refine EV.atL ck265 300 [1437] ?_
  conv => whnf
  try dsimp only
  refine ⟨trivial, m_odds _ _ _ _ a hO hM1 (fun I2 J2 hM2 f2 g2 => ?_)⟩
  have fin := K _ _ I2 J2 (ok_odds hO) (hC1.fm f2 g2) hM2 he1 (by rw [f2 0 (by omega)]; exact h01)
  refine EV.atL ck265 300 [1437] ?_
  conv => whnf
  try dsimp only
  refine ⟨fun _ => ?_, fun z => absurd rfl z⟩
  conv => whnf
  try dsimp only
  exact ⟨trivial, fin⟩
set_option maxRecDepth 100000 in
theorem lc_hopes (hn : n ≤ 384) (hi : i + 6 ≤ n) (hB : BO a e X I J) (K : ∀ a' e' I' J', aOK a' → CA a' e' I' J' → MA a' I' J' → e' ≤ e + 20 → I' 0 = X → EV G 265 (D + 60) kk nn 1437 [.ref 0, .ref 3, .ref 77, .int (nI i)] [] (SH n, I', J') Q) : EV G 265 (D + 60) kk nn 1225 [.ref 0, .ref 3, .ref 77, .int (nI i)] [] (SH n, I, J) Q := by
  obtain ⟨hO, hC, hM, he, h0⟩ := hB
  refine EV.atL ck265 300 [1437] ?_
  conv => whnf
  try dsimp only
  refine ⟨trivial, k_hopes _ _ _ _ a e hO hC he (fun I1 J1 e1 he1 hC1 f1 g1 => ?_)⟩
  have hM1 := hM.fc f1 g1
  have h01 : I1 0 = X := by rw [f1 0 (by omega)]; exact h0
  refine EV.atL ck265 300 [1437] ?_
  conv => whnf
  try dsimp only
  refine ⟨trivial, m_hopes _ _ _ _ a hO hM1 (fun I2 J2 hM2 f2 g2 => ?_)⟩
  have fin := K _ _ I2 J2 (ok_hopes hO) (hC1.fm f2 g2) hM2 he1 (by rw [f2 0 (by omega)]; exact h01)
  refine EV.atL ck265 300 [1437] ?_
  conv => whnf
  try dsimp only
  refine ⟨fun _ => ?_, fun z => absurd rfl z⟩
  conv => whnf
  try dsimp only
  exact ⟨trivial, fin⟩
set_option maxRecDepth 100000 in
theorem lc_lots (hn : n ≤ 384) (hi : i + 6 ≤ n) (hB : BO a e X I J) (K : ∀ a' e' I' J', aOK a' → CA a' e' I' J' → MA a' I' J' → e' ≤ e + 20 → I' 0 = X → EV G 265 (D + 60) kk nn 1437 [.ref 0, .ref 3, .ref 77, .int (nI i)] [] (SH n, I', J') Q) : EV G 265 (D + 60) kk nn 1238 [.ref 0, .ref 3, .ref 77, .int (nI i)] [] (SH n, I, J) Q := by
  obtain ⟨hO, hC, hM, he, h0⟩ := hB
  have c1 : (nI (i + 1)).toNatClampNeg = i + 1 := nI_clamp (by omega)
  have c2 : (nI (i + 2)).toNatClampNeg = i + 2 := nI_clamp (by omega)
  refine EV.atL ck265 300 [1437] ?_
  conv => whnf
  try dsimp only
  rw [show nI i + 1 = nI (i + 1) from nI_add i 1]
  refine ⟨in_nI (show i + 1 < n by omega) (by omega), ?_⟩
  conv => whnf
  try dsimp only
  rw [show nI i + 2 = nI (i + 2) from nI_add i 2]
  refine ⟨in_nI (show i + 2 < n by omega) (by omega), ?_⟩
  conv => whnf
  try dsimp only
  rw [c1, c2, h0]
  refine ⟨trivial, k_lots _ _ _ _ a e hO hC he (fun I1 J1 e1 he1 hC1 f1 g1 => ?_)⟩
  have hM1 := hM.fc f1 g1
  have h01 : I1 0 = X := by rw [f1 0 (by omega)]; exact h0
  refine EV.atL ck265 300 [1437] ?_
  conv => whnf
  try dsimp only
  rw [show nI i + 1 = nI (i + 1) from nI_add i 1]
  refine ⟨in_nI (show i + 1 < n by omega) (by omega), ?_⟩
  conv => whnf
  try dsimp only
  rw [show nI i + 2 = nI (i + 2) from nI_add i 2]
  refine ⟨in_nI (show i + 2 < n by omega) (by omega), ?_⟩
  conv => whnf
  try dsimp only
  rw [c1, c2, h01]
  refine ⟨trivial, m_lots _ _ _ _ a hO hM1 (fun I2 J2 hM2 f2 g2 => ?_)⟩
  have fin := K _ _ I2 J2 (ok_lots hO) (hC1.fm f2 g2) hM2 he1 (by rw [f2 0 (by omega)]; exact h01)
  refine EV.atL ck265 300 [1437] ?_
  conv => whnf
  try dsimp only
  refine ⟨fun _ => ?_, fun z => absurd rfl z⟩
  conv => whnf
  try dsimp only
  exact ⟨trivial, fin⟩
set_option maxRecDepth 100000 in
theorem lc_rings (hn : n ≤ 384) (hi : i + 6 ≤ n) (hB : BO a e X I J) (K : ∀ a' e' I' J', aOK a' → CA a' e' I' J' → MA a' I' J' → e' ≤ e + 20 → I' 0 = X → EV G 265 (D + 60) kk nn 1437 [.ref 0, .ref 3, .ref 77, .int (nI i)] [] (SH n, I', J') Q) : EV G 265 (D + 60) kk nn 1271 [.ref 0, .ref 3, .ref 77, .int (nI i)] [] (SH n, I, J) Q := by
  obtain ⟨hO, hC, hM, he, h0⟩ := hB
  refine EV.atL ck265 300 [1437] ?_
  conv => whnf
  try dsimp only
  refine ⟨trivial, k_rings _ _ _ _ a e hO hC he (fun I1 J1 e1 he1 hC1 f1 g1 => ?_)⟩
  have hM1 := hM.fc f1 g1
  have h01 : I1 0 = X := by rw [f1 0 (by omega)]; exact h0
  refine EV.atL ck265 300 [1437] ?_
  conv => whnf
  try dsimp only
  refine ⟨trivial, m_rings _ _ _ _ a hO hM1 (fun I2 J2 hM2 f2 g2 => ?_)⟩
  have fin := K _ _ I2 J2 (ok_rings hO) (hC1.fm f2 g2) hM2 he1 (by rw [f2 0 (by omega)]; exact h01)
  refine EV.atL ck265 300 [1437] ?_
  conv => whnf
  try dsimp only
  refine ⟨fun _ => ?_, fun z => absurd rfl z⟩
  conv => whnf
  try dsimp only
  exact ⟨trivial, fin⟩
set_option maxRecDepth 100000 in
theorem lc_cover (hn : n ≤ 384) (hi : i + 6 ≤ n) (hB : BO a e X I J) (K : ∀ a' e' I' J', aOK a' → CA a' e' I' J' → MA a' I' J' → e' ≤ e + 20 → I' 0 = X → EV G 265 (D + 60) kk nn 1437 [.ref 0, .ref 3, .ref 77, .int (nI i)] [] (SH n, I', J') Q) : EV G 265 (D + 60) kk nn 1284 [.ref 0, .ref 3, .ref 77, .int (nI i)] [] (SH n, I, J) Q := by
  obtain ⟨hO, hC, hM, he, h0⟩ := hB
  refine EV.atL ck265 300 [1437] ?_
  conv => whnf
  try dsimp only
  refine ⟨trivial, k_cover _ _ _ _ a e hO hC he (fun I1 J1 e1 he1 hC1 f1 g1 => ?_)⟩
  have hM1 := hM.fc f1 g1
  have h01 : I1 0 = X := by rw [f1 0 (by omega)]; exact h0
  refine EV.atL ck265 300 [1437] ?_
  conv => whnf
  try dsimp only
  refine ⟨trivial, m_cover _ _ _ _ a hO hM1 (fun I2 J2 hM2 f2 g2 => ?_)⟩
  have fin := K _ _ I2 J2 (ok_cover hO) (hC1.fm f2 g2) hM2 he1 (by rw [f2 0 (by omega)]; exact h01)
  refine EV.atL ck265 300 [1437] ?_
  conv => whnf
  try dsimp only
  refine ⟨fun _ => ?_, fun z => absurd rfl z⟩
  conv => whnf
  try dsimp only
  exact ⟨trivial, fin⟩
set_option maxRecDepth 100000 in
theorem lc_alike (hn : n ≤ 384) (hi : i + 6 ≤ n) (hB : BO a e X I J) (K : ∀ a' e' I' J', aOK a' → CA a' e' I' J' → MA a' I' J' → e' ≤ e + 20 → I' 0 = X → EV G 265 (D + 60) kk nn 1437 [.ref 0, .ref 3, .ref 77, .int (nI i)] [] (SH n, I', J') Q) : EV G 265 (D + 60) kk nn 1297 [.ref 0, .ref 3, .ref 77, .int (nI i)] [] (SH n, I, J) Q := by
  obtain ⟨hO, hC, hM, he, h0⟩ := hB
  refine EV.atL ck265 300 [1437] ?_
  conv => whnf
  try dsimp only
  refine ⟨trivial, k_alike _ _ _ _ a e hO hC he (fun I1 J1 e1 he1 hC1 f1 g1 => ?_)⟩
  have hM1 := hM.fc f1 g1
  have h01 : I1 0 = X := by rw [f1 0 (by omega)]; exact h0
  refine EV.atL ck265 300 [1437] ?_
  conv => whnf
  try dsimp only
  refine ⟨trivial, m_alike _ _ _ _ a hO hM1 (fun I2 J2 hM2 f2 g2 => ?_)⟩
  have fin := K _ _ I2 J2 (ok_alike hO) (hC1.fm f2 g2) hM2 he1 (by rw [f2 0 (by omega)]; exact h01)
  refine EV.atL ck265 300 [1437] ?_
  conv => whnf
  try dsimp only
  refine ⟨fun _ => ?_, fun z => absurd rfl z⟩
  conv => whnf
  try dsimp only
  exact ⟨trivial, fin⟩
set_option maxRecDepth 100000 in
theorem lc_best (hn : n ≤ 384) (hi : i + 6 ≤ n) (hB : BO a e X I J) (K : ∀ a' e' I' J', aOK a' → CA a' e' I' J' → MA a' I' J' → e' ≤ e + 20 → I' 0 = X → EV G 265 (D + 60) kk nn 1437 [.ref 0, .ref 3, .ref 77, .int (nI i)] [] (SH n, I', J') Q) : EV G 265 (D + 60) kk nn 1310 [.ref 0, .ref 3, .ref 77, .int (nI i)] [] (SH n, I, J) Q := by
  obtain ⟨hO, hC, hM, he, h0⟩ := hB
  refine EV.atL ck265 300 [1437] ?_
  conv => whnf
  try dsimp only
  refine ⟨trivial, k_best _ _ _ _ a e hO hC he (fun I1 J1 e1 he1 hC1 f1 g1 => ?_)⟩
  have hM1 := hM.fc f1 g1
  have h01 : I1 0 = X := by rw [f1 0 (by omega)]; exact h0
  refine EV.atL ck265 300 [1437] ?_
  conv => whnf
  try dsimp only
  refine ⟨trivial, m_best _ _ _ _ a hO hM1 (fun I2 J2 hM2 f2 g2 => ?_)⟩
  have fin := K _ _ I2 J2 (ok_best hO) (hC1.fm f2 g2) hM2 he1 (by rw [f2 0 (by omega)]; exact h01)
  refine EV.atL ck265 300 [1437] ?_
  conv => whnf
  try dsimp only
  refine ⟨fun _ => ?_, fun z => absurd rfl z⟩
  conv => whnf
  try dsimp only
  exact ⟨trivial, fin⟩
set_option maxRecDepth 100000 in
theorem lc_asked (hn : n ≤ 384) (hi : i + 6 ≤ n) (hB : BO a e X I J) (K : ∀ a' e' I' J', aOK a' → CA a' e' I' J' → MA a' I' J' → e' ≤ e + 20 → I' 0 = X → EV G 265 (D + 60) kk nn 1437 [.ref 0, .ref 3, .ref 77, .int (nI i)] [] (SH n, I', J') Q) : EV G 265 (D + 60) kk nn 1323 [.ref 0, .ref 3, .ref 77, .int (nI i)] [] (SH n, I, J) Q := by
  obtain ⟨hO, hC, hM, he, h0⟩ := hB
  refine EV.atL ck265 300 [1437] ?_
  conv => whnf
  try dsimp only
  refine ⟨trivial, k_asked _ _ _ _ a e hO hC he (fun I1 J1 e1 he1 hC1 f1 g1 => ?_)⟩
  have hM1 := hM.fc f1 g1
  have h01 : I1 0 = X := by rw [f1 0 (by omega)]; exact h0
  refine EV.atL ck265 300 [1437] ?_
  conv => whnf
  try dsimp only
  refine ⟨trivial, m_asked _ _ _ _ a hO hM1 (fun I2 J2 hM2 f2 g2 => ?_)⟩
  have fin := K _ _ I2 J2 (hO) (hC1.fm f2 g2) hM2 he1 (by rw [f2 0 (by omega)]; exact h01)
  refine EV.atL ck265 300 [1437] ?_
  conv => whnf
  try dsimp only
  refine ⟨fun _ => ?_, fun z => absurd rfl z⟩
  conv => whnf
  try dsimp only
  exact ⟨trivial, fin⟩
set_option maxRecDepth 100000 in
theorem lc_upper (hn : n ≤ 384) (hi : i + 6 ≤ n) (hB : BO a e X I J) (K : ∀ a' e' I' J', aOK a' → CA a' e' I' J' → MA a' I' J' → e' ≤ e + 20 → I' 0 = X → EV G 265 (D + 60) kk nn 1437 [.ref 0, .ref 3, .ref 77, .int (nI i)] [] (SH n, I', J') Q) : EV G 265 (D + 60) kk nn 1336 [.ref 0, .ref 3, .ref 77, .int (nI i)] [] (SH n, I, J) Q := by
  obtain ⟨hO, hC, hM, he, h0⟩ := hB
  refine EV.atL ck265 300 [1437] ?_
  conv => whnf
  try dsimp only
  refine ⟨trivial, k_upper _ _ _ _ a e hO hC he (fun I1 J1 e1 he1 hC1 f1 g1 => ?_)⟩
  have hM1 := hM.fc f1 g1
  have h01 : I1 0 = X := by rw [f1 0 (by omega)]; exact h0
  refine EV.atL ck265 300 [1437] ?_
  conv => whnf
  try dsimp only
  refine ⟨trivial, m_upper _ _ _ _ a hO hM1 (fun I2 J2 hM2 f2 g2 => ?_)⟩
  have fin := K _ _ I2 J2 (hO) (hC1.fm f2 g2) hM2 he1 (by rw [f2 0 (by omega)]; exact h01)
  refine EV.atL ck265 300 [1437] ?_
  conv => whnf
  try dsimp only
  refine ⟨fun _ => ?_, fun z => absurd (lgc.mpr rfl) z⟩
  conv => whnf
  try dsimp only
  exact ⟨trivial, fin⟩
set_option maxRecDepth 100000 in
theorem lc_lower (hn : n ≤ 384) (hi : i + 6 ≤ n) (hB : BO a e X I J) (K : ∀ a' e' I' J', aOK a' → CA a' e' I' J' → MA a' I' J' → e' ≤ e + 20 → I' 0 = X → EV G 265 (D + 60) kk nn 1437 [.ref 0, .ref 3, .ref 77, .int (nI i)] [] (SH n, I', J') Q) : EV G 265 (D + 60) kk nn 1350 [.ref 0, .ref 3, .ref 77, .int (nI i)] [] (SH n, I, J) Q := by
  obtain ⟨hO, hC, hM, he, h0⟩ := hB
  refine EV.atL ck265 300 [1437] ?_
  conv => whnf
  try dsimp only
  refine ⟨trivial, k_lower _ _ _ _ a e hO hC he (fun I1 J1 e1 he1 hC1 f1 g1 => ?_)⟩
  have hM1 := hM.fc f1 g1
  have h01 : I1 0 = X := by rw [f1 0 (by omega)]; exact h0
  refine EV.atL ck265 300 [1437] ?_
  conv => whnf
  try dsimp only
  refine ⟨trivial, m_lower _ _ _ _ a hO hM1 (fun I2 J2 hM2 f2 g2 => ?_)⟩
  have fin := K _ _ I2 J2 (hO) (hC1.fm f2 g2) hM2 he1 (by rw [f2 0 (by omega)]; exact h01)
  refine EV.atL ck265 300 [1437] ?_
  conv => whnf
  try dsimp only
  refine ⟨fun _ => ?_, fun z => absurd (lgc.mpr rfl) z⟩
  conv => whnf
  try dsimp only
  exact ⟨trivial, fin⟩
set_option maxRecDepth 100000 in
theorem lc_count (hn : n ≤ 384) (hi : i + 6 ≤ n) (hB : BO a e X I J) (K : ∀ a' e' I' J', aOK a' → CA a' e' I' J' → MA a' I' J' → e' ≤ e + 20 → I' 0 = X → EV G 265 (D + 60) kk nn 1437 [.ref 0, .ref 3, .ref 77, .int (nI i)] [] (SH n, I', J') Q) : EV G 265 (D + 60) kk nn 1364 [.ref 0, .ref 3, .ref 77, .int (nI i)] [] (SH n, I, J) Q := by
  obtain ⟨hO, hC, hM, he, h0⟩ := hB
  have c1 : (nI (i + 1)).toNatClampNeg = i + 1 := nI_clamp (by omega)
  refine EV.atL ck265 300 [1437] ?_
  conv => whnf
  try dsimp only
  rw [show nI i + 1 = nI (i + 1) from nI_add i 1]
  refine ⟨in_nI (show i + 1 < n by omega) (by omega), ?_⟩
  conv => whnf
  try dsimp only
  rw [c1, h0]
  refine ⟨trivial, k_count _ _ _ _ a e hO hC he (fun I1 J1 e1 he1 hC1 f1 g1 => ?_)⟩
  have hM1 := hM.fc f1 g1
  have h01 : I1 0 = X := by rw [f1 0 (by omega)]; exact h0
  refine EV.atL ck265 300 [1437] ?_
  conv => whnf
  try dsimp only
  rw [show nI i + 1 = nI (i + 1) from nI_add i 1]
  refine ⟨in_nI (show i + 1 < n by omega) (by omega), ?_⟩
  conv => whnf
  try dsimp only
  rw [c1, h01]
  refine ⟨trivial, m_count _ _ _ _ a hO hM1 (fun I2 J2 hM2 f2 g2 => ?_)⟩
  have fin := K _ _ I2 J2 (ok_count hO) (hC1.fm f2 g2) hM2 he1 (by rw [f2 0 (by omega)]; exact h01)
  refine EV.atL ck265 300 [1437] ?_
  conv => whnf
  try dsimp only
  refine ⟨fun _ => ?_, fun z => absurd rfl z⟩
  conv => whnf
  try dsimp only
  exact ⟨trivial, fin⟩
set_option maxRecDepth 100000 in
theorem lc_finding (hn : n ≤ 384) (hi : i + 6 ≤ n) (hB : BO a e X I J) (K : ∀ a' e' I' J', aOK a' → CA a' e' I' J' → MA a' I' J' → e' ≤ e + 20 → I' 0 = X → EV G 265 (D + 60) kk nn 1437 [.ref 0, .ref 3, .ref 77, .int (nI i)] [] (SH n, I', J') Q) : EV G 265 (D + 60) kk nn 1387 [.ref 0, .ref 3, .ref 77, .int (nI i)] [] (SH n, I, J) Q := by
  obtain ⟨hO, hC, hM, he, h0⟩ := hB
  refine EV.atL ck265 300 [1437] ?_
  conv => whnf
  try dsimp only
  refine ⟨trivial, k_finding _ _ _ _ a e hO hC he (fun I1 J1 e1 he1 hC1 f1 g1 => ?_)⟩
  have hM1 := hM.fc f1 g1
  have h01 : I1 0 = X := by rw [f1 0 (by omega)]; exact h0
  refine EV.atL ck265 300 [1437] ?_
  conv => whnf
  try dsimp only
  refine ⟨trivial, m_finding _ _ _ _ a hO hM1 (fun I2 J2 hM2 f2 g2 => ?_)⟩
  have fin := K _ _ I2 J2 (hO) (hC1.fm f2 g2) hM2 he1 (by rw [f2 0 (by omega)]; exact h01)
  refine EV.atL ck265 300 [1437] ?_
  conv => whnf
  try dsimp only
  refine ⟨fun _ => ?_, fun z => absurd rfl z⟩
  conv => whnf
  try dsimp only
  exact ⟨trivial, fin⟩
set_option maxRecDepth 100000 in
theorem lc_findings (hn : n ≤ 384) (hi : i + 6 ≤ n) (hB : BO a e X I J) (K : ∀ a' e' I' J', aOK a' → CA a' e' I' J' → MA a' I' J' → e' ≤ e + 20 → I' 0 = X → EV G 265 (D + 60) kk nn 1437 [.ref 0, .ref 3, .ref 77, .int (nI i)] [] (SH n, I', J') Q) : EV G 265 (D + 60) kk nn 1400 [.ref 0, .ref 3, .ref 77, .int (nI i)] [] (SH n, I, J) Q := by
  obtain ⟨hO, hC, hM, he, h0⟩ := hB
  have c1 : (nI (i + 1)).toNatClampNeg = i + 1 := nI_clamp (by omega)
  refine EV.atL ck265 300 [1437] ?_
  conv => whnf
  try dsimp only
  rw [show nI i + 1 = nI (i + 1) from nI_add i 1]
  refine ⟨in_nI (show i + 1 < n by omega) (by omega), ?_⟩
  conv => whnf
  try dsimp only
  rw [c1, h0]
  refine ⟨trivial, k_findings _ _ _ _ a e hO hC he (fun I1 J1 e1 he1 hC1 f1 g1 => ?_)⟩
  have hM1 := hM.fc f1 g1
  have h01 : I1 0 = X := by rw [f1 0 (by omega)]; exact h0
  refine EV.atL ck265 300 [1437] ?_
  conv => whnf
  try dsimp only
  rw [show nI i + 1 = nI (i + 1) from nI_add i 1]
  refine ⟨in_nI (show i + 1 < n by omega) (by omega), ?_⟩
  conv => whnf
  try dsimp only
  rw [c1, h01]
  refine ⟨trivial, m_findings _ _ _ _ a hO hM1 (fun I2 J2 hM2 f2 g2 => ?_)⟩
  have fin := K _ _ I2 J2 (ok_findings hO) (hC1.fm f2 g2) hM2 he1 (by rw [f2 0 (by omega)]; exact h01)
  refine EV.atL ck265 300 [1437] ?_
  conv => whnf
  try dsimp only
  refine ⟨fun _ => ?_, fun z => absurd rfl z⟩
  conv => whnf
  try dsimp only
  exact ⟨trivial, fin⟩
set_option maxRecDepth 100000 in
theorem lc_digest (hn : n ≤ 384) (hi : i + 6 ≤ n) (hB : BO a e X I J) (K : ∀ a' e' I' J', aOK a' → CA a' e' I' J' → MA a' I' J' → e' ≤ e + 20 → I' 0 = X → EV G 265 (D + 60) kk nn 1437 [.ref 0, .ref 3, .ref 77, .int (nI i)] [] (SH n, I', J') Q) : EV G 265 (D + 60) kk nn 1423 [.ref 0, .ref 3, .ref 77, .int (nI i)] [] (SH n, I, J) Q := by
  obtain ⟨hO, hC, hM, he, h0⟩ := hB
  refine EV.atL ck265 300 [1437] ?_
  conv => whnf
  try dsimp only
  refine ⟨trivial, k_digest _ _ _ _ a e hO hC he (fun I1 J1 e1 he1 hC1 f1 g1 => ?_)⟩
  have hM1 := hM.fc f1 g1
  have h01 : I1 0 = X := by rw [f1 0 (by omega)]; exact h0
  refine EV.atL ck265 300 [1437] ?_
  conv => whnf
  try dsimp only
  refine ⟨trivial, m_digest _ _ _ _ a hO hM1 (fun I2 J2 hM2 f2 g2 => ?_)⟩
  have fin := K _ _ I2 J2 (hO) (hC1.fm f2 g2) hM2 he1 (by rw [f2 0 (by omega)]; exact h01)
  refine EV.atL ck265 300 [1437] ?_
  conv => whnf
  try dsimp only
  refine ⟨fun _ => ?_, fun z => absurd (lgc.mpr rfl) z⟩
  conv => whnf
  try dsimp only
  exact ⟨trivial, fin⟩
set_option maxRecDepth 100000 in
theorem lw_loop (hn : n ≤ 384) (hq : ∀ I' J', Q (some (.int 1)) (SH n, I', J')) : ∀ m i a e I J, n < i + 6 * m + 6 → i ≤ n → aOK a → CA a e I J → MA a I J → e + 20 * m + 20 < 2 ^ 30 → EV G 265 (D + 60) kk nn 18 [.ref 0, .ref 3, .ref 77, .int (nI i)] [] (SH n, I, J) Q := by
  intro m
  induction m with
  | zero =>
    intro i a e I J hm hi hO hC hM he
    have hq := hq I J
    refine EV.atL ck265 300 [1443] ?_
    conv => whnf
    try dsimp only
    refine ⟨fun _ => ?_, fun z => absurd ((lw_gt hn (by omega)).mpr (by omega)) z⟩
    conv => whnf
    try dsimp only
    refine ⟨trivial, ?_⟩
    refine EV.atL ck265 300 [] ?_
    conv => whnf
    try dsimp only
    exact ⟨Or.inr rfl, hq⟩
  | succ m ih =>
    intro i a e I J hm hi hO hC hM he
    have hq := hq I J
    by_cases hx : n < i + 6
    · refine EV.atL ck265 300 [1443] ?_
      conv => whnf
      try dsimp only
      refine ⟨fun _ => ?_, fun z => absurd ((lw_gt hn (by omega)).mpr hx) z⟩
      conv => whnf
      try dsimp only
      refine ⟨trivial, ?_⟩
      refine EV.atL ck265 300 [] ?_
      conv => whnf
      try dsimp only
      exact ⟨Or.inr rfl, hq⟩
    have hi6 : i + 6 ≤ n := by omega
    have hB : BO a e (I 0) I J := ⟨hO, hC, hM, by omega, rfl⟩
    have K : ∀ a' e' I' J', aOK a' → CA a' e' I' J' → MA a' I' J' → e' ≤ e + 20 → I' 0 = I 0 → EV G 265 (D + 60) kk nn 1437 [.ref 0, .ref 3, .ref 77, .int (nI i)] [] (SH n, I', J') Q := by
      intro a' e' I' J' h1 h2 h3 h4 _
      have ihj := ih (i + 6) a' e' I' J' (by omega) (by omega) h1 h2 h3 (by omega)
      rw [← nI_add] at ihj
      refine EV.atL ck265 300 [] ?_
      conv => whnf
      try dsimp only
      exact ⟨trivial, ihj⟩
    refine EV.atL ck265 300 [240, 273, 316, 349, 372, 435, 458, 491, 534, 557, 580, 613, 646, 679, 712, 755, 788, 831, 854, 867, 890, 913, 936, 959, 982, 995, 1008, 1031, 1054, 1077, 1100, 1123, 1146, 1179, 1212, 1225, 1238, 1271, 1284, 1297, 1310, 1323, 1336, 1350, 1364, 1387, 1400, 1423, 1437, 1443] ?_
    conv => whnf
    try dsimp only
    refine ⟨fun z => absurd ((lw_gt hn (by omega)).mp z) hx, fun _ => ?_⟩
    conv => whnf
    try dsimp only
    refine ⟨in_nI (show i < n by omega) (by omega), ?_⟩
    conv => whnf
    try dsimp only
    refine ⟨fun _ => ?_, fun _ => ?_⟩
    · conv => whnf
      try dsimp only
      exact ⟨trivial, lc_row hn hi6 hB K⟩
    refine ⟨fun _ => ?_, fun _ => ?_⟩
    · conv => whnf
      try dsimp only
      exact ⟨trivial, lc_lay hn hi6 hB K⟩
    refine ⟨fun _ => ?_, fun _ => ?_⟩
    · conv => whnf
      try dsimp only
      exact ⟨trivial, lc_at hn hi6 hB K⟩
    refine ⟨fun _ => ?_, fun _ => ?_⟩
    · conv => whnf
      try dsimp only
      exact ⟨trivial, lc_tear hn hi6 hB K⟩
    refine ⟨fun _ => ?_, fun _ => ?_⟩
    · conv => whnf
      try dsimp only
      exact ⟨trivial, lc_copy hn hi6 hB K⟩
    refine ⟨fun _ => ?_, fun _ => ?_⟩
    · conv => whnf
      try dsimp only
      exact ⟨trivial, lc_mean hn hi6 hB K⟩
    refine ⟨fun _ => ?_, fun _ => ?_⟩
    · conv => whnf
      try dsimp only
      exact ⟨trivial, lc_text hn hi6 hB K⟩
    refine ⟨fun _ => ?_, fun _ => ?_⟩
    · conv => whnf
      try dsimp only
      exact ⟨trivial, lc_put hn hi6 hB K⟩
    refine ⟨fun _ => ?_, fun _ => ?_⟩
    · conv => whnf
      try dsimp only
      exact ⟨trivial, lc_fault hn hi6 hB K⟩
    refine ⟨fun _ => ?_, fun _ => ?_⟩
    · conv => whnf
      try dsimp only
      exact ⟨trivial, lc_night hn hi6 hB K⟩
    refine ⟨fun _ => ?_, fun _ => ?_⟩
    · conv => whnf
      try dsimp only
      exact ⟨trivial, lc_shape hn hi6 hB K⟩
    refine ⟨fun _ => ?_, fun _ => ?_⟩
    · conv => whnf
      try dsimp only
      exact ⟨trivial, lc_change hn hi6 hB K⟩
    refine ⟨fun _ => ?_, fun _ => ?_⟩
    · conv => whnf
      try dsimp only
      exact ⟨trivial, lc_mark hn hi6 hB K⟩
    refine ⟨fun _ => ?_, fun _ => ?_⟩
    · conv => whnf
      try dsimp only
      exact ⟨trivial, lc_fighter hn hi6 hB K⟩
    refine ⟨fun _ => ?_, fun _ => ?_⟩
    · conv => whnf
      try dsimp only
      exact ⟨trivial, lc_teach hn hi6 hB K⟩
    refine ⟨fun _ => ?_, fun _ => ?_⟩
    · conv => whnf
      try dsimp only
      exact ⟨trivial, lc_fire hn hi6 hB K⟩
    refine ⟨fun _ => ?_, fun _ => ?_⟩
    · conv => whnf
      try dsimp only
      exact ⟨trivial, lc_beat hn hi6 hB K⟩
    refine ⟨fun _ => ?_, fun _ => ?_⟩
    · conv => whnf
      try dsimp only
      exact ⟨trivial, lc_can hn hi6 hB K⟩
    refine ⟨fun _ => ?_, fun _ => ?_⟩
    · conv => whnf
      try dsimp only
      exact ⟨trivial, lc_turn hn hi6 hB K⟩
    refine ⟨fun _ => ?_, fun _ => ?_⟩
    · conv => whnf
      try dsimp only
      exact ⟨trivial, lc_go hn hi6 hB K⟩
    refine ⟨fun _ => ?_, fun _ => ?_⟩
    · conv => whnf
      try dsimp only
      exact ⟨trivial, lc_undo hn hi6 hB K⟩
    refine ⟨fun _ => ?_, fun _ => ?_⟩
    · conv => whnf
      try dsimp only
      exact ⟨trivial, lc_told hn hi6 hB K⟩
    refine ⟨fun _ => ?_, fun _ => ?_⟩
    · conv => whnf
      try dsimp only
      exact ⟨trivial, lc_keep hn hi6 hB K⟩
    refine ⟨fun _ => ?_, fun _ => ?_⟩
    · conv => whnf
      try dsimp only
      exact ⟨trivial, lc_on hn hi6 hB K⟩
    refine ⟨fun _ => ?_, fun _ => ?_⟩
    · conv => whnf
      try dsimp only
      exact ⟨trivial, lc_wins hn hi6 hB K⟩
    refine ⟨fun _ => ?_, fun _ => ?_⟩
    · conv => whnf
      try dsimp only
      exact ⟨trivial, lc_ends hn hi6 hB K⟩
    refine ⟨fun _ => ?_, fun _ => ?_⟩
    · conv => whnf
      try dsimp only
      exact ⟨trivial, lc_line hn hi6 hB K⟩
    refine ⟨fun _ => ?_, fun _ => ?_⟩
    · conv => whnf
      try dsimp only
      exact ⟨trivial, lc_least hn hi6 hB K⟩
    refine ⟨fun _ => ?_, fun _ => ?_⟩
    · conv => whnf
      try dsimp only
      exact ⟨trivial, lc_learn hn hi6 hB K⟩
    refine ⟨fun _ => ?_, fun _ => ?_⟩
    · conv => whnf
      try dsimp only
      exact ⟨trivial, lc_needs hn hi6 hB K⟩
    refine ⟨fun _ => ?_, fun _ => ?_⟩
    · conv => whnf
      try dsimp only
      exact ⟨trivial, lc_lines hn hi6 hB K⟩
    refine ⟨fun _ => ?_, fun _ => ?_⟩
    · conv => whnf
      try dsimp only
      exact ⟨trivial, lc_judge hn hi6 hB K⟩
    refine ⟨fun _ => ?_, fun _ => ?_⟩
    · conv => whnf
      try dsimp only
      exact ⟨trivial, lc_shown hn hi6 hB K⟩
    refine ⟨fun _ => ?_, fun _ => ?_⟩
    · conv => whnf
      try dsimp only
      exact ⟨trivial, lc_must hn hi6 hB K⟩
    refine ⟨fun _ => ?_, fun _ => ?_⟩
    · conv => whnf
      try dsimp only
      exact ⟨trivial, lc_odds hn hi6 hB K⟩
    refine ⟨fun _ => ?_, fun _ => ?_⟩
    · conv => whnf
      try dsimp only
      exact ⟨trivial, lc_hopes hn hi6 hB K⟩
    refine ⟨fun _ => ?_, fun _ => ?_⟩
    · conv => whnf
      try dsimp only
      exact ⟨trivial, lc_lots hn hi6 hB K⟩
    refine ⟨fun _ => ?_, fun _ => ?_⟩
    · conv => whnf
      try dsimp only
      exact ⟨trivial, lc_rings hn hi6 hB K⟩
    refine ⟨fun _ => ?_, fun _ => ?_⟩
    · conv => whnf
      try dsimp only
      exact ⟨trivial, lc_cover hn hi6 hB K⟩
    refine ⟨fun _ => ?_, fun _ => ?_⟩
    · conv => whnf
      try dsimp only
      exact ⟨trivial, lc_alike hn hi6 hB K⟩
    refine ⟨fun _ => ?_, fun _ => ?_⟩
    · conv => whnf
      try dsimp only
      exact ⟨trivial, lc_best hn hi6 hB K⟩
    refine ⟨fun _ => ?_, fun _ => ?_⟩
    · conv => whnf
      try dsimp only
      exact ⟨trivial, lc_asked hn hi6 hB K⟩
    refine ⟨fun _ => ?_, fun _ => ?_⟩
    · conv => whnf
      try dsimp only
      exact ⟨trivial, lc_upper hn hi6 hB K⟩
    refine ⟨fun _ => ?_, fun _ => ?_⟩
    · conv => whnf
      try dsimp only
      exact ⟨trivial, lc_lower hn hi6 hB K⟩
    refine ⟨fun _ => ?_, fun _ => ?_⟩
    · conv => whnf
      try dsimp only
      exact ⟨trivial, lc_count hn hi6 hB K⟩
    refine ⟨fun _ => ?_, fun _ => ?_⟩
    · conv => whnf
      try dsimp only
      exact ⟨trivial, lc_finding hn hi6 hB K⟩
    refine ⟨fun _ => ?_, fun _ => ?_⟩
    · conv => whnf
      try dsimp only
      exact ⟨trivial, lc_findings hn hi6 hB K⟩
    refine ⟨fun _ => ?_, fun _ => ?_⟩
    · conv => whnf
      try dsimp only
      exact ⟨trivial, lc_digest hn hi6 hB K⟩
    conv => whnf
    try dsimp only
    exact ⟨trivial, K a e I J hO hC hM (by omega) rfl⟩
end
