/-! the class's Reader: items, the whole TEXT -/
theorem addS_K {T : TN} {kd b i : Nat} : tK (addS T kd b) i = if i = tS T then kd else tK T i := rfl
theorem addS_T {T : TN} {kd b i : Nat} : tT (addS T kd b) i = if i = tS T then b else tT T i := rfl
theorem addC_F {T : TN} {a b c i : Nat} : tF (addC T a b c) i = if i = tC T then a else tF T i := rfl
theorem addC_I {T : TN} {a b c i : Nat} : tI (addC T a b c) i = if i = tC T then b else tI T i := rfl
theorem addC_W {T : TN} {a b c i : Nat} : tW (addC T a b c) i = if i = tC T then c else tW T i := rfl
theorem rM_addS {P : PS} {I : Nat → Nat → Int32} {p kd b : Nat} (h : rM P I) (hc : tC P.2.1 = 0) (hf : P.2.2.1 = 0) : rM (p, addS P.2.1 kd b, P.2.2) (upI (upI (upI (upI I 19 4 (nI p)) 21 (tS P.2.1) (nI kd)) 22 (tS P.2.1) (nI b)) 20 0 (nI (tS P.2.1 + 1))) := by
  obtain ⟨⟨h1, h2, h3, h4⟩, h5, h6, h7⟩ := h
  refine ⟨⟨rfl, fun i hi => ?_, ?_, fun k hk => ?_⟩, ?_, ?_, fun i hi => ?_⟩
  · rw [upI_oth (r' := 21) (by decide), upI_oth (r' := 21) (by decide), upI_oth (r' := 22) (by decide)]
    by_cases hi2 : i = tS P.2.1
    · subst hi2
      rw [up_same, up_same]
      exact ⟨by rw [addS_K, if_pos rfl], by rw [addS_T, if_pos rfl]⟩
    · have hi : i < tS P.2.1 + 1 := hi
      rw [up_ne hi2, up_ne hi2, upI_oth (by decide), upI_oth (r' := 22) (by decide), upI_oth (by decide)]
      have := h2 i (by omega)
      rw [addS_K, addS_T, if_neg hi2, if_neg hi2]
      exact this
  · rw [up_ne (by decide), upI_oth (by decide), upI_oth (by decide), upI_oth (by decide)]
    exact h3
  · have hk : k < tC P.2.1 := hk
    omega
  · rw [upI_oth (by decide), upI_oth (by decide), upI_oth (by decide), up_ne (by decide)]
    exact h5
  · rw [upI_oth (by decide), upI_oth (by decide), upI_oth (by decide), up_same]
  · have hi : i < P.2.2.1 := hi
    omega
theorem rM_addC {P : PS} {I : Nat → Nat → Int32} {p a b c : Nat} (h : rM P I) : rM (p, addC P.2.1 a b c, P.2.2) (upI (upI (upI (upI (upI I 19 4 (nI p)) 23 (tC P.2.1) (nI a)) 24 (tC P.2.1) (nI b)) 25 (tC P.2.1) (nI c)) 20 3 (nI (tC P.2.1 + 1))) := by
  obtain ⟨⟨h1, h2, h3, h4⟩, h5, h6, h7⟩ := h
  refine ⟨⟨?_, fun i hi => ?_, rfl, fun k hk => ?_⟩, ?_, ?_, fun i hi => ?_⟩
  · rw [up_ne (by decide), upI_oth (by decide), upI_oth (by decide), upI_oth (by decide), upI_oth (by decide)]
    exact h1
  · rw [upI_oth (r' := 21) (by decide), upI_oth (r' := 21) (by decide), upI_oth (r' := 21) (by decide), upI_oth (r' := 21) (by decide), upI_oth (r' := 21) (by decide), upI_oth (r' := 22) (by decide), upI_oth (r' := 22) (by decide), upI_oth (r' := 22) (by decide), upI_oth (r' := 22) (by decide), upI_oth (r' := 22) (by decide)]
    exact h2 i hi
  · rw [upI_oth (r' := 23) (by decide), upI_oth (r' := 23) (by decide), upI_oth (r' := 23) (by decide), upI_oth (r' := 24) (by decide), upI_oth (r' := 24) (by decide), upI_oth (r' := 25) (by decide)]
    by_cases hk2 : k = tC P.2.1
    · subst hk2
      rw [up_same, up_same, up_same]
      exact ⟨by rw [addC_F, if_pos rfl], by rw [addC_I, if_pos rfl], by rw [addC_W, if_pos rfl]⟩
    · have hk : k < tC P.2.1 + 1 := hk
      rw [up_ne hk2, up_ne hk2, up_ne hk2, upI_oth (by decide), upI_oth (r' := 24) (by decide), upI_oth (r' := 24) (by decide), upI_oth (r' := 25) (by decide), upI_oth (r' := 25) (by decide), upI_oth (r' := 25) (by decide)]
      have := h4 k (by omega)
      rw [addC_F, addC_I, addC_W, if_neg hk2, if_neg hk2, if_neg hk2]
      exact this
  · rw [upI_oth (by decide), upI_oth (by decide), upI_oth (by decide), upI_oth (by decide), up_ne (by decide)]
    exact h5
  · rw [upI_oth (by decide), upI_oth (by decide), upI_oth (by decide), upI_oth (by decide), up_same]
  · rw [upI_oth (r' := 26) (by decide), upI_oth (r' := 26) (by decide), upI_oth (r' := 26) (by decide), upI_oth (r' := 26) (by decide), upI_oth (r' := 26) (by decide), upI_oth (r' := 27) (by decide), upI_oth (r' := 27) (by decide), upI_oth (r' := 27) (by decide), upI_oth (r' := 27) (by decide), upI_oth (r' := 27) (by decide)]
    exact h7 i hi
theorem rM_addF {P : PS} {I : Nat → Nat → Int32} {p a b : Nat} (h : rM P I) : rM (p, P.2.1, P.2.2.1 + 1, (fun i => if i = P.2.2.1 then a else P.2.2.2.1 i), (fun i => if i = P.2.2.1 then b else P.2.2.2.2 i)) (upI (upI (upI (upI I 19 4 (nI p)) 26 P.2.2.1 (nI a)) 27 P.2.2.1 (nI b)) 19 3 (nI (P.2.2.1 + 1))) := by
  obtain ⟨h1, h5, h6, h7⟩ := h
  refine ⟨dMem_of (fun r x y => ?_) h1, rfl, ?_, fun i hi => ?_⟩
  · rw [upI_oth (by omega), upI_oth (by omega), upI_oth (by omega), upI_oth (by omega)]
  · rw [up_ne (by decide), upI_oth (by decide), upI_oth (by decide), up_same]
  · rw [upI_oth (r' := 26) (by decide), upI_oth (r' := 26) (by decide), upI_oth (r' := 27) (by decide)]
    by_cases hi2 : i = P.2.2.1
    · subst hi2
      rw [up_same, up_same]
      exact ⟨by simp, by simp⟩
    · have hi : i < P.2.2.1 + 1 := hi
      rw [up_ne hi2, up_ne hi2, upI_oth (by decide), upI_oth (r' := 27) (by decide), upI_oth (by decide)]
      have := h7 i (by omega)
      simp only [if_neg hi2]
      exact this
theorem pOK_addS {P : PS} {p kd b : Nat} (h : pOK P) (hc : tC P.2.1 = 0) (hf : P.2.2.1 = 0) (h5 : tS P.2.1 ≠ 5) (hk : kd < 6) (hb : b < 32) : pOK (p, addS P.2.1 kd b, P.2.2) := by
  obtain ⟨⟨a1, a2, a3, a4⟩, b1, b2, b3, b4⟩ := h
  refine ⟨⟨?_, fun i hi => ?_, a3, fun k hk => ?_⟩, b1, fun z => ?_, fun i hi => ?_, b4⟩
  · show tS P.2.1 + 1 ≤ 5; omega
  · by_cases hi2 : i = tS P.2.1
    · subst hi2
      exact ⟨by rw [addS_K, if_pos rfl]; exact hk, by rw [addS_T, if_pos rfl]; exact hb⟩
    · have hi : i < tS P.2.1 + 1 := hi
      have := a2 i (by omega)
      rw [addS_K, addS_T, if_neg hi2, if_neg hi2]
      exact this
  · have hk : k < tC P.2.1 := hk
    omega
  · have z : tS P.2.1 + 1 = 0 := z
    omega
  · have hi : i < P.2.2.1 := hi
    omega
theorem pOK_addC {P : PS} {p a b c : Nat} (h : pOK P) (h12 : tC P.2.1 ≠ 12) (hs : tS P.2.1 ≠ 0) (ha : a < tS P.2.1) (hb : b < tS P.2.1) (hc1 : 1 ≤ c) (hc5 : c ≤ 5) (h4 : cntN (fun k => tF P.2.1 k == a) (tC P.2.1) ≠ 4) : pOK (p, addC P.2.1 a b c, P.2.2) := by
  obtain ⟨⟨a1, a2, a3, a4⟩, b1, b2, b3, b4⟩ := h
  refine ⟨⟨a1, a2, ?_, fun k hk => ?_⟩, b1, fun z => absurd z hs, b3, fun i => ?_⟩
  · show tC P.2.1 + 1 ≤ 12; omega
  · by_cases hk2 : k = tC P.2.1
    · subst hk2
      rw [addC_F, addC_I, addC_W, if_pos rfl, if_pos rfl, if_pos rfl]
      exact ⟨ha, hb, hc1, hc5⟩
    · have hk : k < tC P.2.1 + 1 := hk
      have := a4 k (by omega)
      rw [addC_F, addC_I, addC_W, if_neg hk2, if_neg hk2, if_neg hk2]
      exact this
  · show cntN (fun k => (if k = tC P.2.1 then a else tF P.2.1 k) == i) (tC P.2.1 + 1) ≤ 4
    have e : cntN (fun k => (if k = tC P.2.1 then a else tF P.2.1 k) == i) (tC P.2.1) = cntN (fun k => tF P.2.1 k == i) (tC P.2.1) := cntN_congr _ (fun k hk => by rw [if_neg (by omega)])
    rw [cntN, e, if_pos rfl]
    have := b4 i
    by_cases hia : a = i
    · subst hia
      rw [beq_self_eq_true]
      show _ + 1 ≤ 4
      omega
    · rw [beq_false_of_ne hia]
      exact this
theorem pOK_addF {P : PS} {p a b : Nat} (h : pOK P) (hf : P.2.2.1 ≠ 2) (hs : tS P.2.1 ≠ 0) (ha : a < tS P.2.1) (hb : b ≤ 5) : pOK (p, P.2.1, P.2.2.1 + 1, (fun i => if i = P.2.2.1 then a else P.2.2.2.1 i), (fun i => if i = P.2.2.1 then b else P.2.2.2.2 i)) := by
  obtain ⟨a1, b1, b2, b3, b4⟩ := h
  refine ⟨a1, ?_, fun z => absurd z hs, fun i hi => ?_, b4⟩
  · show P.2.2.1 + 1 ≤ 2; omega
  · by_cases hi2 : i = P.2.2.1
    · subst hi2
      simp only [if_pos]
      exact ⟨ha, hb⟩
    · have hi : i < P.2.2.1 + 1 := hi
      have := b3 i (by omega)
      simp only [if_neg hi2]
      exact this
theorem pOK_pl {P : PS} {p : Nat} (h : pOK P) : pOK (p, P.2) := h
/-- items keep what a reader keeps; they go on, not beyond the end -/
theorem rdS_ok {sz kd : Nat} {tx : Nat → Int32} {P : PS} (h : pOK P) (hk : kd < 6) (hp : P.1 < sz) : pOK (rdS sz tx kd P).2 ∧ (rdS sz tx kd P).2.1 ≤ sz ∧ ((rdS sz tx kd P).1 = true → P.1 < (rdS sz tx kd P).2.1) := by
  unfold rdS
  split
  · exact ⟨h, by show P.1 ≤ sz; omega, fun z => Bool.noConfusion (show false = true from z)⟩
  · rename_i hn
    obtain ⟨f1, f2, f3, f4⟩ := fgs_ok (sz := sz) (tx := tx) 5 0 (P.1 + 1) 0 (by omega) (by omega) (by decide)
    exact ⟨pOK_addS h (by omega) (by omega) (by omega) hk f4, f2, fun _ => by show P.1 < (fgs sz tx 5 0 (P.1 + 1) 0).1; omega⟩
theorem rdC_ok {sz : Nat} {tx : Nat → Int32} {P : PS} (h : pOK P) (hp : P.1 < sz) : pOK (rdC sz tx P).2 ∧ (rdC sz tx P).2.1 ≤ sz ∧ ((rdC sz tx P).1 = true → P.1 < (rdC sz tx P).2.1) := by
  have h5 : tS P.2.1 ≤ 5 := h.1.1
  unfold rdC
  split
  · exact ⟨h, by show P.1 ≤ sz; omega, fun z => Bool.noConfusion (show false = true from z)⟩
  rename_i hn
  unfold rdC1
  split
  · exact ⟨h, by show P.1 + 1 ≤ sz; omega, fun z => Bool.noConfusion (show false = true from z)⟩
  rename_i a ha
  obtain ⟨a1, a2, a3, a4⟩ := fg_ok (by omega) (by omega) ha
  split
  · exact ⟨h, by show P.1 + 1 ≤ sz; omega, fun z => Bool.noConfusion (show false = true from z)⟩
  rename_i h4
  unfold rdC2
  split
  · exact ⟨h, by show P.1 + 2 ≤ sz; omega, fun z => Bool.noConfusion (show false = true from z)⟩
  rename_i b hb
  obtain ⟨b1, b2, b3, b4⟩ := fg_ok (by omega) (by omega) hb
  split
  · exact ⟨h, by show P.1 + 2 ≤ sz; omega, fun z => Bool.noConfusion (show false = true from z)⟩
  unfold rdC3
  split
  · exact ⟨h, by show P.1 + 3 ≤ sz; omega, fun z => Bool.noConfusion (show false = true from z)⟩
  rename_i c hc
  obtain ⟨c1, c2, c3, c4⟩ := fg_ok (by omega) (by omega) hc
  exact ⟨pOK_addC h (by omega) (by omega) (by omega) (by omega) c2 c3 h4, by show P.1 + 4 ≤ sz; omega, fun _ => by show P.1 < P.1 + 4; omega⟩
theorem rdF_ok {sz : Nat} {tx : Nat → Int32} {P : PS} (h : pOK P) (hp : P.1 < sz) : pOK (rdF sz tx P).2 ∧ (rdF sz tx P).2.1 ≤ sz ∧ ((rdF sz tx P).1 = true → P.1 < (rdF sz tx P).2.1) := by
  have h5 : tS P.2.1 ≤ 5 := h.1.1
  unfold rdF
  split
  · exact ⟨h, by show P.1 ≤ sz; omega, fun z => Bool.noConfusion (show false = true from z)⟩
  rename_i hn
  unfold rdF1
  split
  · exact ⟨h, by show P.1 + 1 ≤ sz; omega, fun z => Bool.noConfusion (show false = true from z)⟩
  rename_i a ha
  obtain ⟨a1, a2, a3, a4⟩ := fg_ok (by omega) (by omega) ha
  unfold rdF2
  split
  · exact ⟨h, by show P.1 + 2 ≤ sz; omega, fun z => Bool.noConfusion (show false = true from z)⟩
  rename_i b hb
  obtain ⟨b1, b2, b3, b4⟩ := fg_ok (by omega) (by omega) hb
  exact ⟨pOK_addF h (by omega) (by omega) (by omega) b3, by show P.1 + 3 ≤ sz; omega, fun _ => by show P.1 < P.1 + 3; omega⟩
theorem kind_lt {x : Int32} {k : Nat} (h : kindN x = some k) : k < 6 ∧ ltr k = x := by
  unfold kindN at h
  repeat' (first | (split at h; rename_i hx; have h := Option.some.inj h; subst h; exact ⟨by decide, hx.symm⟩) | cases h)
theorem rdI_ok {sz : Nat} {tx : Nat → Int32} {P : PS} (h : pOK P) (hp : P.1 < sz) : pOK (rdI sz tx P).2 ∧ (rdI sz tx P).2.1 ≤ sz ∧ ((rdI sz tx P).1 = true → P.1 < (rdI sz tx P).2.1) := by
  unfold rdI
  split
  · exact rdC_ok h hp
  split
  · exact rdF_ok h hp
  cases hk : kindN (tx P.1) with
  | none => exact ⟨h, by show P.1 ≤ sz; omega, fun z => Bool.noConfusion (show false = true from z)⟩
  | some k => exact rdS_ok h (kind_lt hk).1 hp
theorem rdN_ok {sz : Nat} {tx : Nat → Int32} : ∀ m (P : PS), pOK P → pOK (rdN sz tx m P).2
  | 0, P, h => h
  | m + 1, P, h => by
    unfold rdN
    split
    · rename_i hp
      split
      · exact rdN_ok m _ h
      · split
        · exact rdN_ok m _ (rdI_ok h hp).1
        · exact (rdI_ok h hp).1
    · exact h
section
variable {G : GG} {d n : Nat} {I : Nat → Nat → Int32} {J : Nat → Nat → Int64} {Q : Option Value → MH → Prop}
theorem c_readShape {sz c a kd : Nat} {tx : Nat → Int32} {P : PS} (hs : stM n c a sz tx I) (hP : pOK P) (hM : rM P I) (hp : P.1 < sz) (h : ∀ I', rM (rdS sz tx kd P).2 I' → (∀ r, r < 19 ∨ 27 < r → I' r = I r) → Q (some (.int (b2i (rdS sz tx kd P).1))) (SH n, I', J)) : MT G (d + 2) 39 [.ref 19, .ref c, .int (nI kd)] (SH n, I, J) Q := by
  have s80 : sz ≤ 80 := hs.2.2.2.2.1
  have h5 : tS P.2.1 ≤ 5 := hP.1.1
  have h12 : tC P.2.1 ≤ 12 := hP.1.2.2.1
  have h2 : P.2.2.1 ≤ 2 := hP.2.1
  obtain ⟨m1, m2, m3, m4⟩ := id hM
  have no : (0 < tC P.2.1 ∨ 0 < P.2.2.1 ∨ tS P.2.1 = 5) → Q (some (.int 0)) (SH n, I, J) := fun hn => by
    unfold rdS at h
    rw [if_pos hn] at h
    exact h I hM (fun _ _ => rfl)
  refine MT.by ck39 (by decide) rfl (Nat.le_of_ble_eq_true rfl) rfl 300 [45] ?_
  conv => whnf
  try dsimp only
  rw [m1.2.2.1]
  refine pk_lt 0 (tC P.2.1) (fun z1 => ?_) (fun z1 => ?_)
  · conv => whnf
    try dsimp only
    exact ⟨Or.inl rfl, no (Or.inl z1)⟩
  conv => whnf
  try dsimp only
  rw [m2]
  refine pk_lt 0 P.2.2.1 (fun z2 => ?_) (fun z2 => ?_)
  · conv => whnf
    try dsimp only
    exact ⟨Or.inl rfl, no (Or.inr (Or.inl z2))⟩
  conv => whnf
  try dsimp only
  rw [m1.1]
  refine ⟨fun z3 => ?_, fun z3 => ?_⟩
  case refine_2 =>
    conv => whnf
    try dsimp only
    exact ⟨Or.inl rfl, no (Or.inr (Or.inr ((nu_eq (b := 5) (by omega) (by decide)).mp z3)))⟩
  have z3' : tS P.2.1 ≠ 5 := fun y => z3 (by rw [y]; rfl)
  conv => whnf
  try dsimp only
  rw [m3, nI_1]
  unfold rdS at h
  rw [if_neg (by omega)] at h
  dsimp only at h
  generalize hR : fgs sz tx 5 0 (P.1 + 1) 0 = R at h
  have ct : (nI (tS P.2.1)).toNatClampNeg = tS P.2.1 := nI_clamp (by omega)
  have loop : ∀ m g p b, g + m = 5 → p ≤ P.1 + 1 + g → fgs sz tx m g p b = R → EV G 39 (d + 1) 0 0 45 [.ref 19, .ref c, .int (nI kd), .int (nI b), .int (nI g)] [] (SH n, upI I 19 4 (nI p), J) Q := by
    intro m
    induction m with
    | zero =>
      intro g p b hg hpp hr
      have hg : g = 5 := hg
      subst hg
      have hr : (p, b) = R := hr
      have r0 : ∀ x, upI I 19 4 x 20 0 = nI (tS P.2.1) := fun x => by rw [upI_oth (by decide)]; exact m1.1
      have hq := h _ (rM_addS (p := R.1) (kd := kd) (b := R.2) hM (by omega) (by omega)) (fun r hr => by rw [upI_oth (by omega), upI_oth (by omega), upI_oth (by omega), upI_oth (by omega)])
      rw [← hr] at hq
      refine EV.at ck39 (by decide) 300 [] ?_
      conv => whnf
      try dsimp only
      first | refine ⟨fun h1 => absurd h1 (by decide), fun _ => ?_⟩ | refine ⟨fun _ => ?_, fun h1 => absurd (by decide) h1⟩ | refine ⟨fun h1 => absurd (by decide) h1, fun _ => ?_⟩ | refine ⟨fun _ => ?_, fun h1 => absurd h1 (by decide)⟩
      conv => whnf
      try dsimp only
      rw [r0, ct]
      refine ⟨in_nI (show tS P.2.1 < 5 by omega) (by decide), ?_⟩
      conv => whnf
      try dsimp only
      rw [show upI (upI I 19 4 (nI p)) 21 (tS P.2.1) (nI kd) 20 0 = nI (tS P.2.1) from m1.1, ct]
      refine ⟨in_nI (show tS P.2.1 < 5 by omega) (by decide), ?_⟩
      conv => whnf
      try dsimp only
      rw [show upI (upI (upI I 19 4 (nI p)) 21 (tS P.2.1) (nI kd)) 22 (tS P.2.1) (nI b) 20 0 = nI (tS P.2.1) from m1.1, nI_1]
      exact ⟨Or.inr rfl, hq⟩
    | succ m ih =>
      intro g p b hg hpp hr
      have un : fgs sz tx (m + 1) g p b = if fgN sz tx p g g = none then fgs sz tx m (g + 1) p b else fgs sz tx m (g + 1) (p + 1) (b ||| 2 ^ g) := rfl
      refine EV.at ck39 (by decide) 300 [] ?_
      conv => whnf
      try dsimp only
      refine ⟨fun z => absurd z (nI_ge (b := 5) (show g < 5 by omega) (by decide)), fun _ => ?_⟩
      conv => whnf
      try dsimp only
      refine ⟨trivial, c_figureFrom (hs.of (fun r hr => upI_oth (by omega))) (show p < 65536 by omega) (by omega) rfl ?_⟩
      cases hf : fgN sz tx p g g with
      | none =>
        rw [if_pos hf] at un
        have ihj := ih (g + 1) p b (by omega) (by omega) (un.symm.trans hr)
        rw [nI_succ g] at ihj
        refine EV.at ck39 (by decide) 300 [] ?_
        conv => whnf
        try dsimp only
        refine ⟨fun _ => ?_, fun z => absurd (show nI g < 0 by rw [← show (-1 : Int32) = nI g from z]; decide) (nI_pos (by omega))⟩
        conv => whnf
        try dsimp only
        exact ⟨trivial, ihj⟩
      | some v =>
        obtain ⟨f1, f2, f3, f4⟩ := fg_ok (by omega) (by omega) hf
        have hvg : v = g := by omega
        subst hvg
        rw [if_neg (by rw [hf]; exact fun z => by cases z)] at un
        have ihj := ih (v + 1) (p + 1) (b ||| 2 ^ v) (by omega) (by omega) (un.symm.trans hr)
        rw [nI_succ v, ← fa_or, ← nu_one (show v < 31 by omega)] at ihj
        refine EV.at ck39 (by decide) 300 [] ?_
        conv => whnf
        try dsimp only
        refine ⟨fun z => absurd rfl z, fun _ => ?_⟩
        conv => whnf
        try dsimp only
        rw [up_same, up_up, nI_1 p]
        exact ⟨trivial, ihj⟩
  exact ⟨trivial, loop 5 0 (P.1 + 1) 0 (by omega) (by omega) hR⟩
theorem c_readChange {sz c a : Nat} {tx : Nat → Int32} {P : PS} (hs : stM n c a sz tx I) (hP : pOK P) (hM : rM P I) (hp : P.1 < sz) (h : ∀ I', rM (rdC sz tx P).2 I' → (∀ r, r < 19 ∨ 27 < r → I' r = I r) → Q (some (.int (b2i (rdC sz tx P).1))) (SH n, I', J)) : MT G (d + 2) 40 [.ref 19, .ref c] (SH n, I, J) Q := by
  have s80 : sz ≤ 80 := hs.2.2.2.2.1
  have h5 : tS P.2.1 ≤ 5 := hP.1.1
  have h12 : tC P.2.1 ≤ 12 := hP.1.2.2.1
  have h2 : P.2.2.1 ≤ 2 := hP.2.1
  obtain ⟨m1, m2, m3, m4⟩ := id hM
  have ct : (nI (tC P.2.1)).toNatClampNeg = tC P.2.1 := nI_clamp (by omega)
  have no : (tS P.2.1 = 0 ∨ 0 < P.2.2.1 ∨ tC P.2.1 = 12) → Q (some (.int 0)) (SH n, I, J) := fun hn => by
    unfold rdC at h
    rw [if_pos hn] at h
    exact h I hM (fun _ _ => rfl)
  have pl : ∀ p, rdC sz tx P = (false, (p, P.2)) → Q (some (.int 0)) (SH n, upI I 19 4 (nI p), J) := fun p hn => by
    rw [hn] at h
    exact h _ (rM_pl hM) (fun r hr => upI_oth (by omega))
  have st : ∀ p, stM n c a sz tx (upI I 19 4 (nI p)) := fun p => hs.of (fun r hr => upI_oth (by omega))
  have r0 : ∀ x, upI I 19 4 x 20 0 = nI (tS P.2.1) := fun x => by rw [upI_oth (by decide)]; exact m1.1
  have r3 : ∀ x, upI I 19 4 x 20 3 = nI (tC P.2.1) := fun x => by rw [upI_oth (by decide)]; exact m1.2.2.1
  have q1 : ∀ x y, upI (upI I 19 4 x) 23 (tC P.2.1) y 20 3 = nI (tC P.2.1) := fun x y => by rw [upI_oth (by decide)]; exact r3 x
  have q2 : ∀ x y z, upI (upI (upI I 19 4 x) 23 (tC P.2.1) y) 24 (tC P.2.1) z 20 3 = nI (tC P.2.1) := fun x y z => by rw [upI_oth (by decide)]; exact q1 x y
  have q3 : ∀ x y z u, upI (upI (upI (upI I 19 4 x) 23 (tC P.2.1) y) 24 (tC P.2.1) z) 25 (tC P.2.1) u 20 3 = nI (tC P.2.1) := fun x y z u => by rw [upI_oth (by decide)]; exact q2 x y z
  refine MT.by ck40 (by decide) rfl (Nat.le_of_ble_eq_true rfl) rfl 300 [] ?_
  conv => whnf
  try dsimp only
  rw [m1.1]
  refine pk_eq (tS P.2.1) 0 (fun z1 => ?_) (fun z1 => ?_)
  · conv => whnf
    try dsimp only
    exact ⟨Or.inl rfl, no (Or.inl z1)⟩
  conv => whnf
  try dsimp only
  rw [m2]
  refine pk_lt 0 P.2.2.1 (fun z2 => ?_) (fun z2 => ?_)
  · conv => whnf
    try dsimp only
    exact ⟨Or.inl rfl, no (Or.inr (Or.inl z2))⟩
  conv => whnf
  try dsimp only
  rw [m1.2.2.1]
  refine ⟨fun z3 => ?_, fun z3 => ?_⟩
  case refine_2 =>
    conv => whnf
    try dsimp only
    exact ⟨Or.inl rfl, no (Or.inr (Or.inr ((nu_eq (b := 12) (by omega) (by decide)).mp z3)))⟩
  have z3' : tC P.2.1 ≠ 12 := fun y => z3 (by rw [y]; rfl)
  have hun : rdC sz tx P = rdC1 sz tx P := by unfold rdC; rw [if_neg (by omega)]
  have es : nI (tS P.2.1) - 1 = nI (tS P.2.1 - 1) := pk_sub (b := 1) (by omega)
  conv => whnf
  try dsimp only
  rw [m3, nI_1, r0, es]
  refine ⟨trivial, c_figureFrom (lo := 0) (st _) (show P.1 + 1 < 65536 by omega) (by omega) rfl ?_⟩
  unfold rdC1 at hun
  cases hf1 : fgN sz tx (P.1 + 1) 0 (tS P.2.1 - 1) with
  | none =>
    rw [hf1] at hun
    refine EV.at ck40 (by decide) 300 [] ?_
    conv => whnf
    try dsimp only
    first | refine ⟨fun h1 => absurd h1 (by decide), fun _ => ?_⟩ | refine ⟨fun _ => ?_, fun h1 => absurd (by decide) h1⟩ | refine ⟨fun h1 => absurd (by decide) h1, fun _ => ?_⟩ | refine ⟨fun _ => ?_, fun h1 => absurd h1 (by decide)⟩
    conv => whnf
    try dsimp only
    exact ⟨Or.inl rfl, pl _ hun⟩
  | some x =>
  rw [show fgI (some x) = nI x from rfl]
  obtain ⟨x1, x2, x3, x4⟩ := fg_ok (by omega) (by omega) hf1
  rw [hf1] at hun
  dsimp only at hun
  refine EV.at ck40 (by decide) 300 [] ?_
  conv => whnf
  try dsimp only
  refine ⟨fun z => absurd z (nI_pos (show x < 2 ^ 31 by omega)), fun _ => ?_⟩
  conv => whnf
  try dsimp only
  refine ⟨trivial, c_changesFromD h12 (r3 _) ?_⟩
  have ec : cntI (fun k => decide (upI I 19 4 (nI (P.1 + 1)) 23 k = nI x)) (tC P.2.1) = nI (cntN (fun k => tF P.2.1 k == x) (tC P.2.1)) := cntI_N _ (fun k hk => by
    rw [upI_oth (by decide), (m1.2.2.2 k hk).1]
    have := (hP.1.2.2.2 k hk).1
    by_cases hx : tF P.2.1 k = x
    · rw [hx, beq_self_eq_true, decide_eq_true rfl]
    · rw [beq_false_of_ne hx, decide_eq_false (fun z => hx ((nu_eq (by omega) (by omega)).mp z))])
  rw [ec]
  have hcl := cntN_le (f := fun k => tF P.2.1 k == x) (tC P.2.1)
  refine EV.at ck40 (by decide) 300 [] ?_
  conv => whnf
  try dsimp only
  refine ⟨fun z4 => ?_, fun z4 => ?_⟩
  case refine_2 =>
    have z4' : cntN (fun k => tF P.2.1 k == x) (tC P.2.1) = 4 := (nu_eq (b := 4) (by omega) (by decide)).mp z4
    rw [if_pos z4'] at hun
    conv => whnf
    try dsimp only
    exact ⟨Or.inl rfl, pl _ hun⟩
  have z4' : cntN (fun k => tF P.2.1 k == x) (tC P.2.1) ≠ 4 := fun y => z4 (by rw [y]; rfl)
  rw [if_neg z4'] at hun
  conv => whnf
  try dsimp only
  rw [up_same, up_up, nI_1, r0, es]
  refine ⟨trivial, c_figureFrom (lo := 0) (st _) (show P.1 + 2 < 65536 by omega) (by omega) rfl ?_⟩
  unfold rdC2 at hun
  cases hf2 : fgN sz tx (P.1 + 2) 0 (tS P.2.1 - 1) with
  | none =>
    rw [hf2] at hun
    refine EV.at ck40 (by decide) 300 [] ?_
    conv => whnf
    try dsimp only
    first | refine ⟨fun h1 => absurd h1 (by decide), fun _ => ?_⟩ | refine ⟨fun _ => ?_, fun h1 => absurd (by decide) h1⟩ | refine ⟨fun h1 => absurd (by decide) h1, fun _ => ?_⟩ | refine ⟨fun _ => ?_, fun h1 => absurd h1 (by decide)⟩
    conv => whnf
    try dsimp only
    exact ⟨Or.inl rfl, pl _ hun⟩
  | some y =>
  rw [show fgI (some y) = nI y from rfl]
  obtain ⟨y1, y2, y3, y4⟩ := fg_ok (by omega) (by omega) hf2
  rw [hf2] at hun
  dsimp only at hun
  refine EV.at ck40 (by decide) 300 [] ?_
  conv => whnf
  try dsimp only
  refine ⟨fun z => absurd z (nI_pos (show y < 2 ^ 31 by omega)), fun _ => ?_⟩
  conv => whnf
  try dsimp only
  refine ⟨fun z5 => ?_, fun z5 => ?_⟩
  case refine_2 =>
    rw [if_pos ((nu_eq (by omega) (by omega)).mp z5)] at hun
    conv => whnf
    try dsimp only
    exact ⟨Or.inl rfl, pl _ hun⟩
  rw [if_neg (fun e => z5 (by rw [e]))] at hun
  conv => whnf
  try dsimp only
  rw [up_same, up_up, nI_1]
  refine ⟨trivial, c_figureFrom (lo := 1) (hi := 5) (st _) (show P.1 + 3 < 65536 by omega) (by omega) rfl ?_⟩
  unfold rdC3 at hun
  cases hf3 : fgN sz tx (P.1 + 3) 1 5 with
  | none =>
    rw [hf3] at hun
    refine EV.at ck40 (by decide) 300 [] ?_
    conv => whnf
    try dsimp only
    first | refine ⟨fun h1 => absurd h1 (by decide), fun _ => ?_⟩ | refine ⟨fun _ => ?_, fun h1 => absurd (by decide) h1⟩ | refine ⟨fun h1 => absurd (by decide) h1, fun _ => ?_⟩ | refine ⟨fun _ => ?_, fun h1 => absurd h1 (by decide)⟩
    conv => whnf
    try dsimp only
    exact ⟨Or.inl rfl, pl _ hun⟩
  | some v =>
  rw [show fgI (some v) = nI v from rfl]
  obtain ⟨v1, v2, v3, v4⟩ := fg_ok (by omega) (by omega) hf3
  rw [hf3] at hun
  dsimp only at hun
  refine EV.at ck40 (by decide) 300 [] ?_
  conv => whnf
  try dsimp only
  refine ⟨fun _ => ?_, fun z => absurd (nI_pos' (show v < 2 ^ 31 by omega)) z⟩
  conv => whnf
  try dsimp only
  rw [up_same, up_up, nI_1, r3, ct]
  refine ⟨in_nI (show tC P.2.1 < 12 by omega) (by decide), ?_⟩
  conv => whnf
  try dsimp only
  rw [q1, ct]
  refine ⟨in_nI (show tC P.2.1 < 12 by omega) (by decide), ?_⟩
  conv => whnf
  try dsimp only
  rw [q2, ct]
  refine ⟨in_nI (show tC P.2.1 < 12 by omega) (by decide), ?_⟩
  conv => whnf
  try dsimp only
  rw [q3, nI_1 (tC P.2.1)]
  rw [hun] at h
  exact ⟨Or.inr rfl, h _ (rM_addC hM) (fun r hr => by rw [upI_oth (by omega), upI_oth (by omega), upI_oth (by omega), upI_oth (by omega), upI_oth (by omega)])⟩
theorem c_readFighter {sz c a : Nat} {tx : Nat → Int32} {P : PS} (hs : stM n c a sz tx I) (hP : pOK P) (hM : rM P I) (hp : P.1 < sz) (h : ∀ I', rM (rdF sz tx P).2 I' → (∀ r, r < 19 ∨ 27 < r → I' r = I r) → Q (some (.int (b2i (rdF sz tx P).1))) (SH n, I', J)) : MT G (d + 2) 41 [.ref 19, .ref c] (SH n, I, J) Q := by
  have s80 : sz ≤ 80 := hs.2.2.2.2.1
  have h5 : tS P.2.1 ≤ 5 := hP.1.1
  have h2 : P.2.2.1 ≤ 2 := hP.2.1
  obtain ⟨m1, m2, m3, m4⟩ := id hM
  have ct : (nI P.2.2.1).toNatClampNeg = P.2.2.1 := nI_clamp (by omega)
  have no : (tS P.2.1 = 0 ∨ P.2.2.1 = 2) → Q (some (.int 0)) (SH n, I, J) := fun hn => by
    unfold rdF at h
    rw [if_pos hn] at h
    exact h I hM (fun _ _ => rfl)
  have pl : ∀ p, rdF sz tx P = (false, (p, P.2)) → Q (some (.int 0)) (SH n, upI I 19 4 (nI p), J) := fun p hn => by
    rw [hn] at h
    exact h _ (rM_pl hM) (fun r hr => upI_oth (by omega))
  have st : ∀ p, stM n c a sz tx (upI I 19 4 (nI p)) := fun p => hs.of (fun r hr => upI_oth (by omega))
  have r0 : ∀ x, upI I 19 4 x 20 0 = nI (tS P.2.1) := fun x => by rw [upI_oth (by decide)]; exact m1.1
  have r3 : ∀ x, upI I 19 4 x 19 3 = nI P.2.2.1 := fun x => by rw [up_ne (by decide)]; exact m2
  have q1 : ∀ x y, upI (upI I 19 4 x) 26 P.2.2.1 y 19 3 = nI P.2.2.1 := fun x y => by rw [upI_oth (by decide)]; exact r3 x
  have q2 : ∀ x y z, upI (upI (upI I 19 4 x) 26 P.2.2.1 y) 27 P.2.2.1 z 19 3 = nI P.2.2.1 := fun x y z => by rw [upI_oth (by decide)]; exact q1 x y
  refine MT.by ck41 (by decide) rfl (Nat.le_of_ble_eq_true rfl) rfl 300 [] ?_
  conv => whnf
  try dsimp only
  rw [m1.1]
  refine pk_eq (tS P.2.1) 0 (fun z1 => ?_) (fun z1 => ?_)
  · conv => whnf
    try dsimp only
    exact ⟨Or.inl rfl, no (Or.inl z1)⟩
  conv => whnf
  try dsimp only
  rw [m2]
  refine ⟨fun z3 => ?_, fun z3 => ?_⟩
  case refine_2 =>
    conv => whnf
    try dsimp only
    exact ⟨Or.inl rfl, no (Or.inr ((nu_eq (b := 2) (by omega) (by decide)).mp z3))⟩
  have z3' : P.2.2.1 ≠ 2 := fun y => z3 (by rw [y]; rfl)
  have hun : rdF sz tx P = rdF1 sz tx P := by unfold rdF; rw [if_neg (by omega)]
  have es : nI (tS P.2.1) - 1 = nI (tS P.2.1 - 1) := pk_sub (b := 1) (by omega)
  conv => whnf
  try dsimp only
  rw [m3, nI_1, r0, es]
  refine ⟨trivial, c_figureFrom (lo := 0) (st _) (show P.1 + 1 < 65536 by omega) (by omega) rfl ?_⟩
  unfold rdF1 at hun
  cases hf1 : fgN sz tx (P.1 + 1) 0 (tS P.2.1 - 1) with
  | none =>
    rw [hf1] at hun
    refine EV.at ck41 (by decide) 300 [] ?_
    conv => whnf
    try dsimp only
    first | refine ⟨fun h1 => absurd h1 (by decide), fun _ => ?_⟩ | refine ⟨fun _ => ?_, fun h1 => absurd (by decide) h1⟩ | refine ⟨fun h1 => absurd (by decide) h1, fun _ => ?_⟩ | refine ⟨fun _ => ?_, fun h1 => absurd h1 (by decide)⟩
    conv => whnf
    try dsimp only
    exact ⟨Or.inl rfl, pl _ hun⟩
  | some x =>
  rw [show fgI (some x) = nI x from rfl]
  obtain ⟨x1, x2, x3, x4⟩ := fg_ok (by omega) (by omega) hf1
  rw [hf1] at hun
  dsimp only at hun
  refine EV.at ck41 (by decide) 300 [] ?_
  conv => whnf
  try dsimp only
  refine ⟨fun _ => ?_, fun z => absurd (nI_pos' (show x < 2 ^ 31 by omega)) z⟩
  conv => whnf
  try dsimp only
  rw [up_same, up_up, nI_1]
  refine ⟨trivial, c_figureFrom (lo := 0) (hi := 5) (st _) (show P.1 + 2 < 65536 by omega) (by omega) rfl ?_⟩
  unfold rdF2 at hun
  cases hf2 : fgN sz tx (P.1 + 2) 0 5 with
  | none =>
    rw [hf2] at hun
    refine EV.at ck41 (by decide) 300 [] ?_
    conv => whnf
    try dsimp only
    first | refine ⟨fun h1 => absurd h1 (by decide), fun _ => ?_⟩ | refine ⟨fun _ => ?_, fun h1 => absurd (by decide) h1⟩ | refine ⟨fun h1 => absurd (by decide) h1, fun _ => ?_⟩ | refine ⟨fun _ => ?_, fun h1 => absurd h1 (by decide)⟩
    conv => whnf
    try dsimp only
    exact ⟨Or.inl rfl, pl _ hun⟩
  | some y =>
  rw [show fgI (some y) = nI y from rfl]
  obtain ⟨y1, y2, y3, y4⟩ := fg_ok (by omega) (by omega) hf2
  rw [hf2] at hun
  dsimp only at hun
  refine EV.at ck41 (by decide) 300 [] ?_
  conv => whnf
  try dsimp only
  refine ⟨fun _ => ?_, fun z => absurd (nI_pos' (show y < 2 ^ 31 by omega)) z⟩
  conv => whnf
  try dsimp only
  rw [up_same, up_up, nI_1, r3, ct]
  refine ⟨in_nI (show P.2.2.1 < 2 by omega) (by decide), ?_⟩
  conv => whnf
  try dsimp only
  rw [q1, ct]
  refine ⟨in_nI (show P.2.2.1 < 2 by omega) (by decide), ?_⟩
  conv => whnf
  try dsimp only
  rw [q2, nI_1 P.2.2.1]
  rw [hun] at h
  exact ⟨Or.inr rfl, h _ (rM_addF hM) (fun r hr => by rw [upI_oth (by omega), upI_oth (by omega), upI_oth (by omega), upI_oth (by omega)])⟩
end
