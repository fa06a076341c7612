/-! Search: length, who wins, how little fire is enough -/
def wonN (T : TN) (q : Nat → SD) (who w : Nat) : Bool := decide ((ends T q who % 2 = 1) ↔ w = who)
def setF (q : Nat → SD) (w v : Nat) : Nat → SD := fun x => if x = w then ((q w).1, v, (q w).2.2.1, (q w).2.2.2) else q x
def setK (q : Nat → SD) (w v : Nat) : Nat → SD := fun x => if x = w then ((q w).1, (q w).2.1, (q w).2.2.1, v) else q x
def leastI (T : TN) (q : Nat → SD) (who w : Nat) : Nat → Nat → Int32
  | 0, _ => -9
  | m + 1, v => if wonN T (setF q w v) who w then nI v else leastI T q who w m (v + 1)
/-- the longs that others than the memo hold -/
def sameM (J J' : Nat → Nat → Int64) : Prop := ∀ x, x ≠ 28 → x ≠ 29 → x ≠ 30 → J' x = J x
theorem sameM.rf (J : Nat → Nat → Int64) : sameM J J := fun _ _ _ _ => rfl
theorem sameM.tr {J J' J'' : Nat → Nat → Int64} (h : sameM J J') (h' : sameM J' J'') : sameM J J'' := fun x a b c => (h' x a b c).trans (h x a b c)
theorem sameM.of {J J' : Nat → Nat → Int64} {y : Int64} (h : sameJ (upL J 28 2 y) J') : sameM J J' := fun x a b c => by rw [h x b c, upL_oth a]
theorem ne_m9 {v : Nat} (hv : v < 2 ^ 31) : ¬ nI v = -9 := fun hh => by
  have h2 : nI v < 0 := by rw [hh]; decide
  exact absurd h2 (nI_pos hv)
theorem up_up {I : Nat → Nat → Int32} {r k : Nat} {x y : Int32} : upI (upI I r k x) r k y = upI I r k y := by
  funext r' k'
  unfold upI
  split <;> rfl
theorem up_self {I : Nat → Nat → Int32} {r k : Nat} : upI I r k (I r k) = I := by
  funext r' k'
  unfold upI
  split
  · rename_i h; rw [h.1, h.2]
  · rfl
theorem up_back {I : Nat → Nat → Int32} {r k : Nat} {x : Int32} : upI (upI I r k x) r k (I r k) = I := by rw [up_up, up_self]
theorem fMem_setF0 {q : Nat → SD} {I : Nat → Nat → Int32} {v : Nat} (h : fMem q I) : fMem (setF q 0 v) (upI I 14 1 (nI v)) := ⟨⟨h.1.1, rfl, h.1.2.2.1, h.1.2.2.2⟩, sMem_oth h.2 (upI_oth (by decide))⟩
theorem fMem_setF1 {q : Nat → SD} {I : Nat → Nat → Int32} {v : Nat} (h : fMem q I) : fMem (setF q 1 v) (upI I 15 1 (nI v)) := ⟨sMem_oth h.1 (upI_oth (by decide)), ⟨h.2.1, rfl, h.2.2.2.1, h.2.2.2.2⟩⟩
theorem vQ_setF0 {T : TN} {q : Nat → SD} {v : Nat} (h : vQ T q) (hv : v ≤ 5) : vQ T (setF q 0 v) := ⟨⟨h.1.1, hv, h.1.2.2⟩, h.2⟩
theorem vQ_setF1 {T : TN} {q : Nat → SD} {v : Nat} (h : vQ T q) (hv : v ≤ 5) : vQ T (setF q 1 v) := ⟨h.1, ⟨h.2.1, hv, h.2.2.2⟩⟩
theorem fsum_le {T : TN} {q : Nat → SD} (h : vQ T q) : fsum q ≤ 10 := by have := h.1.2.1; have := h.2.2.1; unfold fsum; omega
section
variable {G : GG} {d n : Nat} {I : Nat → Nat → Int32} {J : Nat → Nat → Int64} {Q : Option Value → MH → Prop} {T : TN} {q : Nat → SD}
theorem c_length {z e : Nat} (hT : tOK T) (hM : tMem T I) (hX : EX I) (hm : fMem q I) (hv : vQ T q) (hz : z ≤ 40) (hI : I 12 5 = nI z) (hG : MG e J) (he : e + 1 < 2 ^ 30) (h : ∀ J', MIv T (Ve T) (q 0).2.2.2 (q 1).2.2.2 (e + 1) J' → sameM J J' → Q (some (.int (nI (ends T q (z % 2))))) (SH n, I, J')) : MT G (d + 30) 44 [.ref 31] (SH n, I, J) Q := by
  refine MT.by ck44 (by decide) rfl (Nat.le_of_ble_eq_true rfl) rfl 300 [] ?_
  conv => whnf
  try dsimp only
  refine ⟨trivial, c_forget ?_⟩
  refine EV.at ck44 (by decide) 300 [] ?_
  conv => whnf
  try dsimp only
  refine ⟨trivial, c_mover hz hI ?_⟩
  refine EV.at ck44 (by decide) 300 [] ?_
  conv => whnf
  try dsimp only
  refine ⟨trivial, EIn_all hT 10 0 rfl (d + 29) I _ _ q (z % 2) (by omega) hM hX hm hv rfl rfl (Nat.mod_lt _ (by decide)) (hG.next he) (fsum_le hv) (fun J' hJ' hs' => ?_)⟩
  refine EV.at ck44 (by decide) 300 [] ?_
  conv => whnf
  try dsimp only
  exact ⟨trivial, h J' hJ' (sameM.of hs')⟩
theorem c_isWonBy {z e w : Nat} (hw : w < 2) (hT : tOK T) (hM : tMem T I) (hX : EX I) (hm : fMem q I) (hv : vQ T q) (hz : z ≤ 40) (hI : I 12 5 = nI z) (hG : MG e J) (he : e + 1 < 2 ^ 30) (h : ∀ J', MG (e + 1) J' → sameM J J' → Q (some (.int (b2i (wonN T q (z % 2) w)))) (SH n, I, J')) : MT G (d + 30) 51 [.ref 31, .int (nI w)] (SH n, I, J) Q := by
  have hle := endsF_le T 10 q (z % 2)
  have hle : ends T q (z % 2) ≤ 10 := hle
  have hz2 : z % 2 < 2 := Nat.mod_lt _ (by decide)
  refine MT.by ck51 (by decide) rfl (Nat.le_of_ble_eq_true rfl) rfl 300 [] ?_
  conv => whnf
  try dsimp only
  refine ⟨trivial, c_forget ?_⟩
  refine EV.at ck51 (by decide) 300 [] ?_
  conv => whnf
  try dsimp only
  refine ⟨trivial, c_mover hz hI ?_⟩
  refine EV.at ck51 (by decide) 300 [] ?_
  conv => whnf
  try dsimp only
  refine ⟨trivial, EIn_all hT 10 0 rfl (d + 29) I _ _ q (z % 2) (by omega) hM hX hm hv rfl rfl hz2 (hG.next he) (fsum_le hv) (fun J' hJ' hs' => ?_)⟩
  have h := h J' hJ'.mg (sameM.of hs')
  unfold wonN at h
  refine EV.at ck51 (by decide) 300 [] ?_
  conv => whnf
  try dsimp only
  refine ⟨fun h1 => ?_, fun h1 => ?_⟩
  · have g1 : ¬ ends T q (z % 2) % 2 = 1 := fun y => h1 ((odd_nI (by omega)).mpr y)
    conv => whnf
    try dsimp only
    refine ⟨fun h2 => ?_, fun h2 => ?_⟩
    · have g2 : ¬ w = z % 2 := fun y => h2 (by rw [y])
      rw [decide_eq_true (by simp only [g1, g2])] at h
      conv => whnf
      try dsimp only
      refine ⟨fun h3 => absurd rfl h3, fun _ => ?_⟩
      conv => whnf
      try dsimp only
      exact ⟨Or.inr rfl, h⟩
    · have g2 : w = z % 2 := (nu_eq (by omega) (by omega)).mp h2
      rw [decide_eq_false (by simp only [g1, g2]; decide)] at h
      conv => whnf
      try dsimp only
      refine ⟨fun _ => ?_, fun h3 => absurd h3 (by decide)⟩
      conv => whnf
      try dsimp only
      exact ⟨Or.inl rfl, h⟩
  · have g1 : ends T q (z % 2) % 2 = 1 := (odd_nI (by omega)).mp h1
    conv => whnf
    try dsimp only
    refine ⟨fun h2 => ?_, fun h2 => ?_⟩
    · have g2 : ¬ w = z % 2 := fun y => h2 (by rw [y])
      rw [decide_eq_false (by simp only [g1, g2]; decide)] at h
      conv => whnf
      try dsimp only
      refine ⟨fun _ => ?_, fun h3 => absurd h3 (by decide)⟩
      conv => whnf
      try dsimp only
      exact ⟨Or.inl rfl, h⟩
    · have g2 : w = z % 2 := (nu_eq (by omega) (by omega)).mp h2
      rw [decide_eq_true (by simp only [g1, g2])] at h
      conv => whnf
      try dsimp only
      refine ⟨fun h3 => absurd rfl h3, fun _ => ?_⟩
      conv => whnf
      try dsimp only
      exact ⟨Or.inr rfl, h⟩
theorem c_least0 {z e : Nat} (hT : tOK T) (hM : tMem T I) (hX : EX I) (hm : fMem q I) (hv : vQ T q) (hz : z ≤ 40) (hI : I 12 5 = nI z) (hG : MG e J) (he : e + 20 < 2 ^ 30) (h : ∀ J' e', e' ≤ e + 6 → MG e' J' → sameM J J' → Q (some (.int (leastI T q (z % 2) 0 6 0))) (SH n, I, J')) : MT G (d + 40) 52 [.ref 31, .int (nI 0)] (SH n, I, J) Q := by
  have hm0 : sMem 14 (q 0) I := hm.1
  have back : ∀ x : Int32, upI (upI I 14 1 x) 14 1 (I 14 1) = I := fun x => up_back
  have fin : ∀ (J1 : Nat → Nat → Int64) (e1 v : Nat) (x y : Int32), e1 ≤ e + 6 → MG e1 J1 → sameM J J1 → y = leastI T q (z % 2) 0 6 0 → (¬ y = -9 ∨ v = 6) → v ≤ 6 → EV G 52 (d + 39) 0 0 22 [.ref 31, .int (nI 0), .ref 14, .int (nI (q 0).2.1), .int y, .int (nI v)] [] (SH n, upI I 14 1 x, J1) Q := by
    intro J1 e1 v x y h1 h2 h3 h4 h5 h6
    have hq := h J1 e1 h1 h2 h3
    rw [← h4] at hq
    have hfin : EV G 52 (d + 39) 0 0 64 [.ref 31, .int (nI 0), .ref 14, .int (nI (q 0).2.1), .int y, .int (nI v)] [] (SH n, upI I 14 1 x, J1) Q := by
      refine EV.at ck52 (by decide) 300 [] ?_
      conv => whnf
      try dsimp only
      rw [← hm0.2.1, back]
      exact ⟨trivial, hq⟩
    refine EV.at ck52 (by decide) 300 [64] ?_
    conv => whnf
    try dsimp only
    refine ⟨fun _ => ⟨trivial, hfin⟩, fun h7 => ?_⟩
    conv => whnf
    try dsimp only
    refine ⟨fun _ => ⟨trivial, hfin⟩, fun h8 => ?_⟩
    rcases h5 with h5 | h5
    · exact absurd h8 h5
    · rw [h5] at h7
      exact absurd (by decide) h7
  have loop : ∀ m v (x : Int32) (J1 : Nat → Nat → Int64) (e1 : Nat), v + m = 6 → e1 ≤ e + v → MG e1 J1 → sameM J J1 → leastI T q (z % 2) 0 6 0 = leastI T q (z % 2) 0 m v → EV G 52 (d + 39) 0 0 22 [.ref 31, .int (nI 0), .ref 14, .int (nI (q 0).2.1), .int (-9), .int (nI v)] [] (SH n, upI I 14 1 x, J1) Q := by
    intro m
    induction m with
    | zero =>
      intro v x J1 e1 hvm h1 h2 h3 h4
      exact fin J1 e1 v x (-9) (by omega) h2 h3 h4.symm (Or.inr (by omega)) (by omega)
    | succ m ih =>
      intro v x J1 e1 hvm h1 h2 h3 h4
      refine EV.at ck52 (by decide) 300 [] ?_
      conv => whnf
      try dsimp only
      refine ⟨fun h5 => absurd h5 (nI_nlt (show v ≤ 5 by omega) (by decide)), fun _ => ?_⟩
      conv => whnf
      try dsimp only
      refine ⟨fun h5 => absurd rfl h5, fun _ => ?_⟩
      conv => whnf
      try dsimp only
      rw [up_up]
      have hlo : ∀ r, r < 12 → upI I 14 1 (nI v) r = I r := fun r hr => upI_oth (by omega)
      refine ⟨trivial, c_isWonBy (q := setF q 0 v) (z := z) (by omega) hT (tMem_of hlo hM) (EX_of hlo hX) (fMem_setF0 hm) (vQ_setF0 hv (by omega)) hz (by rw [upI_oth (by decide)]; exact hI) h2 (by omega) (fun J2 hJ2 hs2 => ?_)⟩
      have hun : leastI T q (z % 2) 0 (m + 1) v = if wonN T (setF q 0 v) (z % 2) 0 then nI v else leastI T q (z % 2) 0 m (v + 1) := rfl
      cases hb : wonN T (setF q 0 v) (z % 2) 0
      · rw [hb] at hun
        have hun : leastI T q (z % 2) 0 (m + 1) v = leastI T q (z % 2) 0 m (v + 1) := hun
        have ihj := ih (v + 1) (nI v) J2 (e1 + 1) (by omega) (by omega) hJ2 (h3.tr hs2) (h4.trans hun)
        rw [nI_succ v] at ihj
        refine EV.at ck52 (by decide) 300 [] ?_
        conv => whnf
        try dsimp only
        refine ⟨fun _ => ?_, fun h5 => absurd rfl h5⟩
        conv => whnf
        try dsimp only
        exact ⟨trivial, ihj⟩
      · rw [hb] at hun
        have hun : leastI T q (z % 2) 0 (m + 1) v = nI v := hun
        have ihj := fin J2 (e1 + 1) (v + 1) (nI v) (nI v) (by omega) hJ2 (h3.tr hs2) (hun.symm.trans h4.symm) (Or.inl (ne_m9 (by omega))) (by omega)
        rw [nI_succ v] at ihj
        refine EV.at ck52 (by decide) 300 [] ?_
        conv => whnf
        try dsimp only
        refine ⟨fun h5 => absurd h5 (by decide), fun _ => ?_⟩
        conv => whnf
        try dsimp only
        exact ⟨trivial, ihj⟩
  refine MT.by ck52 (by decide) rfl (Nat.le_of_ble_eq_true rfl) rfl 300 [22] ?_
  conv => whnf
  try dsimp only
  refine ⟨by unfold vp_in; decide, ?_⟩
  conv => whnf
  try dsimp only
  have hl := loop 6 0 (I 14 1) J e (by omega) (by omega) hG (sameM.rf J) rfl
  rw [up_self] at hl
  rw [hm0.2.1]
  exact ⟨trivial, hl⟩
theorem c_least1 {z e : Nat} (hT : tOK T) (hM : tMem T I) (hX : EX I) (hm : fMem q I) (hv : vQ T q) (hz : z ≤ 40) (hI : I 12 5 = nI z) (hG : MG e J) (he : e + 20 < 2 ^ 30) (h : ∀ J' e', e' ≤ e + 6 → MG e' J' → sameM J J' → Q (some (.int (leastI T q (z % 2) 1 6 0))) (SH n, I, J')) : MT G (d + 40) 52 [.ref 31, .int (nI 1)] (SH n, I, J) Q := by
  have hm0 : sMem 15 (q 1) I := hm.2
  have back : ∀ x : Int32, upI (upI I 15 1 x) 15 1 (I 15 1) = I := fun x => up_back
  have fin : ∀ (J1 : Nat → Nat → Int64) (e1 v : Nat) (x y : Int32), e1 ≤ e + 6 → MG e1 J1 → sameM J J1 → y = leastI T q (z % 2) 1 6 0 → (¬ y = -9 ∨ v = 6) → v ≤ 6 → EV G 52 (d + 39) 0 0 22 [.ref 31, .int (nI 1), .ref 15, .int (nI (q 1).2.1), .int y, .int (nI v)] [] (SH n, upI I 15 1 x, J1) Q := by
    intro J1 e1 v x y h1 h2 h3 h4 h5 h6
    have hq := h J1 e1 h1 h2 h3
    rw [← h4] at hq
    have hfin : EV G 52 (d + 39) 0 0 64 [.ref 31, .int (nI 1), .ref 15, .int (nI (q 1).2.1), .int y, .int (nI v)] [] (SH n, upI I 15 1 x, J1) Q := by
      refine EV.at ck52 (by decide) 300 [] ?_
      conv => whnf
      try dsimp only
      rw [← hm0.2.1, back]
      exact ⟨trivial, hq⟩
    refine EV.at ck52 (by decide) 300 [64] ?_
    conv => whnf
    try dsimp only
    refine ⟨fun _ => ⟨trivial, hfin⟩, fun h7 => ?_⟩
    conv => whnf
    try dsimp only
    refine ⟨fun _ => ⟨trivial, hfin⟩, fun h8 => ?_⟩
    rcases h5 with h5 | h5
    · exact absurd h8 h5
    · rw [h5] at h7
      exact absurd (by decide) h7
  have loop : ∀ m v (x : Int32) (J1 : Nat → Nat → Int64) (e1 : Nat), v + m = 6 → e1 ≤ e + v → MG e1 J1 → sameM J J1 → leastI T q (z % 2) 1 6 0 = leastI T q (z % 2) 1 m v → EV G 52 (d + 39) 0 0 22 [.ref 31, .int (nI 1), .ref 15, .int (nI (q 1).2.1), .int (-9), .int (nI v)] [] (SH n, upI I 15 1 x, J1) Q := by
    intro m
    induction m with
    | zero =>
      intro v x J1 e1 hvm h1 h2 h3 h4
      exact fin J1 e1 v x (-9) (by omega) h2 h3 h4.symm (Or.inr (by omega)) (by omega)
    | succ m ih =>
      intro v x J1 e1 hvm h1 h2 h3 h4
      refine EV.at ck52 (by decide) 300 [] ?_
      conv => whnf
      try dsimp only
      refine ⟨fun h5 => absurd h5 (nI_nlt (show v ≤ 5 by omega) (by decide)), fun _ => ?_⟩
      conv => whnf
      try dsimp only
      refine ⟨fun h5 => absurd rfl h5, fun _ => ?_⟩
      conv => whnf
      try dsimp only
      rw [up_up]
      have hlo : ∀ r, r < 12 → upI I 15 1 (nI v) r = I r := fun r hr => upI_oth (by omega)
      refine ⟨trivial, c_isWonBy (q := setF q 1 v) (z := z) (by omega) hT (tMem_of hlo hM) (EX_of hlo hX) (fMem_setF1 hm) (vQ_setF1 hv (by omega)) hz (by rw [upI_oth (by decide)]; exact hI) h2 (by omega) (fun J2 hJ2 hs2 => ?_)⟩
      have hun : leastI T q (z % 2) 1 (m + 1) v = if wonN T (setF q 1 v) (z % 2) 1 then nI v else leastI T q (z % 2) 1 m (v + 1) := rfl
      cases hb : wonN T (setF q 1 v) (z % 2) 1
      · rw [hb] at hun
        have hun : leastI T q (z % 2) 1 (m + 1) v = leastI T q (z % 2) 1 m (v + 1) := hun
        have ihj := ih (v + 1) (nI v) J2 (e1 + 1) (by omega) (by omega) hJ2 (h3.tr hs2) (h4.trans hun)
        rw [nI_succ v] at ihj
        refine EV.at ck52 (by decide) 300 [] ?_
        conv => whnf
        try dsimp only
        refine ⟨fun _ => ?_, fun h5 => absurd rfl h5⟩
        conv => whnf
        try dsimp only
        exact ⟨trivial, ihj⟩
      · rw [hb] at hun
        have hun : leastI T q (z % 2) 1 (m + 1) v = nI v := hun
        have ihj := fin J2 (e1 + 1) (v + 1) (nI v) (nI v) (by omega) hJ2 (h3.tr hs2) (hun.symm.trans h4.symm) (Or.inl (ne_m9 (by omega))) (by omega)
        rw [nI_succ v] at ihj
        refine EV.at ck52 (by decide) 300 [] ?_
        conv => whnf
        try dsimp only
        refine ⟨fun h5 => absurd h5 (by decide), fun _ => ?_⟩
        conv => whnf
        try dsimp only
        exact ⟨trivial, ihj⟩
  refine MT.by ck52 (by decide) rfl (Nat.le_of_ble_eq_true rfl) rfl 300 [22] ?_
  conv => whnf
  try dsimp only
  refine ⟨by unfold vp_in; decide, ?_⟩
  conv => whnf
  try dsimp only
  have hl := loop 6 0 (I 15 1) J e (by omega) (by omega) hG (sameM.rf J) rfl
  rw [up_self] at hl
  rw [hm0.2.1]
  exact ⟨trivial, hl⟩
end
