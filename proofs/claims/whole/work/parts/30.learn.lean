/-! Search: what to learn, what is needed, the first CHANGE that wins -/
def firstI (P : Nat → Bool) : Nat → Nat → Int32
  | 0, _ => -9
  | m + 1, v => if P v then nI v else firstI P m (v + 1)
def orN (P : Nat → Bool) : Nat → Nat
  | 0 => 0
  | k + 1 => orN P k ||| (if P k then 2 ^ k else 0)
def learnP (T : TN) (q : Nat → SD) (who w k : Nat) : Bool := !((q w).2.2.2.testBit k) && wonN T (setK q w ((q w).2.2.2 ||| 2 ^ k)) who w
def learnI (T : TN) (q : Nat → SD) (who w : Nat) : Int32 := if wonN T q who w then -9 else firstI (learnP T q who w) (tC T) 0
def needP (T : TN) (q : Nat → SD) (who w k : Nat) : Bool := (q w).2.2.2.testBit k && !(wonN T (setK q w (clrN (q w).2.2.2 k)) who w)
def needN (T : TN) (q : Nat → SD) (who w : Nat) : Nat := if wonN T q who w then orN (needP T q who w) (tC T) else 0
def winP (T : TN) (q : Nat → SD) (w k : Nat) : Bool := canN T (q w) (q (1 - w)).1 k && decide (ends T (stepQ T q w k) (1 - w) % 2 = 0)
theorem fMem_setK0 {q : Nat → SD} {I : Nat → Nat → Int32} {v : Nat} (h : fMem q I) : fMem (setK q 0 v) (upI I 14 3 (nI v)) := ⟨⟨h.1.1, h.1.2.1, h.1.2.2.1, rfl⟩, sMem_oth h.2 (upI_oth (by decide))⟩
theorem fMem_setK1 {q : Nat → SD} {I : Nat → Nat → Int32} {v : Nat} (h : fMem q I) : fMem (setK q 1 v) (upI I 15 3 (nI v)) := ⟨sMem_oth h.1 (upI_oth (by decide)), ⟨h.2.1, h.2.2.1, h.2.2.2.1, rfl⟩⟩
theorem vQ_setK0 {T : TN} {q : Nat → SD} {v : Nat} (h : vQ T q) (hv : v < 4096) : vQ T (setK q 0 v) := ⟨⟨h.1.1, h.1.2.1, h.1.2.2.1, hv⟩, h.2⟩
theorem vQ_setK1 {T : TN} {q : Nat → SD} {v : Nat} (h : vQ T q) (hv : v < 4096) : vQ T (setK q 1 v) := ⟨h.1, ⟨h.2.1, h.2.2.1, h.2.2.2.1, hv⟩⟩
section
variable {G : GG} {d n : Nat} {I : Nat → Nat → Int32} {J : Nat → Nat → Int64} {Q : Option Value → MH → Prop} {T : TN} {q : Nat → SD}
theorem c_learn0 {z e : Nat} (hT : tOK T) (hM : tMem T I) (hX : EX I) (hm : fMem q I) (hv : vQ T q) (hz : z ≤ 40) (hI : I 12 5 = nI z) (hG : MG e J) (he : e + 20 < 2 ^ 30) (h : ∀ J' e', e' ≤ e + 13 → MG e' J' → sameM J J' → Q (some (.int (learnI T q (z % 2) 0))) (SH n, I, J')) : MT G (d + 40) 53 [.ref 31, .int (nI 0)] (SH n, I, J) Q := by
  have hm0 : sMem 14 (q 0) I := hm.1
  have t12 := hT.2.2.1
  have hC : I 6 3 = nI (tC T) := hM.2.2.1
  have hkn := hv.1.2.2.2
  have back : ∀ x : Int32, upI (upI I 14 3 x) 14 3 (I 14 3) = I := fun x => up_back
  have r6 : ∀ x : Int32, upI I 14 3 x 6 3 = nI (tC T) := fun x => by rw [upI_oth (by decide)]; exact hC
  refine MT.by ck53 (by decide) rfl (Nat.le_of_ble_eq_true rfl) rfl 300 [33] ?_
  conv => whnf
  try dsimp only
  refine ⟨trivial, c_isWonBy (z := z) (by omega) hT hM hX hm hv hz hI hG (by omega) (fun J0 hJ0 hs0 => ?_)⟩
  cases hwon : wonN T q (z % 2) 0
  case true =>
    have hq := h J0 (e + 1) (by omega) hJ0 hs0
    unfold learnI at hq
    rw [hwon] at hq
    refine EV.at ck53 (by decide) 300 [33] ?_
    conv => whnf
    try dsimp only
    refine ⟨fun h1 => absurd h1 (by decide), fun _ => ?_⟩
    conv => whnf
    try dsimp only
    exact ⟨trivial, hq⟩
  case false =>
    have hL : learnI T q (z % 2) 0 = firstI (learnP T q (z % 2) 0) (tC T) 0 := by unfold learnI; rw [hwon]; rfl
    rw [hL] at h
    have fin : ∀ (J1 : Nat → Nat → Int64) (e1 v : Nat) (x y : Int32), e1 ≤ e + 13 → MG e1 J1 → sameM J J1 → y = firstI (learnP T q (z % 2) 0) (tC T) 0 → (¬ y = -9 ∨ v = tC T) → v ≤ tC T → EV G 53 (d + 39) 0 0 33 [.ref 31, .int (nI 0), .ref 14, .int (nI (q 0).2.2.2), .int y, .int (nI v)] [] (SH n, upI I 14 3 x, J1) Q := by
      intro J1 e1 v x y h1 h2 h3 h4 h5 h6
      have hq := h J1 e1 h1 h2 h3
      rw [← h4] at hq
      have hfin : EV G 53 (d + 39) 0 0 94 [.ref 31, .int (nI 0), .ref 14, .int (nI (q 0).2.2.2), .int y, .int (nI v)] [] (SH n, upI I 14 3 x, J1) Q := by
        refine EV.at ck53 (by decide) 300 [] ?_
        conv => whnf
        try dsimp only
        rw [← hm0.2.2.2, back]
        exact ⟨trivial, hq⟩
      refine EV.at ck53 (by decide) 300 [94] ?_
      conv => whnf
      try dsimp only
      rw [r6]
      refine ⟨fun _ => ⟨trivial, hfin⟩, fun h7 => ?_⟩
      conv => whnf
      try dsimp only
      refine ⟨fun _ => ⟨trivial, hfin⟩, fun h8 => ?_⟩
      rcases h5 with h5 | h5
      · exact absurd h8 h5
      · rw [h5] at h7
        exact absurd (nI_le (Nat.le_refl _) (by omega)) h7
    have loop : ∀ m v (x : Int32) (J1 : Nat → Nat → Int64) (e1 : Nat), v + m = tC T → e1 ≤ e + 1 + v → MG e1 J1 → sameM J J1 → firstI (learnP T q (z % 2) 0) (tC T) 0 = firstI (learnP T q (z % 2) 0) m v → EV G 53 (d + 39) 0 0 33 [.ref 31, .int (nI 0), .ref 14, .int (nI (q 0).2.2.2), .int (-9), .int (nI v)] [] (SH n, upI I 14 3 x, J1) Q := by
      intro m
      induction m with
      | zero =>
        intro v x J1 e1 hvm h1 h2 h3 h4
        exact fin J1 e1 v x (-9) (by omega) h2 h3 h4.symm (Or.inr (by omega)) (by omega)
      | succ m ih =>
        intro v x J1 e1 hvm h1 h2 h3 h4
        have hun : firstI (learnP T q (z % 2) 0) (m + 1) v = if learnP T q (z % 2) 0 v then nI v else firstI (learnP T q (z % 2) 0) m (v + 1) := rfl
        have hbit := nu_bit (x := (q 0).2.2.2) (j := v) (by omega) (by omega)
        have hset : (q 0).2.2.2 ||| 2 ^ v < 4096 := Nat.or_lt_two_pow (n := 12) hkn (Nat.pow_lt_pow_right (by decide) (by omega))
        have next : ∀ (J2 : Nat → Nat → Int64) (e2 : Nat), e2 ≤ e + 1 + (v + 1) → MG e2 J2 → sameM J J2 → learnP T q (z % 2) 0 v = false → EV G 53 (d + 39) 0 0 33 [.ref 31, .int (nI 0), .ref 14, .int (nI (q 0).2.2.2), .int (-9), .int (nI v + 1)] [] (SH n, upI I 14 3 (nI ((q 0).2.2.2 ||| 2 ^ v)), J2) Q := by
          intro J2 e2 a1 a2 a3 a4
          rw [a4] at hun
          have ihj := ih (v + 1) (nI ((q 0).2.2.2 ||| 2 ^ v)) J2 e2 (by omega) a1 a2 a3 (h4.trans hun)
          rw [nI_succ v] at ihj
          exact ihj
        refine EV.at ck53 (by decide) 300 [] ?_
        conv => whnf
        try dsimp only
        rw [r6]
        refine ⟨fun h5 => absurd h5 (nI_ge (show v < tC T by omega) (by omega)), fun _ => ?_⟩
        conv => whnf
        try dsimp only
        refine ⟨fun h5 => absurd rfl h5, fun _ => ?_⟩
        conv => whnf
        try dsimp only
        rw [up_up, nu_one (show v < 31 by omega), fa_or]
        refine ⟨trivial, c_bit ?_⟩
        rw [hbit]
        cases hb : (q 0).2.2.2.testBit v
        · refine EV.at ck53 (by decide) 300 [] ?_
          conv => whnf
          try dsimp only
          refine ⟨fun h5 => absurd rfl h5, fun _ => ?_⟩
          conv => whnf
          try dsimp only
          have hlo : ∀ r, r < 12 → upI I 14 3 (nI ((q 0).2.2.2 ||| 2 ^ v)) r = I r := fun r hr => upI_oth (by omega)
          refine ⟨trivial, c_isWonBy (q := setK q 0 ((q 0).2.2.2 ||| 2 ^ v)) (z := z) (by omega) hT (tMem_of hlo hM) (EX_of hlo hX) (fMem_setK0 hm) (vQ_setK0 hv hset) hz (by rw [upI_oth (by decide)]; exact hI) h2 (by omega) (fun J2 hJ2 hs2 => ?_)⟩
          cases hb2 : wonN T (setK q 0 ((q 0).2.2.2 ||| 2 ^ v)) (z % 2) 0
          · have hn := next J2 (e1 + 1) (by omega) hJ2 (h3.tr hs2) (by unfold learnP; rw [hb, hb2]; rfl)
            refine EV.at ck53 (by decide) 300 [] ?_
            conv => whnf
            try dsimp only
            refine ⟨fun _ => ?_, fun h5 => absurd rfl h5⟩
            conv => whnf
            try dsimp only
            exact ⟨trivial, hn⟩
          · have hp : learnP T q (z % 2) 0 v = true := by unfold learnP; rw [hb, hb2]; rfl
            rw [hp] at hun
            have hun : firstI (learnP T q (z % 2) 0) (m + 1) v = nI v := hun
            have hn := fin J2 (e1 + 1) (v + 1) (nI ((q 0).2.2.2 ||| 2 ^ v)) (nI v) (by omega) hJ2 (h3.tr hs2) (hun.symm.trans h4.symm) (Or.inl (ne_m9 (by omega))) (by omega)
            rw [nI_succ v] at hn
            refine EV.at ck53 (by decide) 300 [] ?_
            conv => whnf
            try dsimp only
            refine ⟨fun h5 => absurd h5 (by decide), fun _ => ?_⟩
            conv => whnf
            try dsimp only
            exact ⟨trivial, hn⟩
        · have hn := next J1 e1 (by omega) h2 h3 (by unfold learnP; rw [hb]; rfl)
          refine EV.at ck53 (by decide) 300 [] ?_
          conv => whnf
          try dsimp only
          refine ⟨fun _ => ?_, fun h5 => absurd h5 (by decide)⟩
          conv => whnf
          try dsimp only
          exact ⟨trivial, hn⟩
    refine EV.at ck53 (by decide) 300 [33] ?_
    conv => whnf
    try dsimp only
    refine ⟨fun _ => ?_, fun h5 => absurd rfl h5⟩
    conv => whnf
    try dsimp only
    refine ⟨by unfold vp_in; decide, ?_⟩
    conv => whnf
    try dsimp only
    have hl := loop (tC T) 0 (I 14 3) J0 (e + 1) (by omega) (by omega) hJ0 hs0 rfl
    rw [up_self] at hl
    rw [hm0.2.2.2]
    exact ⟨trivial, hl⟩
theorem c_learn1 {z e : Nat} (hT : tOK T) (hM : tMem T I) (hX : EX I) (hm : fMem q I) (hv : vQ T q) (hz : z ≤ 40) (hI : I 12 5 = nI z) (hG : MG e J) (he : e + 20 < 2 ^ 30) (h : ∀ J' e', e' ≤ e + 13 → MG e' J' → sameM J J' → Q (some (.int (learnI T q (z % 2) 1))) (SH n, I, J')) : MT G (d + 40) 53 [.ref 31, .int (nI 1)] (SH n, I, J) Q := by
  have hm0 : sMem 15 (q 1) I := hm.2
  have t12 := hT.2.2.1
  have hC : I 6 3 = nI (tC T) := hM.2.2.1
  have hkn := hv.2.2.2.2
  have back : ∀ x : Int32, upI (upI I 15 3 x) 15 3 (I 15 3) = I := fun x => up_back
  have r6 : ∀ x : Int32, upI I 15 3 x 6 3 = nI (tC T) := fun x => by rw [upI_oth (by decide)]; exact hC
  refine MT.by ck53 (by decide) rfl (Nat.le_of_ble_eq_true rfl) rfl 300 [33] ?_
  conv => whnf
  try dsimp only
  refine ⟨trivial, c_isWonBy (z := z) (by omega) hT hM hX hm hv hz hI hG (by omega) (fun J0 hJ0 hs0 => ?_)⟩
  cases hwon : wonN T q (z % 2) 1
  case true =>
    have hq := h J0 (e + 1) (by omega) hJ0 hs0
    unfold learnI at hq
    rw [hwon] at hq
    refine EV.at ck53 (by decide) 300 [33] ?_
    conv => whnf
    try dsimp only
    refine ⟨fun h1 => absurd h1 (by decide), fun _ => ?_⟩
    conv => whnf
    try dsimp only
    exact ⟨trivial, hq⟩
  case false =>
    have hL : learnI T q (z % 2) 1 = firstI (learnP T q (z % 2) 1) (tC T) 0 := by unfold learnI; rw [hwon]; rfl
    rw [hL] at h
    have fin : ∀ (J1 : Nat → Nat → Int64) (e1 v : Nat) (x y : Int32), e1 ≤ e + 13 → MG e1 J1 → sameM J J1 → y = firstI (learnP T q (z % 2) 1) (tC T) 0 → (¬ y = -9 ∨ v = tC T) → v ≤ tC T → EV G 53 (d + 39) 0 0 33 [.ref 31, .int (nI 1), .ref 15, .int (nI (q 1).2.2.2), .int y, .int (nI v)] [] (SH n, upI I 15 3 x, J1) Q := by
      intro J1 e1 v x y h1 h2 h3 h4 h5 h6
      have hq := h J1 e1 h1 h2 h3
      rw [← h4] at hq
      have hfin : EV G 53 (d + 39) 0 0 94 [.ref 31, .int (nI 1), .ref 15, .int (nI (q 1).2.2.2), .int y, .int (nI v)] [] (SH n, upI I 15 3 x, J1) Q := by
        refine EV.at ck53 (by decide) 300 [] ?_
        conv => whnf
        try dsimp only
        rw [← hm0.2.2.2, back]
        exact ⟨trivial, hq⟩
      refine EV.at ck53 (by decide) 300 [94] ?_
      conv => whnf
      try dsimp only
      rw [r6]
      refine ⟨fun _ => ⟨trivial, hfin⟩, fun h7 => ?_⟩
      conv => whnf
      try dsimp only
      refine ⟨fun _ => ⟨trivial, hfin⟩, fun h8 => ?_⟩
      rcases h5 with h5 | h5
      · exact absurd h8 h5
      · rw [h5] at h7
        exact absurd (nI_le (Nat.le_refl _) (by omega)) h7
    have loop : ∀ m v (x : Int32) (J1 : Nat → Nat → Int64) (e1 : Nat), v + m = tC T → e1 ≤ e + 1 + v → MG e1 J1 → sameM J J1 → firstI (learnP T q (z % 2) 1) (tC T) 0 = firstI (learnP T q (z % 2) 1) m v → EV G 53 (d + 39) 0 0 33 [.ref 31, .int (nI 1), .ref 15, .int (nI (q 1).2.2.2), .int (-9), .int (nI v)] [] (SH n, upI I 15 3 x, J1) Q := by
      intro m
      induction m with
      | zero =>
        intro v x J1 e1 hvm h1 h2 h3 h4
        exact fin J1 e1 v x (-9) (by omega) h2 h3 h4.symm (Or.inr (by omega)) (by omega)
      | succ m ih =>
        intro v x J1 e1 hvm h1 h2 h3 h4
        have hun : firstI (learnP T q (z % 2) 1) (m + 1) v = if learnP T q (z % 2) 1 v then nI v else firstI (learnP T q (z % 2) 1) m (v + 1) := rfl
        have hbit := nu_bit (x := (q 1).2.2.2) (j := v) (by omega) (by omega)
        have hset : (q 1).2.2.2 ||| 2 ^ v < 4096 := Nat.or_lt_two_pow (n := 12) hkn (Nat.pow_lt_pow_right (by decide) (by omega))
        have next : ∀ (J2 : Nat → Nat → Int64) (e2 : Nat), e2 ≤ e + 1 + (v + 1) → MG e2 J2 → sameM J J2 → learnP T q (z % 2) 1 v = false → EV G 53 (d + 39) 0 0 33 [.ref 31, .int (nI 1), .ref 15, .int (nI (q 1).2.2.2), .int (-9), .int (nI v + 1)] [] (SH n, upI I 15 3 (nI ((q 1).2.2.2 ||| 2 ^ v)), J2) Q := by
          intro J2 e2 a1 a2 a3 a4
          rw [a4] at hun
          have ihj := ih (v + 1) (nI ((q 1).2.2.2 ||| 2 ^ v)) J2 e2 (by omega) a1 a2 a3 (h4.trans hun)
          rw [nI_succ v] at ihj
          exact ihj
        refine EV.at ck53 (by decide) 300 [] ?_
        conv => whnf
        try dsimp only
        rw [r6]
        refine ⟨fun h5 => absurd h5 (nI_ge (show v < tC T by omega) (by omega)), fun _ => ?_⟩
        conv => whnf
        try dsimp only
        refine ⟨fun h5 => absurd rfl h5, fun _ => ?_⟩
        conv => whnf
        try dsimp only
        rw [up_up, nu_one (show v < 31 by omega), fa_or]
        refine ⟨trivial, c_bit ?_⟩
        rw [hbit]
        cases hb : (q 1).2.2.2.testBit v
        · refine EV.at ck53 (by decide) 300 [] ?_
          conv => whnf
          try dsimp only
          refine ⟨fun h5 => absurd rfl h5, fun _ => ?_⟩
          conv => whnf
          try dsimp only
          have hlo : ∀ r, r < 12 → upI I 15 3 (nI ((q 1).2.2.2 ||| 2 ^ v)) r = I r := fun r hr => upI_oth (by omega)
          refine ⟨trivial, c_isWonBy (q := setK q 1 ((q 1).2.2.2 ||| 2 ^ v)) (z := z) (by omega) hT (tMem_of hlo hM) (EX_of hlo hX) (fMem_setK1 hm) (vQ_setK1 hv hset) hz (by rw [upI_oth (by decide)]; exact hI) h2 (by omega) (fun J2 hJ2 hs2 => ?_)⟩
          cases hb2 : wonN T (setK q 1 ((q 1).2.2.2 ||| 2 ^ v)) (z % 2) 1
          · have hn := next J2 (e1 + 1) (by omega) hJ2 (h3.tr hs2) (by unfold learnP; rw [hb, hb2]; rfl)
            refine EV.at ck53 (by decide) 300 [] ?_
            conv => whnf
            try dsimp only
            refine ⟨fun _ => ?_, fun h5 => absurd rfl h5⟩
            conv => whnf
            try dsimp only
            exact ⟨trivial, hn⟩
          · have hp : learnP T q (z % 2) 1 v = true := by unfold learnP; rw [hb, hb2]; rfl
            rw [hp] at hun
            have hun : firstI (learnP T q (z % 2) 1) (m + 1) v = nI v := hun
            have hn := fin J2 (e1 + 1) (v + 1) (nI ((q 1).2.2.2 ||| 2 ^ v)) (nI v) (by omega) hJ2 (h3.tr hs2) (hun.symm.trans h4.symm) (Or.inl (ne_m9 (by omega))) (by omega)
            rw [nI_succ v] at hn
            refine EV.at ck53 (by decide) 300 [] ?_
            conv => whnf
            try dsimp only
            refine ⟨fun h5 => absurd h5 (by decide), fun _ => ?_⟩
            conv => whnf
            try dsimp only
            exact ⟨trivial, hn⟩
        · have hn := next J1 e1 (by omega) h2 h3 (by unfold learnP; rw [hb]; rfl)
          refine EV.at ck53 (by decide) 300 [] ?_
          conv => whnf
          try dsimp only
          refine ⟨fun _ => ?_, fun h5 => absurd h5 (by decide)⟩
          conv => whnf
          try dsimp only
          exact ⟨trivial, hn⟩
    refine EV.at ck53 (by decide) 300 [33] ?_
    conv => whnf
    try dsimp only
    refine ⟨fun _ => ?_, fun h5 => absurd rfl h5⟩
    conv => whnf
    try dsimp only
    refine ⟨by unfold vp_in; decide, ?_⟩
    conv => whnf
    try dsimp only
    have hl := loop (tC T) 0 (I 15 3) J0 (e + 1) (by omega) (by omega) hJ0 hs0 rfl
    rw [up_self] at hl
    rw [hm0.2.2.2]
    exact ⟨trivial, hl⟩
theorem c_need0 {z e : Nat} (hT : tOK T) (hM : tMem T I) (hX : EX I) (hm : fMem q I) (hv : vQ T q) (hz : z ≤ 40) (hI : I 12 5 = nI z) (hG : MG e J) (he : e + 20 < 2 ^ 30) (h : ∀ J' e', e' ≤ e + 13 → MG e' J' → sameM J J' → Q (some (.int (nI (needN T q (z % 2) 0)))) (SH n, I, J')) : MT G (d + 40) 54 [.ref 31, .int (nI 0)] (SH n, I, J) Q := by
  have hm0 : sMem 14 (q 0) I := hm.1
  have t12 := hT.2.2.1
  have hC : I 6 3 = nI (tC T) := hM.2.2.1
  have hkn := hv.1.2.2.2
  have back : ∀ x : Int32, upI (upI I 14 3 x) 14 3 (I 14 3) = I := fun x => up_back
  have r6 : ∀ x : Int32, upI I 14 3 x 6 3 = nI (tC T) := fun x => by rw [upI_oth (by decide)]; exact hC
  refine MT.by ck54 (by decide) rfl (Nat.le_of_ble_eq_true rfl) rfl 300 [31] ?_
  conv => whnf
  try dsimp only
  refine ⟨trivial, c_isWonBy (z := z) (by omega) hT hM hX hm hv hz hI hG (by omega) (fun J0 hJ0 hs0 => ?_)⟩
  cases hwon : wonN T q (z % 2) 0
  case false =>
    have hq := h J0 (e + 1) (by omega) hJ0 hs0
    unfold needN at hq
    rw [hwon] at hq
    refine EV.at ck54 (by decide) 300 [31] ?_
    conv => whnf
    try dsimp only
    refine ⟨fun h1 => absurd rfl h1, fun _ => ?_⟩
    conv => whnf
    try dsimp only
    exact ⟨trivial, hq⟩
  case true =>
    have hL : needN T q (z % 2) 0 = orN (needP T q (z % 2) 0) (tC T) := by unfold needN; rw [hwon]; rfl
    rw [hL] at h
    have loop : ∀ m v (x : Int32) (J1 : Nat → Nat → Int64) (e1 : Nat), v + m = tC T → e1 ≤ e + 1 + v → MG e1 J1 → sameM J J1 → EV G 54 (d + 39) 0 0 31 [.ref 31, .int (nI 0), .ref 14, .int (nI (q 0).2.2.2), .int (nI (orN (needP T q (z % 2) 0) v)), .int (nI v)] [] (SH n, upI I 14 3 x, J1) Q := by
      intro m
      induction m with
      | zero =>
        intro v x J1 e1 hvm h1 h2 h3
        have hvm : v = tC T := hvm
        have hq := h J1 e1 (by omega) h2 h3
        rw [← hvm] at hq
        refine EV.at ck54 (by decide) 300 [] ?_
        conv => whnf
        try dsimp only
        rw [r6, ← hvm]
        refine ⟨fun _ => ?_, fun h1 => absurd (nI_le (Nat.le_refl v) (by omega)) h1⟩
        conv => whnf
        try dsimp only
        rw [← hm0.2.2.2, back]
        exact ⟨trivial, hq⟩
      | succ m ih =>
        intro v x J1 e1 hvm h1 h2 h3
        have hun : orN (needP T q (z % 2) 0) (v + 1) = orN (needP T q (z % 2) 0) v ||| (if needP T q (z % 2) 0 v then 2 ^ v else 0) := rfl
        have hbit := nu_bit (x := (q 0).2.2.2) (j := v) (by omega) (by omega)
        have hset : clrN (q 0).2.2.2 v < 4096 := clrN_lt (b := 12) hkn (by omega)
        have next : ∀ (J2 : Nat → Nat → Int64) (e2 : Nat), e2 ≤ e + 1 + (v + 1) → MG e2 J2 → sameM J J2 → needP T q (z % 2) 0 v = false → EV G 54 (d + 39) 0 0 31 [.ref 31, .int (nI 0), .ref 14, .int (nI (q 0).2.2.2), .int (nI (orN (needP T q (z % 2) 0) v) ||| 0), .int (nI v + 1)] [] (SH n, upI I 14 3 (nI (clrN (q 0).2.2.2 v)), J2) Q := by
          intro J2 e2 a1 a2 a3 a4
          rw [a4] at hun
          have ihj := ih (v + 1) (nI (clrN (q 0).2.2.2 v)) J2 e2 (by omega) a1 a2 a3
          have e5 : nI (orN (needP T q (z % 2) 0) v) ||| 0 = nI (orN (needP T q (z % 2) 0) (v + 1)) := by rw [hun]; exact fa_or _ 0
          rw [nI_succ v, ← e5] at ihj
          exact ihj
        refine EV.at ck54 (by decide) 300 [] ?_
        conv => whnf
        try dsimp only
        rw [r6]
        refine ⟨fun h5 => absurd h5 (nI_ge (show v < tC T by omega) (by omega)), fun _ => ?_⟩
        conv => whnf
        try dsimp only
        rw [up_up, nu_clr (show v < 31 by omega)]
        refine ⟨trivial, c_bit ?_⟩
        rw [hbit]
        cases hb : (q 0).2.2.2.testBit v
        · have hn := next J1 e1 (by omega) h2 h3 (by unfold needP; rw [hb]; rfl)
          refine EV.at ck54 (by decide) 300 [] ?_
          conv => whnf
          try dsimp only
          refine ⟨fun _ => ?_, fun h5 => absurd h5 (by decide)⟩
          conv => whnf
          try dsimp only
          exact ⟨trivial, hn⟩
        · refine EV.at ck54 (by decide) 300 [] ?_
          conv => whnf
          try dsimp only
          refine ⟨fun h5 => absurd rfl h5, fun _ => ?_⟩
          conv => whnf
          try dsimp only
          have hlo : ∀ r, r < 12 → upI I 14 3 (nI (clrN (q 0).2.2.2 v)) r = I r := fun r hr => upI_oth (by omega)
          refine ⟨trivial, c_isWonBy (q := setK q 0 (clrN (q 0).2.2.2 v)) (z := z) (by omega) hT (tMem_of hlo hM) (EX_of hlo hX) (fMem_setK0 hm) (vQ_setK0 hv hset) hz (by rw [upI_oth (by decide)]; exact hI) h2 (by omega) (fun J2 hJ2 hs2 => ?_)⟩
          cases hb2 : wonN T (setK q 0 (clrN (q 0).2.2.2 v)) (z % 2) 0
          · have hp : needP T q (z % 2) 0 v = true := by unfold needP; rw [hb, hb2]; rfl
            rw [hp] at hun
            have ihj := ih (v + 1) (nI (clrN (q 0).2.2.2 v)) J2 (e1 + 1) (by omega) (by omega) hJ2 (h3.tr hs2)
            have e5 : nI (orN (needP T q (z % 2) 0) v) ||| jshl 1 (nI v) = nI (orN (needP T q (z % 2) 0) (v + 1)) := by rw [hun, nu_one (show v < 31 by omega)]; exact fa_or _ _
            rw [nI_succ v, ← e5] at ihj
            refine EV.at ck54 (by decide) 300 [] ?_
            conv => whnf
            try dsimp only
            refine ⟨fun h5 => absurd rfl h5, fun _ => ?_⟩
            conv => whnf
            try dsimp only
            exact ⟨trivial, ihj⟩
          · have hn := next J2 (e1 + 1) (by omega) hJ2 (h3.tr hs2) (by unfold needP; rw [hb, hb2]; rfl)
            refine EV.at ck54 (by decide) 300 [] ?_
            conv => whnf
            try dsimp only
            refine ⟨fun _ => ?_, fun h5 => absurd h5 (by decide)⟩
            conv => whnf
            try dsimp only
            exact ⟨trivial, hn⟩
    refine EV.at ck54 (by decide) 300 [31] ?_
    conv => whnf
    try dsimp only
    refine ⟨fun _ => ?_, fun h5 => absurd h5 (by decide)⟩
    conv => whnf
    try dsimp only
    refine ⟨by unfold vp_in; decide, ?_⟩
    conv => whnf
    try dsimp only
    have hl := loop (tC T) 0 (I 14 3) J0 (e + 1) (by omega) (by omega) hJ0 hs0
    rw [up_self] at hl
    rw [hm0.2.2.2]
    exact ⟨trivial, hl⟩
theorem c_need1 {z e : Nat} (hT : tOK T) (hM : tMem T I) (hX : EX I) (hm : fMem q I) (hv : vQ T q) (hz : z ≤ 40) (hI : I 12 5 = nI z) (hG : MG e J) (he : e + 20 < 2 ^ 30) (h : ∀ J' e', e' ≤ e + 13 → MG e' J' → sameM J J' → Q (some (.int (nI (needN T q (z % 2) 1)))) (SH n, I, J')) : MT G (d + 40) 54 [.ref 31, .int (nI 1)] (SH n, I, J) Q := by
  have hm0 : sMem 15 (q 1) I := hm.2
  have t12 := hT.2.2.1
  have hC : I 6 3 = nI (tC T) := hM.2.2.1
  have hkn := hv.2.2.2.2
  have back : ∀ x : Int32, upI (upI I 15 3 x) 15 3 (I 15 3) = I := fun x => up_back
  have r6 : ∀ x : Int32, upI I 15 3 x 6 3 = nI (tC T) := fun x => by rw [upI_oth (by decide)]; exact hC
  refine MT.by ck54 (by decide) rfl (Nat.le_of_ble_eq_true rfl) rfl 300 [31] ?_
  conv => whnf
  try dsimp only
  refine ⟨trivial, c_isWonBy (z := z) (by omega) hT hM hX hm hv hz hI hG (by omega) (fun J0 hJ0 hs0 => ?_)⟩
  cases hwon : wonN T q (z % 2) 1
  case false =>
    have hq := h J0 (e + 1) (by omega) hJ0 hs0
    unfold needN at hq
    rw [hwon] at hq
    refine EV.at ck54 (by decide) 300 [31] ?_
    conv => whnf
    try dsimp only
    refine ⟨fun h1 => absurd rfl h1, fun _ => ?_⟩
    conv => whnf
    try dsimp only
    exact ⟨trivial, hq⟩
  case true =>
    have hL : needN T q (z % 2) 1 = orN (needP T q (z % 2) 1) (tC T) := by unfold needN; rw [hwon]; rfl
    rw [hL] at h
    have loop : ∀ m v (x : Int32) (J1 : Nat → Nat → Int64) (e1 : Nat), v + m = tC T → e1 ≤ e + 1 + v → MG e1 J1 → sameM J J1 → EV G 54 (d + 39) 0 0 31 [.ref 31, .int (nI 1), .ref 15, .int (nI (q 1).2.2.2), .int (nI (orN (needP T q (z % 2) 1) v)), .int (nI v)] [] (SH n, upI I 15 3 x, J1) Q := by
      intro m
      induction m with
      | zero =>
        intro v x J1 e1 hvm h1 h2 h3
        have hvm : v = tC T := hvm
        have hq := h J1 e1 (by omega) h2 h3
        rw [← hvm] at hq
        refine EV.at ck54 (by decide) 300 [] ?_
        conv => whnf
        try dsimp only
        rw [r6, ← hvm]
        refine ⟨fun _ => ?_, fun h1 => absurd (nI_le (Nat.le_refl v) (by omega)) h1⟩
        conv => whnf
        try dsimp only
        rw [← hm0.2.2.2, back]
        exact ⟨trivial, hq⟩
      | succ m ih =>
        intro v x J1 e1 hvm h1 h2 h3
        have hun : orN (needP T q (z % 2) 1) (v + 1) = orN (needP T q (z % 2) 1) v ||| (if needP T q (z % 2) 1 v then 2 ^ v else 0) := rfl
        have hbit := nu_bit (x := (q 1).2.2.2) (j := v) (by omega) (by omega)
        have hset : clrN (q 1).2.2.2 v < 4096 := clrN_lt (b := 12) hkn (by omega)
        have next : ∀ (J2 : Nat → Nat → Int64) (e2 : Nat), e2 ≤ e + 1 + (v + 1) → MG e2 J2 → sameM J J2 → needP T q (z % 2) 1 v = false → EV G 54 (d + 39) 0 0 31 [.ref 31, .int (nI 1), .ref 15, .int (nI (q 1).2.2.2), .int (nI (orN (needP T q (z % 2) 1) v) ||| 0), .int (nI v + 1)] [] (SH n, upI I 15 3 (nI (clrN (q 1).2.2.2 v)), J2) Q := by
          intro J2 e2 a1 a2 a3 a4
          rw [a4] at hun
          have ihj := ih (v + 1) (nI (clrN (q 1).2.2.2 v)) J2 e2 (by omega) a1 a2 a3
          have e5 : nI (orN (needP T q (z % 2) 1) v) ||| 0 = nI (orN (needP T q (z % 2) 1) (v + 1)) := by rw [hun]; exact fa_or _ 0
          rw [nI_succ v, ← e5] at ihj
          exact ihj
        refine EV.at ck54 (by decide) 300 [] ?_
        conv => whnf
        try dsimp only
        rw [r6]
        refine ⟨fun h5 => absurd h5 (nI_ge (show v < tC T by omega) (by omega)), fun _ => ?_⟩
        conv => whnf
        try dsimp only
        rw [up_up, nu_clr (show v < 31 by omega)]
        refine ⟨trivial, c_bit ?_⟩
        rw [hbit]
        cases hb : (q 1).2.2.2.testBit v
        · have hn := next J1 e1 (by omega) h2 h3 (by unfold needP; rw [hb]; rfl)
          refine EV.at ck54 (by decide) 300 [] ?_
          conv => whnf
          try dsimp only
          refine ⟨fun _ => ?_, fun h5 => absurd h5 (by decide)⟩
          conv => whnf
          try dsimp only
          exact ⟨trivial, hn⟩
        · refine EV.at ck54 (by decide) 300 [] ?_
          conv => whnf
          try dsimp only
          refine ⟨fun h5 => absurd rfl h5, fun _ => ?_⟩
          conv => whnf
          try dsimp only
          have hlo : ∀ r, r < 12 → upI I 15 3 (nI (clrN (q 1).2.2.2 v)) r = I r := fun r hr => upI_oth (by omega)
          refine ⟨trivial, c_isWonBy (q := setK q 1 (clrN (q 1).2.2.2 v)) (z := z) (by omega) hT (tMem_of hlo hM) (EX_of hlo hX) (fMem_setK1 hm) (vQ_setK1 hv hset) hz (by rw [upI_oth (by decide)]; exact hI) h2 (by omega) (fun J2 hJ2 hs2 => ?_)⟩
          cases hb2 : wonN T (setK q 1 (clrN (q 1).2.2.2 v)) (z % 2) 1
          · have hp : needP T q (z % 2) 1 v = true := by unfold needP; rw [hb, hb2]; rfl
            rw [hp] at hun
            have ihj := ih (v + 1) (nI (clrN (q 1).2.2.2 v)) J2 (e1 + 1) (by omega) (by omega) hJ2 (h3.tr hs2)
            have e5 : nI (orN (needP T q (z % 2) 1) v) ||| jshl 1 (nI v) = nI (orN (needP T q (z % 2) 1) (v + 1)) := by rw [hun, nu_one (show v < 31 by omega)]; exact fa_or _ _
            rw [nI_succ v, ← e5] at ihj
            refine EV.at ck54 (by decide) 300 [] ?_
            conv => whnf
            try dsimp only
            refine ⟨fun h5 => absurd rfl h5, fun _ => ?_⟩
            conv => whnf
            try dsimp only
            exact ⟨trivial, ihj⟩
          · have hn := next J2 (e1 + 1) (by omega) hJ2 (h3.tr hs2) (by unfold needP; rw [hb, hb2]; rfl)
            refine EV.at ck54 (by decide) 300 [] ?_
            conv => whnf
            try dsimp only
            refine ⟨fun _ => ?_, fun h5 => absurd h5 (by decide)⟩
            conv => whnf
            try dsimp only
            exact ⟨trivial, hn⟩
    refine EV.at ck54 (by decide) 300 [31] ?_
    conv => whnf
    try dsimp only
    refine ⟨fun _ => ?_, fun h5 => absurd h5 (by decide)⟩
    conv => whnf
    try dsimp only
    refine ⟨by unfold vp_in; decide, ?_⟩
    conv => whnf
    try dsimp only
    have hl := loop (tC T) 0 (I 15 3) J0 (e + 1) (by omega) (by omega) hJ0 hs0
    rw [up_self] at hl
    rw [hm0.2.2.2]
    exact ⟨trivial, hl⟩
theorem c_firstWinning {z e : Nat} (hT : tOK T) (hM : tMem T I) (hX : EX I) (hm : fMem q I) (hv : vQ T q) (hz : z ≤ 40) (hI : I 12 5 = nI z) (hG : MG e J) (he : e + 1 < 2 ^ 30) (h : ∀ J', MG (e + 1) J' → sameM J J' → Q (some (.int (firstI (winP T q (z % 2)) (tC T) 0))) (SH n, I, J')) : MT G (d + 40) 48 [.ref 31] (SH n, I, J) Q := by
  have t12 := hT.2.2.1
  have hC : I 6 3 = nI (tC T) := hM.2.2.1
  have hz2 : z % 2 < 2 := Nat.mod_lt _ (by decide)
  generalize hw : z % 2 = w at h hz2
  have loop : ∀ m j J1 (z3 : Value), isDm z3 = true ∨ (∃ y, z3 = .int y) → j + m = tC T → MIv T (Ve T) (q 0).2.2.2 (q 1).2.2.2 (e + 1) J1 → sameM J J1 → firstI (winP T q w) (tC T) 0 = firstI (winP T q w) m j → EV G 48 (d + 39) 0 0 17 [.ref 31, .int (nI w), .int (nI j), z3] [] (SH n, I, J1) Q := by
    intro m
    induction m with
    | zero =>
      intro j J1 z3 hz3 hj h1 h2 h3
      have hj : j = tC T := hj
      have hq := h J1 h1.mg h2
      rw [h3] at hq
      refine EV.at ck48 (by decide) 300 [] ?_
      conv => whnf
      try dsimp only
      rw [hC, ← hj]
      refine ⟨fun _ => ?_, fun h1 => absurd (nI_le (Nat.le_refl j) (by omega)) h1⟩
      conv => whnf
      try dsimp only
      exact ⟨trivial, hq⟩
    | succ m ih =>
      intro j J1 z3 hz3 hj h1 h2 h3
      have hjc : j < tC T := by omega
      have hun : firstI (winP T q w) (m + 1) j = if winP T q w j then nI j else firstI (winP T q w) m (j + 1) := rfl
      have next : ∀ J2 (y : Int32), MIv T (Ve T) (q 0).2.2.2 (q 1).2.2.2 (e + 1) J2 → sameM J J2 → winP T q w j = false → EV G 48 (d + 39) 0 0 17 [.ref 31, .int (nI w), .int (nI j + 1), .int y] [] (SH n, I, J2) Q := by
        intro J2 y a1 a2 a3
        rw [a3] at hun
        have ihj := ih (j + 1) J2 (.int y) (Or.inr ⟨y, rfl⟩) (by omega) a1 a2 (h3.trans hun)
        rw [nI_succ j] at ihj
        exact ihj
      refine EV.at ck48 (by decide) 300 [] ?_
      conv => whnf
      try dsimp only
      rw [hC]
      refine ⟨fun h5 => absurd h5 (nI_ge hjc (by omega)), fun _ => ?_⟩
      conv => whnf
      try dsimp only
      refine ⟨trivial, c_takes hz2 hT hM hm hv.1 hv.2 hX hjc ?_⟩
      have tl := takes_lt (q := q w) (o := (q (1 - w)).1) hT hjc
      cases hb : canN T (q w) (q (1 - w)).1 j
      · have ht : takesN T (q w) (q (1 - w)).1 j = 0 := by unfold takesN; rw [hb]; rfl
        rw [ht]
        have hn := next J1 (nI 0) h1 h2 (by unfold winP; rw [hb]; rfl)
        refine EV.at ck48 (by decide) 300 [] ?_
        conv => whnf
        try dsimp only
        refine ⟨fun _ => ?_, fun h5 => absurd (by decide) h5⟩
        conv => whnf
        try dsimp only
        exact ⟨trivial, hn⟩
      · have ht : 0 < takesN T (q w) (q (1 - w)).1 j := takes_pos.mpr hb
        refine EV.at ck48 (by decide) 300 [] ?_
        conv => whnf
        try dsimp only
        refine ⟨fun h5 => absurd h5 (nI_nle ht (by omega)), fun _ => ?_⟩
        conv => whnf
        try dsimp only
        have hle : ends T (stepQ T q w j) (1 - w) ≤ 10 := endsF_le T 10 _ _
        refine ⟨trivial, EBh_of hT (EIn_all hT 9 1 rfl) (d + 39) I J1 _ q w j (by omega) hM hX hm hv rfl rfl hz2 h1 (fsum_le hv) hjc hb (fun J2 hJ2 hs2 => ?_)⟩
        have hs3 : sameM J J2 := h2.tr (fun x a b c => hs2 x b c)
        have hodd := odd_nI (a := ends T (stepQ T q w j) (1 - w)) (by omega)
        have e1 := nu_a1 (x := ends T (stepQ T q w j) (1 - w)) (by omega)
        refine EV.at ck48 (by decide) 300 [] ?_
        conv => whnf
        try dsimp only
        rw [e1]
        refine ⟨fun h5 => ?_, fun h5 => ?_⟩
        · have hn := next J2 (nI (takesN T (q w) (q (1 - w)).1 j)) hJ2 hs3 (by unfold winP; rw [hb, decide_eq_false (fun y => h5 (by rw [y]; rfl))]; rfl)
          conv => whnf
          try dsimp only
          exact ⟨trivial, hn⟩
        · have h6 : ends T (stepQ T q w j) (1 - w) % 2 = 0 := (nI_eq (b := 0) (by omega) (by decide)).mp h5
          have hp : winP T q w j = true := by unfold winP; rw [hb, decide_eq_true h6]; rfl
          rw [hp] at hun
          have hq := h J2 hJ2.mg hs3
          rw [h3, hun] at hq
          conv => whnf
          try dsimp only
          exact ⟨trivial, hq⟩
  refine MT.by ck48 (by decide) rfl (Nat.le_of_ble_eq_true rfl) rfl 300 [17] ?_
  conv => whnf
  try dsimp only
  refine ⟨trivial, c_forget ?_⟩
  refine EV.at ck48 (by decide) 300 [17] ?_
  conv => whnf
  try dsimp only
  refine ⟨trivial, c_mover hz hI ?_⟩
  rw [hw]
  refine EV.at ck48 (by decide) 300 [17] ?_
  conv => whnf
  try dsimp only
  exact ⟨trivial, loop (tC T) 0 _ dm (Or.inl rfl) (by omega) (hG.next he) (fun x a b c => upL_oth a) rfl⟩
end
