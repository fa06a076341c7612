/-! a TEXT read: what both readers find; the class's Reader (cell 19; draft 20 to 25; 26, 27 the fighters) -/
/-- place, table, how many fighters, their shapes, their fires -/
abbrev PS : Type := Nat × TN × Nat × (Nat → Nat) × (Nat → Nat)
def fgN (sz : Nat) (tx : Nat → Int32) (p lo hi : Nat) : Option Nat := if p < sz ∧ nI lo ≤ tx p - 48 ∧ tx p - 48 ≤ nI hi then some (tx p - 48).toNatClampNeg else none
def fgI (o : Option Nat) : Int32 := match o with
  | none => -1
  | some v => nI v
def addS (T : TN) (kd b : Nat) : TN := (tS T + 1, (fun i => if i = tS T then kd else tK T i), (fun i => if i = tS T then b else tT T i), tC T, tF T, tI T, tW T)
def addC (T : TN) (a b c : Nat) : TN := (tS T, tK T, tT T, tC T + 1, (fun i => if i = tC T then a else tF T i), (fun i => if i = tC T then b else tI T i), (fun i => if i = tC T then c else tW T i))
def fgs (sz : Nat) (tx : Nat → Int32) : Nat → Nat → Nat → Nat → Nat × Nat
  | 0, _, p, b => (p, b)
  | m + 1, g, p, b => if fgN sz tx p g g = none then fgs sz tx m (g + 1) p b else fgs sz tx m (g + 1) (p + 1) (b ||| 2 ^ g)
def cntN (f : Nat → Bool) : Nat → Nat
  | 0 => 0
  | j + 1 => cntN f j + (if f j then 1 else 0)
def rdS (sz : Nat) (tx : Nat → Int32) (kd : Nat) (P : PS) : Bool × PS :=
  if 0 < tC P.2.1 ∨ 0 < P.2.2.1 ∨ tS P.2.1 = 5 then (false, P)
  else (true, ((fgs sz tx 5 0 (P.1 + 1) 0).1, addS P.2.1 kd (fgs sz tx 5 0 (P.1 + 1) 0).2, P.2.2))
def rdC3 (sz : Nat) (tx : Nat → Int32) (P : PS) (a b : Nat) : Bool × PS := match fgN sz tx (P.1 + 3) 1 5 with
  | none => (false, (P.1 + 3, P.2))
  | some c => (true, (P.1 + 4, addC P.2.1 a b c, P.2.2))
def rdC2 (sz : Nat) (tx : Nat → Int32) (P : PS) (a : Nat) : Bool × PS := match fgN sz tx (P.1 + 2) 0 (tS P.2.1 - 1) with
  | none => (false, (P.1 + 2, P.2))
  | some b => if b = a then (false, (P.1 + 2, P.2)) else rdC3 sz tx P a b
def rdC1 (sz : Nat) (tx : Nat → Int32) (P : PS) : Bool × PS := match fgN sz tx (P.1 + 1) 0 (tS P.2.1 - 1) with
  | none => (false, (P.1 + 1, P.2))
  | some a => if cntN (fun k => tF P.2.1 k == a) (tC P.2.1) = 4 then (false, (P.1 + 1, P.2)) else rdC2 sz tx P a
def rdC (sz : Nat) (tx : Nat → Int32) (P : PS) : Bool × PS := if tS P.2.1 = 0 ∨ 0 < P.2.2.1 ∨ tC P.2.1 = 12 then (false, P) else rdC1 sz tx P
def rdF2 (sz : Nat) (tx : Nat → Int32) (P : PS) (a : Nat) : Bool × PS := match fgN sz tx (P.1 + 2) 0 5 with
  | none => (false, (P.1 + 2, P.2))
  | some b => (true, (P.1 + 3, P.2.1, P.2.2.1 + 1, (fun i => if i = P.2.2.1 then a else P.2.2.2.1 i), (fun i => if i = P.2.2.1 then b else P.2.2.2.2 i)))
def rdF1 (sz : Nat) (tx : Nat → Int32) (P : PS) : Bool × PS := match fgN sz tx (P.1 + 1) 0 (tS P.2.1 - 1) with
  | none => (false, (P.1 + 1, P.2))
  | some a => rdF2 sz tx P a
def rdF (sz : Nat) (tx : Nat → Int32) (P : PS) : Bool × PS := if tS P.2.1 = 0 ∨ P.2.2.1 = 2 then (false, P) else rdF1 sz tx P
def kindN (x : Int32) : Option Nat := if x = 115 then some 0 else if x = 103 then some 1 else if x = 98 then some 2 else if x = 97 then some 3 else if x = 119 then some 4 else if x = 109 then some 5 else none
def rdK (sz : Nat) (tx : Nat → Int32) (P : PS) : Option Nat → Bool × PS
  | none => (false, P)
  | some k => rdS sz tx k P
def rdI (sz : Nat) (tx : Nat → Int32) (P : PS) : Bool × PS := if tx P.1 = 120 then rdC sz tx P else if tx P.1 = 102 then rdF sz tx P else rdK sz tx P (kindN (tx P.1))
def endI (sz : Nat) (P : PS) : Int32 := if P.2.2.1 = 2 then -9 else nI sz
def rdN (sz : Nat) (tx : Nat → Int32) : Nat → PS → Int32 × PS
  | 0, P => (endI sz P, P)
  | m + 1, P => if P.1 < sz then (if tx P.1 = 32 then rdN sz tx m (P.1 + 1, P.2) else (if (rdI sz tx P).1 then rdN sz tx m (rdI sz tx P).2 else (nI (rdI sz tx P).2.1, (rdI sz tx P).2))) else (endI sz P, P)
def four (T : TN) : Prop := ∀ i, cntN (fun k => tF T k == i) (tC T) ≤ 4
def pOK (P : PS) : Prop := tOK P.2.1 ∧ P.2.2.1 ≤ 2 ∧ (tS P.2.1 = 0 → P.2.2.1 = 0 ∧ tC P.2.1 = 0) ∧ (∀ i, i < P.2.2.1 → P.2.2.2.1 i < tS P.2.1 ∧ P.2.2.2.2 i ≤ 5) ∧ four P.2.1
theorem fg_ok {sz p lo hi : Nat} {tx : Nat → Int32} {v : Nat} (hl : lo < 65536) (hh : hi < 65536) (h : fgN sz tx p lo hi = some v) : p < sz ∧ lo ≤ v ∧ v ≤ hi ∧ tx p - 48 = nI v := by
  unfold fgN at h
  split at h
  · rename_i hc
    obtain ⟨h1, h2, h3⟩ := hc
    have hp : ¬ tx p - 48 < 0 := fun z => absurd (Int32.lt_of_le_of_lt h2 z) (nI_pos (by omega))
    obtain ⟨j, hj, e⟩ := nI_of hp
    rw [e] at h2 h3 h
    rw [nI_clamp hj] at h
    have h := Option.some.inj h
    subst h
    exact ⟨h1, (nI_leI (by omega) hj).mp h2, (nI_leI hj (by omega)).mp h3, e⟩
  · cases h
theorem fg_some {sz p lo hi v : Nat} {tx : Nat → Int32} (hh : hi < 65536) (h1 : p < sz) (h2 : lo ≤ v) (h3 : v ≤ hi) (e : tx p - 48 = nI v) : fgN sz tx p lo hi = some v := by
  unfold fgN
  rw [e, if_pos ⟨h1, (nI_leI (by omega) (by omega)).mpr h2, (nI_leI (by omega) (by omega)).mpr h3⟩, nI_clamp (by omega)]
theorem cntI_N {f g : Nat → Bool} : ∀ m, (∀ k, k < m → f k = g k) → cntI f m = nI (cntN g m)
  | 0, _ => rfl
  | m + 1, h => by
    rw [cntI, cntN, cntI_N m (fun k hk => h k (by omega)), h m (by omega), ← nI_add, nu_b2]
theorem cntN_le {f : Nat → Bool} : ∀ m, cntN f m ≤ m
  | 0 => Nat.le_refl 0
  | m + 1 => by have := cntN_le (f := f) m; unfold cntN; split <;> omega
theorem cntN_congr {f g : Nat → Bool} : ∀ m, (∀ k, k < m → f k = g k) → cntN f m = cntN g m
  | 0, _ => rfl
  | m + 1, h => by rw [cntN, cntN, cntN_congr m (fun k hk => h k (by omega)), h m (by omega)]
theorem fgs_ok {sz : Nat} {tx : Nat → Int32} : ∀ m g p b, g + m ≤ 100 → p ≤ sz → b < 2 ^ g → p ≤ (fgs sz tx m g p b).1 ∧ (fgs sz tx m g p b).1 ≤ sz ∧ (fgs sz tx m g p b).1 ≤ p + m ∧ (fgs sz tx m g p b).2 < 2 ^ (g + m)
  | 0, g, p, b, _, hp, hb => ⟨Nat.le_refl _, hp, Nat.le_refl _, hb⟩
  | m + 1, g, p, b, hgm, hp, hb => by
    have hb2 : 2 ^ g < 2 ^ (g + 1) := Nat.pow_lt_pow_right (by decide) (by omega)
    have e : g + (m + 1) = (g + 1) + m := by omega
    rw [e]
    unfold fgs
    split
    · obtain ⟨h1, h2, h3, h4⟩ := fgs_ok (sz := sz) (tx := tx) m (g + 1) p b (by omega) hp (by omega)
      exact ⟨h1, h2, by omega, h4⟩
    · rename_i hn
      obtain ⟨v, hv⟩ := Option.ne_none_iff_exists'.mp hn
      have hps := (fg_ok (by omega) (by omega) hv).1
      obtain ⟨h1, h2, h3, h4⟩ := fgs_ok (sz := sz) (tx := tx) m (g + 1) (p + 1) (b ||| 2 ^ g) (by omega) (by omega) (Nat.or_lt_two_pow (by omega) hb2)
      exact ⟨by omega, h2, by omega, h4⟩
/-- what the reader holds -/
def rM (P : PS) (I : Nat → Nat → Int32) : Prop := dMem P.2.1 I ∧ I 19 3 = nI P.2.2.1 ∧ I 19 4 = nI P.1 ∧ ∀ i, i < P.2.2.1 → I 26 i = nI (P.2.2.2.1 i) ∧ I 27 i = nI (P.2.2.2.2 i)
/-- a TEXT's cells -/
def stM (n c a sz : Nat) (tx : Nat → Int32) (I : Nat → Nat → Int32) : Prop := (SH n)[c]? = some (8, 2, [some a, none]) ∧ (SH n)[a]? = some (12, 80, []) ∧ 27 < c ∧ 27 < a ∧ sz ≤ 80 ∧ I c 1 = nI sz ∧ ∀ i, i < sz → I a i = tx i
theorem stM.of {n c a sz : Nat} {tx : Nat → Int32} {I I' : Nat → Nat → Int32} (h : stM n c a sz tx I) (he : ∀ r, 27 < r → I' r = I r) : stM n c a sz tx I' := by
  obtain ⟨h1, h2, h3, h4, h5, h6, h7⟩ := h
  exact ⟨h1, h2, h3, h4, h5, by rw [he c h3]; exact h6, fun i hi => by rw [he a h4]; exact h7 i hi⟩
theorem dMem_of {T : TN} {I I' : Nat → Nat → Int32} (h : ∀ r, 19 < r → r < 26 → I' r = I r) (hM : dMem T I) : dMem T I' := by
  unfold dMem at *
  rw [h 20 (by omega) (by omega), h 21 (by omega) (by omega), h 22 (by omega) (by omega), h 23 (by omega) (by omega), h 24 (by omega) (by omega), h 25 (by omega) (by omega)]
  exact hM
theorem rM_pl {P : PS} {I : Nat → Nat → Int32} {p : Nat} (h : rM P I) : rM (p, P.2) (upI I 19 4 (nI p)) := by
  obtain ⟨h1, h2, h3, h4⟩ := h
  refine ⟨dMem_of (fun r a b => upI_oth (by omega)) h1, ?_, rfl, fun i hi => ?_⟩
  · rw [up_ne (by decide)]; exact h2
  · rw [upI_oth (by decide), upI_oth (by decide)]; exact h4 i hi
section
variable {G : GG} {d n : Nat} {I : Nat → Nat → Int32} {J : Nat → Nat → Int64} {Q : Option Value → MH → Prop}
theorem c_figureFrom {sz c a p lo hi : Nat} {tx : Nat → Int32} (hs : stM n c a sz tx I) (hp : p < 65536) (hl : lo < 65536) (hP : I 19 4 = nI p) (h : Q (some (.int (fgI (fgN sz tx p lo hi)))) (SH n, I, J)) : MT G (d + 1) 42 [.ref 19, .ref c, .int (nI lo), .int (nI hi)] (SH n, I, J) Q := by
  obtain ⟨hc, ha, c27, a27, s80, hsz, htx⟩ := hs
  have cp : (nI p).toNatClampNeg = p := nI_clamp (by omega)
  have no : ¬ (p < sz ∧ nI lo ≤ tx p - 48 ∧ tx p - 48 ≤ nI hi) → Q (some (.int (-1))) (SH n, I, J) := fun hn => by
    have e : fgN sz tx p lo hi = none := by unfold fgN; rw [if_neg hn]
    rw [e] at h
    exact h
  refine MT.by ck42 (by decide) rfl (Nat.le_of_ble_eq_true rfl) rfl 300 [] ?_
  conv => whnf
  try dsimp only
  rw [hc]
  conv => whnf
  try dsimp only
  rw [hP, hsz]
  refine pk_lt p sz (fun h1 => ?_) (fun h1 => ?_)
  case refine_2 =>
    conv => whnf
    try dsimp only
    exact ⟨trivial, no (fun q => absurd q.1 (by omega))⟩
  conv => whnf
  try dsimp only
  rw [hc]
  conv => whnf
  try dsimp only
  rw [ha]
  conv => whnf
  try dsimp only
  rw [hP]
  refine ⟨in_nI (show p < 80 by omega) (by decide), ?_⟩
  conv => whnf
  try dsimp only
  rw [cp, htx p h1]
  refine ⟨fun h2 => ?_, fun h2 => ?_⟩
  · conv => whnf
    try dsimp only
    exact ⟨trivial, no (fun q => Int32.not_le.mpr h2 q.2.1)⟩
  conv => whnf
  try dsimp only
  refine ⟨fun h3 => ?_, fun h3 => ?_⟩
  · conv => whnf
    try dsimp only
    exact ⟨trivial, no (fun q => Int32.not_le.mpr h3 q.2.2)⟩
  conv => whnf
  try dsimp only
  have e : fgI (fgN sz tx p lo hi) = tx p - 48 := by
    have hc : p < sz ∧ nI lo ≤ tx p - 48 ∧ tx p - 48 ≤ nI hi := ⟨h1, Int32.not_lt.mp h2, Int32.not_lt.mp h3⟩
    unfold fgN
    rw [if_pos hc]
    show nI _ = _
    by_cases hz : tx p - 48 < 0
    · exact absurd (Int32.lt_of_le_of_lt (Int32.not_lt.mp h2) hz) (nI_pos (by omega))
    · obtain ⟨j, hj, e⟩ := nI_of hz
      rw [e, nI_clamp hj]
  rw [e] at h
  exact ⟨trivial, h⟩
end
