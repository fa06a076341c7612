/-! the state that both sides hold, and the class's memory of it -/
/-- table; are there fighters; the fight; kept ones; rows: size + 1 (0: missing), cells; texts likewise; latest finding, how often; asked; upper, lower -/
abbrev AB : Type := TN × Bool × FG × (Nat → Bool × FG) × (Nat → Nat) × (Nat → Nat → Int32) × (Nat → Nat) × (Nat → Nat → Int32) × Int32 × (Nat → Int32) × Int32 × Int64 × Int64
abbrev aT (a : AB) : TN := a.1
abbrev aH (a : AB) : Bool := a.2.1
abbrev aF (a : AB) : FG := a.2.2.1
abbrev aK (a : AB) : Nat → Bool × FG := a.2.2.2.1
abbrev aRs (a : AB) : Nat → Nat := a.2.2.2.2.1
abbrev aRc (a : AB) : Nat → Nat → Int32 := a.2.2.2.2.2.1
abbrev aTs (a : AB) : Nat → Nat := a.2.2.2.2.2.2.1
abbrev aTc (a : AB) : Nat → Nat → Int32 := a.2.2.2.2.2.2.2.1
abbrev aL (a : AB) : Int32 := a.2.2.2.2.2.2.2.2.1
abbrev aM (a : AB) : Nat → Int32 := a.2.2.2.2.2.2.2.2.2.1
abbrev aA (a : AB) : Int32 := a.2.2.2.2.2.2.2.2.2.2.1
abbrev aU (a : AB) : Int64 := a.2.2.2.2.2.2.2.2.2.2.2.1
abbrev aW (a : AB) : Int64 := a.2.2.2.2.2.2.2.2.2.2.2.2
def uT (a : AB) (T : TN) : AB := (T, aH a, aF a, aK a, aRs a, aRc a, aTs a, aTc a, aL a, aM a, aA a, aU a, aW a)
def uF (a : AB) (b : Bool) (F : FG) : AB := (aT a, b, F, aK a, aRs a, aRc a, aTs a, aTc a, aL a, aM a, aA a, aU a, aW a)
def uK (a : AB) (K : Nat → Bool × FG) : AB := (aT a, aH a, aF a, K, aRs a, aRc a, aTs a, aTc a, aL a, aM a, aA a, aU a, aW a)
def uR (a : AB) (s : Nat → Nat) (c : Nat → Nat → Int32) : AB := (aT a, aH a, aF a, aK a, s, c, aTs a, aTc a, aL a, aM a, aA a, aU a, aW a)
def uX (a : AB) (s : Nat → Nat) (c : Nat → Nat → Int32) : AB := (aT a, aH a, aF a, aK a, aRs a, aRc a, s, c, aL a, aM a, aA a, aU a, aW a)
def uN (a : AB) (l : Int32) (m : Nat → Int32) : AB := (aT a, aH a, aF a, aK a, aRs a, aRc a, aTs a, aTc a, l, m, aA a, aU a, aW a)
def uA (a : AB) (x : Int32) : AB := (aT a, aH a, aF a, aK a, aRs a, aRc a, aTs a, aTc a, aL a, aM a, x, aU a, aW a)
def uC (a : AB) (u l : Int64) : AB := (aT a, aH a, aF a, aK a, aRs a, aRc a, aTs a, aTc a, aL a, aM a, aA a, u, l)
/-- a finding -/
def fnd (a : AB) (f : Nat) : AB := uN a (nI f) (fun g => if g = f then aM a g + 1 else aM a g)
/-- a row, a text anew: m is its size + 1 -/
def sRow (a : AB) (j m : Nat) (c : Nat → Int32) : AB := uR a (fun r => if r = j then m else aRs a r) (fun r => if r = j then c else aRc a r)
def sTxt (a : AB) (j m : Nat) (c : Nat → Int32) : AB := uX a (fun r => if r = j then m else aTs a r) (fun r => if r = j then c else aTc a r)
def szI (m : Nat) : Int32 := match m with
  | 0 => -1
  | k + 1 => nI k
def fOK (T : TN) (F : FG) : Prop := vQ T F.1 ∧ F.2.1 ≤ 40 ∧ ∀ i, i < F.2.1 → F.2.2.1 i < tC T ∧ vQ T (F.2.2.2 i)
def tOK2 (T : TN) : Prop := tOK T ∧ noSelf T ∧ four T
def nilF (F : FG) : Prop := F.2.1 = 0 ∧ F.1 0 = (0, 0, 0, 0) ∧ F.1 1 = (0, 0, 0, 0)
def aOK (a : AB) : Prop := tOK2 (aT a) ∧ (aH a = true → fOK (aT a) (aF a)) ∧ (aH a = false → tS (aT a) = 0 ∧ tC (aT a) = 0 ∧ nilF (aF a)) ∧ (∀ k, k < 3 → (aK a k).1 = true → aH a = true ∧ fOK (aT a) (aK a k).2) ∧ (∀ r, r < 6 → aRs a r ≤ 41) ∧ (∀ t, t < 4 → aTs a t ≤ 81)
-- ===== the class's memory
def cT (T : TN) (I : Nat → Nat → Int32) : Prop := tMem T I ∧ EX I
def cF (b : Bool) (F : FG) (I : Nat → Nat → Int32) : Prop := I 12 1 = b2i b ∧ gMem 12 F I
def cK (K : Nat → Bool × FG) (I : Nat → Nat → Int32) : Prop := ∀ k, k < 3 → I (59 + 6 * k) 1 = b2i (K k).1 ∧ ((K k).1 = true → gMem (59 + 6 * k) (K k).2 I)
def cR (s : Nat → Nat) (c : Nat → Nat → Int32) (I : Nat → Nat → Int32) : Prop := ∀ r, r < 6 → I (39 + 2 * r) 1 = szI (s r) ∧ ∀ i, i + 1 < s r → I (39 + 2 * r + 1) i = c r i
def cX (s : Nat → Nat) (c : Nat → Nat → Int32) (I : Nat → Nat → Int32) : Prop := ∀ r, r < 4 → I (51 + 2 * r) 1 = szI (s r) ∧ ∀ i, i + 1 < s r → I (51 + 2 * r + 1) i = c r i
def cN (l : Int32) (m : Nat → Int32) (I : Nat → Nat → Int32) : Prop := I 3 12 = l ∧ ∀ f, f < 6 → I 38 f = m f
def CA (a : AB) (e : Nat) (I : Nat → Nat → Int32) (J : Nat → Nat → Int64) : Prop := cT (aT a) I ∧ cF (aH a) (aF a) I ∧ cK (aK a) I ∧ cR (aRs a) (aRc a) I ∧ cX (aTs a) (aTc a) I ∧ cN (aL a) (aM a) I ∧ I 3 13 = aA a ∧ (J 3 14 = aU a ∧ J 3 15 = aW a) ∧ MG e J
section
variable {I I' : Nat → Nat → Int32} {J J' : Nat → Nat → Int64} {a : AB} {e : Nat}
theorem gMem_of {b : Nat} {F : FG} (h : gMem b F I) (hf : ∀ r, b ≤ r → r < b + 6 → I' r = I r) : gMem b F I' := by
  obtain ⟨h1, h2, h3, h4⟩ := h
  exact ⟨by rw [hf b (by omega) (by omega)]; exact h1, sMem_oth h2 (hf _ (by omega) (by omega)), sMem_oth h3 (hf _ (by omega) (by omega)), fun i hi => by rw [hf (b + 4) (by omega) (by omega), hf (b + 5) (by omega) (by omega)]; exact h4 i hi⟩
theorem cT.of {T : TN} (h : cT T I) (hf : ∀ r, r < 12 → r ≠ 3 → I' r = I r) : cT T I' := by
  obtain ⟨h1, h2⟩ := h
  unfold tMem at h1
  unfold EX at h2
  refine ⟨?_, ?_⟩
  · unfold tMem
    rw [hf 6 (by omega) (by omega), hf 7 (by omega) (by omega), hf 8 (by omega) (by omega), hf 9 (by omega) (by omega), hf 10 (by omega) (by omega), hf 11 (by omega) (by omega)]
    exact h1
  · unfold EX
    rw [hf 1 (by omega) (by omega), hf 2 (by omega) (by omega)]
    exact h2
theorem cF.of {b : Bool} {F : FG} (h : cF b F I) (hf : ∀ r, 12 ≤ r → r < 18 → I' r = I r) : cF b F I' := ⟨by rw [hf 12 (by omega) (by omega)]; exact h.1, gMem_of h.2 (fun r h1 h2 => hf r h1 (by omega))⟩
theorem cK.of {K : Nat → Bool × FG} (h : cK K I) (hf : ∀ r, 59 ≤ r → r < 77 → I' r = I r) : cK K I' := fun k hk => ⟨by rw [hf _ (by omega) (by omega)]; exact (h k hk).1, fun hb => gMem_of ((h k hk).2 hb) (fun r h1 h2 => hf r (by omega) (by omega))⟩
theorem cR.of {s : Nat → Nat} {c : Nat → Nat → Int32} (h : cR s c I) (hf : ∀ r, 39 ≤ r → r < 51 → I' r = I r) : cR s c I' := fun r hr => ⟨by rw [hf _ (by omega) (by omega)]; exact (h r hr).1, fun i hi => by rw [hf _ (by omega) (by omega)]; exact (h r hr).2 i hi⟩
theorem cX.of {s : Nat → Nat} {c : Nat → Nat → Int32} (h : cX s c I) (hf : ∀ r, 51 ≤ r → r < 59 → I' r = I r) : cX s c I' := fun r hr => ⟨by rw [hf _ (by omega) (by omega)]; exact (h r hr).1, fun i hi => by rw [hf _ (by omega) (by omega)]; exact (h r hr).2 i hi⟩
theorem cN.of {l : Int32} {m : Nat → Int32} (h : cN l m I) (h3 : I' 3 12 = I 3 12) (h38 : I' 38 = I 38) : cN l m I' := ⟨by rw [h3]; exact h.1, fun f hf => by rw [h38]; exact h.2 f hf⟩
/-- the searches' own cells, the memo -/
theorem CA.scr {e' : Nat} (h : CA a e I J) (hf : ∀ r, r < 19 ∨ 37 < r → I' r = I r) (hJ : J' 3 = J 3) (hG : MG e' J') : CA a e' I' J' := by
  obtain ⟨h1, h2, h3, h4, h5, h6, h7, h8, h9⟩ := h
  exact ⟨h1.of (fun r h _ => hf r (by omega)), h2.of (fun r _ h => hf r (by omega)), h3.of (fun r h _ => hf r (by omega)), h4.of (fun r h _ => hf r (by omega)), h5.of (fun r h _ => hf r (by omega)), h6.of (by rw [hf 3 (by omega)]) (hf 38 (by omega)), by rw [hf 3 (by omega)]; exact h7, by rw [hJ]; exact h8, hG⟩
theorem CA.ask {x : Int32} (h : CA a e I J) : CA (uA a x) e (upI I 3 13 x) J := by
  obtain ⟨h1, h2, h3, h4, h5, h6, h7, h8, h9⟩ := h
  have o : ∀ r, r ≠ 3 → upI I 3 13 x r = I r := fun r hr => upI_oth hr
  exact ⟨h1.of (fun r _ h => o r h), h2.of (fun r h _ => o r (by omega)), h3.of (fun r h _ => o r (by omega)), h4.of (fun r h _ => o r (by omega)), h5.of (fun r h _ => o r (by omega)), h6.of (by rw [up_ne (by decide)]) (o 38 (by decide)), up_same, h8, h9⟩
theorem CA.fnd {f : Nat} (h : CA a e I J) (hf : f < 6) : CA (fnd a f) e (upI (upI I 3 12 (nI f)) 38 f (I 38 f + 1)) J := by
  obtain ⟨h1, h2, h3, h4, h5, h6, h7, h8, h9⟩ := h
  have o : ∀ r, r ≠ 3 → r ≠ 38 → upI (upI I 3 12 (nI f)) 38 f (I 38 f + 1) r = I r := fun r hr hr2 => by rw [upI_oth hr2, upI_oth hr]
  refine ⟨h1.of (fun r h h' => o r h' (by omega)), h2.of (fun r h _ => o r (by omega) (by omega)), h3.of (fun r h _ => o r (by omega) (by omega)), h4.of (fun r h _ => o r (by omega) (by omega)), h5.of (fun r h _ => o r (by omega) (by omega)), ⟨?_, fun g hg => ?_⟩, ?_, h8, h9⟩
  · rw [upI_oth (by decide), up_same]
    rfl
  · show _ = if g = f then aM a g + 1 else aM a g
    by_cases hgf : g = f
    · subst hgf
      rw [up_same, if_pos rfl, h6.2 g hg]
    · rw [up_ne hgf, upI_oth (by decide), if_neg hgf]
      exact h6.2 g hg
  · rw [upI_oth (by decide), up_ne (by decide)]
    exact h7
theorem CA.row {j m : Nat} {c : Nat → Int32} (h : CA a e I J) (hj : j < 6) (hf : ∀ r, r ≠ 39 + 2 * j → r ≠ 39 + 2 * j + 1 → I' r = I r) (hs : I' (39 + 2 * j) 1 = szI m) (hc : ∀ i, i + 1 < m → I' (39 + 2 * j + 1) i = c i) : CA (sRow a j m c) e I' J := by
  obtain ⟨h1, h2, h3, h4, h5, h6, h7, h8, h9⟩ := h
  refine ⟨h1.of (fun r h _ => hf r (by omega) (by omega)), h2.of (fun r h _ => hf r (by omega) (by omega)), h3.of (fun r h _ => hf r (by omega) (by omega)), fun r hr => ?_, h5.of (fun r h _ => hf r (by omega) (by omega)), h6.of (by rw [hf 3 (by omega) (by omega)]) (hf 38 (by omega) (by omega)), by rw [hf 3 (by omega) (by omega)]; exact h7, h8, h9⟩
  show I' _ 1 = szI (if r = j then m else aRs a r) ∧ ∀ i, i + 1 < (if r = j then m else aRs a r) → I' _ i = (if r = j then c else aRc a r) i
  by_cases hrj : r = j
  · subst hrj
    rw [if_pos rfl, if_pos rfl]
    exact ⟨hs, hc⟩
  · rw [if_neg hrj, if_neg hrj, hf _ (by omega) (by omega), hf _ (by omega) (by omega)]
    exact h4 r hr
theorem CA.txt {j m : Nat} {c : Nat → Int32} (h : CA a e I J) (hj : j < 4) (hf : ∀ r, r ≠ 51 + 2 * j → r ≠ 51 + 2 * j + 1 → I' r = I r) (hs : I' (51 + 2 * j) 1 = szI m) (hc : ∀ i, i + 1 < m → I' (51 + 2 * j + 1) i = c i) : CA (sTxt a j m c) e I' J := by
  obtain ⟨h1, h2, h3, h4, h5, h6, h7, h8, h9⟩ := h
  refine ⟨h1.of (fun r h _ => hf r (by omega) (by omega)), h2.of (fun r h _ => hf r (by omega) (by omega)), h3.of (fun r h _ => hf r (by omega) (by omega)), h4.of (fun r h _ => hf r (by omega) (by omega)), fun r hr => ?_, h6.of (by rw [hf 3 (by omega) (by omega)]) (hf 38 (by omega) (by omega)), by rw [hf 3 (by omega) (by omega)]; exact h7, h8, h9⟩
  show I' _ 1 = szI (if r = j then m else aTs a r) ∧ ∀ i, i + 1 < (if r = j then m else aTs a r) → I' _ i = (if r = j then c else aTc a r) i
  by_cases hrj : r = j
  · subst hrj
    rw [if_pos rfl, if_pos rfl]
    exact ⟨hs, hc⟩
  · rw [if_neg hrj, if_neg hrj, hf _ (by omega) (by omega), hf _ (by omega) (by omega)]
    exact h5 r hr
theorem CA.fgt {b : Bool} {F : FG} (h : CA a e I J) (hf : ∀ r, r < 12 ∨ 17 < r → I' r = I r) (hF : cF b F I') : CA (uF a b F) e I' J := by
  obtain ⟨h1, h2, h3, h4, h5, h6, h7, h8, h9⟩ := h
  exact ⟨h1.of (fun r h _ => hf r (by omega)), hF, h3.of (fun r h _ => hf r (by omega)), h4.of (fun r h _ => hf r (by omega)), h5.of (fun r h _ => hf r (by omega)), h6.of (by rw [hf 3 (by omega)]) (hf 38 (by omega)), by rw [hf 3 (by omega)]; exact h7, h8, h9⟩
theorem CA.tab {T : TN} (h : CA a e I J) (hf : ∀ r, r < 6 ∨ 11 < r → I' r = I r) (hT : tMem T I') : CA (uT a T) e I' J := by
  obtain ⟨h1, h2, h3, h4, h5, h6, h7, h8, h9⟩ := h
  refine ⟨⟨hT, ?_⟩, h2.of (fun r h _ => hf r (by omega)), h3.of (fun r h _ => hf r (by omega)), h4.of (fun r h _ => hf r (by omega)), h5.of (fun r h _ => hf r (by omega)), h6.of (by rw [hf 3 (by omega)]) (hf 38 (by omega)), by rw [hf 3 (by omega)]; exact h7, h8, h9⟩
  have := h1.2
  unfold EX at *
  rw [hf 1 (by omega), hf 2 (by omega)]
  exact this
theorem CA.kpt {K : Nat → Bool × FG} (h : CA a e I J) (hf : ∀ r, r < 59 ∨ 76 < r → I' r = I r) (hK : cK K I') : CA (uK a K) e I' J := by
  obtain ⟨h1, h2, h3, h4, h5, h6, h7, h8, h9⟩ := h
  exact ⟨h1.of (fun r h _ => hf r (by omega)), h2.of (fun r h _ => hf r (by omega)), hK, h4.of (fun r h _ => hf r (by omega)), h5.of (fun r h _ => hf r (by omega)), h6.of (by rw [hf 3 (by omega)]) (hf 38 (by omega)), by rw [hf 3 (by omega)]; exact h7, h8, h9⟩
theorem CA.chn {u l : Int64} (h : CA a e I J) : CA (uC a u l) e I (upL (upL J 3 14 u) 3 15 l) := by
  obtain ⟨h1, h2, h3, h4, h5, h6, h7, h8, h9⟩ := h
  refine ⟨h1, h2, h3, h4, h5, h6, h7, ⟨?_, ?_⟩, ?_⟩
  · show upL _ 3 15 l 3 14 = u
    simp [upL]
  · show upL _ 3 15 l 3 15 = l
    simp [upL]
  · obtain ⟨g1, g2, g3⟩ := h9
    refine ⟨by rw [upL_oth (by decide), upL_oth (by decide)]; exact g1, g2, fun s hs => ?_⟩
    rw [upL_oth (by decide), upL_oth (by decide)]
    exact g3 s hs
end
/-- a number below n -/
def ix (n : Nat) (x : Int32) : Option Nat := if 0 ≤ x ∧ x < nI n then some x.toNatClampNeg else none
theorem ix_cases {n : Nat} (hn : n < 65536) (x : Int32) : (ix n x = none ∧ decide (0 ≤ x ∧ x < nI n) = false) ∨ ∃ j, j < n ∧ x = nI j ∧ ix n x = some j ∧ decide (0 ≤ x ∧ x < nI n) = true := by
  by_cases h : 0 ≤ x ∧ x < nI n
  · right
    obtain ⟨j, hj, rfl⟩ := nI_of (Int32.not_lt.mpr h.1)
    have h2 := (nI_ltI hj (by omega)).mp h.2
    exact ⟨j, h2, rfl, by unfold ix; rw [if_pos h, nI_clamp hj], decide_eq_true h⟩
  · left
    exact ⟨by unfold ix; rw [if_neg h], decide_eq_false h⟩
theorem ix_nI {n j : Nat} (hn : n < 65536) (h : j < n) : ix n (nI j) = some j := by
  unfold ix
  rw [if_pos ⟨nI_pos' (by omega), nI_lt h (by omega)⟩, nI_clamp (by omega)]
theorem oS_at {l : List (Option Nat)} {x : Int32} {j c : Nat} {K : Nat → Prop} (hx : x.toNatClampNeg = j) (hl : l.getD j none = some c) (h : K c) : oS (l.getD x.toNatClampNeg none) K := by
  rw [hx, hl]
  exact h
/-- a row of strips -/
def strA (n s K b N : Nat) : Prop := ∃ refs, (SH n)[s]? = some (17, K, refs) ∧ ∀ j, j < K → refs.getD j none = some (b + 2 * j) ∧ (SH n)[b + 2 * j]? = some (8, 2, [some (b + 2 * j + 1), none]) ∧ (SH n)[b + 2 * j + 1]? = some (12, N, [])
theorem str_r (n : Nat) : strA n 4 6 39 40 := ⟨_, rfl, fun j hj => by rcases (show j = 0 ∨ j = 1 ∨ j = 2 ∨ j = 3 ∨ j = 4 ∨ j = 5 by omega) with rfl | rfl | rfl | rfl | rfl | rfl <;> exact ⟨rfl, rfl, rfl⟩⟩
theorem str_t (n : Nat) : strA n 5 4 51 80 := ⟨_, rfl, fun j hj => by rcases (show j = 0 ∨ j = 1 ∨ j = 2 ∨ j = 3 by omega) with rfl | rfl | rfl | rfl <;> exact ⟨rfl, rfl, rfl⟩⟩
theorem row_g : ∀ j, j < 6 → [some 39, some 41, some 43, some 45, some 47, some 49].getD j none = some (39 + 2 * j) := by decide
theorem txt_g : ∀ j, j < 4 → [some 51, some 53, some 55, some 57].getD j none = some (51 + 2 * j) := by decide
theorem kpt_g : ∀ j, j < 3 → [some 59, some 65, some 71].getD j none = some (59 + 6 * j) := by decide
theorem row_c (n : Nat) {j : Nat} (hj : j < 6) : (SH n)[39 + 2 * j]? = some (8, 2, [some (39 + 2 * j + 1), none]) ∧ (SH n)[39 + 2 * j + 1]? = some (12, 40, []) := by rcases (show j = 0 ∨ j = 1 ∨ j = 2 ∨ j = 3 ∨ j = 4 ∨ j = 5 by omega) with rfl | rfl | rfl | rfl | rfl | rfl <;> exact ⟨rfl, rfl⟩
theorem txt_c (n : Nat) {j : Nat} (hj : j < 4) : (SH n)[51 + 2 * j]? = some (8, 2, [some (51 + 2 * j + 1), none]) ∧ (SH n)[51 + 2 * j + 1]? = some (12, 80, []) := by rcases (show j = 0 ∨ j = 1 ∨ j = 2 ∨ j = 3 by omega) with rfl | rfl | rfl | rfl <;> exact ⟨rfl, rfl⟩
theorem kpt_c (n : Nat) {j : Nat} (hj : j < 3) : gSh (SH n) (59 + 6 * j) := by rcases (show j = 0 ∨ j = 1 ∨ j = 2 by omega) with rfl | rfl | rfl <;> exact ⟨rfl, rfl, rfl, rfl, rfl, rfl⟩
theorem szI_neg {m : Nat} (hm : m ≤ 100) : szI m < 0 ↔ m = 0 := by
  cases m with
  | zero => exact ⟨fun _ => rfl, fun _ => by decide⟩
  | succ k => exact ⟨fun h => absurd h (nI_pos (by omega)), fun h => by omega⟩
section
variable {G : GG} {d n : Nat} {I : Nat → Nat → Int32} {J : Nat → Nat → Int64} {Q : Option Value → MH → Prop}
theorem c_find {f : Nat} (hf : f < 6) (h : Q (some (.int (-3))) (SH n, upI (upI I 3 12 (nI f)) 38 f (I 38 f + 1), J)) : MT G (d + 1) 146 [.ref 3, .int (nI f)] (SH n, I, J) Q := by
  have cf : (nI f).toNatClampNeg = f := nI_clamp (by omega)
  refine MT.by ck146 (by decide) rfl (Nat.le_of_ble_eq_true rfl) rfl 300 [] ?_
  conv => whnf
  try dsimp only
  refine ⟨in_nI hf (by decide), ?_⟩
  conv => whnf
  try dsimp only
  refine ⟨in_nI hf (by decide), ?_⟩
  conv => whnf
  try dsimp only
  rw [cf, upI_oth (r' := 38) (by decide)]
  exact ⟨trivial, h⟩
theorem c_tell {x : Int32} (h : Q (some (.int 1)) (SH n, upI I 3 13 x, J)) : MT G (d + 1) 147 [.ref 3, .int x] (SH n, I, J) Q := by
  refine MT.by ck147 (by decide) rfl (Nat.le_of_ble_eq_true rfl) rfl 300 [] ?_
  conv => whnf
  try dsimp only
  exact ⟨trivial, h⟩
theorem c_isFighter {b : Bool} {x : Int32} (hb : I 12 1 = b2i b) (h : Q (some (.int (b2i (b && decide (0 ≤ x ∧ x < nI 2))))) (SH n, I, J)) : MT G (d + 2) 145 [.ref 3, .int x] (SH n, I, J) Q := by
  refine MT.by ck145 (by decide) rfl (Nat.le_of_ble_eq_true rfl) rfl 300 [] ?_
  conv => whnf
  try dsimp only
  rw [hb]
  cases b
  · first | refine ⟨fun h1 => absurd h1 (by decide), fun _ => ?_⟩ | refine ⟨fun _ => ?_, fun h1 => absurd (by decide) h1⟩ | refine ⟨fun h1 => absurd (by decide) h1, fun _ => ?_⟩ | refine ⟨fun _ => ?_, fun h1 => absurd h1 (by decide)⟩
    conv => whnf
    try dsimp only
    exact ⟨Or.inl rfl, h⟩
  · first | refine ⟨fun h1 => absurd h1 (by decide), fun _ => ?_⟩ | refine ⟨fun _ => ?_, fun h1 => absurd (by decide) h1⟩ | refine ⟨fun h1 => absurd (by decide) h1, fun _ => ?_⟩ | refine ⟨fun _ => ?_, fun h1 => absurd h1 (by decide)⟩
    conv => whnf
    try dsimp only
    refine ⟨trivial, c_within ?_⟩
    show EV G 145 (d + 1) 0 0 _ _ ((some (Value.int (b2i (decide (0 ≤ x ∧ x < nI 2))))).toList ++ _) _ _
    rw [Bool.true_and] at h
    generalize decide (0 ≤ x ∧ x < nI 2) = c at h
    cases c
    · refine EV.at ck145 (by decide) 300 [] ?_
      conv => whnf
      try dsimp only
      first | refine ⟨fun h1 => absurd h1 (by decide), fun _ => ?_⟩ | refine ⟨fun _ => ?_, fun h1 => absurd (by decide) h1⟩ | refine ⟨fun h1 => absurd (by decide) h1, fun _ => ?_⟩ | refine ⟨fun _ => ?_, fun h1 => absurd h1 (by decide)⟩
      conv => whnf
      try dsimp only
      exact ⟨Or.inl rfl, h⟩
    · refine EV.at ck145 (by decide) 300 [] ?_
      conv => whnf
      try dsimp only
      first | refine ⟨fun h1 => absurd h1 (by decide), fun _ => ?_⟩ | refine ⟨fun _ => ?_, fun h1 => absurd (by decide) h1⟩ | refine ⟨fun h1 => absurd (by decide) h1, fun _ => ?_⟩ | refine ⟨fun _ => ?_, fun h1 => absurd h1 (by decide)⟩
      conv => whnf
      try dsimp only
      exact ⟨Or.inr rfl, h⟩
theorem c_layAnew {s K b N : Nat} {r x v : Int32} (hs : strA n s K b N) (hK : K < 100) (hN : N ≤ 80)
    (hbad : (ix K r = none ∨ nI N < x) → Q (some (.int (-1))) (SH n, I, J))
    (hsz : ∀ j, ix K r = some j → x < 0 → Q (some (.int (-3))) (SH n, upI (upI I 3 12 (nI 5)) 38 5 (I 38 5 + 1), J))
    (h : ∀ j m, j < K → m ≤ N → r = nI j → x = nI m → Q (some (.int x)) (SH n, flI (upI I (b + 2 * j) 1 (nI m)) (b + 2 * j + 1) 0 m v, J)) : MT G (d + 5) 150 [.ref 3, .ref s, .int r, .int x, .int v] (SH n, I, J) Q := by
  obtain ⟨refs, h1, h2⟩ := hs
  refine MT.by ck150 (by decide) rfl (Nat.le_of_ble_eq_true rfl) rfl 300 [] ?_
  conv => whnf
  try dsimp only
  rw [h1]
  conv => whnf
  try dsimp only
  refine ⟨trivial, c_within ?_⟩
  show EV G 150 (d + 4) 0 0 _ _ ((some (Value.int (b2i (decide (0 ≤ r ∧ r < nI K))))).toList ++ _) _ _
  rcases ix_cases (show K < 65536 by omega) r with ⟨e1, e2⟩ | ⟨j, hj, rfl, e1, e2⟩
  · rw [e2]
    refine EV.at ck150 (by decide) 300 [] ?_
    conv => whnf
    try dsimp only
    first | refine ⟨fun h1 => absurd h1 (by decide), fun _ => ?_⟩ | refine ⟨fun _ => ?_, fun h1 => absurd (by decide) h1⟩ | refine ⟨fun h1 => absurd (by decide) h1, fun _ => ?_⟩ | refine ⟨fun _ => ?_, fun h1 => absurd h1 (by decide)⟩
    conv => whnf
    try dsimp only
    exact ⟨trivial, hbad (Or.inl e1)⟩
  obtain ⟨g1, g2, g3⟩ := h2 j hj
  have cj : (nI j).toNatClampNeg = j := nI_clamp (by omega)
  rw [e2]
  refine EV.at ck150 (by decide) 300 [] ?_
  conv => whnf
  try dsimp only
  first | refine ⟨fun h1 => absurd h1 (by decide), fun _ => ?_⟩ | refine ⟨fun _ => ?_, fun h1 => absurd (by decide) h1⟩ | refine ⟨fun h1 => absurd (by decide) h1, fun _ => ?_⟩ | refine ⟨fun _ => ?_, fun h1 => absurd h1 (by decide)⟩
  conv => whnf
  try dsimp only
  rw [h1]
  conv => whnf
  try dsimp only
  refine ⟨in_nI hj (by omega), oS_at cj g1 ?_⟩
  conv => whnf
  try dsimp only
  rw [g2]
  conv => whnf
  try dsimp only
  rw [g3]
  conv => whnf
  try dsimp only
  refine ⟨fun z1 => ?_, fun z1 => ?_⟩
  case refine_2 =>
    conv => whnf
    try dsimp only
    exact ⟨trivial, hbad (Or.inr (Int32.not_le.mp z1))⟩
  conv => whnf
  try dsimp only
  refine ⟨fun z2 => ?_, fun z2 => ?_⟩
  case refine_2 =>
    conv => whnf
    try dsimp only
    refine ⟨trivial, c_find (f := 5) (by decide) ?_⟩
    refine EV.at ck150 (by decide) 300 [] ?_
    conv => whnf
    try dsimp only
    exact ⟨trivial, hsz j e1 (Int32.not_le.mp z2)⟩
  obtain ⟨m, hm, rfl⟩ := nI_of (Int32.not_lt.mpr z2)
  have hmN : m ≤ N := (nI_leI hm (by omega)).mp z1
  conv => whnf
  try dsimp only
  rw [h1]
  conv => whnf
  try dsimp only
  refine ⟨in_nI hj (by omega), oS_at cj g1 ?_⟩
  conv => whnf
  try dsimp only
  rw [g2]
  conv => whnf
  try dsimp only
  refine ⟨trivial, c_fillAnew g2 g3 hmN (by omega) ?_⟩
  refine EV.at ck150 (by decide) 300 [] ?_
  conv => whnf
  try dsimp only
  exact ⟨trivial, h j m hj hmN rfl rfl⟩
theorem c_refuseStrip {s K b N : Nat} {r : Int32} {sz : Nat → Nat} (hs : strA n s K b N) (hK : K < 100) (hI : ∀ j, j < K → sz j ≤ 100 ∧ I (b + 2 * j) 1 = szI (sz j))
    (hbad : ix K r = none → Q (some (.int (-1))) (SH n, I, J))
    (hno : ∀ j, j < K → r = nI j → sz j = 0 → Q (some (.int (-3))) (SH n, upI (upI I 3 12 (nI 1)) 38 1 (I 38 1 + 1), J))
    (h : ∀ j, j < K → r = nI j → sz j ≠ 0 → Q (some (.int 0)) (SH n, I, J)) : MT G (d + 2) 151 [.ref 3, .ref s, .int r] (SH n, I, J) Q := by
  obtain ⟨refs, h1, h2⟩ := hs
  refine MT.by ck151 (by decide) rfl (Nat.le_of_ble_eq_true rfl) rfl 300 [] ?_
  conv => whnf
  try dsimp only
  rw [h1]
  conv => whnf
  try dsimp only
  refine ⟨trivial, c_within ?_⟩
  show EV G 151 (d + 1) 0 0 _ _ ((some (Value.int (b2i (decide (0 ≤ r ∧ r < nI K))))).toList ++ _) _ _
  rcases ix_cases (show K < 65536 by omega) r with ⟨e1, e2⟩ | ⟨j, hj, rfl, e1, e2⟩
  · rw [e2]
    refine EV.at ck151 (by decide) 300 [] ?_
    conv => whnf
    try dsimp only
    first | refine ⟨fun h1 => absurd h1 (by decide), fun _ => ?_⟩ | refine ⟨fun _ => ?_, fun h1 => absurd (by decide) h1⟩ | refine ⟨fun h1 => absurd (by decide) h1, fun _ => ?_⟩ | refine ⟨fun _ => ?_, fun h1 => absurd h1 (by decide)⟩
    conv => whnf
    try dsimp only
    exact ⟨trivial, hbad e1⟩
  obtain ⟨g1, g2, g3⟩ := h2 j hj
  obtain ⟨i1, i2⟩ := hI j hj
  have cj : (nI j).toNatClampNeg = j := nI_clamp (by omega)
  rw [e2]
  refine EV.at ck151 (by decide) 300 [] ?_
  conv => whnf
  try dsimp only
  first | refine ⟨fun h1 => absurd h1 (by decide), fun _ => ?_⟩ | refine ⟨fun _ => ?_, fun h1 => absurd (by decide) h1⟩ | refine ⟨fun h1 => absurd (by decide) h1, fun _ => ?_⟩ | refine ⟨fun _ => ?_, fun h1 => absurd h1 (by decide)⟩
  conv => whnf
  try dsimp only
  rw [h1]
  conv => whnf
  try dsimp only
  refine ⟨in_nI hj (by omega), oS_at cj g1 ?_⟩
  conv => whnf
  try dsimp only
  rw [g2]
  conv => whnf
  try dsimp only
  rw [i2]
  refine ⟨fun z1 => ?_, fun z1 => ?_⟩
  · conv => whnf
    try dsimp only
    exact ⟨trivial, h j hj rfl (fun z => absurd ((szI_neg i1).mpr z) (Int32.not_lt.mpr z1))⟩
  · conv => whnf
    try dsimp only
    refine ⟨trivial, c_find (f := 1) (by decide) ?_⟩
    refine EV.at ck151 (by decide) 300 [] ?_
    conv => whnf
    try dsimp only
    exact ⟨trivial, hno j hj rfl ((szI_neg i1).mp (Int32.not_le.mp z1))⟩
theorem c_refusePlace {s K b N : Nat} {r x : Int32} {sz : Nat → Nat} (hs : strA n s K b N) (hK : K < 100) (hI : ∀ j, j < K → sz j ≤ 100 ∧ I (b + 2 * j) 1 = szI (sz j))
    (hbad : ix K r = none → Q (some (.int (-1))) (SH n, I, J))
    (hno : ∀ j, j < K → r = nI j → sz j = 0 → Q (some (.int (-3))) (SH n, upI (upI I 3 12 (nI 1)) 38 1 (I 38 1 + 1), J))
    (hbe : ∀ j, j < K → r = nI j → sz j ≠ 0 → ix (sz j - 1) x = none → Q (some (.int (-3))) (SH n, upI (upI I 3 12 (nI 2)) 38 2 (I 38 2 + 1), J))
    (h : ∀ j i, j < K → r = nI j → i + 1 < sz j → x = nI i → Q (some (.int 0)) (SH n, I, J)) : MT G (d + 3) 152 [.ref 3, .ref s, .int r, .int x] (SH n, I, J) Q := by
  obtain ⟨refs, h1, h2⟩ := id hs
  refine MT.by ck152 (by decide) rfl (Nat.le_of_ble_eq_true rfl) rfl 300 [] ?_
  conv => whnf
  try dsimp only
  refine ⟨trivial, c_refuseStrip hs hK hI (fun e => ?_) (fun j hj hr hz => ?_) (fun j hj hr hz => ?_)⟩
  · refine EV.at ck152 (by decide) 300 [] ?_
    conv => whnf
    try dsimp only
    first | refine ⟨fun h1 => absurd h1 (by decide), fun _ => ?_⟩ | refine ⟨fun _ => ?_, fun h1 => absurd (by decide) h1⟩ | refine ⟨fun h1 => absurd (by decide) h1, fun _ => ?_⟩ | refine ⟨fun _ => ?_, fun h1 => absurd h1 (by decide)⟩
    conv => whnf
    try dsimp only
    exact ⟨trivial, hbad e⟩
  · refine EV.at ck152 (by decide) 300 [] ?_
    conv => whnf
    try dsimp only
    first | refine ⟨fun h1 => absurd h1 (by decide), fun _ => ?_⟩ | refine ⟨fun _ => ?_, fun h1 => absurd (by decide) h1⟩ | refine ⟨fun h1 => absurd (by decide) h1, fun _ => ?_⟩ | refine ⟨fun _ => ?_, fun h1 => absurd h1 (by decide)⟩
    conv => whnf
    try dsimp only
    exact ⟨trivial, hno j hj hr hz⟩
  subst hr
  obtain ⟨g1, g2, g3⟩ := h2 j hj
  obtain ⟨i1, i2⟩ := hI j hj
  have cj : (nI j).toNatClampNeg = j := nI_clamp (by omega)
  have i3 : I (b + 2 * j) 1 = nI (sz j - 1) := by
    rw [i2]
    cases hq : sz j with
    | zero => exact absurd hq hz
    | succ k => rfl
  refine EV.at ck152 (by decide) 300 [] ?_
  conv => whnf
  try dsimp only
  first | refine ⟨fun h1 => absurd h1 (by decide), fun _ => ?_⟩ | refine ⟨fun _ => ?_, fun h1 => absurd (by decide) h1⟩ | refine ⟨fun h1 => absurd (by decide) h1, fun _ => ?_⟩ | refine ⟨fun _ => ?_, fun h1 => absurd h1 (by decide)⟩
  conv => whnf
  try dsimp only
  rw [h1]
  conv => whnf
  try dsimp only
  refine ⟨in_nI hj (by omega), oS_at cj g1 ?_⟩
  conv => whnf
  try dsimp only
  rw [g2]
  conv => whnf
  try dsimp only
  rw [i3]
  refine ⟨trivial, c_within ?_⟩
  rcases ix_cases (n := sz j - 1) (by omega) x with ⟨e1, e2⟩ | ⟨i, hi, rfl, e1, e2⟩
  · rw [e2]
    refine EV.at ck152 (by decide) 300 [] ?_
    conv => whnf
    try dsimp only
    first | refine ⟨fun h1 => absurd h1 (by decide), fun _ => ?_⟩ | refine ⟨fun _ => ?_, fun h1 => absurd (by decide) h1⟩ | refine ⟨fun h1 => absurd (by decide) h1, fun _ => ?_⟩ | refine ⟨fun _ => ?_, fun h1 => absurd h1 (by decide)⟩
    conv => whnf
    try dsimp only
    refine ⟨trivial, c_find (f := 2) (by decide) ?_⟩
    refine EV.at ck152 (by decide) 300 [] ?_
    conv => whnf
    try dsimp only
    exact ⟨trivial, hbe j hj rfl hz e1⟩
  · rw [e2]
    refine EV.at ck152 (by decide) 300 [] ?_
    conv => whnf
    try dsimp only
    first | refine ⟨fun h1 => absurd h1 (by decide), fun _ => ?_⟩ | refine ⟨fun _ => ?_, fun h1 => absurd (by decide) h1⟩ | refine ⟨fun h1 => absurd (by decide) h1, fun _ => ?_⟩ | refine ⟨fun _ => ?_, fun h1 => absurd h1 (by decide)⟩
    conv => whnf
    try dsimp only
    exact ⟨trivial, h j i hj rfl (by omega) rfl⟩
end
