/-! what each call answers, and the state behind it -/
abbrev SP : Type := Int32 × AB
abbrev aq (a : AB) : Nat → SD := (aF a).1
abbrev az (a : AB) : Nat := (aF a).2.1
abbrev aw (a : AB) : Nat := (aF a).2.1 % 2
def sp_row (a : AB) (r n : Int32) : SP := match ix 6 r with
  | none => (-1, a)
  | some j => if nI 40 < n then (-1, a) else if n < 0 then (-3, fnd a 5) else (n, sRow a j (n.toNatClampNeg + 1) (fun _ => 0))
def sp_lay (a : AB) (r i v : Int32) : SP := match ix 6 r with
  | none => (-1, a)
  | some j => if aRs a j = 0 then (-3, fnd a 1) else match ix (aRs a j - 1) i with
    | none => (-3, fnd a 2)
    | some k => (1, uA (sRow a j (aRs a j) (fun x => if x = k then v else aRc a j x)) (aRc a j k))
def sp_at (a : AB) (r i : Int32) : SP := match ix 6 r with
  | none => (-1, a)
  | some j => if aRs a j = 0 then (-3, fnd a 1) else match ix (aRs a j - 1) i with
    | none => (-3, fnd a 2)
    | some k => (1, uA a (aRc a j k))
def sp_tear (a : AB) (r : Int32) : SP := match ix 6 r with
  | none => (-1, a)
  | some j => if aRs a j = 0 then (-3, fnd a 1) else (1, sRow a j 0 (fun _ => 0))
def hld (m : Nat) (x : Int32) (k : Nat) : Option Nat := if 0 ≤ x ∧ x.toNatClampNeg + k ≤ m then some x.toNatClampNeg else none
def sp_copy (a : AB) (r i t j n : Int32) : SP := match ix 6 r with
  | none => (-1, a)
  | some r' => match ix 6 t with
    | none => (-1, a)
    | some t' => if n < 0 then (-3, fnd a 5) else if aRs a r' = 0 ∨ aRs a t' = 0 then (-3, fnd a 1) else match hld (aRs a r' - 1) i n.toNatClampNeg with
      | none => (-3, fnd a 2)
      | some i' => match hld (aRs a t' - 1) j n.toNatClampNeg with
        | none => (-3, fnd a 2)
        | some j' => (1, sRow a t' (aRs a t') (fun x => if j' ≤ x ∧ x < j' + n.toNatClampNeg then aRc a r' (i' + (x - j')) else aRc a t' x))
def sp_mean (a : AB) (r : Int32) : SP := match ix 6 r with
  | none => (-1, a)
  | some j => if aRs a j = 0 then (-3, fnd a 1) else if aRs a j = 1 then (-3, fnd a 4) else (1, uA a (sumL (aRc a j) (aRs a j - 1) / (nI (aRs a j - 1)).toInt64).toInt32)
def sp_text (a : AB) (r n : Int32) : SP := match ix 4 r with
  | none => (-1, a)
  | some j => if nI 80 < n then (-1, a) else if n < 0 then (-3, fnd a 5) else (n, sTxt a j (n.toNatClampNeg + 1) (fun _ => 32))
def sp_put (a : AB) (r i v : Int32) : SP := match ix 4 r with
  | none => (-1, a)
  | some j => if aTs a j = 0 then (-3, fnd a 1) else match ix (aTs a j - 1) i with
    | none => (-3, fnd a 2)
    | some k => (aTc a j k + 1000, sTxt a j (aTs a j) (fun x => if x = k then i2b v else aTc a j x))
def aRd (a : AB) (j : Nat) : Int32 × PS := rdN (aTs a j - 1) (aTc a j) 80 P00
def sp_fault (a : AB) (r : Int32) : SP := match ix 4 r with
  | none => (-1, a)
  | some j => if aTs a j = 0 then (-3, fnd a 1) else ((aRd a j).1, a)
def begF (P : PS) : FG := (begQ (tC P.2.1) P.2.2.2.1 P.2.2.2.2, 0, (fun _ => 0), (fun _ _ => (0, 0, 0, 0)))
def ngt (a : AB) (P : PS) : AB := uK (uF (uT a (ownT P.2.1)) true (begF P)) (fun k => (false, (aK a k).2))
def sp_night (a : AB) (r : Int32) : SP := match ix 4 r with
  | none => (-1, a)
  | some j => if aTs a j = 0 then (-3, fnd a 1) else if (aRd a j).1 = -9 then (nI (tS (aRd a j).2.2.1), ngt a (aRd a j).2) else (-4, a)
def shI (T : TN) (i w : Nat) : Int32 := if w = 0 then nI (tK T i) else if w = 1 then nI (orN (btT T i) (tS T)) else if w = 2 then nI (orN (fun j => btT T j i) (tS T)) else nI (cntN (fun k => tI T k == i) (tC T))
def sp_shape (a : AB) (i w : Int32) : SP := match ix (tS (aT a)) i with
  | none => (-1, a)
  | some i' => match ix 4 w with
    | none => (-1, a)
    | some w' => (1, uA a (shI (aT a) i' w'))
def whoI (b c : Bool) : Int32 := b2i b + 2 * b2i c
def cgI (T : TN) (q : Nat → SD) (k w : Nat) : Int32 := if w = 0 then nI (tF T k) else if w = 1 then nI (tI T k) else if w = 2 then nI (tW T k) else whoI ((q 0).2.2.2.testBit k) ((q 1).2.2.2.testBit k)
def sp_change (a : AB) (k w : Int32) : SP := match ix (tC (aT a)) k with
  | none => (-1, a)
  | some k' => match ix 4 w with
    | none => (-1, a)
    | some w' => (1, uA a (cgI (aT a) (aq a) k' w'))
def chpI (T : TN) (i : Nat) : Nat → Int32
  | 0 => -9
  | k + 1 => if tI T k = i ∧ (chpI T i k = -9 ∨ nI (tW T k) < chpI T i k) then nI (tW T k) else chpI T i k
def mkI (T : TN) (q : Nat → SD) (i k : Nat) : Int32 := if k = 1 then chpI T i (tC T) else if k = 2 then whoI ((q 0).2.2.1.testBit i) ((q 1).2.2.1.testBit i) else if k = 3 then nI (cntN (fun j => tF T j == i) (tC T)) else if k = 4 then nI (pcN 12 (orN (fun j => btT T j i) (tS T))) else nI (cntN (fun j => tK T j == 3 && (tT T j).testBit i) (tS T))
def sp_mark (a : AB) (i kd : Int32) : SP := match ix (tS (aT a)) i with
  | none => (-1, a)
  | some i' => match ix 6 kd with
    | none => (-1, a)
    | some k => if k = 0 then (-1, a) else if isB (tK (aT a) i') k then (mkI (aT a) (aq a) i' k, a) else (-3, fnd a 3)
def fx (a : AB) (w : Int32) : Option Nat := if aH a then ix 2 w else none
def sdV (s : SD) (x : Nat) : Int32 := if x = 0 then nI s.1 else if x = 1 then nI s.2.1 else if x = 2 then nI s.2.2.1 else nI s.2.2.2
def sp_fighter (a : AB) (w x : Int32) : SP := match fx a w with
  | none => (-1, a)
  | some w' => match ix 4 x with
    | none => (-1, a)
    | some x' => (1, uA a (sdV (aq a w') x'))
def sB (x k b : Nat) : Nat := if b = 1 then x ||| 2 ^ k else clrN x k
def sp_teach (a : AB) (w k b : Int32) : SP := match fx a w with
  | none => (-1, a)
  | some w' => match ix (tC (aT a)) k with
    | none => (-1, a)
    | some k' => match ix 2 b with
      | none => (-1, a)
      | some b' => (b2i ((aq a w').2.2.2.testBit k'), uF a true (setK (aq a) w' (sB (aq a w').2.2.2 k' b'), (aF a).2))
def sp_fire (a : AB) (w v : Int32) : SP := match fx a w with
  | none => (-1, a)
  | some w' => match ix 6 v with
    | none => (-1, a)
    | some v' => (nI (aq a w').2.1, uF a true (setF (aq a) w' v', (aF a).2))
def setT (T : TN) (i x : Nat) : TN := (tS T, tK T, (fun j => if j = i then x else tT T j), tC T, tF T, tI T, tW T)
def sp_beat (a : AB) (i j b : Int32) : SP := match ix (tS (aT a)) i with
  | none => (-1, a)
  | some i' => match ix (tS (aT a)) j with
    | none => (-1, a)
    | some j' => if i' = j' then (-1, a) else match ix 2 b with
      | none => (-1, a)
      | some b' => (b2i ((tT (aT a) i').testBit j'), uT a (setT (aT a) i' (sB (tT (aT a) i') j' b')))
def opt (a : AB) (w : Nat) : Nat := optN (aT a) (aq a w) (aq a (1 - w)).1 (tC (aT a))
def sp_can (a : AB) (w : Int32) : SP := match fx a w with
  | none => (-1, a)
  | some w' => (nI (opt a w'), a)
def sp_turn (a : AB) : SP := if aH a then (nI (aw a), uA a (if opt a (aw a) = 0 then 1 else 0)) else (-4, a)
def sp_go (a : AB) (k : Int32) : SP := match ix (tC (aT a)) k with
  | none => (-1, a)
  | some k' => if canN (aT a) (aq a (aw a)) (aq a (1 - aw a)).1 k' then (if az a = 40 then (-2, a) else (nI (takesN (aT a) (aq a (aw a)) (aq a (1 - aw a)).1 k'), uF a true (doF (aT a) (aF a) k'))) else (-4, a)
def undF (F : FG) (m : Nat) : FG := ((fun w => ((F.2.2.2 m w).1, (F.2.2.2 m w).2.1, (F.2.2.2 m w).2.2.1, (F.1 w).2.2.2)), m, F.2.2)
def sp_undo (a : AB) (n : Int32) : SP := match ix (az a + 1) n with
  | none => (-1, a)
  | some m => if m < az a then (nI (az a - m), uF a true (undF (aF a) m)) else (0, a)
def sp_told (a : AB) (r : Int32) : SP := match ix 6 r with
  | none => (-1, a)
  | some j => (nI (az a), sRow a j (az a + 1) (fun i => nI ((aF a).2.2.1 i)))
def sp_keep (a : AB) (k : Int32) : SP := match ix 3 k with
  | none => (-1, a)
  | some j => if aH a then (nI (az a), uK a (fun x => if x = j then (true, aF a) else aK a x)) else (-4, a)
def sp_on (a : AB) (k : Int32) : SP := match ix 3 k with
  | none => (-1, a)
  | some j => if (aK a j).1 then (nI (aK a j).2.2.1, uF a true (aK a j).2) else (-3, fnd a 1)
def sp_wins (a : AB) : SP := if aH a then (if firstI (winP (aT a) (aq a) (aw a)) (tC (aT a)) 0 = -9 then 0 else 1, uA a (firstI (winP (aT a) (aq a) (aw a)) (tC (aT a)) 0)) else (-4, a)
def aEn (a : AB) : Nat := ends (aT a) (aq a) (aw a)
def sp_ends (a : AB) : SP := if aH a then (nI (aEn a), uA a (nI ((aw a + aEn a) % 2))) else (-4, a)
def sp_line (a : AB) (r : Int32) : SP := match ix 6 r with
  | none => (-1, a)
  | some j => if aH a then (nI (aEn a), sRow a j (aEn a + 1) (fun i => nI (lineK (aT a) (lineQ (aT a) (aq a) (aw a) i) ((aw a + i) % 2)))) else (-4, a)
def sp_least (a : AB) (w : Int32) : SP := match fx a w with
  | none => (-1, a)
  | some w' => (leastI (aT a) (aq a) (aw a) w' 6 0, a)
def sp_learn (a : AB) (w : Int32) : SP := match fx a w with
  | none => (-1, a)
  | some w' => (learnI (aT a) (aq a) (aw a) w', a)
def sp_needs (a : AB) (w : Int32) : SP := match fx a w with
  | none => (-1, a)
  | some w' => (nI (needN (aT a) (aq a) (aw a) w'), a)
def sp_lines (a : AB) (n : Int32) : SP := match ix 7 n with
  | none => (-1, a)
  | some m => if aH a then (nI (rowN (aT a) m (aq a) (aw a)).1, uA a (nI (rowN (aT a) m (aq a) (aw a)).2)) else (-4, a)
/-- why a row can't be followed: 0 if it can -/
def tld (a : AB) (j most e : Nat) : Nat := if aRs a j = 0 then 1 else if most + 1 < aRs a j then 5 else if allW (aRc a j) (nI e) (aRs a j - 1) then 0 else 3
def rwN (a : AB) (j i : Nat) : Nat := (aRc a j i).toNatClampNeg
def aFo (a : AB) (j : Nat) : Nat × (Nat → SD) := fol (aT a) (rwN a j) (aRs a j - 1) 0 (aq a) (aw a)
def sp_judge (a : AB) (r : Int32) : SP := match ix 6 r with
  | none => (-1, a)
  | some j => if aH a then (if tld a j 12 (tC (aT a)) = 0 then (nI (aFo a j).1, uA a (if optN (aT a) ((aFo a j).2 ((aw a + (aFo a j).1) % 2)) ((aFo a j).2 (1 - (aw a + (aFo a j).1) % 2)).1 (tC (aT a)) = 0 then nI ((aw a + (aFo a j).1) % 2) else -9)) else (-3, fnd a (tld a j 12 (tC (aT a))))) else (-4, a)
def aSh (a : AB) (j : Nat) : Nat := shC (aT a) (rwN a j) (aRs a j - 1) 0 (aq a) (aw a)
def sp_shown (a : AB) (r t : Int32) : SP := match ix 6 r with
  | none => (-1, a)
  | some j => match ix 6 t with
    | none => (-1, a)
    | some k => if aH a then (if tld a j 8 (tS (aT a)) = 0 then (nI (aSh a j), if 0 < aSh a j then sRow a k (aRs a j) (fun i => nI (shK (aT a) (rwN a j) (aRs a j - 1) (az a) i (shQ (aT a) (rwN a j) (aRs a j - 1) (az a) (aq a) i))) else a) else (-3, fnd a (tld a j 8 (tS (aT a))))) else (-4, a)
def sp_must (a : AB) (w r : Int32) : SP := match ix 2 w with
  | none => (-1, a)
  | some w' => match ix 6 r with
    | none => (-1, a)
    | some j => if aH a then (if tld a j 8 (tS (aT a)) = 0 then (nI (mustN (aT a) (rwN a j) (aRs a j - 1) (az a) (aq a) w'), a) else (-3, fnd a (tld a j 8 (tS (aT a))))) else (-4, a)
def tChn (a : AB) (p : Nat) : AB := uC a (lN (redU p)) (lN (redL p))
def sp_odds (a : AB) : SP := if aH a then (1, tChn a (chance (aT a) 2 (aq a) (aw a))) else (-4, a)
def aBe (a : AB) : Nat × Int32 := bestC (aT a) (aq a) (aw a) (tC (aT a))
def sp_hopes (a : AB) : SP := if aH a then (1, uA (tChn a (aBe a).1) (aBe a).2) else (-4, a)
def aDr (a : AB) (m : Nat) (s : Int32) : Nat × FG := drawN (aT a) m 0 s.toNatClampNeg (aF a)
def sp_lots (a : AB) (n s : Int32) : SP := match ix 21 n with
  | none => (-1, a)
  | some m => if m = 0 ∨ s < 1 ∨ s = 2147483647 then (-1, a) else if aH a then (if 40 < az a + m then (-2, a) else (nI (aDr a m s).1, uF a true (aDr a m s).2)) else (-4, a)
def sp_rings (a : AB) : SP := (nI (rgN (aT a) 125).1, uA a ((jshl 1 (nI (tS (aT a))) - 1) &&& (nI (rgN (aT a) 125).2 ^^^ (-1))))
def aCv (a : AB) : Nat := cvN (aT a) (2 ^ tS (aT a)) (2 ^ tS (aT a) - 1)
def sp_cover (a : AB) : SP := (nI (pcN 12 (aCv a)), uA a (nI (aCv a)))
def sp_alike (a : AB) : SP := (nI (alN (aT a)).1, uA a (nI (alN (aT a)).2))
def sp_best (a : AB) : SP := if tS (aT a) = 0 then (-9, a) else (nI (bsN (aT a) (tS (aT a))), uA a (ldI (aT a) (bsN (aT a) (tS (aT a)))))
def ctI (a : AB) (k : Nat) : Int32 := if k = 0 then nI (tS (aT a)) else if k = 1 then nI (tC (aT a)) else if k = 2 then nI (az a) else if k = 3 then nI (cntN (fun i => isB (tK (aT a) i) 1) (tS (aT a))) else if k = 4 then nI (cntN (fun i => isB (tK (aT a) i) 2) (tS (aT a))) else if k = 5 then nI ((aq a 0).2.1 + (aq a 1).2.1) else if k = 6 then nI (cntN (fun r => decide (aRs a r ≠ 0)) 6) else if k = 7 then nI (cntN (fun r => decide (aTs a r ≠ 0)) 4) else nI (cntN (fun r => (aK a r).1) 3)
def sp_count (a : AB) (w : Int32) : SP := match ix 9 w with
  | none => (-1, a)
  | some k => (ctI a k, a)
def sp_findings (a : AB) (f : Int32) : SP := match ix 6 f with
  | none => (-1, a)
  | some k => if k = 0 then (-1, a) else (aM a k, a)
/-- rows, texts mixed in: the size, then the cells -/
def mixR (s : Nat → Nat) (c : Nat → Nat → Int32) (h : Int64) : Nat → Int64
  | 0 => h
  | r + 1 => mixL (c r) (31 * mixR s c h r + (szI (s r)).toInt64) (s r - 1)
def dg1 (a : AB) : Int64 := mixL (ctI a) 17 9
def dg2 (a : AB) : Int64 := mixL (fun i => shI (aT a) (i / 4) (i % 4)) (dg1 a) (tS (aT a) * 4)
def dg3 (a : AB) : Int64 := mixL (fun i => cgI (aT a) (aq a) (i / 4) (i % 4)) (dg2 a) (tC (aT a) * 4)
def dg4 (a : AB) : Int64 := if aH a then mixL (fun i => sdV (aq a (i / 4)) (i % 4)) (dg3 a) 8 else dg3 a
def dg5 (a : AB) : Int64 := mixL (fun i => nI ((aF a).2.2.1 i)) (dg4 a) (az a)
def dg6 (a : AB) : Int64 := mixL (fun k => if (aK a k).1 then nI (aK a k).2.2.1 else -1) (dg5 a) 3
def dgt (a : AB) : Int64 := mixR (aTs a) (aTc a) (mixR (aRs a) (aRc a) (dg6 a) 6) 4
-- ===== a call of the class
def FC (I I' : Nat → Nat → Int32) : Prop := ∀ r, r < 3 ∨ 76 < r → I' r = I r
def FJ (J J' : Nat → Nat → Int64) : Prop := ∀ r, r < 3 ∨ 76 < r → J' r = J r
theorem FC.rf (I : Nat → Nat → Int32) : FC I I := fun _ _ => rfl
theorem FJ.rf (J : Nat → Nat → Int64) : FJ J J := fun _ _ => rfl
def CS (G : GG) (n y : Nat) (as : List Value) (sp : AB → SP) : Prop := ∀ (D : Nat) (I : Nat → Nat → Int32) (J : Nat → Nat → Int64) (Q : Option Value → MH → Prop) (a : AB) (e : Nat), aOK a → CA a e I J → e + 20 < 2 ^ 30 →
  (∀ I' J' e', e' ≤ e + 20 → CA (sp a).2 e' I' J' → FC I I' → FJ J J' → Q (some (.int (sp a).1)) (SH n, I', J')) → MT G (D + 60) y (.ref 3 :: as) (SH n, I, J) Q
def CSL (G : GG) (n y : Nat) (f : AB → Int64) : Prop := ∀ (D : Nat) (I : Nat → Nat → Int32) (J : Nat → Nat → Int64) (Q : Option Value → MH → Prop) (a : AB) (e : Nat), aOK a → CA a e I J → e + 20 < 2 ^ 30 →
  (∀ I' J' e', e' ≤ e + 20 → CA a e' I' J' → FC I I' → FJ J J' → Q (some (.long (f a))) (SH n, I', J')) → MT G (D + 60) y [.ref 3] (SH n, I, J) Q
theorem fin {n e e' : Nat} {I I' : Nat → Nat → Int32} {J J' : Nat → Nat → Int64} {Q : Option Value → MH → Prop} {sp : SP} {v : Int32} {a' : AB} (hs : sp = (v, a')) (hC : CA a' e' I' J') (he : e' ≤ e + 20) (h1 : FC I I') (h2 : FJ J J') (h : ∀ I' J' e', e' ≤ e + 20 → CA sp.2 e' I' J' → FC I I' → FJ J J' → Q (some (.int sp.1)) (SH n, I', J')) : Q (some (.int v)) (SH n, I', J') := by
  subst hs
  exact h I' J' e' he hC h1 h2
section
variable {G : GG} {d n : Nat} {σ : MH} {I : Nat → Nat → Int32} {J : Nat → Nat → Int64} {Q : Option Value → MH → Prop}
theorem c_wi {K : Nat} {r x : Int32} (hx : x = nI K) (hK : K < 65536) (hbad : ix K r = none → Q (some (.int 0)) σ) (hok : ∀ j, j < K → r = nI j → ix K r = some j → Q (some (.int 1)) σ) : MT G (d + 1) 142 [.int r, .int x] σ Q := by
  refine c_within ?_
  rw [hx]
  rcases ix_cases hK r with ⟨e1, e2⟩ | ⟨j, hj, hr, e1, e2⟩
  · rw [e2]
    exact hbad e1
  · rw [e2]
    exact hok j hj hr e1
theorem c_fi {a : AB} {r : Int32} (hb : I 12 1 = b2i (aH a)) (hbad : fx a r = none → Q (some (.int 0)) (SH n, I, J)) (hok : ∀ j, j < 2 → r = nI j → aH a = true → fx a r = some j → Q (some (.int 1)) (SH n, I, J)) : MT G (d + 2) 145 [.ref 3, .int r] (SH n, I, J) Q := by
  refine c_isFighter hb ?_
  unfold fx at hbad hok
  cases hh : aH a
  · rw [hh] at hbad
    exact hbad rfl
  · rw [if_pos hh] at hbad hok
    rw [Bool.true_and]
    rcases ix_cases (n := 2) (by decide) r with ⟨e1, e2⟩ | ⟨j, hj, hr, e1, e2⟩
    · rw [e2]
      exact hbad e1
    · rw [e2]
      exact hok j hj hr hh e1
end
