/-! each call leaves a good state good -/
theorem ix_some {n : Nat} (hn : n < 65536) {x : Int32} {j : Nat} (h : ix n x = some j) : j < n ∧ x = nI j := by
  rcases ix_cases hn x with ⟨e, _⟩ | ⟨k, hk, hx, e, _⟩
  · rw [e] at h; exact absurd h (by simp)
  · rw [e] at h
    have : k = j := Option.some.inj h
    subst this
    exact ⟨hk, hx⟩
theorem fx_some {a : AB} {w : Int32} {j : Nat} (h : fx a w = some j) : aH a = true ∧ j < 2 := by
  unfold fx at h
  cases hh : aH a with
  | true => rw [hh, if_pos rfl] at h; exact ⟨rfl, (ix_some (by decide) h).1⟩
  | false => rw [hh, if_neg (by decide)] at h; exact absurd h (by simp)
section
variable {a : AB}
theorem aOK.row (h : aOK a) {j m : Nat} {c : Nat → Int32} (hm : m ≤ 41) : aOK (sRow a j m c) := by
  obtain ⟨h1, h2, h3, h4, h5, h6⟩ := h
  refine ⟨h1, h2, h3, h4, fun r hr => ?_, h6⟩
  show (if r = j then m else aRs a r) ≤ 41
  split
  · exact hm
  · exact h5 r hr
theorem aOK.ask (h : aOK a) {x : Int32} : aOK (uA a x) := h
theorem aOK.txt (h : aOK a) {j m : Nat} {c : Nat → Int32} (hm : m ≤ 81) : aOK (sTxt a j m c) := by
  obtain ⟨h1, h2, h3, h4, h5, h6⟩ := h
  refine ⟨h1, h2, h3, h4, h5, fun r hr => ?_⟩
  show (if r = j then m else aTs a r) ≤ 81
  split
  · exact hm
  · exact h6 r hr
theorem aOK.fgt (h : aOK a) {F : FG} (hF : fOK (aT a) F) : aOK (uF a true F) := by
  obtain ⟨h1, h2, h3, h4, h5, h6⟩ := h
  exact ⟨h1, fun _ => hF, fun z => Bool.noConfusion z, fun k hk hb => ⟨rfl, (h4 k hk hb).2⟩, h5, h6⟩
theorem cl40 {n : Int32} {K : Nat} (hK : K < 60000) (h1 : ¬ nI K < n) (h2 : ¬ n < 0) : n.toNatClampNeg + 1 ≤ K + 1 := by
  obtain ⟨k, hk, rfl⟩ := nI_of h2
  rw [nI_clamp hk]
  have : ¬ K < k := fun z => h1 ((nI_ltI (by omega) hk).mpr z)
  omega
theorem ok_row {r n : Int32} (hO : aOK a) : aOK (sp_row a r n).2 := by
  unfold sp_row
  split
  · exact hO
  · split
    · exact hO
    · rename_i h1
      split
      · exact hO
      · rename_i h2
        exact hO.row (cl40 (K := 40) (by decide) h1 h2)
theorem ok_lay {r i v : Int32} (hO : aOK a) : aOK (sp_lay a r i v).2 := by
  unfold sp_lay
  split
  · exact hO
  · rename_i j hj
    split
    · exact hO
    · split
      · exact hO
      · exact (hO.row (hO.2.2.2.2.1 j (ix_some (by decide) hj).1)).ask
theorem ok_at {r i : Int32} (hO : aOK a) : aOK (sp_at a r i).2 := by
  unfold sp_at
  split
  · exact hO
  · split
    · exact hO
    · split <;> exact hO
theorem ok_tear {r : Int32} (hO : aOK a) : aOK (sp_tear a r).2 := by
  unfold sp_tear
  split
  · exact hO
  · split
    · exact hO
    · exact hO.row (by omega)
theorem ok_copy {r i t j n : Int32} (hO : aOK a) : aOK (sp_copy a r i t j n).2 := by
  unfold sp_copy
  split
  · exact hO
  · split
    · exact hO
    · rename_i t' ht
      split
      · exact hO
      · split
        · exact hO
        · split
          · exact hO
          · split
            · exact hO
            · exact hO.row (hO.2.2.2.2.1 t' (ix_some (by decide) ht).1)
theorem ok_mean {r : Int32} (hO : aOK a) : aOK (sp_mean a r).2 := by
  unfold sp_mean
  split
  · exact hO
  · split
    · exact hO
    · split <;> exact hO
theorem ok_text {r n : Int32} (hO : aOK a) : aOK (sp_text a r n).2 := by
  unfold sp_text
  split
  · exact hO
  · split
    · exact hO
    · rename_i h1
      split
      · exact hO
      · rename_i h2
        exact hO.txt (cl40 (K := 80) (by decide) h1 h2)
theorem ok_put {r i v : Int32} (hO : aOK a) : aOK (sp_put a r i v).2 := by
  unfold sp_put
  split
  · exact hO
  · rename_i j hj
    split
    · exact hO
    · split
      · exact hO
      · exact hO.txt (hO.2.2.2.2.2 j (ix_some (by decide) hj).1)
theorem ok_fault {r : Int32} (hO : aOK a) : aOK (sp_fault a r).2 := by
  unfold sp_fault
  split
  · exact hO
  · split <;> exact hO
theorem own_ok {T : TN} (h : tOK T) (h4 : four T) : tOK2 (ownT T) := by
  obtain ⟨h1, h2, h3, h5⟩ := h
  have hp : 2 ^ tS T ≤ 2 ^ 5 := Nat.pow_le_pow_right (by decide) h1
  refine ⟨⟨h1, fun i hi => ⟨(h2 i hi).1, ?_⟩, h3, h5⟩, fun i hi => ?_, h4⟩
  · have hi : i < tS T := hi
    have hm : tT T i % 2 ^ tS T < 2 ^ tS T := Nat.mod_lt _ (Nat.two_pow_pos _)
    exact clrN_lt (b := 5) (by omega) (by omega)
  · show (clrN (tT T i % 2 ^ tS T) i).testBit i = false
    rw [clrN_bits]
    simp
theorem ok_night {r : Int32} (hO : aOK a) : aOK (sp_night a r).2 := by
  unfold sp_night
  split
  · exact hO
  · rename_i j hj
    have hj := (ix_some (by decide) hj).1
    split
    · exact hO
    · split
      · rename_i h9
        obtain ⟨h1, h2, h3, h4, h5, h6⟩ := hO
        have o81 := h6 j hj
        have hfin := rdN_fin (sz := aTs a j - 1) (tx := aTc a j) (by omega) 80 P00 P00_ok (Nat.zero_le _) h9
        obtain ⟨p1, p2, p3, p4, p5⟩ := rdN_ok (sz := aTs a j - 1) (tx := aTc a j) 80 P00 P00_ok
        have hR : rdN (aTs a j - 1) (aTc a j) 80 P00 = aRd a j := rfl
        rw [hR] at hfin p1 p2 p3 p4 p5
        generalize (aRd a j).2 = P at *
        have hs : ∀ w, w < 2 → sOK (ownT P.2.1) (begQ (tC P.2.1) P.2.2.2.1 P.2.2.2.2 w) := fun w hw => by
          obtain ⟨q1, q2⟩ := p4 w (by omega)
          have h5' : tS P.2.1 ≤ 5 := p1.1
          have h12 : tC P.2.1 ≤ 12 := p1.2.2.1
          refine ⟨q1, q2, ?_, ?_⟩
          · show 2 ^ P.2.2.2.1 w < 32
            exact (Nat.pow_lt_pow_right (by decide) (show P.2.2.2.1 w < 5 from Nat.lt_of_lt_of_le q1 h5') : 2 ^ P.2.2.2.1 w < 2 ^ 5)
          · show 2 ^ tC P.2.1 - 1 < 4096
            have : 2 ^ tC P.2.1 ≤ 2 ^ 12 := Nat.pow_le_pow_right (by decide) h12
            omega
        exact ⟨own_ok p1 p5, fun _ => ⟨⟨hs 0 (by decide), hs 1 (by decide)⟩, (by decide : (0 : Nat) ≤ 40), fun i hi => absurd hi (Nat.not_lt_zero i)⟩, fun z => Bool.noConfusion z, fun k _ hb => Bool.noConfusion hb, h5, h6⟩
      · exact hO
theorem ok_shape {i w : Int32} (hO : aOK a) : aOK (sp_shape a i w).2 := by
  unfold sp_shape
  split
  · exact hO
  · split <;> exact hO
theorem ok_change {i w : Int32} (hO : aOK a) : aOK (sp_change a i w).2 := by
  unfold sp_change
  split
  · exact hO
  · split <;> exact hO
theorem ok_mark {i w : Int32} (hO : aOK a) : aOK (sp_mark a i w).2 := by
  unfold sp_mark
  split
  · exact hO
  · split
    · exact hO
    · split
      · exact hO
      · split <;> exact hO
theorem ok_fighter {i w : Int32} (hO : aOK a) : aOK (sp_fighter a i w).2 := by
  unfold sp_fighter
  split
  · exact hO
  · split <;> exact hO
theorem sB_lt {x k b m : Nat} (hx : x < 2 ^ m) (hk : k < m) : sB x k b < 2 ^ m := by
  unfold sB
  split
  · exact Nat.or_lt_two_pow hx (Nat.pow_lt_pow_right (by decide) hk)
  · exact clrN_lt hx hk
theorem ok_teach {w k b : Int32} (hO : aOK a) : aOK (sp_teach a w k b).2 := by
  unfold sp_teach
  split
  · exact hO
  · rename_i w' hw
    have hh := fx_some hw
    have h12 : tC (aT a) ≤ 12 := hO.1.1.2.2.1
    split
    · exact hO
    · rename_i k' hk
      have hk := (ix_some (by omega) hk).1
      split
      · exact hO
      · obtain ⟨f1, f2, f3⟩ := hO.2.1 hh.1
        refine hO.fgt ⟨vQ_setK hh.2 f1 (sB_lt (m := 12) ?_ (by omega)), f2, f3⟩
        rcases (show w' = 0 ∨ w' = 1 by omega) with rfl | rfl
        · exact f1.1.2.2.2
        · exact f1.2.2.2.2
theorem ok_fire {w v : Int32} (hO : aOK a) : aOK (sp_fire a w v).2 := by
  unfold sp_fire
  split
  · exact hO
  · rename_i w' hw
    have hh := fx_some hw
    split
    · exact hO
    · rename_i v' hv
      have hv := (ix_some (by decide) hv).1
      obtain ⟨f1, f2, f3⟩ := hO.2.1 hh.1
      refine hO.fgt ⟨?_, f2, f3⟩
      rcases (show w' = 0 ∨ w' = 1 by omega) with rfl | rfl
      · exact vQ_setF0 f1 (by omega)
      · exact vQ_setF1 f1 (by omega)
theorem sB_oth {x k b i : Nat} (h : i ≠ k) : (sB x k b).testBit i = x.testBit i := by
  unfold sB
  split
  · rw [Nat.testBit_or, Nat.testBit_two_pow_of_ne (Ne.symm h), Bool.or_false]
  · rw [clrN_bits, decide_eq_true h, Bool.and_true]
theorem ok_beat {i j b : Int32} (hO : aOK a) : aOK (sp_beat a i j b).2 := by
  have h5 : tS (aT a) ≤ 5 := hO.1.1.1
  unfold sp_beat
  split
  · exact hO
  · rename_i i' hi
    have hi := (ix_some (by omega) hi).1
    split
    · exact hO
    · rename_i j' hj
      have hj := (ix_some (by omega) hj).1
      split
      · exact hO
      · rename_i hne
        split
        · exact hO
        · rename_i b' hb
          obtain ⟨⟨⟨t1, t2, t3, t4⟩, t5, t6⟩, h2, h3, h4, h5', h6⟩ := hO
          refine ⟨⟨⟨t1, fun x hx => ⟨(t2 x hx).1, ?_⟩, t3, t4⟩, fun x hx => ?_, t6⟩, h2, h3, h4, h5', h6⟩
          · show (if x = i' then sB (tT (aT a) i') j' b' else tT (aT a) x) < 32
            split
            · exact sB_lt (m := 5) (t2 i' hi).2 (by omega)
            · exact (t2 x hx).2
          · show (if x = i' then sB (tT (aT a) i') j' b' else tT (aT a) x).testBit x = false
            split
            · rename_i e
              rw [e, sB_oth hne]
              exact t5 i' hi
            · exact t5 x hx
theorem ok_can {w : Int32} (hO : aOK a) : aOK (sp_can a w).2 := by
  unfold sp_can
  split <;> exact hO
theorem ok_turn (hO : aOK a) : aOK (sp_turn a).2 := by
  unfold sp_turn
  split <;> exact hO
theorem fOK_do {T : TN} {F : FG} {k : Nat} (hT : tOK T) (hF : fOK T F) (hz : F.2.1 < 40) (hk : k < tC T) : fOK T (doF T F k) := by
  obtain ⟨f1, f2, f3⟩ := hF
  refine ⟨vQ_step hT (Nat.mod_lt _ (by decide)) hk f1, by show F.2.1 + 1 ≤ 40; omega, fun i hi => ?_⟩
  have hi : i < F.2.1 + 1 := hi
  show (if i = F.2.1 then k else F.2.2.1 i) < tC T ∧ vQ T (if i = F.2.1 then F.1 else F.2.2.2 i)
  split
  · exact ⟨hk, f1⟩
  · exact f3 i (by omega)
theorem ok_go {k : Int32} (hO : aOK a) : aOK (sp_go a k).2 := by
  unfold sp_go
  split
  · exact hO
  · rename_i k' hk
    have h12 : tC (aT a) ≤ 12 := hO.1.1.2.2.1
    have hk := (ix_some (by omega) hk).1
    split
    · split
      · exact hO
      · rename_i h40
        have hF := hO.2.1 (aH_of hO (Or.inr (by omega)))
        have hz : az a ≤ 40 := hF.2.1
        exact hO.fgt (fOK_do hO.1.1 hF (by show az a < 40; omega) hk)
    · exact hO
theorem ok_undo {x : Int32} (hO : aOK a) : aOK (sp_undo a x).2 := by
  unfold sp_undo
  split
  · exact hO
  · rename_i m hm
    split
    · rename_i hlt
      cases hh : aH a with
      | false =>
        have h0 : az a = 0 := (hO.2.2.1 hh).2.2.1
        omega
      | true =>
        obtain ⟨f1, f2, f3⟩ := hO.2.1 hh
        obtain ⟨g1, g2⟩ := f3 m hlt
        refine hO.fgt ⟨⟨⟨g2.1.1, g2.1.2.1, g2.1.2.2.1, f1.1.2.2.2⟩, ⟨g2.2.1, g2.2.2.1, g2.2.2.2.1, f1.2.2.2.2⟩⟩, ?_, fun i hi => ?_⟩
        · show m ≤ 40
          have : az a ≤ 40 := f2
          omega
        · have hi : i < m := hi
          exact f3 i (show i < az a by omega)
    · exact hO
theorem az_le (hO : aOK a) : az a ≤ 40 := by
  cases hh : aH a with
  | true => exact (hO.2.1 hh).2.1
  | false => have h0 : az a = 0 := (hO.2.2.1 hh).2.2.1; omega
theorem ok_told {r : Int32} (hO : aOK a) : aOK (sp_told a r).2 := by
  have := az_le hO
  unfold sp_told
  split
  · exact hO
  · exact hO.row (by omega)
theorem ok_keep {k : Int32} (hO : aOK a) : aOK (sp_keep a k).2 := by
  unfold sp_keep
  split
  · exact hO
  · rename_i j hj
    split
    · rename_i hh
      obtain ⟨h1, h2, h3, h4, h5, h6⟩ := hO
      refine ⟨h1, h2, h3, fun x hx hb => ?_, h5, h6⟩
      have hb : (if x = j then (true, aF a) else aK a x).1 = true := hb
      show aH a = true ∧ fOK (aT a) (if x = j then (true, aF a) else aK a x).2
      split at hb
      · rename_i e
        rw [if_pos e]
        exact ⟨hh, h2 hh⟩
      · rename_i e
        rw [if_neg e]
        exact h4 x hx hb
    · exact hO
theorem ok_on {k : Int32} (hO : aOK a) : aOK (sp_on a k).2 := by
  unfold sp_on
  split
  · exact hO
  · rename_i j hj
    have hj := (ix_some (by decide) hj).1
    split
    · rename_i hb
      exact hO.fgt (hO.2.2.2.1 j hj hb).2
    · exact hO
theorem ok_wins (hO : aOK a) : aOK (sp_wins a).2 := by
  unfold sp_wins
  split <;> exact hO
theorem ok_ends (hO : aOK a) : aOK (sp_ends a).2 := by
  unfold sp_ends
  split <;> exact hO
theorem ok_line {r : Int32} (hO : aOK a) : aOK (sp_line a r).2 := by
  have hL : aEn a ≤ 10 := endsF_le (aT a) 10 _ _
  unfold sp_line
  split
  · exact hO
  · split
    · exact hO.row (by omega)
    · exact hO
theorem ok_least {w : Int32} (hO : aOK a) : aOK (sp_least a w).2 := by
  unfold sp_least
  split <;> exact hO
theorem ok_learn {w : Int32} (hO : aOK a) : aOK (sp_learn a w).2 := by
  unfold sp_learn
  split <;> exact hO
theorem ok_needs {w : Int32} (hO : aOK a) : aOK (sp_needs a w).2 := by
  unfold sp_needs
  split <;> exact hO
theorem ok_lines {x : Int32} (hO : aOK a) : aOK (sp_lines a x).2 := by
  unfold sp_lines
  split
  · exact hO
  · split <;> exact hO
theorem ok_judge {r : Int32} (hO : aOK a) : aOK (sp_judge a r).2 := by
  unfold sp_judge
  split
  · exact hO
  · split
    · split <;> exact hO
    · exact hO
theorem ok_shown {r t : Int32} (hO : aOK a) : aOK (sp_shown a r t).2 := by
  unfold sp_shown
  split
  · exact hO
  · rename_i j hj
    split
    · exact hO
    · split
      · split
        · show aOK (if 0 < aSh a j then _ else a)
          split
          · exact hO.row (hO.2.2.2.2.1 j (ix_some (by decide) hj).1)
          · exact hO
        · exact hO
      · exact hO
theorem ok_must {w r : Int32} (hO : aOK a) : aOK (sp_must a w r).2 := by
  unfold sp_must
  split
  · exact hO
  · split
    · exact hO
    · split
      · split <;> exact hO
      · exact hO
theorem ok_odds (hO : aOK a) : aOK (sp_odds a).2 := by
  unfold sp_odds
  split <;> exact hO
theorem ok_hopes (hO : aOK a) : aOK (sp_hopes a).2 := by
  unfold sp_hopes
  split <;> exact hO
theorem draw_ok {T : TN} (hT : tOK T) : ∀ m i x (F : FG), fOK T F → F.2.1 + m ≤ 40 → fOK T (drawN T m i x F).2
  | 0, _, _, _, h, _ => h
  | m + 1, i, x, F, h, hz => by
    rw [drawN]
    split
    · exact h
    · rename_i ho
      have hol := optF_lt (F := F) hT
      obtain ⟨pc1, pc2⟩ := pc_le _ hol
      have pc3 := pc2 (by omega)
      have hr : x * 48271 % 2147483647 % pcN 12 (optF T F) < pcN 12 (optF T F) := Nat.mod_lt _ pc3
      obtain ⟨k1, k2⟩ := nth_ok _ hol _ (by omega) hr
      have hb := optN_bit (T := T) (q := F.1 (F.2.1 % 2)) (o := (F.1 (1 - F.2.1 % 2)).1) (k := nthK (optF T F) (x * 48271 % 2147483647 % pcN 12 (optF T F))) (tC T)
      rw [show optN T (F.1 (F.2.1 % 2)) (F.1 (1 - F.2.1 % 2)).1 (tC T) = optF T F from rfl, k1] at hb
      have hb := hb.symm
      rw [Bool.and_eq_true, decide_eq_true_eq] at hb
      exact draw_ok hT m (i + 1) _ _ (fOK_do hT h (by omega) hb.1) (by show F.2.1 + 1 + m ≤ 40; omega)
theorem ok_lots {x s : Int32} (hO : aOK a) : aOK (sp_lots a x s).2 := by
  unfold sp_lots
  split
  · exact hO
  · split
    · exact hO
    · split
      · rename_i hh
        split
        · exact hO
        · rename_i hz
          exact hO.fgt (draw_ok hO.1.1 _ _ _ _ (hO.2.1 hh) (by show az a + _ ≤ 40; omega))
      · exact hO
theorem ok_rings (hO : aOK a) : aOK (sp_rings a).2 := hO
theorem ok_cover (hO : aOK a) : aOK (sp_cover a).2 := hO
theorem ok_alike (hO : aOK a) : aOK (sp_alike a).2 := hO
theorem ok_best (hO : aOK a) : aOK (sp_best a).2 := by
  unfold sp_best
  split <;> exact hO
theorem ok_count {x : Int32} (hO : aOK a) : aOK (sp_count a x).2 := by
  unfold sp_count
  split <;> exact hO
theorem ok_findings {x : Int32} (hO : aOK a) : aOK (sp_findings a x).2 := by
  unfold sp_findings
  split
  · exact hO
  · split <;> exact hO
end
