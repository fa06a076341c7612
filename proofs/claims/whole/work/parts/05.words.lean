/-! the tables' words, by their places -/
def cn (o : Nat) : String := cnL.getD o ""
theorem lwG_of {p : Nat} {w : Cond} (h : lw_tbl[p]? = some w) (hg : goodWord w = true) : w ∈ lwG := List.mem_filter.mpr ⟨List.mem_of_getElem? h, hg⟩
theorem lwN_of {p : Nat} {w : Cond} (h : lw_tbl[p]? = some w) (hg : isNest w = true) : w ∈ lwN := List.mem_filter.mpr ⟨List.mem_of_getElem? h, hg⟩
theorem lwG_self : GoodIn lwG lwG := fun w h => ⟨h, good_of_word (List.mem_filter.mp h).2⟩
def FLok (o i ci k : Nat) : Prop := ∃ (C : String) (T : u_T) (N : Nat), vwCl[ci]? = some (C, T, N) ∧ k < N ∧ (T k).1 = C ∧
  (Cond.fieldLink (cn o) i C (T k).2.1 (T k).2.2.1 ∈ lwG ∨ Cond.fieldLinkNest (cn o) i C (T k).2.1 (T k).2.2.1 "ShapeDuel" ∈ lwN)
def chkF (o : Nat) (q : Nat × Nat × Nat × Nat) : Bool := match vwCl[q.2.1]?, lw_tbl[q.2.2.2]? with
  | some (C, T, N), some w => decide (q.2.2.1 < N) && (decide ((T q.2.2.1).1 = C) && ((decide (w = .fieldLink (cn o) q.1 C (T q.2.2.1).2.1 (T q.2.2.1).2.2.1) && goodWord w) || decide (w = .fieldLinkNest (cn o) q.1 C (T q.2.2.1).2.1 (T q.2.2.1).2.2.1 "ShapeDuel")))
  | _, _ => false
theorem chkF_ok {o : Nat} {q : Nat × Nat × Nat × Nat} (h : chkF o q = true) : FLok o q.1 q.2.1 q.2.2.1 := by
  unfold chkF at h
  split at h
  · rename_i C T N w h1 h2
    simp only [Bool.and_eq_true, Bool.or_eq_true, decide_eq_true_eq] at h
    obtain ⟨a, b, c⟩ := h
    refine ⟨C, T, N, h1, a, b, ?_⟩
    rcases c with ⟨c, g⟩ | c
    · subst c; exact Or.inl (lwG_of h2 g)
    · subst c; exact Or.inr (lwN_of h2 rfl)
  · cases h
set_option maxRecDepth 100000 in
theorem FL_all : ∀ o, o < 16 → (FL o).all (chkF o) = true := by decide +kernel
theorem FL_ok {o i ci k : Nat} (ho : o < 16) (h : (FL o).any (fun q => q.1 == i && (q.2.1 == ci && q.2.2.1 == k)) = true) : FLok o i ci k := by
  obtain ⟨q, hq, h⟩ := List.any_eq_true.mp h
  simp only [Bool.and_eq_true, beq_iff_eq] at h
  obtain ⟨a, b, c⟩ := h
  subst a; subst b; subst c
  exact chkF_ok (List.all_eq_true.mp (FL_all o ho) q hq)
def spN (y : Nat) : Option MethodName := if y = 1000 then some objectInit else if y = 1001 then some arraycopyName else if y = 1002 then some Lib.Math.max.name else if y = 1003 then some Lib.MathLoose.max_long.x else if y = 1004 then some Lib.Math.min.name else none
def MLok (o i y : Nat) : Prop := match spN y with
  | some x => Cond.methodLink (cn o) i x ∈ lwG
  | none => (Cond.methodLink (cn o) i (yN y) ∈ lwG ∨ Cond.methodLinkNest (cn o) i (yN y) "ShapeDuel" ∈ lwN)
def chkM (o : Nat) (q : Nat × Nat × Nat) : Bool := match lw_tbl[q.2.2]? with
  | some w => match spN q.2.1 with
    | some x => decide (w = .methodLink (cn o) q.1 x) && goodWord w
    | none => ((decide (w = .methodLink (cn o) q.1 (yN q.2.1)) && goodWord w) || decide (w = .methodLinkNest (cn o) q.1 (yN q.2.1) "ShapeDuel"))
  | none => false
theorem chkM_ok {o : Nat} {q : Nat × Nat × Nat} (h : chkM o q = true) : MLok o q.1 q.2.1 := by
  unfold chkM at h
  unfold MLok
  cases h2 : lw_tbl[q.2.2]? with
  | none => rw [h2] at h; cases h
  | some w =>
    rw [h2] at h
    dsimp only at h
    cases h3 : spN q.2.1 with
    | some x =>
      rw [h3] at h
      dsimp only at h ⊢
      simp only [Bool.and_eq_true, decide_eq_true_eq] at h
      obtain ⟨c, g⟩ := h
      subst c
      exact lwG_of h2 g
    | none =>
      rw [h3] at h
      dsimp only at h ⊢
      simp only [Bool.and_eq_true, Bool.or_eq_true, decide_eq_true_eq] at h
      rcases h with ⟨c, g⟩ | c
      · subst c; exact Or.inl (lwG_of h2 g)
      · subst c; exact Or.inr (lwN_of h2 rfl)
set_option maxRecDepth 100000 in
theorem ML_all : ∀ o, o < 16 → (ML o).all (chkM o) = true := by decide +kernel
theorem ML_ok {o i y : Nat} (ho : o < 16) (h : (ML o).any (fun q => q.1 == i && q.2.1 == y) = true) : MLok o i y := by
  obtain ⟨q, hq, h⟩ := List.any_eq_true.mp h
  simp only [Bool.and_eq_true, beq_iff_eq] at h
  obtain ⟨a, b⟩ := h
  subst a; subst b
  exact chkM_ok (List.all_eq_true.mp (ML_all o ho) q hq)
def CLok (o i : Nat) (v : Value) : Prop := match v with
  | .int x => Cond.constant (cn o) i x ∈ lwG
  | .long x => Cond.constantLong (cn o) i x ∈ lwG
  | _ => False
def chkC (o : Nat) (q : Nat × Value × Nat) : Bool := match lw_tbl[q.2.2]?, q.2.1 with
  | some w, .int x => decide (w = .constant (cn o) q.1 x) && goodWord w
  | some w, .long x => decide (w = .constantLong (cn o) q.1 x) && goodWord w
  | _, _ => false
theorem chkC_ok {o : Nat} {q : Nat × Value × Nat} (h : chkC o q = true) : CLok o q.1 q.2.1 := by
  obtain ⟨i, v, p⟩ := q
  unfold chkC at h
  unfold CLok
  dsimp only at h ⊢
  cases v <;> cases h2 : lw_tbl[p]? <;> simp only [h2] at h <;> first | (simp at h; done) | (simp only [Bool.and_eq_true, decide_eq_true_eq] at h; obtain ⟨c, g⟩ := h; subst c; exact lwG_of h2 g)
set_option maxRecDepth 100000 in
theorem CL_all : ∀ o, o < 16 → (CL o).all (chkC o) = true := by decide +kernel
theorem CL_ok {o i : Nat} {v : Value} (ho : o < 16) (h : (CL o).any (fun q => q.1 == i && decide (q.2.1 = v)) = true) : CLok o i v := by
  obtain ⟨q, hq, h⟩ := List.any_eq_true.mp h
  simp only [Bool.and_eq_true, beq_iff_eq, decide_eq_true_eq] at h
  obtain ⟨a, b⟩ := h
  subst a; subst b
  exact chkC_ok (List.all_eq_true.mp (CL_all o ho) q hq)
def stN (a : Nat) : String := if a = 1 then "LETTERS" else "ABOVE"
def chkS (o : Nat) (q : Nat × Nat × Nat) : Bool := decide (lw_tbl[q.2.2]? = some (.fieldLinkNest (cn o) q.1 "ShapeDuel" (stN q.2.1) "[I" "ShapeDuel")) && (q.2.1 == 1 || q.2.1 == 2)
set_option maxRecDepth 100000 in
theorem SL_all : ∀ o, o < 16 → (SL o).all (chkS o) = true := by decide +kernel
theorem SL_ok {o i a : Nat} (ho : o < 16) (h : (SL o).any (fun q => q.1 == i && q.2.1 == a) = true) : Cond.fieldLinkNest (cn o) i "ShapeDuel" (stN a) "[I" "ShapeDuel" ∈ lwN ∧ (a = 1 ∨ a = 2) := by
  obtain ⟨q, hq, h⟩ := List.any_eq_true.mp h
  simp only [Bool.and_eq_true, beq_iff_eq] at h
  obtain ⟨a, b⟩ := h
  subst a; subst b
  have h2 := List.all_eq_true.mp (SL_all o ho) q hq
  simp only [chkS, Bool.and_eq_true, Bool.or_eq_true, beq_iff_eq, decide_eq_true_eq] at h2
  exact ⟨lwN_of h2.1 rfl, h2.2⟩
def chkN (o : Nat) (q : Nat × Nat × Nat) : Bool := match vwCl[q.2.1]?, lw_tbl[q.2.2]? with
  | some (C, _, N), some w => decide (w = .classLink (cn o) q.1 C) && (goodWord w && (decide (Cond.instantiable C N ∈ lw_tbl) && (goodWord (.instantiable C N) && (decide (Cond.initialized C ∈ lw_tbl) && goodWord (.initialized C)))))
  | _, _ => false
def NLok (o i ci : Nat) : Prop := ∃ (C : String) (T : u_T) (N : Nat), vwCl[ci]? = some (C, T, N) ∧ Cond.classLink (cn o) i C ∈ lwG ∧ Cond.instantiable C N ∈ lwG ∧ Cond.initialized C ∈ lwG
set_option maxRecDepth 100000 in
theorem NL_all : ∀ o, o < 16 → (NL o).all (chkN o) = true := by decide +kernel
theorem NL_ok {o i c : Nat} (ho : o < 16) (h : (NL o).any (fun q => q.1 == i && q.2.1 == c) = true) : NLok o i c := by
  obtain ⟨q, hq, h⟩ := List.any_eq_true.mp h
  simp only [Bool.and_eq_true, beq_iff_eq] at h
  obtain ⟨a, b⟩ := h
  subst a; subst b
  have h2 := List.all_eq_true.mp (NL_all o ho) q hq
  unfold chkN at h2
  split at h2
  · rename_i C T N w e1 e2
    simp only [Bool.and_eq_true, decide_eq_true_eq] at h2
    obtain ⟨a, b, c, d, e, f⟩ := h2
    subst a
    exact ⟨C, T, N, e1, lwG_of e2 b, List.mem_filter.mpr ⟨c, d⟩, List.mem_filter.mpr ⟨e, f⟩⟩
  · cases h2
def tagC (t : Nat) : String := if t = 15 then RX0 else if t = 16 then RX7 else RX8
def chkA (o : Nat) (q : Nat × Nat × Nat) : Bool := decide (lw_tbl[q.2.2]? = some (.classLink (cn o) q.1 (tagC q.2.1))) && (goodWord (.classLink (cn o) q.1 (tagC q.2.1)) && (q.2.1 == 15 || (q.2.1 == 16 || q.2.1 == 17)))
set_option maxRecDepth 100000 in
theorem AL_all : ∀ o, o < 16 → (AL o).all (chkA o) = true := by decide +kernel
theorem AL_ok {o i a : Nat} (ho : o < 16) (h : (AL o).any (fun q => q.1 == i && q.2.1 == a) = true) : Cond.classLink (cn o) i (tagC a) ∈ lwG ∧ (a = 15 ∨ a = 16 ∨ a = 17) := by
  obtain ⟨q, hq, h⟩ := List.any_eq_true.mp h
  simp only [Bool.and_eq_true, beq_iff_eq] at h
  obtain ⟨a, b⟩ := h
  subst a; subst b
  have h2 := List.all_eq_true.mp (AL_all o ho) q hq
  simp only [chkA, Bool.and_eq_true, Bool.or_eq_true, beq_iff_eq, decide_eq_true_eq] at h2
  exact ⟨lwG_of h2.1 h2.2.1, h2.2.2⟩
