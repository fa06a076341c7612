/-! WP is sound: memory, calls, ends -/
-- ===== the cells, by their tags
theorem cell_obj {G : GG} {σ : MH} {r t n : Nat} {f : List (Option Nat)} (ht : t < 12) : cellE G σ r (t, n, f) = .inr (t, fsE G σ r t f) := by unfold cellE; rw [if_pos ht]
theorem cell_int {G : GG} {σ : MH} {r t n : Nat} {f : List (Option Nat)} (ht : t = 12 ∨ t = 14) : cellE G σ r (t, n, f) = .inl (G.2.2.1 t, n, .inl (σ.2.1 r)) := by
  unfold cellE
  rw [if_neg (show ¬ t < 12 by omega), if_neg (show ¬ t = 13 by omega), if_pos (show t < 15 by omega)]
theorem cell_long {G : GG} {σ : MH} {r n : Nat} {f : List (Option Nat)} : cellE G σ r (13, n, f) = .inl (G.2.2.1 13, n, .inr (.inl (σ.2.2 r))) := by
  unfold cellE
  rw [if_neg (show ¬ 13 < 12 by omega), if_pos rfl]
theorem cell_ref {G : GG} {σ : MH} {r t n : Nat} {f : List (Option Nat)} (ht : 15 ≤ t) : cellE G σ r (t, n, f) = .inl (G.2.2.1 t, n, .inr (.inr (.inr (.inr (fun j => rfO G (f.getD j none)))))) := by
  unfold cellE
  rw [if_neg (show ¬ t < 12 by omega), if_neg (show ¬ t = 13 by omega), if_neg (show ¬ t < 15 by omega)]
theorem fsE_at {G : GG} {σ : MH} {r t k : Nat} {f : List (Option Nat)} (hk : k < clN t) : (fsE G σ r t f)[k]? = some (fvE G σ r f (clT t k) k) := by
  simp only [fsE, List.getElem?_map, List.getElem?_range hk, Option.map_some]
theorem fsE_len {G : GG} {σ : MH} {r t : Nat} {f : List (Option Nat)} : (fsE G σ r t f).length = clN t := by simp [fsE]
theorem WO.three {G : GG} {σ : MH} {s : State} {H : Heap} (h : WO G σ s H) {r t n : Nat} {f : List (Option Nat)} (hr : σ.1[r]? = some (t, n, f)) (ht : t ≠ 20) : 3 ≤ r := by
  by_cases h3 : 3 ≤ r
  · exact h3
  · obtain ⟨n', e1, -⟩ := h.2.2.2.1 r (by omega)
    cases e1.symm.trans hr
    exact absurd rfl ht
theorem WO.ext {G : GG} {σ : MH} {s : State} {H : Heap} (h : WO G σ s H) {r n : Nat} {f : List (Option Nat)} (hr : σ.1[r]? = some (20, n, f)) : va_T .int (adr G r) n (fun j => .int (σ.2.1 r j)) (AA G) s s.heap := by
  by_cases h3 : 3 ≤ r
  · exact absurd (h.2.2.2.2 r 20 n f h3 hr) (by omega)
  · obtain ⟨n', e1, e2⟩ := h.2.2.2.1 r (by omega)
    cases e1.symm.trans hr
    exact e2
/-- the world behind a write -/
theorem WO.put {G : GG} {σ σ' : MH} {s : State} {H H1 : Heap} {r : Nat} {e : va_E} (h : WO G σ s H) (h3 : 3 ≤ r) (hr : r < σ.1.length) (hl : σ'.1.length = σ.1.length) (hz : H1.size = H.size)
    (hsh : ∀ r', r' < 3 → σ'.1[r']? = σ.1[r']?) (hI : ∀ r', r' < 3 → σ'.2.1 r' = σ.2.1 r') (htag : ∀ t n f, σ'.1[r]? = some (t, n, f) → t < 18) (hoth : ∀ r', r' ≠ r → σ'.1[r']? = σ.1[r']?)
    (he : cellE G σ' r (σ'.1.getD r (0, 0, [])) = e) (ho : ∀ r', r' ≠ r → cellE G σ' r' (σ'.1.getD r' (0, 0, [])) = cellE G σ r' (σ.1.getD r' (0, 0, [])))
    (hP : va_P G.2.1 vwCl ((wsO G σ).set (r - 3) (adr G r, e)) H1) : WO G σ' s H1 := by
  obtain ⟨h1, h2, h4, h5, h6⟩ := h
  rw [wsO_set h3 hr hl he ho] at hP
  refine ⟨hP, by rw [hz, h2, hl], by rw [hl]; exact h4, fun r' hr' => ?_, fun r' t n f h7 h8 => ?_⟩
  · obtain ⟨n, e1, e2⟩ := h5 r' hr'
    exact ⟨n, by rw [hsh r' hr']; exact e1, by rw [hI r' hr']; exact e2⟩
  · by_cases hq : r' = r
    · subst hq; exact htag t n f h8
    · exact h6 r' t n f h7 (by rw [← hoth r' hq]; exact h8)
theorem va_P.size {D : va_G} {cl : List vw_C} {ws : va_W} {H : Heap} : True := trivial
theorem upI_row {I : Nat → Nat → Int32} {r k : Nat} {x : Int32} : upI I r k x r = upd (I r) k x := by
  funext j
  simp [upI, upd]
theorem upI_oth {I : Nat → Nat → Int32} {r k r' : Nat} {x : Int32} (h : r' ≠ r) : upI I r k x r' = I r' := by
  funext j
  simp [upI, h]
theorem upL_row {I : Nat → Nat → Int64} {r k : Nat} {x : Int64} : upL I r k x r = vp_updL (I r) k x := by
  funext j
  simp [upL, vp_updL]
theorem upL_oth {I : Nat → Nat → Int64} {r k r' : Nat} {x : Int64} (h : r' ≠ r) : upL I r k x r' = I r' := by
  funext j
  simp [upL, h]
theorem fvE_congr {G : GG} {σ σ' : MH} {r : Nat} {f : List (Option Nat)} {ty : FieldType} {k : Nat} (h1 : σ'.2.1 r k = σ.2.1 r k) (h2 : σ'.2.2 r k = σ.2.2 r k) : fvE G σ' r f ty k = fvE G σ r f ty k := by
  cases ty <;> simp [fvE, h1, h2]
theorem cell_congr {G : GG} {σ σ' : MH} {r : Nat} {q : Nat × Nat × List (Option Nat)} (h1 : σ'.2.1 r = σ.2.1 r) (h2 : σ'.2.2 r = σ.2.2 r) : cellE G σ' r q = cellE G σ r q := by
  have hf : fsE G σ' r q.1 q.2.2 = fsE G σ r q.1 q.2.2 := List.map_congr_left (fun k _ => fvE_congr (by rw [h1]) (by rw [h2]))
  unfold cellE
  rw [hf, h1, h2]
theorem getD_of {sh : SHL} {r : Nat} {q : Nat × Nat × List (Option Nat)} (h : sh[r]? = some q) : sh.getD r (0, 0, []) = q := by rw [List.getD_eq_getElem?_getD, h]; rfl
/-- an int of a cell -/
theorem WO.putI {G : GG} {σ : MH} {s : State} {H H1 : Heap} {r k t n : Nat} {f : List (Option Nat)} {x : Int32} {e : va_E} (h : WO G σ s H) (hr : σ.1[r]? = some (t, n, f)) (h3 : 3 ≤ r) (hz : H1.size = H.size)
    (he : cellE G (σ.1, upI σ.2.1 r k x, σ.2.2) r (t, n, f) = e) (hP : va_P G.2.1 vwCl ((wsO G σ).set (r - 3) (adr G r, e)) H1) : WO G (σ.1, upI σ.2.1 r k x, σ.2.2) s H1 := by
  refine WO.put h h3 (List.getElem?_eq_some_iff.mp hr).1 rfl hz (fun _ _ => rfl) (fun r' h' => upI_oth (by omega)) (fun t' n' f' h' => h.2.2.2.2 r t' n' f' h3 h') (fun _ _ => rfl) ?_ (fun r' h' => cell_congr (upI_oth h') rfl) hP
  show cellE G _ r (σ.1.getD r (0, 0, [])) = e
  rw [getD_of hr]
  exact he
theorem WO.putL {G : GG} {σ : MH} {s : State} {H H1 : Heap} {r k t n : Nat} {f : List (Option Nat)} {x : Int64} {e : va_E} (h : WO G σ s H) (hr : σ.1[r]? = some (t, n, f)) (h3 : 3 ≤ r) (hz : H1.size = H.size)
    (he : cellE G (σ.1, σ.2.1, upL σ.2.2 r k x) r (t, n, f) = e) (hP : va_P G.2.1 vwCl ((wsO G σ).set (r - 3) (adr G r, e)) H1) : WO G (σ.1, σ.2.1, upL σ.2.2 r k x) s H1 := by
  refine WO.put h h3 (List.getElem?_eq_some_iff.mp hr).1 rfl hz (fun _ _ => rfl) (fun r' h' => rfl) (fun t' n' f' h' => h.2.2.2.2 r t' n' f' h3 h') (fun _ _ => rfl) ?_ (fun r' h' => cell_congr rfl (upL_oth h')) hP
  show cellE G _ r (σ.1.getD r (0, 0, [])) = e
  rw [getD_of hr]
  exact he
/-- a reference of a cell -/
theorem WO.putR {G : GG} {σ : MH} {s : State} {H H1 : Heap} {r t n : Nat} {f f' : List (Option Nat)} {e : va_E} (h : WO G σ s H) (hr : σ.1[r]? = some (t, n, f)) (h3 : 3 ≤ r) (hz : H1.size = H.size)
    (he : cellE G (σ.1.set r (t, n, f'), σ.2.1, σ.2.2) r (t, n, f') = e) (hP : va_P G.2.1 vwCl ((wsO G σ).set (r - 3) (adr G r, e)) H1) : WO G (σ.1.set r (t, n, f'), σ.2.1, σ.2.2) s H1 := by
  have hlt : r < σ.1.length := (List.getElem?_eq_some_iff.mp hr).1
  have hs : (σ.1.set r (t, n, f'))[r]? = some (t, n, f') := List.getElem?_set_self hlt
  have ho : ∀ r', r' ≠ r → (σ.1.set r (t, n, f'))[r']? = σ.1[r']? := fun r' h' => List.getElem?_set_ne (Ne.symm h')
  refine WO.put h h3 hlt (by simp) hz (fun r' h' => ho r' (by omega)) (fun r' h' => rfl) (fun t' n' f2 h' => ?_) ho ?_ (fun r' h' => ?_) hP
  · cases hs.symm.trans h'
    exact h.2.2.2.2 r t n f h3 hr
  · show cellE G _ r ((σ.1.set r (t, n, f')).getD r (0, 0, [])) = e
    rw [getD_of hs]
    exact he
  · show cellE G _ r' ((σ.1.set r (t, n, f')).getD r' (0, 0, [])) = _
    rw [List.getD_eq_getElem?_getD, ho r' h', ← List.getD_eq_getElem?_getD]
    exact cell_congr rfl rfl
theorem va_S.sz {A : Nat → Prop} {H0 H : Heap} {locs : List Loc} (h : va_S A H0 H locs) : H0.size ≤ H.size := h.1
/-- the rows' heaps: how large they are stands in the world's list -/
theorem tys_at (G : GG) : (tysO G)[0]? = some (G.2.2.1 12, .int) ∧ (tysO G)[1]? = some (G.2.2.1 13, .long) ∧ (tysO G)[2]? = some (G.2.2.1 14, .boolean) ∧ (tysO G)[3]? = some (G.2.2.1 15, .object RX0) ∧ (tysO G)[4]? = some (G.2.2.1 16, .object RX7) ∧ (tysO G)[5]? = some (G.2.2.1 17, .object RX8) := ⟨rfl, rfl, rfl, rfl, rfl, rfl⟩
