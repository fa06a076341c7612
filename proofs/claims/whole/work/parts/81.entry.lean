theorem lk_cl : (vwCl.all fun q => (u_ws q.1 q.2.1 q.2.2).all (fun w => decide (w ∈ lw_tbl)) && decide (Cond.instantiable q.1 q.2.2 ∈ lw_tbl)) = true := by decide +kernel
theorem lk_known {s : State} {args : Array Value} (hts : ∀ w ∈ lw_tbl, w.before args s = true) : ∃ D : va_G, ∀ (c : Nat) (q : vw_C), vwCl[c]? = some q → u_Kn s q.1 q.2.1 q.2.2 (D.1 c) (D.2 c) := by
  have h : ∀ c : Nat, ∃ x : ClassId × (Nat → Nat), ∀ q, vwCl[c]? = some q → u_Kn s q.1 q.2.1 q.2.2 x.1 x.2 := by
    intro c
    cases hq : vwCl[c]? with
    | none => exact ⟨(0, fun _ => 0), fun q h => by cases h⟩
    | some q =>
      have hm := List.all_eq_true.mp lk_cl q (List.mem_of_getElem? hq)
      rw [Bool.and_eq_true] at hm
      obtain ⟨cC, iS, hK⟩ := u_known (C := q.1) (T := q.2.1) (N := q.2.2) (n := q.2.2) hts (fun w hw => of_decide_eq_true (List.all_eq_true.mp hm.1 w hw)) (hts _ (of_decide_eq_true hm.2))
      exact ⟨(cC, iS), fun q' h' => by cases h'; exact hK⟩
  exact ⟨(fun c => (Classical.choose (h c)).1, fun c => (Classical.choose (h c)).2), fun c q hq => Classical.choose_spec (h c) q hq⟩
theorem lk_arr {s : State} {args : Array Value} {ty : FieldType} (hp : ty = .int ∨ ty = .long ∨ ty = .boolean) (h : (Cond.arrayClass ty).before args s = true) : ∃ cA, ArrOfT s cA ty ∧ va_RA s cA ty := by
  obtain ⟨cA, kA, comp, h1, h2, h3⟩ := Cond.arrayClass_spec h
  refine ⟨cA, fun n z => ⟨fun k h => (by cases h), kA, h2, comp, h3⟩, ?_⟩
  rcases hp with rfl | rfl | rfl <;> exact h1
theorem lk_over {s : State} {C : String} (h : va_AO C s) : ∃ cA, ArrOfT s cA (.object C) ∧ va_RA s cA (.object C) := by
  obtain ⟨comp, c, k, h1, h2, h3, h4, h5⟩ := Cond.arrayOver_spec h
  exact ⟨c, fun n z => ⟨fun k h => (by cases h), k, h3, comp, h4⟩, k, comp, h3, h4, h1, h5⟩
theorem lk_w : ([Cond.arrayClass .int, .arrayClass .long, .arrayClass .boolean, .arrayOver (.object RX0), .arrayOver (.object RX7), .arrayOver (.object RX8), .laysStatic "ShapeDuel" "LETTERS" "[I", .laysStatic "ShapeDuel" "ABOVE" "[I", .initialized "ShapeDuel"] : List Cond).all (fun w => decide (w ∈ lw_tbl)) = true := by decide +kernel
theorem lk_in {w : Cond} (h : w ∈ ([Cond.arrayClass .int, .arrayClass .long, .arrayClass .boolean, .arrayOver (.object RX0), .arrayOver (.object RX7), .arrayOver (.object RX8), .laysStatic "ShapeDuel" "LETTERS" "[I", .laysStatic "ShapeDuel" "ABOVE" "[I", .initialized "ShapeDuel"] : List Cond)) : w ∈ lw_tbl := of_decide_eq_true (List.all_eq_true.mp lk_w w h)
theorem lk_row {s : State} {args : Array Value} {N : String} {f : Nat → Int32} (A : Nat → Prop) (hA : ∀ a : Nat, a < s.heap.size → ¬ A a) (h1 : (Cond.arrayOf (.static "ShapeDuel" N "[I") .int).before args s = true) (h2 : (Cond.eq (.length (.static "ShapeDuel" N "[I")) (.int 6)).before args s = true) (h3 : ∀ j, j < 6 → (Cond.eq (.elem (.static "ShapeDuel" N "[I") (.int (Int32.ofNat j))) (.int (f j))).before args s = true) : ∃ t : Nat, (Term.static "ShapeDuel" N "[I").eval args s none [] s = some (.ref t) ∧ va_T .int t 6 (fun j => .int (f j)) A s s.heap :=
  va_Tof (by decide) h1 (va_eqt h2) (fun j hj => va_eqt (h3 j hj)) hA
