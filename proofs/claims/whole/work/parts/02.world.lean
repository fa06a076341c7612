/-! THE WORLD. A memory: shapes of cells (tag, length, references), ints by cell and place, longs by cell and place.
Cells 0, 1, 2 are the script and the two static rows (tag 20, nobody writes them); cell r from 3 on lies at base + (r - 3). -/
abbrev SHL : Type := List (Nat × Nat × List (Option Nat))
abbrev MH : Type := SHL × (Nat → Nat → Int32) × (Nat → Nat → Int64)
abbrev GG : Type := Launch × va_G × (Nat → ClassId) × Nat × (Nat → Nat)
def adr (G : GG) (r : Nat) : Nat := if r < 3 then G.2.2.2.2 r else G.2.2.2.1 + (r - 3)
def AA (G : GG) : Nat → Prop := fun q => G.2.2.2.1 ≤ q
def cv (G : GG) (v : Value) : Value := match v with
  | .ref r => .ref (adr G r)
  | w => w
def clN (c : Nat) : Nat := (vwCl.getD c (RX0, TX0, 0)).2.2
def clT (c k : Nat) : FieldType := (tyL.getD c tyX0) k
def rfO (G : GG) (o : Option Nat) : Option Nat := o.map (adr G)
def fvE (G : GG) (σ : MH) (r : Nat) (refs : List (Option Nat)) (ty : FieldType) (k : Nat) : Value := match ty with
  | .long => .long (σ.2.2 r k)
  | .object _ => va_rf (rfO G (refs.getD k none))
  | .array _ => va_rf (rfO G (refs.getD k none))
  | _ => .int (σ.2.1 r k)
def fsE (G : GG) (σ : MH) (r t : Nat) (refs : List (Option Nat)) : List Value := (List.range (clN t)).map (fun k => fvE G σ r refs (clT t k) k)
def cellE (G : GG) (σ : MH) (r : Nat) (q : Nat × Nat × List (Option Nat)) : va_E :=
  if q.1 < 12 then .inr (q.1, fsE G σ r q.1 q.2.2)
  else if q.1 = 13 then .inl (G.2.2.1 13, q.2.1, .inr (.inl (σ.2.2 r)))
  else if q.1 < 15 then .inl (G.2.2.1 q.1, q.2.1, .inl (σ.2.1 r))
  else .inl (G.2.2.1 q.1, q.2.1, .inr (.inr (.inr (.inr (fun j => rfO G (q.2.2.getD j none))))))
def wsO (G : GG) (σ : MH) : va_W := (List.range (σ.1.length - 3)).map fun k => (G.2.2.2.1 + k, cellE G σ (k + 3) (σ.1.getD (k + 3) (0, 0, [])))
def tagTy (t : Nat) : FieldType := if t = 12 then .int else if t = 13 then .long else if t = 14 then .boolean else if t = 15 then .object RX0 else if t = 16 then .object RX7 else .object RX8
def tysO (G : GG) : List (ClassId × FieldType) := [(G.2.2.1 12, .int), (G.2.2.1 13, .long), (G.2.2.1 14, .boolean), (G.2.2.1 15, .object RX0), (G.2.2.1 16, .object RX7), (G.2.2.1 17, .object RX8)]
def isNest : Cond → Bool
  | .fieldLinkNest _ _ _ _ _ _ => true
  | .methodLinkNest _ _ _ _ => true
  | _ => false
def lwG : List Cond := lw_tbl.filter goodWord
def lwN : List Cond := lw_tbl.filter isNest
/-- the memory in the heap H of a method that began at s -/
def WO (G : GG) (σ : MH) (s : State) (H : Heap) : Prop :=
  va_P G.2.1 vwCl (wsO G σ) H ∧ H.size = G.2.2.2.1 + (σ.1.length - 3) ∧ 3 ≤ σ.1.length ∧
  (∀ r, r < 3 → ∃ n, σ.1[r]? = some (20, n, []) ∧ va_T .int (adr G r) n (fun j => .int (σ.2.1 r j)) (AA G) s s.heap) ∧
  (∀ r t n f, 3 ≤ r → σ.1[r]? = some (t, n, f) → t < 18)
/-- what the tables say, and the statics -/
def SO (G : GG) (s : State) : Prop :=
  va_K G.2.1 vwCl (tysO G) s ∧ (∀ w ∈ lwN, va_Nw w s) ∧ va_Z "ShapeDuel" "LETTERS" "[I" (.ref (adr G 1)) (AA G) s s.heap ∧ va_Z "ShapeDuel" "ABOVE" "[I" (.ref (adr G 2)) (AA G) s s.heap ∧
  G.2.2.2.1 ≤ s.heap.size ∧ va_AO RX0 s ∧ va_AO RX7 s ∧ va_AO RX8 s
def WS (G : GG) (σ : MH) (U : State) : Prop := WO G σ U U.heap ∧ SO G U
-- ===== the list of the world's cells
theorem wsO_len (G : GG) (σ : MH) : (wsO G σ).length = σ.1.length - 3 := by simp [wsO]
theorem wsO_at {G : GG} {σ : MH} {r : Nat} {q : Nat × Nat × List (Option Nat)} (h3 : 3 ≤ r) (h : σ.1[r]? = some q) : (wsO G σ)[r - 3]? = some (adr G r, cellE G σ r q) := by
  have hl : r < σ.1.length := (List.getElem?_eq_some_iff.mp h).1
  have h1 : r - 3 < σ.1.length - 3 := by omega
  have h2 : r - 3 + 3 = r := by omega
  simp only [wsO, List.getElem?_map, List.getElem?_range h1, Option.map_some]
  rw [h2, adr, if_neg (by omega)]
  rw [List.getD_eq_getElem?_getD, h]
  rfl
theorem adr_ge {G : GG} {r : Nat} (h3 : 3 ≤ r) : adr G r = G.2.2.2.1 + (r - 3) := by rw [adr, if_neg (by omega)]
theorem AA_adr {G : GG} {r : Nat} (h3 : 3 ≤ r) : AA G (adr G r) := by rw [adr_ge h3]; exact Nat.le_add_right _ _
theorem wsO_D (G : GG) (σ : MH) : va_D (AA G) (wsO G σ) := by
  have key : ∀ (i : Nat) (p : Nat × va_E), (wsO G σ)[i]? = some p → p.1 = G.2.2.2.1 + i := by
    intro i p h
    have hl : i < (wsO G σ).length := (List.getElem?_eq_some_iff.mp h).1
    rw [wsO_len] at hl
    simp only [wsO, List.getElem?_map, List.getElem?_range hl, Option.map_some, Option.some.injEq] at h
    rw [← h]
  refine ⟨fun i j p q hi hj h => ?_, fun k q h => ?_⟩
  · rw [key i p hi, key j q hj] at h
    omega
  · rw [key k q h]
    exact Nat.le_add_right _ _
/-- one cell is another: the list with that place set -/
theorem wsO_set {G : GG} {σ σ' : MH} {r : Nat} {e : va_E} (h3 : 3 ≤ r) (hr : r < σ.1.length) (hl : σ'.1.length = σ.1.length) (he : cellE G σ' r (σ'.1.getD r (0, 0, [])) = e)
    (ho : ∀ r', r' ≠ r → cellE G σ' r' (σ'.1.getD r' (0, 0, [])) = cellE G σ r' (σ.1.getD r' (0, 0, []))) : (wsO G σ).set (r - 3) (adr G r, e) = wsO G σ' := by
  apply List.ext_getElem?
  intro i
  by_cases hi : i = r - 3
  · subst hi
    have h1 : r - 3 < (wsO G σ).length := by rw [wsO_len]; omega
    have h2 : r - 3 + 3 = r := by omega
    rw [List.getElem?_set_self h1]
    simp only [wsO, hl, List.getElem?_map, List.getElem?_range (show r - 3 < σ.1.length - 3 by omega), Option.map_some]
    rw [h2, he, adr_ge h3]
  · rw [List.getElem?_set_ne (Ne.symm hi)]
    by_cases hlt : i < σ.1.length - 3
    · simp only [wsO, hl, List.getElem?_map, List.getElem?_range hlt, Option.map_some]
      rw [ho (i + 3) (by omega)]
    · rw [List.getElem?_eq_none (by rw [wsO_len]; omega), List.getElem?_eq_none (by rw [wsO_len, hl]; omega)]
/-- one cell more -/
theorem wsO_push {G : GG} {σ σ' : MH} {q : Nat × Nat × List (Option Nat)} {e : va_E} {a : Nat} (h3 : 3 ≤ σ.1.length) (hs : σ'.1 = σ.1 ++ [q]) (ha : a = G.2.2.2.1 + (σ.1.length - 3)) (he : cellE G σ' σ.1.length q = e)
    (ho : ∀ r', r' < σ.1.length → cellE G σ' r' (σ.1.getD r' (0, 0, [])) = cellE G σ r' (σ.1.getD r' (0, 0, []))) : wsO G σ ++ [(a, e)] = wsO G σ' := by
  have hl : σ'.1.length = σ.1.length + 1 := by rw [hs]; simp
  apply List.ext_getElem?
  intro i
  by_cases hlt : i < σ.1.length - 3
  · rw [List.getElem?_append_left (by rw [wsO_len]; exact hlt)]
    simp only [wsO, hl, List.getElem?_map, List.getElem?_range hlt, List.getElem?_range (show i < σ.1.length + 1 - 3 by omega), Option.map_some]
    have hg : (σ.1 ++ [q]).getD (i + 3) (0, 0, []) = σ.1.getD (i + 3) (0, 0, []) := by rw [List.getD_eq_getElem?_getD, List.getD_eq_getElem?_getD, List.getElem?_append_left (by omega)]
    rw [hs, hg, ho (i + 3) (by omega)]
  · by_cases hi : i = σ.1.length - 3
    · subst hi
      rw [List.getElem?_append_right (by rw [wsO_len]; exact Nat.le_refl _), wsO_len, Nat.sub_self]
      simp only [wsO, hl, List.getElem?_map, List.getElem?_range (show σ.1.length - 3 < σ.1.length + 1 - 3 by omega), Option.map_some, List.getElem?_cons_zero]
      rw [show σ.1.length - 3 + 3 = σ.1.length by omega, hs, ha]
      rw [List.getD_eq_getElem?_getD, List.getElem?_append_right (Nat.le_refl _), Nat.sub_self, List.getElem?_cons_zero, Option.getD_some, he]
    · rw [List.getElem?_eq_none (by rw [List.length_append, wsO_len]; simp; omega), List.getElem?_eq_none (by rw [wsO_len, hl]; omega)]
-- ===== the world moves with the machine
theorem SO.moved {G : GG} {s U : State} (hW : s.WarmedH U.vm) (hh : ∀ q, q < s.heap.size → ¬ AA G q → U.heap[q]? = s.heap[q]?) (hz : s.heap.size ≤ U.heap.size) (h : SO G s) : SO G U := by
  obtain ⟨h1, h2, h3, h4, h5, h6, h7, h8⟩ := h
  refine ⟨va_K.moved hW.alike h1, fun w hw => ?_, va_Z.moved hW.alike (va_Z.kept h3 hh), va_Z.moved hW.alike (va_Z.kept h4 hh), Nat.le_trans h5 hz, va_AO.moved hW.alike h6, va_AO.moved hW.alike h7, va_AO.moved hW.alike h8⟩
  have hb := (List.mem_filter.mp hw).2
  have hq := h2 w hw
  cases w <;> first | exact va_Nw.warmF hW hq | exact va_Nw.warmM hW hq | (exact absurd hb (by simp [isNest]))
theorem SO.same {G : GG} {s U : State} (hv : s.vm = U.vm) (hh : U.heap = s.heap) (h : SO G s) : SO G U := by
  obtain ⟨h1, h2, h3, h4, h5, h6, h7, h8⟩ := h
  have al : s.vm.Alike U.vm := by rw [hv]; exact Vm.Alike.refl _
  rw [← hh] at h3 h4 h5
  refine ⟨va_K.moved al h1, fun w hw => va_Nw.same ?_ hv (h2 w hw), va_Z.moved al h3, va_Z.moved al h4, h5, va_AO.moved al h6, va_AO.moved al h7, va_AO.moved al h8⟩
  have hb := (List.mem_filter.mp hw).2
  cases w <;> first | rfl | (exact absurd hb (by simp [isNest]))
theorem WO.at {G : GG} {σ : MH} {s U : State} {H : Heap} (al : s.vm.Alike U.vm) (hb : G.2.2.2.1 ≤ s.heap.size) (hh : ∀ q, q < s.heap.size → ¬ AA G q → U.heap[q]? = s.heap[q]?) (h : WO G σ s H) : WO G σ U H := by
  obtain ⟨h1, h2, h3, h4, h5⟩ := h
  refine ⟨h1, h2, h3, fun r hr => ?_, h5⟩
  obtain ⟨n, e1, e2⟩ := h4 r hr
  exact ⟨n, e1, va_T.moved al (va_T.kept e2 hh)⟩
/-- back from a callee's end: the caller's start sees the same outside -/
theorem WO.back {G : GG} {σ : MH} {s t : State} {H : Heap} (al : s.vm.Alike t.vm) (hb : G.2.2.2.1 ≤ s.heap.size) (hh : ∀ q, q < s.heap.size → ¬ AA G q → t.heap[q]? = s.heap[q]?) (h : WO G σ t H) : WO G σ s H := by
  obtain ⟨h1, h2, h3, h4, h5⟩ := h
  refine ⟨h1, h2, h3, fun r hr => ?_, h5⟩
  obtain ⟨n, e1, e2⟩ := h4 r hr
  refine ⟨n, e1, va_T.moved al.symm (va_T.kept e2 fun q _ hq => (hh q ?_ hq).symm)⟩
  have : ¬ G.2.2.2.1 ≤ q := hq
  omega
