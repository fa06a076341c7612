/-! new cells, rows of references, copies -/
theorem lw_ac_int : Cond.arrayClass .int ∈ lwG := lwG_of (p := 213) (by decide +kernel) rfl
theorem lw_ac_long : Cond.arrayClass .long ∈ lwG := lwG_of (p := 324) (by decide +kernel) rfl
theorem lw_ac_boolean : Cond.arrayClass .boolean ∈ lwG := lwG_of (p := 1303) (by decide +kernel) rfl
theorem zrI_oth {I : Nat → Nat → Int32} {r r' : Nat} (h : r' ≠ r) : zrI I r r' = I r' := by funext j; simp [zrI, h]
theorem zrL_oth {I : Nat → Nat → Int64} {r r' : Nat} (h : r' ≠ r) : zrL I r r' = I r' := by funext j; simp [zrL, h]
theorem zrI_row {I : Nat → Nat → Int32} {r : Nat} : zrI I r r = fun _ => 0 := by funext j; simp [zrI]
theorem zrL_row {I : Nat → Nat → Int64} {r : Nat} : zrL I r r = fun _ => 0 := by funext j; simp [zrL]
abbrev pushM (σ : MH) (q : Nat × Nat × List (Option Nat)) : MH := (σ.1 ++ [q], zrI σ.2.1 σ.1.length, zrL σ.2.2 σ.1.length)
theorem WO.push {G : GG} {σ : MH} {s : State} {H H1 : Heap} {q : Nat × Nat × List (Option Nat)} {e : va_E} (h : WO G σ s H) (hq : q.1 < 18) (hz : H1.size = H.size + 1) (hk : ∀ a, a < H.size → H1[a]? = H[a]?)
    (he : cellE G (pushM σ q) σ.1.length q = e) (hat : va_at G.2.1 vwCl (H.size, e) H1) : WO G (pushM σ q) s H1 := by
  obtain ⟨h1, h2, h3, h4, h5⟩ := h
  have hl : (pushM σ q).1.length = σ.1.length + 1 := by simp
  have hold : ∀ r', r' < σ.1.length → (pushM σ q).1[r']? = σ.1[r']? := fun r' h' => List.getElem?_append_left h'
  refine ⟨?_, by rw [hz, h2, hl]; omega, by rw [hl]; omega, fun r' hr' => ?_, fun r' t n f h6 h7 => ?_⟩
  · rw [← wsO_push (σ := σ) (q := q) (e := e) (a := H.size) h3 rfl h2 he (fun r' h' => cell_congr (zrI_oth (by omega)) (zrL_oth (by omega)))]
    refine (h1.kept (fun k x hx => hk x.1 ((h1 k x hx).lt))).app (fun k x hx => ?_)
    have hk0 : k < 1 := (List.getElem?_eq_some_iff.mp hx).1
    rw [show k = 0 by omega] at hx
    cases hx
    exact hat
  · obtain ⟨n, e1, e2⟩ := h4 r' hr'
    refine ⟨n, by rw [hold r' (by omega)]; exact e1, ?_⟩
    rw [show (pushM σ q).2.1 r' = σ.2.1 r' from zrI_oth (by omega)]
    exact e2
  · by_cases hlt : r' < σ.1.length
    · rw [hold r' hlt] at h7
      exact h5 r' t n f h6 h7
    · have h8 : (σ.1 ++ [q])[r']? = some (t, n, f) := h7
      rw [List.getElem?_append_right (by omega)] at h8
      have h9 : r' - σ.1.length < 1 := (List.getElem?_eq_some_iff.mp h8).1
      rw [show r' - σ.1.length = 0 by omega] at h8
      cases h8
      exact hq
theorem adr_new {G : GG} {σ : MH} {s : State} {H : Heap} (h : WO G σ s H) : adr G σ.1.length = H.size := by rw [adr_ge h.2.2.1, h.2.1]
theorem va_S.grow {A : Nat → Prop} {H0 H H1 : Heap} {locs : List Loc} (h : va_S A H0 H locs) (hz : H1.size = H.size + 1) (hk : ∀ a, a < H.size → H1[a]? = H[a]?) : va_S A H0 H1 locs :=
  ⟨by rw [hz]; exact Nat.le_succ_of_le h.1, fun q h1 h2 => (hk q (Nat.lt_of_lt_of_le h1 h.1)).trans (h.2.1 q h1 h2), h.2.2⟩
theorem fvE_zero {G : GG} {σ : MH} {r k N : Nat} {ty : FieldType} (h1 : σ.2.1 r k = 0) (h2 : σ.2.2 r k = 0) (hty : ty = .int ∨ ty = .long ∨ ty = .boolean ∨ (∃ C, ty = .object C) ∨ ∃ t, ty = .array t) : defaultValue ty = fvE G σ r (List.replicate N none) ty k := by
  have hn : (List.replicate N (none : Option Nat)).getD k none = none := by
    rw [List.getD_eq_getElem?_getD, List.getElem?_replicate]
    split <;> rfl
  have hnull : va_rf (rfO G ((List.replicate N (none : Option Nat)).getD k none)) = .null := by rw [hn]; rfl
  rcases hty with rfl | rfl | rfl | ⟨C, rfl⟩ | ⟨t, rfl⟩
  · show Value.int 0 = .int (σ.2.1 r k); rw [h1]
  · show Value.long 0 = .long (σ.2.2 r k); rw [h2]
  · show Value.int 0 = .int (σ.2.1 r k); rw [h1]
  · exact hnull.symm
  · exact hnull.symm
theorem clT_kind : ∀ t, t < 12 → ∀ k, k < clN t → (match clT t k with
  | .int => true
  | .long => true
  | .boolean => true
  | .object _ => true
  | .array _ => true
  | _ => false) = true := by decide +kernel
theorem clT_cases {t k : Nat} (ht : t < 12) (hk : k < clN t) : clT t k = .int ∨ clT t k = .long ∨ clT t k = .boolean ∨ (∃ C, clT t k = .object C) ∨ ∃ x, clT t k = .array x := by
  have h := clT_kind t ht k hk
  revert h
  cases clT t k <;> simp
section
variable {G : GG} {y d pc : Nat} {p : Program} {e : Env} {R : Room} {s : State} {m : MethodId} {args : Array Value} {below : List Frame} {meth : Method} {c : Code} {H : Heap} {locs : List Loc} {Z : State → Prop} {ls : Array Slot} {kc ns : Nat} {σ : MH} {rest : List Value}
theorem newO {ci idx : Nat} (F : FX G y d p R s m args meth c) (hO : SO G s) (hw : WO G σ s H) (hS : va_S (AA G) s.heap H locs) (hci : ci < 12) (hyo : yO y < 16) (hcn : cn (yO y) = (yN y).cls) (hlk : (NL (yO y)).any (fun q => q.1 == idx && q.2.1 == ci) = true)
    (hc1 : kc + 1 ≤ R.cells) (hc2 : ns + clN ci ≤ R.slots) (hd : decode (yC y) pc = .ok (.new idx, 3))
    (kk : ∀ (H1 : Heap), WO G (pushM σ (ci, clN ci, List.replicate (clN ci) none)) s H1 → va_S (AA G) s.heap H1 locs → W p G.1 e R s m args below meth c H1 locs (kc + 1) (ns + clN ci) Z (F0 m (pc + 3) ls (.ref (adr G σ.1.length) :: rest))) :
    W p G.1 e R s m args below meth c H locs kc ns Z (F0 m pc ls rest) := by
  obtain ⟨C, T, N, hc, g1, g2, g3⟩ := NL_ok hyo hlk
  obtain ⟨hN, hin, hty, hnm⟩ := C_ok ci C T N hc
  have hts := F.2.2.2.2.2.1
  have hown : s.vm.findClass (cn (yO y)) = some m.cls := by rw [hcn]; exact F.2.2.2.2.1
  have hKn := hO.1.1 ci _ hc
  rw [adr_new hw] at kk
  subst hN
  refine W.newcK F.1 F.2.1 hown (hts _ g1) (hts _ g2) (hts _ g3) rfl hd hc1 hc2 hKn.2.1 rfl fun H1 kC hkC e1 z1 o1 => ?_
  refine kk H1 (hw.push (show ci < 18 by omega) z1 o1 (cell_obj hci) ⟨_, hc, (u_born (clT ci) hts hin hKn hkC e1 hty).to (fun j hj => ?_)⟩) (hS.grow z1 o1)
  show defaultValue (clT ci j) = vp_V (fsE G _ _ ci _) j
  unfold vp_V
  rw [List.getD_eq_getElem?_getD, fsE_at hj]
  exact fvE_zero (by show zrI σ.2.1 σ.1.length σ.1.length j = 0; rw [zrI_row]) (by show zrL σ.2.2 σ.1.length σ.1.length j = 0; rw [zrL_row]) (clT_cases hci hj)
theorem newA {a : ArrayType} {x : Int32} (F : FX G y d p R s m args meth c) (hO : SO G s) (hw : WO G σ s H) (hS : va_S (AA G) s.heap H locs) (ha : tagNew a < 18) (hx : ¬ x < 0) (hx2 : x.toNatClampNeg ≤ 65536)
    (hc1 : kc + 1 ≤ R.cells) (hc2 : ns + x.toNatClampNeg ≤ R.slots) (hd : decode (yC y) pc = .ok (.newarray a, 2))
    (kk : ∀ (H1 : Heap), WO G (pushM σ (tagNew a, x.toNatClampNeg, [])) s H1 → va_S (AA G) s.heap H1 locs → W p G.1 e R s m args below meth c H1 locs (kc + 1) (ns + x.toNatClampNeg) Z (F0 m (pc + 2) ls (.ref (adr G σ.1.length) :: rest))) :
    W p G.1 e R s m args below meth c H locs kc ns Z (F0 m pc ls (.int x :: rest)) := by
  have hts := F.2.2.2.2.2.1
  rw [adr_new hw] at kk
  have hfind : ∀ (k : Nat) (cA : ClassId) (ty : FieldType), (tysO G)[k]? = some (cA, ty) → va_RA s cA ty := fun k cA ty h => (hO.1.2 k _ h).2
  cases a <;> first | (exact absurd ha (by decide)) | skip
  · refine va_newaK (atype := .boolean) F.1 F.2.1 (hts (.arrayClass .boolean) lw_ac_boolean) rfl hd rfl hx rfl (by have hb : componentBytes (newarray.typeOf ArrayType.boolean) = 1 := rfl; rw [hb]; omega) hc1 hc2 rfl fun H1 cA e1 z1 o1 hAr hNm => ?_
    have hcA : cA = G.2.2.1 14 := Option.some.inj (hNm.symm.trans (hfind 2 _ _ rfl))
    subst hcA
    refine kk H1 (hw.push ha z1 o1 (cell_int (Or.inr rfl)) ?_) (hS.grow z1 o1)
    show H1[H.size]? = some (vp_cell _ _)
    rw [e1, vp_cell_i]
    congr 2
    funext j
    show _ = Value.int (zrI σ.2.1 σ.1.length σ.1.length j)
    rw [zrI_row]
    rfl
  · refine va_newaK (atype := .int) F.1 F.2.1 (hts (.arrayClass .int) lw_ac_int) rfl hd rfl hx rfl (by have hb : componentBytes (newarray.typeOf ArrayType.int) = 4 := rfl; rw [hb]; omega) hc1 hc2 rfl fun H1 cA e1 z1 o1 hAr hNm => ?_
    have hcA : cA = G.2.2.1 12 := Option.some.inj (hNm.symm.trans (hfind 0 _ _ rfl))
    subst hcA
    refine kk H1 (hw.push ha z1 o1 (cell_int (Or.inl rfl)) ?_) (hS.grow z1 o1)
    show H1[H.size]? = some (vp_cell _ _)
    rw [e1, vp_cell_i]
    congr 2
    funext j
    show _ = Value.int (zrI σ.2.1 σ.1.length σ.1.length j)
    rw [zrI_row]
    rfl
  · refine va_newaK (atype := .long) F.1 F.2.1 (hts (.arrayClass .long) lw_ac_long) rfl hd rfl hx rfl (by have hb : componentBytes (newarray.typeOf ArrayType.long) = 8 := rfl; rw [hb]; omega) hc1 hc2 rfl fun H1 cA e1 z1 o1 hAr hNm => ?_
    have hcA : cA = G.2.2.1 13 := Option.some.inj (hNm.symm.trans (hfind 1 _ _ rfl))
    subst hcA
    refine kk H1 (hw.push ha z1 o1 cell_long ?_) (hS.grow z1 o1)
    show H1[H.size]? = some (vp_cell _ _)
    rw [e1, vp_cell_l]
    congr 2
    funext j
    show _ = Value.long (zrL σ.2.2 σ.1.length σ.1.length j)
    rw [zrL_row]
    rfl
theorem tagC_ty {G : GG} {t : Nat} (ht : t = 15 ∨ t = 16 ∨ t = 17)   : ∃ k : Nat, (tysO G)[k]? = some (G.2.2.1 t, FieldType.object (tagC t)) := by
  rcases ht with rfl | rfl | rfl
  · exact ⟨3, rfl⟩
  · exact ⟨4, rfl⟩
  · exact ⟨5, rfl⟩
theorem newR {t idx : Nat} {x : Int32} (F : FX G y d p R s m args meth c) (hO : SO G s) (hw : WO G σ s H) (hS : va_S (AA G) s.heap H locs) (hyo : yO y < 16) (hcn : cn (yO y) = (yN y).cls) (hlk : (AL (yO y)).any (fun q => q.1 == idx && q.2.1 == t) = true) (hx : ¬ x < 0) (hx2 : x.toNatClampNeg ≤ 65536)
    (hc1 : kc + 1 ≤ R.cells) (hc2 : ns + x.toNatClampNeg ≤ R.slots) (hd : decode (yC y) pc = .ok (.anewarray idx, 3))
    (kk : ∀ (H1 : Heap), WO G (pushM σ (t, x.toNatClampNeg, List.replicate x.toNatClampNeg none)) s H1 → va_S (AA G) s.heap H1 locs → W p G.1 e R s m args below meth c H1 locs (kc + 1) (ns + x.toNatClampNeg) Z (F0 m (pc + 3) ls (.ref (adr G σ.1.length) :: rest))) :
    W p G.1 e R s m args below meth c H locs kc ns Z (F0 m pc ls (.int x :: rest)) := by
  have hts := F.2.2.2.2.2.1
  have hown : s.vm.findClass (cn (yO y)) = some m.cls := by rw [hcn]; exact F.2.2.2.2.1
  obtain ⟨g1, ht⟩ := AL_ok hyo hlk
  have hAO : va_AO (tagC t) s := by
    rcases ht with rfl | rfl | rfl
    · exact hO.2.2.2.2.2.1
    · exact hO.2.2.2.2.2.2.1
    · exact hO.2.2.2.2.2.2.2
  rw [adr_new hw] at kk
  refine W.anew F.1 F.2.1 hown (hts _ g1) (va_AO.use hAO) rfl hd rfl hx (by omega) hc1 hc2 fun cA kA comp f1 f2 f3 f4 => ?_
  obtain ⟨k, hk⟩ := tagC_ty (G := G) ht
  have hcA : cA = G.2.2.1 t := by
    obtain ⟨kA', comp', k1, k2, k3, k4⟩ := (hO.1.2 k _ hk).2
    exact Option.some.inj (f1.symm.trans k4)
  subst hcA
  generalize hH1 : H.push ({ cls := G.2.2.1 t, slots := Array.replicate x.toNatClampNeg .null, vm := .none } : Cell) = H1
  have z1 : H1.size = H.size + 1 := by rw [← hH1, Array.size_push]
  have e1 : H1[H.size]? = some (arrV (G.2.2.1 t) x.toNatClampNeg (fun _ => .null)) := by rw [← hH1, Array.getElem?_push_size, ← arrV_new]
  have o1 : ∀ q : Nat, q < H.size → H1[q]? = H[q]? := fun q hq => by rw [← hH1, Array.getElem?_push, if_neg (Nat.ne_of_lt hq)]
  refine kk H1 (hw.push (show t < 18 by omega) z1 o1 (cell_ref (by omega)) ?_) (hS.grow z1 o1)
  show H1[H.size]? = some (vp_cell _ _)
  rw [e1, vp_cell_q]
  congr 2
  funext j
  have hn : (List.replicate x.toNatClampNeg (none : Option Nat)).getD j none = none := by
    rw [List.getD_eq_getElem?_getD, List.getElem?_replicate]
    split <;> rfl
  rw [hn]
  rfl
theorem putAr {r b t n' t2 n2 : Nat} {f f2 : List (Option Nat)} {i : Int32} (F : FX G y d p R s m args meth c) (hO : SO G s) (hw : WO G σ s H) (hS : va_S (AA G) s.heap H locs) (hr : σ.1[r]? = some (t, n', f)) (ht : t = 15 ∨ t = 16 ∨ t = 17) (hb : σ.1[b]? = some (t2, n2, f2)) (ht2 : t2 = cmpT t) (hl : f.length = n') (hin : vp_in i n') (hd : decode (yC y) pc = .ok (.aastore, 1))
    (kk : ∀ (H1 : Heap) (locs1 : List Loc), WO G (σ.1.set r (t, n', f.set i.toNatClampNeg (some b)), σ.2.1, σ.2.2) s H1 → va_S (AA G) s.heap H1 locs1 → W p G.1 e R s m args below meth c H1 locs1 kc ns Z (F0 m (pc + 1) ls rest)) :
    W p G.1 e R s m args below meth c H locs kc ns Z (F0 m pc ls (.ref (adr G b) :: .int i :: .ref (adr G r) :: rest)) := by
  have h3 : 3 ≤ r := hw.three hr (by omega)
  have ht2' : t2 < 12 := by rw [ht2]; rcases ht with rfl | rfl | rfl <;> decide
  have hb3 : 3 ≤ b := hw.three hb (by omega)
  have ha : (wsO G σ)[r - 3]? = some (adr G r, .inl (G.2.2.1 t, n', .inr (.inr (.inr (.inr (fun j => rfO G (f.getD j none))))))) := by rw [wsO_at h3 hr, cell_ref (by omega)]
  have hv : (wsO G σ)[b - 3]? = some (adr G b, .inr (t2, fsE G σ b t2 f2)) := by rw [wsO_at hb3 hb, cell_obj ht2']
  have hlt : i.toNatClampNeg < n' := Nat.not_le.mp fun q => hin (Or.inr q)
  have h0 : ¬ i < 0 := fun q => hin (Or.inl q)
  obtain ⟨r', hr', cellV, g1, g2, g3, -⟩ := hw.1 _ _ hv
  have hcls := (hO.1.1 t2 r' hr').2
  have hnm : r'.1 = tagC t := by
    rcases ht with rfl | rfl | rfl <;> (rw [ht2] at hr'; cases hr'; rfl)
  obtain ⟨kt, hkt⟩ := tagC_ty (G := G) ht
  obtain ⟨kA, comp, k1, k2, k3, -⟩ := (hO.1.2 kt _ hkt).2
  rw [← hnm] at k3
  have hcomp : comp = G.2.1.1 t2 := Option.some.inj (k3.symm.trans hcls.1)
  subst hcomp
  obtain ⟨kC, hkC, -⟩ := hcls.2
  refine W.aast F.1 F.2.1 (hw.1 _ _ ha) (fun q h => by cases h) (fun h => by cases h) k1 k2 rfl hkC ⟨h0, by show _ < (arrV _ _ _).slots.size; rw [arrV_size]; exact hlt⟩ g1 (fun q h => by rw [g3] at h; cases h) (by rw [g2]; exact hkC) (by rw [g2]; exact va_assign hcls) rfl rfl hd fun H1 e1 z oq => ?_
  refine kk H1 _ (hw.putR hr h3 z (by rw [cell_ref (by omega)]) (hw.1.set (wsO_D G σ) ha ?_ oq)) (hS.put z oq (AA_adr h3))
  show H1[adr G r]? = some (vp_cell _ _)
  rw [e1, vp_cell_q, vp_cell_q, arrV_store]
  congr 2
  funext q
  rw [List.getD_eq_getElem?_getD, List.getElem?_set]
  by_cases hq : q = i.toNatClampNeg
  · subst hq
    simp [updV, va_rf, rfO, hl, hlt]
  · rw [if_neg (Ne.symm hq), ← List.getD_eq_getElem?_getD]
    simp [updV, hq]
end
