/-! reads, copies, calls, ends; WP is sound -/
theorem cpI_row {I : Nat → Nat → Int32} {a0 a sp dp n : Nat} : cpI I a0 a sp dp n a = va_cpy (I a0) (I a) sp dp n := by
  funext j
  simp [cpI, va_cpy]
theorem cpI_oth {I : Nat → Nat → Int32} {a0 a sp dp n r : Nat} (h : r ≠ a) : cpI I a0 a sp dp n r = I r := by
  funext j
  simp [cpI, h]
section
variable {G : GG} {y d pc : Nat} {p : Program} {e : Env} {R : Room} {s : State} {m : MethodId} {args : Array Value} {below : List Frame} {meth : Method} {c : Code} {H : Heap} {locs : List Loc} {Z : State → Prop} {ls : Array Slot} {kc ns : Nat} {σ : MH} {rest : List Value}
theorem getO {r ci k n' idx : Nat} {f : List (Option Nat)} {v : Value} (F : FX G y d p R s m args meth c) (hO : SO G s) (hw : WO G σ s H) (hr : σ.1[r]? = some (ci, n', f)) (hci : ci < 12) (hyo : yO y < 16) (hcn : cn (yO y) = (yN y).cls)
    (hlk : (FL (yO y)).any (fun q => q.1 == idx && (q.2.1 == ci && q.2.2.1 == k)) = true) (hv : fvE G σ r f (clT ci k) k = v) (hd : decode (yC y) pc = .ok (.getfield idx, 3))
    (kk : W p G.1 e R s m args below meth c H locs kc ns Z (F0 m (pc + 3) ls (v :: rest))) :
    W p G.1 e R s m args below meth c H locs kc ns Z (F0 m pc ls (.ref (adr G r) :: rest)) := by
  have h3 : 3 ≤ r := hw.three hr (by omega)
  obtain ⟨C, T, N, hc, hk, hT, hlink⟩ := FL_ok hyo hlk
  obtain ⟨hN, hin, hty, hnm⟩ := C_ok ci C T N hc
  have he : (wsO G σ)[r - 3]? = some (adr G r, .inr (ci, fsE G σ r ci f)) := by rw [wsO_at h3 hr, cell_obj hci]
  have hts := F.2.2.2.2.2.1
  have hown : s.vm.findClass (cn (yO y)) = some m.cls := by rw [hcn]; exact F.2.2.2.2.1
  have hvv : (fsE G σ r ci f)[k]? = some v := by rw [fsE_at (by rw [hN]; exact hk), hv]
  rcases hlink with hlink | hlink
  · exact va_get (ref := C) F.1 F.2.1 hts hin hown hO.1 hw.1 _ he hc k hk (hts _ hlink) (fun x h => by rw [hT] at h; exact h) hvv hd kk
  · exact va_getN (ref := C) F.1 F.2.1 hts hin hown hO.1 hw.1 _ he hc k hk (va_Nw.use rfl (hO.2.1 _ hlink)) (fun x h => by rw [hT] at h; exact h) hvv hd kk
theorem getAi {r t n' : Nat} {f : List (Option Nat)} {i : Int32} (F : FX G y d p R s m args meth c) (hO : SO G s) (hw : WO G σ s H) (hS : va_S (AA G) s.heap H locs) (hr : σ.1[r]? = some (t, n', f)) (ht : t = 12 ∨ t = 20) (hin : vp_in i n') (hd : decode (yC y) pc = .ok (.iaload, 1))
    (kk : W p G.1 e R s m args below meth c H locs kc ns Z (F0 m (pc + 1) ls (.int (σ.2.1 r i.toNatClampNeg) :: rest))) :
    W p G.1 e R s m args below meth c H locs kc ns Z (F0 m pc ls (.int i :: .ref (adr G r) :: rest)) := by
  rcases ht with rfl | rfl
  · have h3 : 3 ≤ r := hw.three hr (by omega)
    exact va_iald F.1 F.2.1 hO.1 hw.1 (r - 3) 0 (by rw [wsO_at h3 hr, cell_int (Or.inl rfl)]) (tys_at G).1 hin hd kk
  · exact va_ti F.1 F.2.1 (hw.ext hr) hS hin rfl hd kk
theorem getAlen {r t n' : Nat} {f : List (Option Nat)} (F : FX G y d p R s m args meth c) (hO : SO G s) (hw : WO G σ s H) (hS : va_S (AA G) s.heap H locs) (hr : σ.1[r]? = some (t, n', f)) (ht : 12 ≤ t) (hd : decode (yC y) pc = .ok (.arraylength, 1))
    (kk : W p G.1 e R s m args below meth c H locs kc ns Z (F0 m (pc + 1) ls (.int (Int32.ofNat n') :: rest))) :
    W p G.1 e R s m args below meth c H locs kc ns Z (F0 m pc ls (.ref (adr G r) :: rest)) := by
  by_cases h20 : t = 20
  · subst h20
    obtain ⟨cell, h1, h2, h3, h4, h5, h6, h7⟩ := hw.ext hr
    exact W.alen (n := Int32.ofNat n') F.1 F.2.1 (by rw [hS.2.1 _ (Array.getElem?_eq_some_iff.mp h1).1 h7]; exact h1) h2 h5 rfl rfl hd kk
  · have h3 : 3 ≤ r := hw.three hr h20
    have h18 := hw.2.2.2.2 r t n' f h3 hr
    have hat := wsO_at (G := G) h3 hr
    rcases (show t = 12 ∨ t = 13 ∨ t = 14 ∨ t = 15 ∨ t = 16 ∨ t = 17 by omega) with rfl | rfl | rfl | rfl | rfl | rfl
    · rw [cell_int (Or.inl rfl)] at hat
      exact va_alen F.1 F.2.1 hO.1 hw.1 _ 0 hat (tys_at G).1 rfl hd kk
    · rw [cell_long] at hat
      exact va_alen F.1 F.2.1 hO.1 hw.1 _ 1 hat (tys_at G).2.1 rfl hd kk
    · rw [cell_int (Or.inr rfl)] at hat
      exact va_alen F.1 F.2.1 hO.1 hw.1 _ 2 hat (tys_at G).2.2.1 rfl hd kk
    · rw [cell_ref (by omega)] at hat
      exact va_alen F.1 F.2.1 hO.1 hw.1 _ 3 hat (tys_at G).2.2.2.1 rfl hd kk
    · rw [cell_ref (by omega)] at hat
      exact va_alen F.1 F.2.1 hO.1 hw.1 _ 4 hat (tys_at G).2.2.2.2.1 rfl hd kk
    · rw [cell_ref (by omega)] at hat
      exact va_alen F.1 F.2.1 hO.1 hw.1 _ 5 hat (tys_at G).2.2.2.2.2 rfl hd kk
theorem copyI {a0 a n0 n1 idx : Nat} {f0 f1 : List (Option Nat)} {sp dp n : Int32} (F : FX G y d p R s m args meth c) (hO : SO G s) (hw : WO G σ s H) (hS : va_S (AA G) s.heap H locs) (hsz : ls.size = yL y) (hr0 : σ.1[a0]? = some (12, n0, f0)) (hr1 : σ.1[a]? = some (12, n1, f1)) (hyo : yO y < 16) (hcn : cn (yO y) = (yN y).cls)
    (hlk : Cond.methodLink (cn (yO y)) idx arraycopyName ∈ lwG) (h1 : ¬ sp < 0) (h2 : ¬ dp < 0) (h3 : ¬ n < 0) (h4 : sp.toNatClampNeg + n.toNatClampNeg ≤ n0) (h5 : dp.toNatClampNeg + n.toNatClampNeg ≤ n1) (hcat : (rest.map fun v => v.category).sum ≤ 8) (hd : decode (yC y) pc = .ok (.invokestatic idx, 3))
    (kk : ∀ (H1 : Heap) (locs1 : List Loc), WO G (σ.1, cpI σ.2.1 a0 a sp.toNatClampNeg dp.toNatClampNeg n.toNatClampNeg, σ.2.2) s H1 → va_S (AA G) s.heap H1 locs1 → W p G.1 e R s m args below meth c H1 locs1 kc ns Z (F0 m (pc + 3) ls rest)) :
    W p G.1 e R s m args below meth c H locs kc ns Z (F0 m pc ls (.int n :: .int dp :: .ref (adr G a) :: .int sp :: .ref (adr G a0) :: rest)) := by
  have g0 : 3 ≤ a0 := hw.three hr0 (by omega)
  have g1 : 3 ≤ a := hw.three hr1 (by omega)
  have ha0 : (wsO G σ)[a0 - 3]? = some (adr G a0, .inl (G.2.2.1 12, n0, .inl (σ.2.1 a0))) := by rw [wsO_at g0 hr0, cell_int (Or.inl rfl)]
  have ha1 : (wsO G σ)[a - 3]? = some (adr G a, .inl (G.2.2.1 12, n1, .inl (σ.2.1 a))) := by rw [wsO_at g1 hr1, cell_int (Or.inl rfl)]
  have hts := F.2.2.2.2.2.1
  have hown : s.vm.findClass (cn (yO y)) = some m.cls := by rw [hcn]; exact F.2.2.2.2.1
  have hml : c.maxLocals = ls.size := by rw [hsz]; exact F.2.2.2.1
  have nn : ∀ z : Int32, ¬ z < 0 → z.toInt = (z.toNatClampNeg : Int) := by
    intro z hz
    have hz0 : (0 : Int) ≤ z.toInt := by
      have := Int32.not_lt.mp hz
      simpa using Int32.le_iff_toInt_le.mp this
    show z.toInt = ((z.toInt.toNat : Nat) : Int)
    omega
  have hP := hw.1
  have hD := wsO_D G σ
  have hc0 : H[adr G a0]? = some (vp_cell (G.2.2.1 12) (n0, .inl (σ.2.1 a0))) := hP _ _ ha0
  have hc1 : H[adr G a]? = some (vp_cell (G.2.2.1 12) (n1, .inl (σ.2.1 a))) := hP _ _ ha1
  obtain ⟨-, k0, hk0, cm0, hkk0⟩ := (hO.1.2 0 _ (tys_at G).1).1 n0 (fun j => .int (σ.2.1 a0 j))
  intro T hT X
  obtain ⟨vm', X', step⟩ := X.arraycopy F.1 hown (hts _ hlk) (hts _ (lw_in (by simp))) (hts _ (lw_in (by simp))) (hts _ (lw_in (by simp))) (src := adr G a0) (dst := adr G a) (cs := vp_cell (G.2.2.1 12) (n0, .inl (σ.2.1 a0))) (cd := vp_cell (G.2.2.1 12) (n1, .inl (σ.2.1 a))) (srcPos := sp) (destPos := dp) (n := n) (by rw [hT]; exact hc0) (by rw [hT]; exact hc1)
    (fun _ h => by cases h) (fun _ h => by cases h) (fun h => by cases h) (fun h => by cases h) hk0 hk0 hkk0 hkk0 (by simp [refKind]) h1 h2 h3
    (by rw [nn sp h1, nn n h3]; show ¬ _ > ((arrV _ n0 (fun j => .int (σ.2.1 a0 j))).slots.size : Int); rw [arrV_size]; omega)
    (by rw [nn dp h2, nn n h3]; show ¬ _ > ((arrV _ n1 (fun j => .int (σ.2.1 a j))).slots.size : Int); rw [arrV_size]; omega)
    (fun vm₁ _ i hi => by
      have e : (vp_cell (G.2.2.1 12) (n0, .inl (σ.2.1 a0))).slots.getD (sp.toNatClampNeg + i) .null = .int (σ.2.1 a0 (sp.toNatClampNeg + i)) := by
        show (arrV _ n0 (fun j => .int (σ.2.1 a0 j))).slots.getD _ _ = _
        rw [Array.getD_eq_getD_getElem?, arrV_read _ _ (by omega)]
        rfl
      refine ⟨?_, ?_⟩
      · rw [e]
        rfl
      · rw [e]
        exact trivial)
    (g := F0 m pc ls (.int n :: .int dp :: .ref (adr G a) :: .int sp :: .ref (adr G a0) :: rest)) rfl (by rw [hml]) (rest := rest) rfl (by rw [F.2.1]; exact hd) (by have := F.2.2.2.2.2.2.2.2.1; omega) (by
      have hR := F.2.2.2.2.2.2.2.2.2.1
      have hnw : nativeFrameWords "java/lang/System" "arraycopy" 5 ≤ 20 := by decide +kernel
      show 2 * 0 + _ + _ ≤ _
      omega)
  have e1 : copied (vp_cell (G.2.2.1 12) (n0, .inl (σ.2.1 a0))) (vp_cell (G.2.2.1 12) (n1, .inl (σ.2.1 a))) sp dp n = vp_cell (G.2.2.1 12) (n1, .inl (va_cpy (σ.2.1 a0) (σ.2.1 a) sp.toNatClampNeg dp.toNatClampNeg n.toNatClampNeg)) := va_copied (fun z => .int z) _ _ _ _ h4
  rw [e1] at X' step
  have hl : adr G a < H.size := (Array.getElem?_eq_some_iff.mp hc1).1
  generalize hcell : vp_cell (G.2.2.1 12) (n1, .inl (va_cpy (σ.2.1 a0) (σ.2.1 a) sp.toNatClampNeg dp.toNatClampNeg n.toNatClampNeg)) = cell at X' step
  have hheap : ((T.setVm vm').setCell (adr G a) cell).heap = H.setIfInBounds (adr G a) cell := by rw [← hT]; rfl
  have oq : ∀ q : Nat, q ≠ adr G a → (H.setIfInBounds (adr G a) cell)[q]? = H[q]? := fun q hq => by simp [Array.getElem?_setIfInBounds, Ne.symm hq]
  have hself : (H.setIfInBounds (adr G a) cell)[adr G a]? = some cell := by simp [Array.getElem?_setIfInBounds, hl]
  have hlt1 : a < σ.1.length := (List.getElem?_eq_some_iff.mp hr1).1
  have hW : WO G (σ.1, cpI σ.2.1 a0 a sp.toNatClampNeg dp.toNatClampNeg n.toNatClampNeg, σ.2.2) s (H.setIfInBounds (adr G a) cell) := by
    refine WO.put (e := .inl (G.2.2.1 12, n1, .inl (va_cpy (σ.2.1 a0) (σ.2.1 a) sp.toNatClampNeg dp.toNatClampNeg n.toNatClampNeg))) hw g1 hlt1 rfl (by simp) (fun _ _ => rfl) (fun r' h' => cpI_oth (by omega)) (fun t' n' f' h' => hw.2.2.2.2 a t' n' f' g1 h') (fun _ _ => rfl) ?_ (fun r' h' => cell_congr (cpI_oth h') rfl) ?_
    · show cellE G _ a (σ.1.getD a (0, 0, [])) = _
      rw [getD_of hr1, cell_int (Or.inl rfl)]
      show Sum.inl (_, _, Sum.inl (cpI σ.2.1 a0 a _ _ _ a)) = _
      rw [cpI_row]
    · refine hP.set hD ha1 ?_ oq
      show _ = some (vp_cell _ _)
      rw [hself, ← hcell]
  obtain ⟨t, a1, b1⟩ := kk _ _ hW ⟨by simp; exact hS.1, fun q g1' g2' => by
      rw [oq q (fun e => g2' (by rw [e]; exact AA_adr g1))]
      exact hS.2.1 q g1' g2', fun q hq => by
      rcases List.mem_append.mp hq with h | h
      · exact hS.2.2 q h
      · obtain ⟨z, -, hz⟩ := List.mem_map.mp h
        rw [← hz]
        exact AA_adr g1⟩ _ hheap X'
  exact ⟨t, step t a1, b1⟩
end
