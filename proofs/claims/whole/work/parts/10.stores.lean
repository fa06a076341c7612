/-! the writes, with the heap's size told -/
theorem FL_own_all : ∀ o, o < 16 → (FL o).all (fun q => !(q.2.1 == o) || (match vwCl[q.2.1]? with
  | some (C, T, _) => decide (lw_tbl[q.2.2.2]? = some (.fieldLink (cn o) q.1 C (T q.2.2.1).2.1 (T q.2.2.1).2.2.1)) && goodWord (.fieldLink (cn o) q.1 C (T q.2.2.1).2.1 (T q.2.2.1).2.2.1)
  | none => false)) = true := by decide +kernel
theorem FL_own {o i k : Nat} (ho : o < 16) (h : (FL o).any (fun q => q.1 == i && (q.2.1 == o && q.2.2.1 == k)) = true) {C : String} {T : u_T} {N : Nat} (hc : vwCl[o]? = some (C, T, N)) : Cond.fieldLink (cn o) i C (T k).2.1 (T k).2.2.1 ∈ lwG := by
  obtain ⟨q, hq, h⟩ := List.any_eq_true.mp h
  simp only [Bool.and_eq_true, beq_iff_eq] at h
  obtain ⟨a, b, c⟩ := h
  have h2 := List.all_eq_true.mp (FL_own_all o ho) q hq
  simp only [b, beq_self_eq_true, Bool.not_true, Bool.false_or, hc, Bool.and_eq_true, decide_eq_true_eq] at h2
  subst a; subst c
  exact lwG_of h2.1 h2.2
section
variable {G : GG} {y d pc : Nat} {p : Program} {e : Env} {R : Room} {s : State} {m : MethodId} {args : Array Value} {below : List Frame} {meth : Method} {c : Code} {H : Heap} {locs : List Loc} {Z : State → Prop} {ls : Array Slot} {kc ns : Nat} {σ : MH} {rest : List Value}
theorem putO {r ci k n' idx : Nat} {f : List (Option Nat)} {v : Value} (F : FX G y d p R s m args meth c) (hO : SO G s) (hw : WO G σ s H) (hS : va_S (AA G) s.heap H locs) (hr : σ.1[r]? = some (ci, n', f)) (hci : ci < 12) (hyo : yO y < 16) (hcn : cn (yO y) = (yN y).cls) (h2 : yK y = 2 → (yN y).name = "<init>")
    (hlk : (FL (yO y)).any (fun q => q.1 == idx && (q.2.1 == ci && q.2.2.1 == k)) = true) (hfin : finOK y ci k = true) (hn : narrow (clT ci k) v = v) (hfit : fits (clT ci k) v = true) (hd : decode (yC y) pc = .ok (.putfield idx, 3))
    (kk : ∀ (H1 : Heap) (locs1 : List Loc), va_P G.2.1 vwCl ((wsO G σ).set (r - 3) (adr G r, .inr (ci, (fsE G σ r ci f).set k v))) H1 → H1.size = H.size → va_S (AA G) s.heap H1 locs1 → W p G.1 e R s m args below meth c H1 locs1 kc ns Z (F0 m (pc + 3) ls rest)) :
    W p G.1 e R s m args below meth c H locs kc ns Z (F0 m pc ls (v :: .ref (adr G r) :: rest)) := by
  have h3 : 3 ≤ r := hw.three hr (by omega)
  obtain ⟨C, T, N, hc, hk, hT, hlink⟩ := FL_ok hyo hlk
  obtain ⟨hN, hin, hty, hnm⟩ := C_ok ci C T N hc
  have he : (wsO G σ)[r - 3]? = some (adr G r, .inr (ci, fsE G σ r ci f)) := by rw [wsO_at h3 hr, cell_obj hci]
  have hD := wsO_D G σ
  have hP := hw.1
  have hts := F.2.2.2.2.2.1
  have hown : s.vm.findClass (cn (yO y)) = some m.cls := by rw [hcn]; exact F.2.2.2.2.1
  have hap := va_apart (own := cn (yO y)) hts hin (clT ci) hty hnm hO.1 hc
  obtain ⟨r', h1, cell, q1, q2, q3, q4⟩ := hP _ _ he
  have hr' : r' = (C, T, N) := Option.some.inj (h1.symm.trans hc)
  subst hr'
  obtain ⟨hSl, hfc, kC, hkC, hkind⟩ := hO.1.1 ci _ hc
  obtain ⟨cf, kf, fi, fd, hi, hsl⟩ := hSl k hk
  have hlay := hts _ (hin _ (u_in_lay hk))
  unfold u_lay at hlay
  have hst := (u_facts hfc hkC (u_lays hts hin hk) hi).1
  have hl : k < (fsE G σ r ci f).length := by rw [fsE_len, hN]; exact hk
  have fin : ∀ (H' : Heap), H'[adr G r]? = some (cell.setSlot fd.slot v) → H'.size = H.size → (∀ q, q ≠ adr G r → H'[q]? = H[q]?) → W p G.1 e R s m args below meth c H' (locs ++ [⟨adr G r, fd.slot⟩]) kc ns Z (F0 m (pc + 3) ls rest) := by
    intro H' e1 e2 e3
    rw [hsl] at e1 ⊢
    exact kk H' _ (hP.set hD he ⟨_, hc, t_OB.to (V := updV (vp_V (fsE G σ r ci f)) k v) ⟨_, e1, q2, q3, t_set q4 hap hk v⟩ (fun j _ => vp_updV_set hl v j)⟩ e3) e2 (hS.put e2 e3 (AA_adr h3))
  have hfF : finF ci k = (T k).2.2.2 := by
    unfold finF
    rw [List.getD_eq_getElem?_getD, hc]
    rfl
  have hi' : s.fieldFound? C (T k).2.1 (T k).2.2.1 = some (cf, kf, fi, fd) := by rw [← hT]; exact hi
  cases hb : (T k).2.2.2 with
  | false =>
    rw [if_neg (by rw [hb]; decide)] at hlay
    have h6 := u_store hfc hkC hkind hlay hi (hty k hk) hn hfit
    rcases hlink with hlink | hlink
    · exact W.putK F.1 F.2.1 (f := fd) ⟨hown, hts _ hlink, ⟨_, _, _, hi'⟩, hst⟩ (by rw [q2]; exact h6) q1 q3 (by rw [hsl]; exact k2_hasslot (q4 k hk)) rfl rfl hd fin
    · exact va_WputK F.1 F.2.1 (f := fd) hown (va_Nw.use rfl (hO.2.1 _ hlink)) hi' hst (by rw [q2]; exact h6) q1 q3 (by rw [hsl]; exact k2_hasslot (q4 k hk)) rfl rfl hd fin
  | true =>
    rw [if_pos hb] at hlay
    have hf2 : (Nat.beq (yK y) 2 && Nat.beq (yO y) ci) = true := by
      unfold finOK at hfin
      rw [hfF, hb] at hfin
      exact hfin
    rw [Bool.and_eq_true] at hf2
    have hk2 : yK y = 2 := Nat.eq_of_beq_eq_true hf2.1
    have hoc : yO y = ci := Nat.eq_of_beq_eq_true hf2.2
    subst hoc
    have hlink := FL_own hyo hlk hc
    have hcf : m.cls = cf := by
      obtain ⟨_, _, c', _, _, _, -, -, hf', -, -, -, hown2, -⟩ := Cond.laysFinal_spec hlay
      have e1 : c' = cf := by have := hi.symm.trans hf'; simp at this; exact this.1.symm
      have e3 : cn (yO y) = C := by
        have : vwCl[yO y]? = some (C, T, N) := hc
        have e4 : ∀ o, o < 12 → (vwCl[o]?).map (fun q => q.1) = some (cn o) := by decide +kernel
        have e5 := e4 (yO y) hci
        rw [this] at e5
        exact (Option.some.inj e5).symm
      rw [hT, ← e3] at hown2
      rw [← e1]; exact Option.some.inj (hown.symm.trans hown2)
    have h6 := u_fits hfc hkC hkind (Or.inr hlay) hi (hty k hk) hn hfit
    exact W.putFinK F.1 F.2.1 hown (hts _ hlink) hi' hst hcf (by rw [F.2.2.2.2.2.2.2.1]; exact h2 hk2) (by rw [q2]; exact h6) q1 q3 (by rw [hsl]; exact k2_hasslot (q4 k hk)) rfl rfl hd fin
theorem putAi {r n' : Nat} {f : List (Option Nat)} {i x : Int32} (F : FX G y d p R s m args meth c) (hO : SO G s) (hw : WO G σ s H) (hS : va_S (AA G) s.heap H locs) (hr : σ.1[r]? = some (12, n', f)) (hin : vp_in i n') (hd : decode (yC y) pc = .ok (.iastore, 1))
    (kk : ∀ (H1 : Heap) (locs1 : List Loc), WO G (σ.1, upI σ.2.1 r i.toNatClampNeg x, σ.2.2) s H1 → va_S (AA G) s.heap H1 locs1 → W p G.1 e R s m args below meth c H1 locs1 kc ns Z (F0 m (pc + 1) ls rest)) :
    W p G.1 e R s m args below meth c H locs kc ns Z (F0 m pc ls (.int x :: .int i :: .ref (adr G r) :: rest)) := by
  have h3 : 3 ≤ r := hw.three hr (by omega)
  have ha : (wsO G σ)[r - 3]? = some (adr G r, .inl (G.2.2.1 12, n', .inl (σ.2.1 r))) := by rw [wsO_at h3 hr, cell_int (Or.inl rfl)]
  refine W.iast F.1 F.2.1 (hw.1 _ _ ha) ((hO.1.2 0 _ (tys_at G).1).1 n' (fun j => .int (σ.2.1 r j))) (fun q => by cases q) (by show ¬ (i < 0 ∨ (arrV _ _ _).slots.size ≤ _); rw [arrV_size]; exact hin) rfl rfl hd fun H1 e1 z oq => ?_
  refine kk H1 _ (hw.putI hr h3 z (by rw [cell_int (Or.inl rfl)]) (hw.1.set (wsO_D G σ) ha ?_ oq)) (hS.put z oq (AA_adr h3))
  show H1[adr G r]? = some (vp_cell _ _)
  rw [e1, vp_cell_i, vp_cell_i, arrV_store]
  congr 2
  funext q
  show updV _ _ _ q = .int (upI σ.2.1 r i.toNatClampNeg x r q)
  rw [upI_row]
  by_cases hq : q = i.toNatClampNeg
  · subst hq; simp [updV, upd]
  · simp [updV, upd, hq]
theorem putAz {r n' : Nat} {f : List (Option Nat)} {i x : Int32} (F : FX G y d p R s m args meth c) (hO : SO G s) (hw : WO G σ s H) (hS : va_S (AA G) s.heap H locs) (hr : σ.1[r]? = some (14, n', f)) (hin : vp_in i n') (hx : x = 0 ∨ x = 1) (hd : decode (yC y) pc = .ok (.bastore, 1))
    (kk : ∀ (H1 : Heap) (locs1 : List Loc), WO G (σ.1, upI σ.2.1 r i.toNatClampNeg x, σ.2.2) s H1 → va_S (AA G) s.heap H1 locs1 → W p G.1 e R s m args below meth c H1 locs1 kc ns Z (F0 m (pc + 1) ls rest)) :
    W p G.1 e R s m args below meth c H locs kc ns Z (F0 m pc ls (.int x :: .int i :: .ref (adr G r) :: rest)) := by
  have h3 : 3 ≤ r := hw.three hr (by omega)
  have ha : (wsO G σ)[r - 3]? = some (adr G r, .inl (G.2.2.1 14, n', .inl (σ.2.1 r))) := by rw [wsO_at h3 hr, cell_int (Or.inr rfl)]
  refine W.zast F.1 F.2.1 (hw.1 _ _ ha) ((hO.1.2 2 _ (tys_at G).2.2.1).1 n' (fun j => .int (σ.2.1 r j))) (fun q => by cases q) (by show ¬ (i < 0 ∨ (arrV _ _ _).slots.size ≤ _); rw [arrV_size]; exact hin) rfl rfl hd fun H1 e1 z oq => ?_
  refine kk H1 _ (hw.putI hr h3 z (by rw [cell_int (Or.inr rfl)]) (hw.1.set (wsO_D G σ) ha ?_ oq)) (hS.put z oq (AA_adr h3))
  have hnar : narrow .boolean (.int x) = .int x := by rcases hx with h | h <;> subst h <;> decide
  show H1[adr G r]? = some (vp_cell _ _)
  rw [e1, hnar, vp_cell_i, vp_cell_i, arrV_store]
  congr 2
  funext q
  show updV _ _ _ q = .int (upI σ.2.1 r i.toNatClampNeg x r q)
  rw [upI_row]
  by_cases hq : q = i.toNatClampNeg
  · subst hq; simp [updV, upd]
  · simp [updV, upd, hq]
theorem putAl {r n' : Nat} {f : List (Option Nat)} {i : Int32} {x : Int64} (F : FX G y d p R s m args meth c) (hO : SO G s) (hw : WO G σ s H) (hS : va_S (AA G) s.heap H locs) (hr : σ.1[r]? = some (13, n', f)) (hin : vp_in i n') (hd : decode (yC y) pc = .ok (.lastore, 1))
    (kk : ∀ (H1 : Heap) (locs1 : List Loc), WO G (σ.1, σ.2.1, upL σ.2.2 r i.toNatClampNeg x) s H1 → va_S (AA G) s.heap H1 locs1 → W p G.1 e R s m args below meth c H1 locs1 kc ns Z (F0 m (pc + 1) ls rest)) :
    W p G.1 e R s m args below meth c H locs kc ns Z (F0 m pc ls (.long x :: .int i :: .ref (adr G r) :: rest)) := by
  have h3 : 3 ≤ r := hw.three hr (by omega)
  have ha : (wsO G σ)[r - 3]? = some (adr G r, .inl (G.2.2.1 13, n', .inr (.inl (σ.2.2 r)))) := by rw [wsO_at h3 hr, cell_long]
  refine W.last F.1 F.2.1 (hw.1 _ _ ha) ((hO.1.2 1 _ (tys_at G).2.1).1 n' (fun j => .long (σ.2.2 r j))) (fun q => by cases q) (by show ¬ (i < 0 ∨ (arrV _ _ _).slots.size ≤ _); rw [arrV_size]; exact hin) rfl rfl hd fun H1 e1 z oq => ?_
  refine kk H1 _ (hw.putL hr h3 z (by rw [cell_long]) (hw.1.set (wsO_D G σ) ha ?_ oq)) (hS.put z oq (AA_adr h3))
  show H1[adr G r]? = some (vp_cell _ _)
  rw [e1, vp_cell_l, vp_cell_l, arrV_store]
  congr 2
  funext q
  show updV _ _ _ q = .long (upL σ.2.2 r i.toNatClampNeg x r q)
  rw [upL_row]
  by_cases hq : q = i.toNatClampNeg
  · subst hq; simp [updV, vp_updL]
  · simp [updV, vp_updL, hq]
end
