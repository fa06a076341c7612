/-! a method's contract out of EV at its entry -/
def lv0 (A : List Value) : List Value := A.flatMap (fun v => if v.category = 2 then [v, dm] else [v])
def lvI (n : Nat) (A : List Value) : List Value := lv0 A ++ List.replicate (n - (lv0 A).length) dm
theorem lv0_len (G : GG) (A : List Value) : (lg_sl (A.map (cv G))).length = (lv0 A).length := by
  induction A with
  | nil => rfl
  | cons a A ih =>
    simp only [lg_sl, lv0, List.map_cons, List.flatMap_cons, List.length_append, cv_cat] at ih ⊢
    rw [ih]
    by_cases h : a.category = 2 <;> simp [h]
theorem lv0_at (G : GG) : ∀ (A : List Value) (i : Nat) (v : Value), (lv0 A)[i]? = some v → isDm v = false → (lg_sl (A.map (cv G)))[i]? = some (.val (cv G v)) := by
  intro A
  induction A with
  | nil => intro i v h; simp [lv0] at h
  | cons a A ih =>
    intro i v h hd
    have e1 : lv0 (a :: A) = (if a.category = 2 then [a, dm] else [a]) ++ lv0 A := rfl
    have e2 : lg_sl ((a :: A).map (cv G)) = (if (cv G a).category = 2 then [.val (cv G a), .second] else [.val (cv G a)]) ++ lg_sl (A.map (cv G)) := rfl
    rw [e1] at h
    rw [e2, cv_cat]
    by_cases hc : a.category = 2
    · rw [if_pos hc] at h ⊢
      match i, h with
      | 0, h => simp at h; subst h; rfl
      | 1, h => simp at h; subst h; exact absurd hd (by decide)
      | i + 2, h => simp at h ⊢; exact ih i v h hd
    · rw [if_neg hc] at h ⊢
      match i, h with
      | 0, h => simp at h; subst h; rfl
      | i + 1, h => simp at h ⊢; exact ih i v h hd
theorem LH.entry {G : GG} {n : Nat} {A L : List Value} (hL : lvI n A = L) (hn : (lv0 A).length ≤ n) : LH G ((lg_sl (A.map (cv G)) ++ List.replicate (n - (lg_sl (A.map (cv G))).length) Slot.unset).toArray) n L := by
  have h0 := lv_entry (A.map (cv G)) (n := n) (by rw [lv0_len]; exact hn)
  refine ⟨h0.1, h0.2.1, ?_, fun i v h1 h2 => ?_⟩
  · rw [← hL, lvI, List.length_append, List.length_replicate]; omega
  · rw [← hL, lvI] at h1
    by_cases hi : i < (lv0 A).length
    · rw [List.getElem?_append_left hi] at h1
      have h3 := lv0_at G A i v h1 h2
      rw [List.getElem?_toArray, List.getElem?_append_left (by rw [lv0_len]; exact hi)]
      exact h3
    · rw [List.getElem?_append_right (by omega), List.getElem?_replicate] at h1
      split at h1
      · cases h1; exact absurd h2 (by decide)
      · cases h1
theorem WS.of {G : GG} {σ : MH} {s U : State} {H : Heap} {locs : List Loc} (hW : s.WarmedH U.vm) (hU : U.heap = H) (hO : SO G s) (hw : WO G σ s H) (hS : va_S (AA G) s.heap H locs) : WS G σ U := by
  have hh : ∀ q, q < s.heap.size → ¬ AA G q → U.heap[q]? = s.heap[q]? := fun q h1 h2 => by rw [hU]; exact hS.2.1 q h1 h2
  refine ⟨?_, SO.moved hW hh (by rw [hU]; exact hS.1) hO⟩
  rw [hU]
  exact WO.at hW.alike hO.2.2.2.2.1 hh hw
theorem RT.of {G : GG} {y : Nat} {p : Program} {e : Env} {R : Room} {s : State} {m : MethodId} {args : Array Value} {below : List Frame} {meth : Method} {c : Code} {Q : Option Value → MH → Prop}
    (hx : p.tables.exec = Jvm.exec) (hb : c.code = yC y) (hr : meth.sig.returnType = yR y) (hlocks : meth.locks = false) (hO : SO G s) : RT G y p e R s m args below meth c (MQ below (QcO G Q) args s (yMc y) (yMs y) (AA G)) Q := by
  intro v σ H locs k n pc ls hq hrk hw hS hk hn hd
  refine W.widen hk hn ?_
  have hT : ∀ t : State, t.heap = H → s.WarmedH t.vm → QcO G Q args s (.returned (v.map (cv G))) t := fun t ht hW => ⟨v, σ, rfl, hq, WS.of hW ht hO hw hS, hS.F ht⟩
  unfold rOK at hrk
  split at hrk
  · rename_i h1
    exact W.vret hx hb (by rw [hr]; exact h1) hT hS.2.2 hd hlocks
  · rename_i x h1
    exact W.iret hx hb (by rw [hr]; exact h1) hT hS.2.2 hd hlocks
  · rename_i x h1
    exact W.zret (ty := .boolean) hx hb (by rw [hr]; exact h1) (by rcases hrk with h | h <;> subst h <;> decide) hT hS.2.2 hd hlocks
  · rename_i x h1
    exact W.lret hx hb (by rw [hr]; exact h1) hT hS.2.2 hd hlocks
  · exact hrk.elim
theorem MT.of {G : GG} {y d : Nat} {A L : List Value} {σ : MH} {Q : Option Value → MH → Prop} (hL : lvI (yL y) A = L) (hn : (lv0 A).length ≤ yL y) (hy : plainName (yN y).cls = true) (h : EV G y d 0 0 0 L [] σ Q) : MT G (d + 1) y A σ Q := by
  refine Met.ofW (cc := yC y) (maxL := yL y) (ret := yR y) hy rfl ?_
  intro p e s m args below meth c s₁ B hml hv
  obtain ⟨rfl, hw, hO⟩ := hv
  have hts := atoms_spec (ws := wsY y) B.pre
  have hf : FX G y d p (rmO (d + 1) y) s m ((A.map (cv G)).toArray) meth c := ⟨B.exec, B.bytes, B.returns, hml, findClass_of_methodNamed B.named, fun w hw => hts w (List.mem_cons_of_mem _ hw), B.notSynchronized, (name_of_methodNamed B.named B.method).1, Nat.le_refl _, by show 64 * d + 64 ≤ 64 * (d + 1); omega, Nat.le_refl _, Nat.le_refl _⟩
  rw [lg_entry_eq]
  exact h p e (rmO (d + 1) y) s m _ below meth c s.heap [] _ _ hf hO hw va_S.rf (LH.entry hL hn) (Nat.zero_le _) (Nat.zero_le _) (RT.of B.exec B.bytes B.returns B.notSynchronized hO)
