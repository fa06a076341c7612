/-! calls -/
theorem goodG {ws : List Cond} (h : ∀ w ∈ ws, w ∈ lwG) : GoodIn lwG ws := fun w hw => ⟨h w hw, good_of_word (List.mem_filter.mp (h w hw)).2⟩
theorem wsY_in {y : Nat} (h : Yok y) : ∀ w ∈ wsY y, w ∈ lwG := by
  intro w hw
  rcases List.mem_cons.mp hw with rfl | hw
  · exact h.1
  · exact hw
section
variable {G : GG} {y d pc : Nat} {p : Program} {e : Env} {R : Room} {s : State} {m : MethodId} {args : Array Value} {below : List Frame} {meth : Method} {c : Code} {H : Heap} {locs : List Loc} {Z : State → Prop} {ls : Array Slot} {kc ns : Nat} {σ : MH} {rest : List Value} {y' : Nat}
theorem EV.after {L A : List Value} {Q : Option Value → MH → Prop} {st0 : List Value} {Aa : Array Value} (F : FX G y d p R s m args meth c) (hO : SO G s) (hS : va_S (AA G) s.heap H locs) (hl : LH G ls (yL y) L) (hk : kc + yMc y' ≤ yMc y) (hn : ns + yMs y' ≤ yMs y) (hRT : RT G y p e R s m args below meth c Z Q)
    (hr : va_Run p G.1 e R s m args below meth c H locs kc ns (yMc y') (yMs y') (F0 m pc ls st0) (rest.map (cv G)) (QcO G (fun v σ' => EV G y d (kc + yMc y') (ns + yMs y') (pc + 3) L (v.toList ++ rest) σ' Q) Aa) (AA G)) :
    W p G.1 e R s m args below meth c H locs kc ns Z (F0 m pc ls st0) := by
  intro T hT X
  obtain ⟨v0, st₀, t, T', L', h0, X', hL, e1, e2, ⟨v, σ', hv, hK, hWS, hF⟩, st⟩ := hr T hT X
  have hv0 : v0 = v.map (cv G) := by cases hv; rfl
  subst hv0
  have hz : H.size ≤ t.heap.size := by rw [← h0]; exact hF.1
  have hfr : ∀ q, q < H.size → ¬ AA G q → t.heap[q]? = H[q]? := fun q h1 h2 => by rw [← h0] at h1 ⊢; exact hF.2 q h1 h2
  have hh : ∀ q, q < s.heap.size → ¬ AA G q → t.heap[q]? = s.heap[q]? := fun q h1 h2 => by
    rw [hfr q (Nat.lt_of_lt_of_le h1 hS.1) h2]
    exact hS.2.1 q h1 h2
  have hal : s.vm.Alike t.vm := by rw [← e2]; exact X'.warmed.alike
  have hw' : WO G σ' s T'.heap := by rw [e1]; exact WO.back hal hO.2.2.2.2.1 hh hWS.1
  have hS' : va_S (AA G) s.heap T'.heap (locs ++ L') := by
    refine ⟨by rw [e1]; exact Nat.le_trans hS.1 hz, fun q h1 h2 => by rw [e1]; exact hh q h1 h2, fun q hq => ?_⟩
    rcases List.mem_append.mp hq with h | h
    · exact hS.2.2 q h
    · exact hL q h
  obtain ⟨t2, a1, b1⟩ := hK p e R s m args below meth c T'.heap (locs ++ L') Z ls F hO hw' hS' hl hk hn hRT T' rfl X'
  refine ⟨t2, st t2 ?_, b1⟩
  have hst : (v.map (cv G)).toList ++ rest.map (cv G) = (v.toList ++ rest).map (cv G) := by cases v <;> simp
  rw [hst]
  exact a1
theorem hdY {y' : Nat} (h : Yok y') : (yN y').cls ≠ "java/lang/invoke/MethodHandle" ∧ (yN y').cls ≠ "java/lang/invoke/VarHandle" ∧ (parseMethodDescriptor (yN y').desc).map (fun d => d.parameters.length) = some (yNp y') := ⟨h.2.2.1.1, h.2.2.1.2, h.2.2.2.2.1⟩
theorem roomY {y' : Nat} (h : Yok y') (F : FX G y d p R s m args meth c) : (rmO d y').frames + 1 ≤ R.frames ∧ 8 + (yL y' + 11) + (rmO d y').locals ≤ R.locals := by
  have h1 := F.2.2.2.2.2.2.2.2.1
  have h2 := F.2.2.2.2.2.2.2.2.2.1
  have h3 := h.2.2.2.2.2.1
  refine ⟨h1, ?_⟩
  show 8 + (yL y' + 11) + 64 * d ≤ R.locals
  omega
theorem preY {A : List Value} (hO : SO G s) (hw : WO G σ s H) (hS : va_S (AA G) s.heap H locs) : ∀ U : State, U.heap = H → s.WarmedH U.vm → PcO G A σ (A.map (cv G)).toArray U := fun U hU hW => ⟨rfl, WS.of hW hU hO hw hS⟩
theorem callV_run {idx b : Nat} {A : List Value} {t n' : Nat} {f : List (Option Nat)} {K : Option Value → MH → Prop} (F : FX G y d p R s m args meth c) (hO : SO G s) (hw : WO G σ s H) (hS : va_S (AA G) s.heap H locs) (hsz : ls.size = yL y) (hY : Yok y') (hk1 : yK y' = 1) (hcn : cn (yO y) = (yN y).cls)
    (hlk : Cond.methodLink (cn (yO y)) idx (yN y') ∈ lwG ∨ Cond.methodLinkNest (cn (yO y)) idx (yN y') "ShapeDuel" ∈ lwN) (hb : σ.1[b]? = some (t, n', f)) (ht : t = yO y') (hA : A.length = yNp y') (hcat : cats rest ≤ 8) (hd : decode (yC y) pc = .ok (.invokevirtual idx, 3))
    (hc1 : kc + yMc y' ≤ R.cells) (hc2 : ns + yMs y' ≤ R.slots) (hM : MT G d y' (.ref b :: A) σ K) :
    va_Run p G.1 e R s m args below meth c H locs kc ns (yMc y') (yMs y') (F0 m pc ls ((A.map (cv G)).reverse ++ .ref (adr G b) :: rest.map (cv G))) (rest.map (cv G)) (QcO G K (Value.ref (adr G b) :: A.map (cv G)).toArray) (AA G) := by
  have hts := F.2.2.2.2.2.1
  have hown : s.vm.findClass (cn (yO y)) = some m.cls := by rw [hcn]; exact F.2.2.2.2.1
  obtain ⟨w1, w2, w3⟩ := hY.2.2.2.2.2.2.2.2.2.1 hk1
  have hS0 : CallFix p m c (yC y) (yL y) s args lwG (cn (yO y)) := ⟨F.1, F.2.1, F.2.2.2.1, hown, hts⟩
  obtain ⟨q, hq, hq1⟩ := Option.map_eq_some_iff.mp w3
  have ht12 : t < 12 := by rw [ht]; exact (List.getElem?_eq_some_iff.mp hq).1
  have h3 : 3 ≤ b := hw.three hb (by omega)
  have hat := wsO_at (G := G) h3 hb
  rw [cell_obj ht12] at hat
  have hp : PreV s H (yN y').cls (adr G b) (PcO G (.ref b :: A) σ) (A.map (cv G)) := ⟨PcO.blind _ _ _, by rw [← hq1]; exact va_recv hO.1 hw.1 (by rw [ht]; exact hq) hat, preY (A := .ref b :: A) hO hw hS⟩
  have hc8 : 2 * (F0 m pc ls ((A.map (cv G)).reverse ++ .ref (adr G b) :: rest.map (cv G))).monitorRoom + ((rest.map (cv G)).map fun v => v.category).sum ≤ 8 := by
    show 2 * 0 + _ ≤ 8
    rw [cats_eq]; omega
  rcases hlk with hlk | hlk
  · exact va_runV hS0 hM (cwV (ws' := lwG) (bytes := yC y') (maxL := yL y') (ret := yR y') (yNp y') hts (goodG (fun w hw => by
      rcases List.mem_append.mp hw with h | h
      · simp only [List.mem_cons, List.not_mem_nil, or_false] at h
        rcases h with rfl | rfl | rfl | rfl
        · exact hlk
        · exact w1
        · exact w2
        · exact hY.2.2.2.1
      · exact wsY_in hY w h)) rfl rfl rfl ⟨rfl, hdY hY⟩ (roomY hY F)) hp rfl (by simp [hA]) hsz rfl hc8 hd ⟨hc1, hc2⟩
  · exact va_runVN hS0 hM ⟨va_cnB (ws' := lwG) (bytes := yC y') (maxL := yL y') (ret := yR y') (yNp y') hts (goodG (wsY_in hY)) rfl rfl rfl (hO.2.1 _ hlk) (hts _ hY.2.2.2.1) (hdY hY) (roomY hY F), hts _ w1, hts _ w2⟩ hp rfl (by simp [hA]) hsz rfl hc8 hd ⟨hc1, hc2⟩
theorem callS_run {idx : Nat} {A : List Value} {K : Option Value → MH → Prop} (F : FX G y d p R s m args meth c) (hO : SO G s) (hw : WO G σ s H) (hS : va_S (AA G) s.heap H locs) (hsz : ls.size = yL y) (hY : Yok y') (hk1 : yK y' = 0) (hcn : cn (yO y) = (yN y).cls)
    (hlk : Cond.methodLink (cn (yO y)) idx (yN y') ∈ lwG ∨ Cond.methodLinkNest (cn (yO y)) idx (yN y') "ShapeDuel" ∈ lwN) (hA : A.length = yNp y') (hcat : cats rest ≤ 8) (hd : decode (yC y) pc = .ok (.invokestatic idx, 3))
    (hc1 : kc + yMc y' ≤ R.cells) (hc2 : ns + yMs y' ≤ R.slots) (hM : MT G d y' A σ K) :
    va_Run p G.1 e R s m args below meth c H locs kc ns (yMc y') (yMs y') (F0 m pc ls ((A.map (cv G)).reverse ++ rest.map (cv G))) (rest.map (cv G)) (QcO G K (A.map (cv G)).toArray) (AA G) := by
  have hts := F.2.2.2.2.2.1
  have hown : s.vm.findClass (cn (yO y)) = some m.cls := by rw [hcn]; exact F.2.2.2.2.1
  have w1 := hY.2.2.2.2.2.2.2.2.1 hk1
  have hS0 : CallFix p m c (yC y) (yL y) s args lwG (cn (yO y)) := ⟨F.1, F.2.1, F.2.2.2.1, hown, hts⟩
  have hp : PreS s H (PcO G A σ) (A.map (cv G)) := ⟨PcO.blind _ _ _, preY hO hw hS⟩
  have hc8 : 2 * (F0 m pc ls ((A.map (cv G)).reverse ++ rest.map (cv G))).monitorRoom + ((rest.map (cv G)).map fun v => v.category).sum ≤ 8 := by
    show 2 * 0 + _ ≤ 8
    rw [cats_eq]; omega
  rcases hlk with hlk | hlk
  · exact va_runS hS0 hM (va_cwS (ws' := lwG) (bytes := yC y') (maxL := yL y') (ret := yR y') (yNp y') hts (goodG (fun w hw => by
      rcases List.mem_append.mp hw with h | h
      · simp only [List.mem_cons, List.not_mem_nil, or_false] at h
        rcases h with rfl | rfl | rfl
        · exact hlk
        · exact w1
        · exact hY.2.2.2.1
      · exact wsY_in hY w h)) rfl rfl rfl (hdY hY) (roomY hY F)) hp rfl (by simp [hA]) hsz rfl hc8 hd ⟨hc1, hc2⟩
  · exact va_runSN hS0 hM ⟨va_cnB (ws' := lwG) (bytes := yC y') (maxL := yL y') (ret := yR y') (yNp y') hts (goodG (wsY_in hY)) rfl rfl rfl (hO.2.1 _ hlk) (hts _ hY.2.2.2.1) (hdY hY) (roomY hY F), hts _ w1, trivial⟩ hp rfl (by simp [hA]) hsz rfl hc8 hd ⟨hc1, hc2⟩
theorem callI_run {idx b : Nat} {A : List Value} {K : Option Value → MH → Prop} (F : FX G y d p R s m args meth c) (hO : SO G s) (hw : WO G σ s H) (hS : va_S (AA G) s.heap H locs) (hsz : ls.size = yL y) (hY : Yok y') (hk1 : yK y' = 2) (hcn : cn (yO y) = (yN y).cls)
    (hlk : Cond.methodLink (cn (yO y)) idx (yN y') ∈ lwG ∨ Cond.methodLinkNest (cn (yO y)) idx (yN y') "ShapeDuel" ∈ lwN) (hA : A.length = yNp y') (hcat : cats rest ≤ 8) (hd : decode (yC y) pc = .ok (.invokespecial idx, 3))
    (hc1 : kc + yMc y' ≤ R.cells) (hc2 : ns + yMs y' ≤ R.slots) (hM : MT G d y' (.ref b :: A) σ K) :
    va_Run p G.1 e R s m args below meth c H locs kc ns (yMc y') (yMs y') (F0 m pc ls ((A.map (cv G)).reverse ++ .ref (adr G b) :: rest.map (cv G))) (rest.map (cv G)) (QcO G K (Value.ref (adr G b) :: A.map (cv G)).toArray) (AA G) := by
  have hts := F.2.2.2.2.2.1
  have hown : s.vm.findClass (cn (yO y)) = some m.cls := by rw [hcn]; exact F.2.2.2.2.1
  obtain ⟨w1, w2, w3⟩ := hY.2.2.2.2.2.2.2.2.2.2 hk1
  have hS0 : CallFix p m c (yC y) (yL y) s args lwG (cn (yO y)) := ⟨F.1, F.2.1, F.2.2.2.1, hown, hts⟩
  have hp : PreS s H (PcO G (.ref b :: A) σ) (.ref (adr G b) :: A.map (cv G)) := ⟨PcO.blind _ _ _, preY (A := .ref b :: A) hO hw hS⟩
  have hws : wsY y' = Cond.code (yN y') (yC y') (yL y') none :: lwG := by unfold wsY; rw [w3]
  have hc8 : 2 * (F0 m pc ls ((A.map (cv G)).reverse ++ .ref (adr G b) :: rest.map (cv G))).monitorRoom + ((rest.map (cv G)).map fun v => v.category).sum ≤ 8 := by
    show 2 * 0 + _ ≤ 8
    rw [cats_eq]; omega
  rcases hlk with hlk | hlk
  · exact va_runI hS0 hM (cwI (ws' := lwG) (bytes := yC y') (maxL := yL y') (yNp y') hts (goodG (wsY_in hY)) hws rfl rfl (hts _ hY.2.2.2.1) (hts _ hlk) (hts _ w1) w2 (hdY hY) (roomY hY F)) hp rfl (by simp [hA]) hsz rfl hc8 hd ⟨hc1, hc2⟩
  · exact va_runIN hS0 hM ⟨va_cnB (ws' := lwG) (bytes := yC y') (maxL := yL y') (ret := none) (yNp y') hts (goodG (wsY_in hY)) hws rfl rfl (hO.2.1 _ hlk) (hts _ hY.2.2.2.1) (hdY hY) (roomY hY F), w2, hts _ w1⟩ hp rfl (by simp [hA]) hsz rfl hc8 hd ⟨hc1, hc2⟩
end
theorem callC_s {G : GG} {y d k n pc : Nat} {L : List Value} {σ : MH} {Q : Option Value → MH → Prop} {y' : Nat} {A rest : List Value} (h : callC G y d k n pc L σ Q y' A rest) : cats rest ≤ 8 ∧ y' < NMT ∧ ((k + yMc y' ≤ yMc y ∧ n + yMs y' ≤ yMs y) ∨ (yMc y' = 0 ∧ yMs y' = 0)) ∧ MT G d y' A σ (fun v σ' => EV G y d (k + yMc y') (n + yMs y') (pc + 3) L (v.toList ++ rest) σ' Q) := by
  obtain ⟨h1, h⟩ := cB_s h
  obtain ⟨h2, h⟩ := cB_s h
  refine ⟨Nat.le_of_ble_eq_true h1, Nat.le_of_ble_eq_true h2, ?_⟩
  split at h
  · exact ⟨Or.inl h.1, h.2⟩
  · obtain ⟨h3, h⟩ := cB_s h
    rw [Bool.and_eq_true] at h3
    have e1 : yMc y' = 0 := Nat.eq_of_beq_eq_true h3.1
    have e2 : yMs y' = 0 := Nat.eq_of_beq_eq_true h3.2
    refine ⟨Or.inr ⟨e1, e2⟩, ?_⟩
    rw [e1, e2]
    exact h.2
