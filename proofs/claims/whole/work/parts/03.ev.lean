/-! EV: the machine, at a place of a method's body, over a memory. MT: a method's contract over a memory. -/
def mO (y : Nat) : MTH := mL.getD y m0
abbrev yN (y : Nat) : MethodName := (mO y).1
abbrev yC (y : Nat) : ByteArray := (mO y).2.1
abbrev yL (y : Nat) : Nat := (mO y).2.2.1
abbrev yR (y : Nat) : Option FieldType := (mO y).2.2.2.1
abbrev yMc (y : Nat) : Nat := (mO y).2.2.2.2.1
abbrev yMs (y : Nat) : Nat := (mO y).2.2.2.2.2.1
abbrev yNp (y : Nat) : Nat := (mO y).2.2.2.2.2.2.1
abbrev yK (y : Nat) : Nat := (mO y).2.2.2.2.2.2.2.1
abbrev yO (y : Nat) : Nat := (mO y).2.2.2.2.2.2.2.2
/-- a place of the locals that holds nothing that may be read -/
def isDm : Value → Bool
  | .float _ => true
  | _ => false
abbrev dm : Value := .float 0
def LH (G : GG) (ls : Array Slot) (nL : Nat) (L : List Value) : Prop := ls.size = nL ∧ lv_wf ls ∧ L.length ≤ nL ∧ ∀ (i : Nat) (v : Value), L[i]? = some v → isDm v = false → ls[i]? = some (.val (cv G v))
def lvl (G : GG) (L : List Value) : List (Nat × Value) := (L.zipIdx.filter (fun q => !isDm q.1)).map (fun q => (q.2, cv G q.1))
theorem lvl_mem {G : GG} {L : List Value} {q : Nat × Value} : q ∈ lvl G L ↔ ∃ v, L[q.1]? = some v ∧ isDm v = false ∧ q.2 = cv G v := by
  simp only [lvl, List.mem_map, List.mem_filter]
  constructor
  · rintro ⟨⟨v, i⟩, ⟨h1, h2⟩, rfl⟩
    have h3 := List.mem_zipIdx_iff_getElem?.mp h1
    exact ⟨v, h3, by simpa using h2, rfl⟩
  · rintro ⟨v, h1, h2, h3⟩
    refine ⟨(v, q.1), ⟨List.mem_zipIdx_iff_getElem?.mpr h1, by simpa using h2⟩, ?_⟩
    rw [← h3]
theorem LH.has {G : GG} {ls : Array Slot} {nL : Nat} {L : List Value} (h : LH G ls nL L) : lv_has ls nL (lvl G L) := by
  refine ⟨h.1, h.2.1, fun q hq => ?_⟩
  obtain ⟨v, h1, h2, h3⟩ := lvl_mem.mp hq
  rw [h3]
  exact h.2.2.2 q.1 v h1 h2
theorem cv_cat (G : GG) (v : Value) : (cv G v).category = v.category := by cases v <;> rfl
theorem LH.of {G : GG} {ls : Array Slot} {nL : Nat} {L : List Value} (h : lv_has ls nL (lvl G L)) (hl : L.length ≤ nL) : LH G ls nL L :=
  ⟨h.1, h.2.1, hl, fun i v h1 h2 => h.2.2 (i, cv G v) (lvl_mem.mpr ⟨v, h1, h2, rfl⟩)⟩
/-- a store of one word: no long begins just below -/
theorem LH.set1 {G : GG} {ls : Array Slot} {nL i : Nat} {L : List Value} {x : Value} (hi : i < L.length) (hlow : ∀ v, 0 < i → L[i - 1]? = some v → v.category ≠ 2)
    (h : LH G ls nL L) {ls' : Array Slot} (h' : lv_has ls' nL ((i, cv G x) :: (lvl G L).filter (fun q => !(q.1 == i) && !(q.1 + 1 == i && q.2.category == 2)))) : LH G ls' nL (L.set i x) := by
  refine ⟨h'.1, h'.2.1, by rw [List.length_set]; exact h.2.2.1, fun j v h1 h2 => ?_⟩
  by_cases hj : j = i
  · subst hj
    rw [List.getElem?_set_self hi] at h1
    cases h1
    exact h'.2.2 _ List.mem_cons_self
  · rw [List.getElem?_set_ne (Ne.symm hj)] at h1
    refine h'.2.2 (j, cv G v) (List.mem_cons_of_mem _ (List.mem_filter.mpr ⟨lvl_mem.mpr ⟨v, h1, h2, rfl⟩, ?_⟩))
    have hc : ¬ (j + 1 = i ∧ v.category = 2) := fun q => hlow v (by omega) (by rw [show i - 1 = j by omega]; exact h1) q.2
    simp only [cv_cat, Bool.and_eq_true, Bool.not_eq_true', beq_eq_false_iff_ne, Bool.and_eq_false_iff]
    refine ⟨hj, ?_⟩
    by_cases h7 : j + 1 = i
    · exact Or.inr (fun h8 => hc ⟨h7, h8⟩)
    · exact Or.inl h7
/-- a store of two words -/
theorem LH.set2 {G : GG} {ls : Array Slot} {nL i : Nat} {L : List Value} {x : Value} (hi : i + 1 < L.length) (hlow : ∀ v, 0 < i → L[i - 1]? = some v → v.category ≠ 2)
    (h : LH G ls nL L) {ls' : Array Slot} (h' : lv_has ls' nL ((i, cv G x) :: (lvl G L).filter (fun q => !(q.1 == i) && (!(q.1 == i + 1) && !(q.1 + 1 == i && q.2.category == 2))))) : LH G ls' nL ((L.set i x).set (i + 1) dm) := by
  refine ⟨h'.1, h'.2.1, by rw [List.length_set, List.length_set]; exact h.2.2.1, fun j v h1 h2 => ?_⟩
  by_cases hj1 : j = i + 1
  · subst hj1
    rw [List.getElem?_set_self (by rw [List.length_set]; exact hi)] at h1
    cases h1
    exact absurd h2 (by decide)
  rw [List.getElem?_set_ne (Ne.symm hj1)] at h1
  by_cases hj : j = i
  · subst hj
    rw [List.getElem?_set_self (by omega)] at h1
    cases h1
    exact h'.2.2 _ List.mem_cons_self
  · rw [List.getElem?_set_ne (Ne.symm hj)] at h1
    refine h'.2.2 (j, cv G v) (List.mem_cons_of_mem _ (List.mem_filter.mpr ⟨lvl_mem.mpr ⟨v, h1, h2, rfl⟩, ?_⟩))
    have hc : ¬ (j + 1 = i ∧ v.category = 2) := fun q => hlow v (by omega) (by rw [show i - 1 = j by omega]; exact h1) q.2
    simp only [cv_cat, Bool.and_eq_true, Bool.not_eq_true', beq_eq_false_iff_ne, Bool.and_eq_false_iff]
    refine ⟨hj, hj1, ?_⟩
    by_cases h7 : j + 1 = i
    · exact Or.inr (fun h8 => hc ⟨h7, h8⟩)
    · exact Or.inl h7
/-- the answer as the method's head has it -/
def rOK (y : Nat) (v : Option Value) : Prop := match yR y, v with
  | none, none => True
  | some .int, some (.int _) => True
  | some .boolean, some (.int x) => x = 0 ∨ x = 1
  | some .long, some (.long _) => True
  | _, _ => False
def rI : Option Value → Instr
  | some (.long _) => .lreturn
  | some _ => .ireturn
  | none => .return_
def FX (G : GG) (y d : Nat) (p : Program) (R : Room) (s : State) (m : MethodId) (args : Array Value) (meth : Method) (c : Code) : Prop :=
  p.tables.exec = Jvm.exec ∧ c.code = yC y ∧ meth.sig.returnType = yR y ∧ c.maxLocals = yL y ∧ s.vm.findClass (yN y).cls = some m.cls ∧ (∀ w ∈ lwG, w.before args s = true) ∧ meth.locks = false ∧ meth.name = (yN y).name ∧
  d + 1 ≤ R.frames ∧ 64 * d + 64 ≤ R.locals ∧ yMc y ≤ R.cells ∧ yMs y ≤ R.slots
def RT (G : GG) (y : Nat) (p : Program) (e : Env) (R : Room) (s : State) (m : MethodId) (args : Array Value) (below : List Frame) (meth : Method) (c : Code) (Z : State → Prop) (Q : Option Value → MH → Prop) : Prop :=
  ∀ (v : Option Value) (σ : MH) (H : Heap) (locs : List Loc) (k n pc : Nat) (ls : Array Slot), Q v σ → rOK y v → WO G σ s H → va_S (AA G) s.heap H locs → k ≤ yMc y → n ≤ yMs y → decode (yC y) pc = .ok (rI v, 1) →
    W p G.1 e R s m args below meth c H locs k n Z (F0 m pc ls (v.toList.map (cv G)))
def EV (G : GG) (y d k n pc : Nat) (L st : List Value) (σ : MH) (Q : Option Value → MH → Prop) : Prop :=
  ∀ (p : Program) (e : Env) (R : Room) (s : State) (m : MethodId) (args : Array Value) (below : List Frame) (meth : Method) (c : Code) (H : Heap) (locs : List Loc) (Z : State → Prop) (ls : Array Slot),
    FX G y d p R s m args meth c → SO G s → WO G σ s H → va_S (AA G) s.heap H locs → LH G ls (yL y) L → k ≤ yMc y → n ≤ yMs y → RT G y p e R s m args below meth c Z Q →
    W p G.1 e R s m args below meth c H locs k n Z (F0 m pc ls (st.map (cv G)))
def rmO (d y : Nat) : Room := { frames := d, cells := yMc y, slots := yMs y, locals := 64 * d }
def wsY (y : Nat) : List Cond := .code (yN y) (yC y) (yL y) (yR y) :: lwG
def PcO (G : GG) (A : List Value) (σ : MH) : Array Value → State → Prop := va_Pc (A.map (cv G)) (fun U => WS G σ U)
def QcO (G : GG) (Q : Option Value → MH → Prop) : Array Value → State → Outcome → State → Prop := fun _ st o t => ∃ (v : Option Value) (σ : MH), o = .returned (v.map (cv G)) ∧ Q v σ ∧ WS G σ t ∧ va_F (AA G) st t
/-- method y, called with A over the memory σ, at depth d: it returns with Q -/
def MT (G : GG) (d y : Nat) (A : List Value) (σ : MH) (Q : Option Value → MH → Prop) : Prop :=
  Met G.1 (yN y) (wsY y) (rmO d y) (PcO G A σ) (QcO G Q) (yMc y) (yMs y) (AA G)
theorem PcO.blind (G : GG) (A : List Value) (σ : MH) : FrameBlind (PcO G A σ) := by
  intro a U g mk h
  obtain ⟨h1, h2, h3⟩ := h
  refine ⟨h1, ?_, SO.same (s := U) (U := U.calling g mk a) rfl rfl h3⟩
  exact WO.at (s := U) (U := U.calling g mk a) (Vm.Alike.refl U.vm) h3.2.2.2.2.1 (fun q _ _ => rfl) h2
theorem EV.mono {G : GG} {y d k n pc : Nat} {L st : List Value} {σ : MH} {Q Q' : Option Value → MH → Prop} (h : EV G y d k n pc L st σ Q) (hq : ∀ v σ', Q v σ' → Q' v σ') : EV G y d k n pc L st σ Q' := by
  intro p e R s m args below meth c H locs Z ls h1 h2 h3 h4 h5 h6 h7 h8
  exact h p e R s m args below meth c H locs Z ls h1 h2 h3 h4 h5 h6 h7 (fun v σ' H' locs' k' n' pc' ls' q => h8 v σ' H' locs' k' n' pc' ls' (hq v σ' q))
theorem MT.mono {G : GG} {d y : Nat} {A : List Value} {σ : MH} {Q Q' : Option Value → MH → Prop} (h : MT G d y A σ Q) (hq : ∀ v σ', Q v σ' → Q' v σ') : MT G d y A σ Q' := by
  intro p e h1 h2 h3 s m args below h4 h5 h6 h7
  obtain ⟨k, o, a1, a2, a3, ⟨⟨v, σ', b1, b2, b3⟩, a4⟩⟩ := h p e h1 h2 h3 s m args below h4 h5 h6 h7
  exact ⟨k, o, a1, a2, a3, ⟨⟨v, σ', b1, hq v σ' b2, b3⟩, a4⟩⟩
