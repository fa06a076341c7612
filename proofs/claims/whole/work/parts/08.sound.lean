/-! WP is sound: each instruction by the kit's row. -/
def okI (o pc : Nat) (i : Instr) (len a1 a2 : Nat) (val : Value) (sw : List (Int32 × Nat)) : Bool := match i with
  | .iconst n => len == 1 && decide (val = .int (Int32.ofInt n))
  | .bipush n => len == 2 && decide (val = .int (Int8.ofInt n).toInt32)
  | .sipush n => len == 3 && decide (val = .int (Int16.ofInt n).toInt32)
  | .lconst n => len == 1 && decide (val = .long (Int64.ofNat (n : Nat)))
  | .ldc i => len == 2 && (decide (val = .null) || (CL o).any (fun q => q.1 == i && decide (q.2.1 = val)))
  | .ldc_w i => len == 3 && (decide (val = .null) || (CL o).any (fun q => q.1 == i && decide (q.2.1 = val)))
  | .ldc2_w i => len == 3 && (decide (val = .null) || (CL o).any (fun q => q.1 == i && decide (q.2.1 = val)))
  | .iload _ => len == 2
  | .lload _ => len == 2
  | .aload _ => len == 2
  | .istore _ => len == 2
  | .lstore _ => len == 2
  | .astore _ => len == 2
  | .iinc _ c => len == 3 && decide (val = .int (Int32.ofInt c))
  | .goto off => len == 3 && decide ((pc : Int) + off = (a1 : Int))
  | .ifCond _ off => len == 3 && decide ((pc : Int) + off = (a1 : Int))
  | .if_icmp _ off => len == 3 && decide ((pc : Int) + off = (a1 : Int))
  | .tableswitch dflt lo hi offs => decide ((pc : Int) + dflt = (a1 : Int)) && (sw.all (fun q => decide (¬ q.1.toInt < lo) && (decide (¬ hi < q.1.toInt) && decide ((offs[(q.1.toInt - lo).toNat]?).map (fun z => (pc : Int) + z) = some (q.2 : Int)))) &&
      ((List.range (hi - lo + 1).toNat).all (fun j => sw.any (fun q => decide (q.1.toInt = lo + (j : Int))) || decide ((offs[j]?).map (fun z => (pc : Int) + z) = some (a1 : Int))) && (decide (-2147483648 ≤ lo) && decide (hi ≤ 2147483647))))
  | .lookupswitch dflt ps => decide ((pc : Int) + dflt = (a1 : Int)) && (decide ((ps.toList.zip (ps.toList.drop 1)).all (fun (a, next) => a.1 < next.1) = true) && decide (sw.map (fun q => (q.1.toInt, (q.2 : Int) - (pc : Int))) = ps.toList))
  | .getstatic i => len == 3 && (SL o).any (fun q => q.1 == i && q.2.1 == a1)
  | .getfield i => len == 3 && (FL o).any (fun q => q.1 == i && (q.2.1 == a1 && q.2.2.1 == a2))
  | .putfield i => len == 3 && (FL o).any (fun q => q.1 == i && (q.2.1 == a1 && q.2.2.1 == a2))
  | .new i => len == 3 && (Nat.ble 12 a1 || (NL o).any (fun q => q.1 == i && q.2.1 == a1))
  | .newarray _ => len == 2
  | .anewarray i => len == 3 && (AL o).any (fun q => q.1 == i && q.2.1 == a1)
  | .invokevirtual i => len == 3 && (a1 == 2000 || (ML o).any (fun q => q.1 == i && q.2.1 == a1))
  | .invokestatic i => len == 3 && (a1 == 2000 || (ML o).any (fun q => q.1 == i && q.2.1 == a1))
  | .invokespecial i => len == 3 && (a1 == 2000 || (ML o).any (fun q => q.1 == i && q.2.1 == a1))
  | _ => len == 1
def okB (o : Nat) (cc : ByteArray) (ce : CE) : Bool := decide (decode cc ce.1 = .ok (ce.2.1, ce.2.2.1)) && okI o ce.1 ce.2.1 ce.2.2.1 ce.2.2.2.1 ce.2.2.2.2.1 ce.2.2.2.2.2.1 ce.2.2.2.2.2.2
-- ===== the pops
theorem pI_s {st : List Value} {K : Int32 → List Value → Prop} (h : pI st K) : ∃ (x : Int32) (r : List Value), st = .int x :: r ∧ K x r := by
  unfold pI at h
  split at h
  · exact ⟨_, _, rfl, h⟩
  · exact h.elim
theorem pII_s {st : List Value} {K : Int32 → Int32 → List Value → Prop} (h : pII st K) : ∃ (x : Int32) (y : Int32) (r : List Value), st = .int y :: .int x :: r ∧ K x y r := by
  unfold pII at h
  split at h
  · exact ⟨_, _, _, rfl, h⟩
  · exact h.elim
theorem pJ_s {st : List Value} {K : Int64 → List Value → Prop} (h : pJ st K) : ∃ (x : Int64) (r : List Value), st = .long x :: r ∧ K x r := by
  unfold pJ at h
  split at h
  · exact ⟨_, _, rfl, h⟩
  · exact h.elim
theorem pJJ_s {st : List Value} {K : Int64 → Int64 → List Value → Prop} (h : pJJ st K) : ∃ (x : Int64) (y : Int64) (r : List Value), st = .long y :: .long x :: r ∧ K x y r := by
  unfold pJJ at h
  split at h
  · exact ⟨_, _, _, rfl, h⟩
  · exact h.elim
theorem pIJ_s {st : List Value} {K : Int64 → Int32 → List Value → Prop} (h : pIJ st K) : ∃ (x : Int64) (y : Int32) (r : List Value), st = .int y :: .long x :: r ∧ K x y r := by
  unfold pIJ at h
  split at h
  · exact ⟨_, _, _, rfl, h⟩
  · exact h.elim
theorem pR_s {st : List Value} {K : Nat → List Value → Prop} (h : pR st K) : ∃ (a : Nat) (r : List Value), st = .ref a :: r ∧ K a r := by
  unfold pR at h
  split at h
  · exact ⟨_, _, rfl, h⟩
  · exact h.elim
theorem pIR_s {st : List Value} {K : Int32 → Nat → List Value → Prop} (h : pIR st K) : ∃ (i : Int32) (a : Nat) (r : List Value), st = .int i :: .ref a :: r ∧ K i a r := by
  unfold pIR at h
  split at h
  · exact ⟨_, _, _, rfl, h⟩
  · exact h.elim
theorem pIIR_s {st : List Value} {K : Int32 → Int32 → Nat → List Value → Prop} (h : pIIR st K) : ∃ (x : Int32) (i : Int32) (a : Nat) (r : List Value), st = .int x :: .int i :: .ref a :: r ∧ K x i a r := by
  unfold pIIR at h
  split at h
  · exact ⟨_, _, _, _, rfl, h⟩
  · exact h.elim
theorem pJIR_s {st : List Value} {K : Int64 → Int32 → Nat → List Value → Prop} (h : pJIR st K) : ∃ (x : Int64) (i : Int32) (a : Nat) (r : List Value), st = .long x :: .int i :: .ref a :: r ∧ K x i a r := by
  unfold pJIR at h
  split at h
  · exact ⟨_, _, _, _, rfl, h⟩
  · exact h.elim
theorem pRIR_s {st : List Value} {K : Nat → Int32 → Nat → List Value → Prop} (h : pRIR st K) : ∃ (x : Nat) (i : Int32) (a : Nat) (r : List Value), st = .ref x :: .int i :: .ref a :: r ∧ K x i a r := by
  unfold pRIR at h
  split at h
  · exact ⟨_, _, _, _, rfl, h⟩
  · exact h.elim
theorem pVR_s {st : List Value} {K : Value → Nat → List Value → Prop} (h : pVR st K) : ∃ (v : Value) (a : Nat) (r : List Value), st = v :: .ref a :: r ∧ K v a r := by
  unfold pVR at h
  split at h
  · exact ⟨_, _, _, rfl, h⟩
  · exact h.elim
theorem pCp_s {st : List Value} {K : Int32 → Int32 → Nat → Int32 → Nat → List Value → Prop} (h : pCp st K) : ∃ (n : Int32) (dp : Int32) (a : Nat) (sp : Int32) (a0 : Nat) (r : List Value), st = .int n :: .int dp :: .ref a :: .int sp :: .ref a0 :: r ∧ K n dp a sp a0 r := by
  unfold pCp at h
  split at h
  · exact ⟨_, _, _, _, _, _, rfl, h⟩
  · exact h.elim
theorem cOne_s {v : Value} {P : Prop} (h : cOne v P) : v.category = 1 ∧ P := by
  unfold cOne at h
  split at h
  · exact h.elim
  · exact h.elim
  · rename_i h1 h2
    refine ⟨?_, h⟩
    cases v <;> first | rfl | exact absurd rfl (h1 _) | exact absurd rfl (h2 _)
theorem pV_s {st : List Value} {K : Value → List Value → Prop} (h : pV st K) : ∃ (v : Value) (r : List Value), st = v :: r ∧ v.category = 1 ∧ K v r := by
  unfold pV at h
  split at h
  · exact ⟨_, _, rfl, cOne_s h⟩
  · exact h.elim
theorem getL_s : ∀ {L : List Value} {i : Nat} {K : Value → Prop}, getL L i K → ∃ v, L[i]? = some v ∧ K v
  | [], _, _, h => h.elim
  | a :: _, 0, _, h => ⟨a, rfl, h⟩
  | _ :: l, i + 1, _, h => by
    obtain ⟨v, h1, h2⟩ := getL_s (L := l) (i := i) h
    exact ⟨v, by simpa using h1, h2⟩
theorem setL_s : ∀ {L : List Value} {i : Nat} {v : Value} {K : List Value → Prop}, setL L i v K → i < L.length ∧ K (L.set i v)
  | [], _, _, _, h => h.elim
  | a :: l, 0, v, _, h => ⟨Nat.succ_pos _, h⟩
  | a :: l, i + 1, v, K, h => by
    obtain ⟨h1, h2⟩ := setL_s (L := l) (i := i) (v := v) (K := fun l' => K (a :: l')) h
    exact ⟨Nat.succ_lt_succ h1, h2⟩
theorem lowL_s {L : List Value} {i : Nat} {P : Prop} (h : lowL L i P) : (∀ v, 0 < i → L[i - 1]? = some v → v.category ≠ 2) ∧ P := by
  unfold lowL at h
  split at h
  · exact ⟨fun _ h0 => absurd h0 (Nat.lt_irrefl 0), h⟩
  · obtain ⟨v, h1, h2⟩ := getL_s h
    obtain ⟨h3, h4⟩ := cOne_s h2
    refine ⟨fun w _ hw => ?_, h4⟩
    have hw : L[_]? = some w := hw
    cases h1.symm.trans hw
    omega
theorem st1_s {L : List Value} {i : Nat} {v : Value} {K : List Value → Prop} (h : st1 L i v K) : (∀ v, 0 < i → L[i - 1]? = some v → v.category ≠ 2) ∧ i < L.length ∧ K (L.set i v) := ⟨(lowL_s h).1, setL_s (lowL_s h).2⟩
theorem st2_s {L : List Value} {i : Nat} {v : Value} {K : List Value → Prop} (h : st2 L i v K) : (∀ v, 0 < i → L[i - 1]? = some v → v.category ≠ 2) ∧ i + 1 < L.length ∧ K ((L.set i v).set (i + 1) dm) := by
  have h1 := setL_s (lowL_s h).2
  have h2 := setL_s h1.2
  rw [List.length_set] at h2
  exact ⟨(lowL_s h).1, h2.1, h2.2⟩
theorem gA_s {sh : SHL} {r : Nat} {K : Nat → Nat → List (Option Nat) → Prop} (h : gA sh r K) : ∃ t n f, sh[r]? = some (t, n, f) ∧ K t n f := by
  unfold gA at h
  split at h
  · rename_i q hq
    exact ⟨q.1, q.2.1, q.2.2, hq, h⟩
  · exact h.elim
theorem cB_s {b : Bool} {P : Prop} (h : cB b P) : b = true ∧ P := by
  cases b
  · exact h.elim
  · exact ⟨rfl, h⟩
theorem oS_s {o : Option Nat} {K : Nat → Prop} (h : oS o K) : ∃ a, o = some a ∧ K a := by
  cases o
  · exact h.elim
  · exact ⟨_, rfl, h⟩
theorem takeA_s : ∀ {n : Nat} {st acc : List Value} {K : List Value → List Value → Prop}, takeA n st acc K → ∃ B r, B.length = n ∧ st = B.reverse ++ r ∧ K (B ++ acc) r
  | 0, st, acc, K, h => ⟨[], st, rfl, rfl, h⟩
  | n + 1, [], _, _, h => h.elim
  | n + 1, v :: st, acc, K, h => by
    obtain ⟨B, r, h1, h2, h3⟩ := takeA_s (n := n) (st := st) (acc := v :: acc) h
    exact ⟨B ++ [v], r, by simp [h1], by simp [h2], by simpa using h3⟩
theorem cats_eq (G : GG) (l : List Value) : ((l.map (cv G)).map (fun v => v.category)).sum = cats l := by
  induction l with
  | nil => rfl
  | cons a l ih => simp only [List.map_cons, List.sum_cons, cats, ih, cv_cat]
theorem swc_s {x : Int32} {K : Nat → Prop} {df : Nat} : ∀ {l : List (Int32 × Nat)}, swc x K df l → (∃ q ∈ l, x = q.1 ∧ K q.2) ∨ ((∀ q ∈ l, ¬ x = q.1) ∧ K df)
  | [], h => Or.inr ⟨fun q hq => (List.not_mem_nil hq).elim, h⟩
  | (v, t) :: l, h => by
    by_cases hx : x = v
    · exact Or.inl ⟨(v, t), List.mem_cons_self, hx, h.1 hx⟩
    · rcases swc_s (l := l) (h.2 hx) with ⟨q, hq, h1⟩ | ⟨h1, h2⟩
      · exact Or.inl ⟨q, List.mem_cons_of_mem _ hq, h1⟩
      · refine Or.inr ⟨fun q hq => ?_, h2⟩
        rcases List.mem_cons.mp hq with rfl | hq
        · exact hx
        · exact h1 q hq
section
variable {G : GG} {y d k n pc pc' : Nat} {L L' st st' : List Value} {σ : MH} {Q : Option Value → MH → Prop}
theorem EV.pure (hw : ∀ (p : Program) (e : Env) (R : Room) (s : State) (m : MethodId) (args : Array Value) (below : List Frame) (meth : Method) (c : Code) (H : Heap) (locs : List Loc) (Z : State → Prop) (ls : Array Slot), FX G y d p R s m args meth c → LH G ls (yL y) L → W p G.1 e R s m args below meth c H locs k n Z (F0 m pc' ls (st'.map (cv G))) → W p G.1 e R s m args below meth c H locs k n Z (F0 m pc ls (st.map (cv G))))
    (h : EV G y d k n pc' L st' σ Q) : EV G y d k n pc L st σ Q := by
  intro p e R s m args below meth c H locs Z ls F hO hw' hS hl hk hn hr
  exact hw p e R s m args below meth c H locs Z ls F hl (h p e R s m args below meth c H locs Z ls F hO hw' hS hl hk hn hr)
theorem EV.br {A B : Prop} {pc2 : Nat} (hw : ∀ (p : Program) (e : Env) (R : Room) (s : State) (m : MethodId) (args : Array Value) (below : List Frame) (meth : Method) (c : Code) (H : Heap) (locs : List Loc) (Z : State → Prop) (ls : Array Slot), FX G y d p R s m args meth c → (A → W p G.1 e R s m args below meth c H locs k n Z (F0 m pc' ls (st'.map (cv G)))) → (B → W p G.1 e R s m args below meth c H locs k n Z (F0 m pc2 ls (st'.map (cv G)))) → W p G.1 e R s m args below meth c H locs k n Z (F0 m pc ls (st.map (cv G))))
    (h1 : A → EV G y d k n pc' L st' σ Q) (h2 : B → EV G y d k n pc2 L st' σ Q) : EV G y d k n pc L st σ Q := by
  intro p e R s m args below meth c H locs Z ls F hO hw' hS hl hk hn hr
  exact hw p e R s m args below meth c H locs Z ls F (fun a => h1 a p e R s m args below meth c H locs Z ls F hO hw' hS hl hk hn hr) (fun a => h2 a p e R s m args below meth c H locs Z ls F hO hw' hS hl hk hn hr)
theorem EV.sto (hw : ∀ (p : Program) (e : Env) (R : Room) (s : State) (m : MethodId) (args : Array Value) (below : List Frame) (meth : Method) (c : Code) (H : Heap) (locs : List Loc) (Z : State → Prop) (ls : Array Slot), FX G y d p R s m args meth c → LH G ls (yL y) L → (∀ ls', LH G ls' (yL y) L' → W p G.1 e R s m args below meth c H locs k n Z (F0 m pc' ls' (st'.map (cv G)))) → W p G.1 e R s m args below meth c H locs k n Z (F0 m pc ls (st.map (cv G))))
    (h : EV G y d k n pc' L' st' σ Q) : EV G y d k n pc L st σ Q := by
  intro p e R s m args below meth c H locs Z ls F hO hw' hS hl hk hn hr
  exact hw p e R s m args below meth c H locs Z ls F hl (fun ls' hl' => h p e R s m args below meth c H locs Z ls' F hO hw' hS hl' hk hn hr)
end
theorem LH.lt {G : GG} {ls : Array Slot} {nL i : Nat} {L : List Value} (h : LH G ls nL L) (hi : i < L.length) : i < nL := Nat.lt_of_lt_of_le hi h.2.2.1
def plainI : Instr → Bool
  | .iadd => true
  | .isub => true
  | .imul => true
  | .iand => true
  | .ior => true
  | .ixor => true
  | .ishl => true
  | .ishr => true
  | .iushr => true
  | .idiv => true
  | .irem => true
  | .ineg => true
  | .i2l => true
  | .i2b => true
  | .l2i => true
  | .ladd => true
  | .lsub => true
  | .lmul => true
  | .lor => true
  | .lcmp => true
  | .ldiv => true
  | .lrem => true
  | .lshl => true
  | .lushr => true
  | .dup => true
  | .pop => true
  | .dup2 => true
  | .iconst _ => true
  | .bipush _ => true
  | .sipush _ => true
  | .lconst _ => true
  | .ldc _ => true
  | .ldc_w _ => true
  | .ldc2_w _ => true
  | .iload_n _ => true
  | .lload_n _ => true
  | .aload_n _ => true
  | .iload _ => true
  | .lload _ => true
  | .aload _ => true
  | .istore_n _ => true
  | .astore_n _ => true
  | .istore _ => true
  | .astore _ => true
  | .lstore_n _ => true
  | .lstore _ => true
  | .iinc _ _ => true
  | .goto _ => true
  | .ifCond _ _ => true
  | .if_icmp _ _ => true
  | .tableswitch _ _ _ _ => true
  | .lookupswitch _ _ => true
  | _ => false
set_option maxHeartbeats 4000000 in
/-- the plain instructions -/
theorem stp_plain {G : GG} {y d : Nat} {pc : Nat} {i : Instr} {len a1 a2 : Nat} {val : Value} {sw : List (Int32 × Nat)} {nx : KT} {jp : Nat → KT} {k n : Nat} {L st : List Value} {σ : MH} {Q : Option Value → MH → Prop}
    (hs : i = i) (hd : decode (yC y) pc = .ok (i, len)) (hok : okI (yO y) pc i len a1 a2 val sw = true) (hyo : yO y < 16) (hcn : cn (yO y) = (yN y).cls) (hnx : ∀ k n L st σ, nx k n L st σ → EV G y d k n (pc + len) L st σ Q) (hjp : ∀ t k n L st σ, jp t k n L st σ → EV G y d k n t L st σ Q)
    (h : stp G y d (pc, i, len, a1, a2, val, sw) nx jp k n L st σ Q) (hp : plainI i = true) : EV G y d k n pc L st σ Q := by
  cases i
  case iadd =>
    have hlen : len = 1 := beq_iff_eq.mp (show (len == 1) = true from hok)
    subst hlen
    obtain ⟨x, z, r, rfl, h⟩ := pII_s h
    exact EV.pure (fun p e R s m args below meth c H locs Z ls F _ w => lv_iadd F.1 F.2.1 hd w) (hnx _ _ _ _ _ h)
  case isub =>
    have hlen : len = 1 := beq_iff_eq.mp (show (len == 1) = true from hok)
    subst hlen
    obtain ⟨x, z, r, rfl, h⟩ := pII_s h
    exact EV.pure (fun p e R s m args below meth c H locs Z ls F _ w => lv_isub F.1 F.2.1 hd w) (hnx _ _ _ _ _ h)
  case imul =>
    have hlen : len = 1 := beq_iff_eq.mp (show (len == 1) = true from hok)
    subst hlen
    obtain ⟨x, z, r, rfl, h⟩ := pII_s h
    exact EV.pure (fun p e R s m args below meth c H locs Z ls F _ w => lv_imul F.1 F.2.1 hd w) (hnx _ _ _ _ _ h)
  case iand =>
    have hlen : len = 1 := beq_iff_eq.mp (show (len == 1) = true from hok)
    subst hlen
    obtain ⟨x, z, r, rfl, h⟩ := pII_s h
    exact EV.pure (fun p e R s m args below meth c H locs Z ls F _ w => lv_iand F.1 F.2.1 hd w) (hnx _ _ _ _ _ h)
  case ior =>
    have hlen : len = 1 := beq_iff_eq.mp (show (len == 1) = true from hok)
    subst hlen
    obtain ⟨x, z, r, rfl, h⟩ := pII_s h
    exact EV.pure (fun p e R s m args below meth c H locs Z ls F _ w => lv_ior F.1 F.2.1 hd w) (hnx _ _ _ _ _ h)
  case ixor =>
    have hlen : len = 1 := beq_iff_eq.mp (show (len == 1) = true from hok)
    subst hlen
    obtain ⟨x, z, r, rfl, h⟩ := pII_s h
    exact EV.pure (fun p e R s m args below meth c H locs Z ls F _ w => lv_ixor F.1 F.2.1 hd w) (hnx _ _ _ _ _ h)
  case ishl =>
    have hlen : len = 1 := beq_iff_eq.mp (show (len == 1) = true from hok)
    subst hlen
    obtain ⟨x, z, r, rfl, h⟩ := pII_s h
    exact EV.pure (fun p e R s m args below meth c H locs Z ls F _ w => lv_ishl F.1 F.2.1 hd w) (hnx _ _ _ _ _ h)
  case ishr =>
    have hlen : len = 1 := beq_iff_eq.mp (show (len == 1) = true from hok)
    subst hlen
    obtain ⟨x, z, r, rfl, h⟩ := pII_s h
    exact EV.pure (fun p e R s m args below meth c H locs Z ls F _ w => lv_ishr F.1 F.2.1 hd w) (hnx _ _ _ _ _ h)
  case iushr =>
    have hlen : len = 1 := beq_iff_eq.mp (show (len == 1) = true from hok)
    subst hlen
    obtain ⟨x, z, r, rfl, h⟩ := pII_s h
    exact EV.pure (fun p e R s m args below meth c H locs Z ls F _ w => lv_iushr F.1 F.2.1 hd rfl w) (hnx _ _ _ _ _ h)
  case idiv =>
    have hlen : len = 1 := beq_iff_eq.mp (show (len == 1) = true from hok)
    subst hlen
    obtain ⟨x, z, r, rfl, h0, h⟩ := pII_s h
    exact EV.pure (fun p e R s m args below meth c H locs Z ls F _ w => lv_idiv F.1 F.2.1 hd h0 w) (hnx _ _ _ _ _ h)
  case irem =>
    have hlen : len = 1 := beq_iff_eq.mp (show (len == 1) = true from hok)
    subst hlen
    obtain ⟨x, z, r, rfl, h0, h⟩ := pII_s h
    exact EV.pure (fun p e R s m args below meth c H locs Z ls F _ w => lv_irem F.1 F.2.1 hd h0 w) (hnx _ _ _ _ _ h)
  case ineg =>
    have hlen : len = 1 := beq_iff_eq.mp (show (len == 1) = true from hok)
    subst hlen
    obtain ⟨x, r, rfl, h⟩ := pI_s h
    exact EV.pure (fun p e R s m args below meth c H locs Z ls F _ w => lv_ineg F.1 F.2.1 hd w) (hnx _ _ _ _ _ h)
  case i2l =>
    have hlen : len = 1 := beq_iff_eq.mp (show (len == 1) = true from hok)
    subst hlen
    obtain ⟨x, r, rfl, h⟩ := pI_s h
    exact EV.pure (fun p e R s m args below meth c H locs Z ls F _ w => lv_i2l F.1 F.2.1 hd rfl w) (hnx _ _ _ _ _ h)
  case i2b =>
    have hlen : len = 1 := beq_iff_eq.mp (show (len == 1) = true from hok)
    subst hlen
    obtain ⟨x, r, rfl, h⟩ := pI_s h
    exact EV.pure (fun p e R s m args below meth c H locs Z ls F _ w => lv_i2b F.1 F.2.1 hd rfl w) (hnx _ _ _ _ _ h)
  case l2i =>
    have hlen : len = 1 := beq_iff_eq.mp (show (len == 1) = true from hok)
    subst hlen
    obtain ⟨x, r, rfl, h⟩ := pJ_s h
    exact EV.pure (fun p e R s m args below meth c H locs Z ls F _ w => lv_l2i F.1 F.2.1 hd rfl w) (hnx _ _ _ _ _ h)
  case ladd =>
    have hlen : len = 1 := beq_iff_eq.mp (show (len == 1) = true from hok)
    subst hlen
    obtain ⟨x, z, r, rfl, h⟩ := pJJ_s h
    exact EV.pure (fun p e R s m args below meth c H locs Z ls F _ w => lv_ladd F.1 F.2.1 hd w) (hnx _ _ _ _ _ h)
  case lsub =>
    have hlen : len = 1 := beq_iff_eq.mp (show (len == 1) = true from hok)
    subst hlen
    obtain ⟨x, z, r, rfl, h⟩ := pJJ_s h
    exact EV.pure (fun p e R s m args below meth c H locs Z ls F _ w => lv_lsub F.1 F.2.1 hd w) (hnx _ _ _ _ _ h)
  case lmul =>
    have hlen : len = 1 := beq_iff_eq.mp (show (len == 1) = true from hok)
    subst hlen
    obtain ⟨x, z, r, rfl, h⟩ := pJJ_s h
    exact EV.pure (fun p e R s m args below meth c H locs Z ls F _ w => lv_lmul F.1 F.2.1 hd w) (hnx _ _ _ _ _ h)
  case lor =>
    have hlen : len = 1 := beq_iff_eq.mp (show (len == 1) = true from hok)
    subst hlen
    obtain ⟨x, z, r, rfl, h⟩ := pJJ_s h
    exact EV.pure (fun p e R s m args below meth c H locs Z ls F _ w => lv_lor F.1 F.2.1 hd w) (hnx _ _ _ _ _ h)
  case lcmp =>
    have hlen : len = 1 := beq_iff_eq.mp (show (len == 1) = true from hok)
    subst hlen
    obtain ⟨x, z, r, rfl, h⟩ := pJJ_s h
    exact EV.pure (fun p e R s m args below meth c H locs Z ls F _ w => W.lcmp F.1 F.2.1 hd w) (hnx _ _ _ _ _ h)
  case ldiv =>
    have hlen : len = 1 := beq_iff_eq.mp (show (len == 1) = true from hok)
    subst hlen
    obtain ⟨x, z, r, rfl, h0, h⟩ := pJJ_s h
    exact EV.pure (fun p e R s m args below meth c H locs Z ls F _ w => lv_ldiv F.1 F.2.1 hd h0 w) (hnx _ _ _ _ _ h)
  case lrem =>
    have hlen : len = 1 := beq_iff_eq.mp (show (len == 1) = true from hok)
    subst hlen
    obtain ⟨x, z, r, rfl, h0, h⟩ := pJJ_s h
    exact EV.pure (fun p e R s m args below meth c H locs Z ls F _ w => lv_lrem F.1 F.2.1 hd h0 w) (hnx _ _ _ _ _ h)
  case lshl =>
    have hlen : len = 1 := beq_iff_eq.mp (show (len == 1) = true from hok)
    subst hlen
    obtain ⟨x, z, r, rfl, h⟩ := pIJ_s h
    exact EV.pure (fun p e R s m args below meth c H locs Z ls F _ w => lv_lshl F.1 F.2.1 hd rfl w) (hnx _ _ _ _ _ h)
  case lushr =>
    have hlen : len = 1 := beq_iff_eq.mp (show (len == 1) = true from hok)
    subst hlen
    obtain ⟨x, z, r, rfl, h⟩ := pIJ_s h
    exact EV.pure (fun p e R s m args below meth c H locs Z ls F _ w => lv_lushr F.1 F.2.1 hd rfl w) (hnx _ _ _ _ _ h)
  case dup =>
    have hlen : len = 1 := beq_iff_eq.mp (show (len == 1) = true from hok)
    subst hlen
    obtain ⟨v, r, rfl, hc, h⟩ := pV_s h
    exact EV.pure (fun p e R s m args below meth c H locs Z ls F _ w => lv_dup F.1 F.2.1 hd (by rw [cv_cat]; exact hc) w) (hnx _ _ _ _ _ h)
  case pop =>
    have hlen : len = 1 := beq_iff_eq.mp (show (len == 1) = true from hok)
    subst hlen
    obtain ⟨v, r, rfl, hc, h⟩ := pV_s h
    exact EV.pure (fun p e R s m args below meth c H locs Z ls F _ w => lv_pop F.1 F.2.1 hd (by rw [cv_cat]; exact hc) w) (hnx _ _ _ _ _ h)
  case dup2 =>
    have hlen : len = 1 := beq_iff_eq.mp (show (len == 1) = true from hok)
    subst hlen
    have h : pDup2 st (fun r => nx k n L r σ) := h
    unfold pDup2 at h
    split at h
    · exact EV.pure (fun p e R s m args below meth c H locs Z ls F _ w => lv_dup2_2 F.1 F.2.1 hd rfl w) (hnx _ _ _ _ _ h)
    · exact EV.pure (fun p e R s m args below meth c H locs Z ls F _ w => lv_dup2_11 F.1 F.2.1 hd rfl rfl w) (hnx _ _ _ _ _ h)
    · exact EV.pure (fun p e R s m args below meth c H locs Z ls F _ w => lv_dup2_11 F.1 F.2.1 hd rfl rfl w) (hnx _ _ _ _ _ h)
    · exact h.elim
  case iconst c =>
    have hok : (len == 1 && decide (val = _)) = true := hok
    simp only [Bool.and_eq_true, beq_iff_eq, decide_eq_true_eq] at hok
    obtain ⟨hlen, hv⟩ := hok
    subst hlen
    subst hv
    exact EV.pure (fun p e R s m args below meth c H locs Z ls F _ w => lv_iconst F.1 F.2.1 hd rfl w) (hnx _ _ _ _ _ h)
  case bipush c =>
    have hok : (len == 2 && decide (val = _)) = true := hok
    simp only [Bool.and_eq_true, beq_iff_eq, decide_eq_true_eq] at hok
    obtain ⟨hlen, hv⟩ := hok
    subst hlen
    subst hv
    exact EV.pure (fun p e R s m args below meth c H locs Z ls F _ w => lv_bipush F.1 F.2.1 hd rfl w) (hnx _ _ _ _ _ h)
  case sipush c =>
    have hok : (len == 3 && decide (val = _)) = true := hok
    simp only [Bool.and_eq_true, beq_iff_eq, decide_eq_true_eq] at hok
    obtain ⟨hlen, hv⟩ := hok
    subst hlen
    subst hv
    exact EV.pure (fun p e R s m args below meth c H locs Z ls F _ w => lv_sipush F.1 F.2.1 hd rfl w) (hnx _ _ _ _ _ h)
  case lconst c =>
    have hok : (len == 1 && decide (val = _)) = true := hok
    simp only [Bool.and_eq_true, beq_iff_eq, decide_eq_true_eq] at hok
    obtain ⟨hlen, hv⟩ := hok
    subst hlen
    subst hv
    exact EV.pure (fun p e R s m args below meth c H locs Z ls F _ w => lv_lconst F.1 F.2.1 hd rfl w) (hnx _ _ _ _ _ h)
  case ldc c =>
    have hok : (len == 2 && (decide (val = .null) || (CL (yO y)).any (fun q => q.1 == c && decide (q.2.1 = val)))) = true := hok
    rw [Bool.and_eq_true, Bool.or_eq_true] at hok
    obtain ⟨hlen, hv⟩ := hok
    have hlen := beq_iff_eq.mp hlen
    subst hlen
    cases val <;> first | (exact False.elim h) | skip
    rename_i x
    rcases hv with hv | hv
    · exact absurd (of_decide_eq_true hv) (by simp)
    have hc := CL_ok hyo hv
    have hc : Cond.constant (cn (yO y)) c x ∈ lwG := hc
    exact EV.pure (fun p e R s m args below meth c H locs Z ls F _ w => lv_ldc F.1 F.2.1 (own := cn (yO y)) (by rw [hcn]; exact F.2.2.2.2.1) (F.2.2.2.2.2.1 _ hc) hd w) (hnx _ _ _ _ _ h)
  case ldc_w c =>
    have hok : (len == 3 && (decide (val = .null) || (CL (yO y)).any (fun q => q.1 == c && decide (q.2.1 = val)))) = true := hok
    rw [Bool.and_eq_true, Bool.or_eq_true] at hok
    obtain ⟨hlen, hv⟩ := hok
    have hlen := beq_iff_eq.mp hlen
    subst hlen
    cases val <;> first | (exact False.elim h) | skip
    rename_i x
    rcases hv with hv | hv
    · exact absurd (of_decide_eq_true hv) (by simp)
    have hc := CL_ok hyo hv
    have hc : Cond.constant (cn (yO y)) c x ∈ lwG := hc
    exact EV.pure (fun p e R s m args below meth c H locs Z ls F _ w => lv_ldcw F.1 F.2.1 (own := cn (yO y)) (by rw [hcn]; exact F.2.2.2.2.1) (F.2.2.2.2.2.1 _ hc) hd w) (hnx _ _ _ _ _ h)
  case ldc2_w c =>
    have hok : (len == 3 && (decide (val = .null) || (CL (yO y)).any (fun q => q.1 == c && decide (q.2.1 = val)))) = true := hok
    rw [Bool.and_eq_true, Bool.or_eq_true] at hok
    obtain ⟨hlen, hv⟩ := hok
    have hlen := beq_iff_eq.mp hlen
    subst hlen
    cases val <;> first | (exact False.elim h) | skip
    rename_i x
    rcases hv with hv | hv
    · exact absurd (of_decide_eq_true hv) (by simp)
    have hc := CL_ok hyo hv
    have hc : Cond.constantLong (cn (yO y)) c x ∈ lwG := hc
    exact EV.pure (fun p e R s m args below meth c H locs Z ls F _ w => lv_ldc2 F.1 F.2.1 (own := cn (yO y)) (by rw [hcn]; exact F.2.2.2.2.1) (F.2.2.2.2.2.1 _ hc) hd w) (hnx _ _ _ _ _ h)
  case iload_n j =>
    have hlen : len = 1 := beq_iff_eq.mp (show (len == 1) = true from hok)
    subst hlen
    obtain ⟨v, hv, h⟩ := getL_s h
    cases v <;> first | (exact False.elim h) | skip
    exact EV.pure (fun p e R s m args below meth c H locs Z ls F hl w => lv_iload_n F.1 F.2.1 hd rfl (hl.2.2.2 _ _ hv rfl) w) (hnx _ _ _ _ _ h)
  case lload_n j =>
    have hlen : len = 1 := beq_iff_eq.mp (show (len == 1) = true from hok)
    subst hlen
    obtain ⟨v, hv, h⟩ := getL_s h
    cases v <;> first | (exact False.elim h) | skip
    exact EV.pure (fun p e R s m args below meth c H locs Z ls F hl w => lv_lload_n F.1 F.2.1 hd rfl (hl.2.2.2 _ _ hv rfl) w) (hnx _ _ _ _ _ h)
  case aload_n j =>
    have hlen : len = 1 := beq_iff_eq.mp (show (len == 1) = true from hok)
    subst hlen
    obtain ⟨v, hv, h⟩ := getL_s h
    cases v <;> first | (exact False.elim h) | skip
    exact EV.pure (fun p e R s m args below meth c H locs Z ls F hl w => lv_aload_n F.1 F.2.1 hd rfl (hl.2.2.2 _ _ hv rfl) w) (hnx _ _ _ _ _ h)
  case iload j =>
    have hlen : len = 2 := beq_iff_eq.mp (show (len == 2) = true from hok)
    subst hlen
    obtain ⟨v, hv, h⟩ := getL_s h
    cases v <;> first | (exact False.elim h) | skip
    exact EV.pure (fun p e R s m args below meth c H locs Z ls F hl w => lv_iload F.1 F.2.1 hd (hl.2.2.2 _ _ hv rfl) w) (hnx _ _ _ _ _ h)
  case lload j =>
    have hlen : len = 2 := beq_iff_eq.mp (show (len == 2) = true from hok)
    subst hlen
    obtain ⟨v, hv, h⟩ := getL_s h
    cases v <;> first | (exact False.elim h) | skip
    exact EV.pure (fun p e R s m args below meth c H locs Z ls F hl w => lv_lload F.1 F.2.1 hd (hl.2.2.2 _ _ hv rfl) w) (hnx _ _ _ _ _ h)
  case aload j =>
    have hlen : len = 2 := beq_iff_eq.mp (show (len == 2) = true from hok)
    subst hlen
    obtain ⟨v, hv, h⟩ := getL_s h
    cases v <;> first | (exact False.elim h) | skip
    exact EV.pure (fun p e R s m args below meth c H locs Z ls F hl w => lv_aload F.1 F.2.1 hd (hl.2.2.2 _ _ hv rfl) w) (hnx _ _ _ _ _ h)
  case istore_n j =>
    have hlen : len = 1 := beq_iff_eq.mp (show (len == 1) = true from hok)
    subst hlen
    obtain ⟨x, r, rfl, h⟩ := pI_s h
    obtain ⟨h1, h2, h3⟩ := st1_s h
    exact EV.sto (fun p e R s m args below meth c H locs Z ls F hl w => lv_istore_n F.1 F.2.1 hd rfl hl.has (hl.lt h2) rfl (fun ls2 h4 => w ls2 (LH.set1 (x := .int x) h2 h1 hl h4))) (hnx _ _ _ _ _ h3)
  case astore_n j =>
    have hlen : len = 1 := beq_iff_eq.mp (show (len == 1) = true from hok)
    subst hlen
    obtain ⟨x, r, rfl, h⟩ := pR_s h
    obtain ⟨h1, h2, h3⟩ := st1_s h
    exact EV.sto (fun p e R s m args below meth c H locs Z ls F hl w => lv_astore_n F.1 F.2.1 hd rfl hl.has (hl.lt h2) rfl (fun ls2 h4 => w ls2 (LH.set1 (x := .ref x) h2 h1 hl h4))) (hnx _ _ _ _ _ h3)
  case istore j =>
    have hlen : len = 2 := beq_iff_eq.mp (show (len == 2) = true from hok)
    subst hlen
    obtain ⟨x, r, rfl, h⟩ := pI_s h
    obtain ⟨h1, h2, h3⟩ := st1_s h
    exact EV.sto (fun p e R s m args below meth c H locs Z ls F hl w => lv_istore F.1 F.2.1 hd hl.has (hl.lt h2) rfl (fun ls2 h4 => w ls2 (LH.set1 (x := .int x) h2 h1 hl h4))) (hnx _ _ _ _ _ h3)
  case astore j =>
    have hlen : len = 2 := beq_iff_eq.mp (show (len == 2) = true from hok)
    subst hlen
    obtain ⟨x, r, rfl, h⟩ := pR_s h
    obtain ⟨h1, h2, h3⟩ := st1_s h
    exact EV.sto (fun p e R s m args below meth c H locs Z ls F hl w => lv_astore F.1 F.2.1 hd hl.has (hl.lt h2) rfl (fun ls2 h4 => w ls2 (LH.set1 (x := .ref x) h2 h1 hl h4))) (hnx _ _ _ _ _ h3)
  case lstore_n j =>
    have hlen : len = 1 := beq_iff_eq.mp (show (len == 1) = true from hok)
    subst hlen
    obtain ⟨x, r, rfl, h⟩ := pJ_s h
    obtain ⟨h1, h2, h3⟩ := st2_s h
    exact EV.sto (fun p e R s m args below meth c H locs Z ls F hl w => lv_lstore_n F.1 F.2.1 hd rfl hl.has (hl.lt h2) rfl (fun ls2 h4 => w ls2 (LH.set2 (x := .long x) h2 h1 hl h4))) (hnx _ _ _ _ _ h3)
  case lstore j =>
    have hlen : len = 2 := beq_iff_eq.mp (show (len == 2) = true from hok)
    subst hlen
    obtain ⟨x, r, rfl, h⟩ := pJ_s h
    obtain ⟨h1, h2, h3⟩ := st2_s h
    exact EV.sto (fun p e R s m args below meth c H locs Z ls F hl w => lv_lstore F.1 F.2.1 hd hl.has (hl.lt h2) rfl (fun ls2 h4 => w ls2 (LH.set2 (x := .long x) h2 h1 hl h4))) (hnx _ _ _ _ _ h3)
  case iinc j cc =>
    have hok : (len == 3 && decide (val = _)) = true := hok
    simp only [Bool.and_eq_true, beq_iff_eq, decide_eq_true_eq] at hok
    obtain ⟨hlen, hv⟩ := hok
    subst hlen
    subst hv
    obtain ⟨v, hv, h⟩ := getL_s h
    cases v <;> first | (exact False.elim h) | skip
    rename_i x
    obtain ⟨h1, h2, h3⟩ := st1_s h
    exact EV.sto (fun p e R s m args below meth c H locs Z ls F hl w => by
      have hm : (j, Value.int x) ∈ lvl G L := lvl_mem.mpr ⟨.int x, hv, rfl, rfl⟩
      obtain ⟨q, hq⟩ := List.getElem?_of_mem hm
      exact lv_iinc F.1 F.2.1 hd hl.has hq rfl (hl.lt h2) rfl (fun ls2 h4 => w ls2 (LH.set1 (x := .int (x + Int32.ofInt cc)) h2 h1 hl h4))) (hnx _ _ _ _ _ h3)
  case goto off =>
    have hok : (len == 3 && decide ((pc : Int) + off = (a1 : Int))) = true := hok
    simp only [Bool.and_eq_true, beq_iff_eq, decide_eq_true_eq] at hok
    obtain ⟨hlen, ht⟩ := hok
    subst hlen
    exact EV.pure (fun p e R s m args below meth c H locs Z ls F _ w => lv_goto F.1 F.2.1 hd ht w) (hjp _ _ _ _ _ _ h)
  case ifCond cc off =>
    have hok : (len == 3 && decide ((pc : Int) + off = (a1 : Int))) = true := hok
    simp only [Bool.and_eq_true, beq_iff_eq, decide_eq_true_eq] at hok
    obtain ⟨hlen, ht⟩ := hok
    subst hlen
    obtain ⟨x, r, rfl, h⟩ := pI_s h
    cases cc
    · exact EV.br (fun p e R s m args below meth c H locs Z ls F w1 w2 => lv_if_eq F.1 F.2.1 hd ht w1 w2) (fun q => hjp _ _ _ _ _ _ (h.1 q)) (fun q => hnx _ _ _ _ _ (h.2 q))
    · exact EV.br (fun p e R s m args below meth c H locs Z ls F w1 w2 => lv_if_ne F.1 F.2.1 hd ht w1 w2) (fun q => hjp _ _ _ _ _ _ (h.1 q)) (fun q => hnx _ _ _ _ _ (h.2 q))
    · exact EV.br (fun p e R s m args below meth c H locs Z ls F w1 w2 => lv_if_lt F.1 F.2.1 hd ht w1 w2) (fun q => hjp _ _ _ _ _ _ (h.1 q)) (fun q => hnx _ _ _ _ _ (h.2 q))
    · exact EV.br (fun p e R s m args below meth c H locs Z ls F w1 w2 => lv_if_ge F.1 F.2.1 hd ht w1 w2) (fun q => hjp _ _ _ _ _ _ (h.1 q)) (fun q => hnx _ _ _ _ _ (h.2 q))
    · exact EV.br (fun p e R s m args below meth c H locs Z ls F w1 w2 => lv_if_gt F.1 F.2.1 hd ht w1 w2) (fun q => hjp _ _ _ _ _ _ (h.1 q)) (fun q => hnx _ _ _ _ _ (h.2 q))
    · exact EV.br (fun p e R s m args below meth c H locs Z ls F w1 w2 => lv_if_le F.1 F.2.1 hd ht w1 w2) (fun q => hjp _ _ _ _ _ _ (h.1 q)) (fun q => hnx _ _ _ _ _ (h.2 q))
  case if_icmp cc off =>
    have hok : (len == 3 && decide ((pc : Int) + off = (a1 : Int))) = true := hok
    simp only [Bool.and_eq_true, beq_iff_eq, decide_eq_true_eq] at hok
    obtain ⟨hlen, ht⟩ := hok
    subst hlen
    obtain ⟨x, z, r, rfl, h⟩ := pII_s h
    cases cc
    · exact EV.br (fun p e R s m args below meth c H locs Z ls F w1 w2 => lv_icmp_eq F.1 F.2.1 hd ht w1 w2) (fun q => hjp _ _ _ _ _ _ (h.1 q)) (fun q => hnx _ _ _ _ _ (h.2 q))
    · exact EV.br (fun p e R s m args below meth c H locs Z ls F w1 w2 => lv_icmp_ne F.1 F.2.1 hd ht w1 w2) (fun q => hjp _ _ _ _ _ _ (h.1 q)) (fun q => hnx _ _ _ _ _ (h.2 q))
    · exact EV.br (fun p e R s m args below meth c H locs Z ls F w1 w2 => lv_icmp_lt F.1 F.2.1 hd ht w1 w2) (fun q => hjp _ _ _ _ _ _ (h.1 q)) (fun q => hnx _ _ _ _ _ (h.2 q))
    · exact EV.br (fun p e R s m args below meth c H locs Z ls F w1 w2 => lv_icmp_ge F.1 F.2.1 hd ht w1 w2) (fun q => hjp _ _ _ _ _ _ (h.1 q)) (fun q => hnx _ _ _ _ _ (h.2 q))
    · exact EV.br (fun p e R s m args below meth c H locs Z ls F w1 w2 => lv_icmp_gt F.1 F.2.1 hd ht w1 w2) (fun q => hjp _ _ _ _ _ _ (h.1 q)) (fun q => hnx _ _ _ _ _ (h.2 q))
    · exact EV.br (fun p e R s m args below meth c H locs Z ls F w1 w2 => lv_icmp_le F.1 F.2.1 hd ht w1 w2) (fun q => hjp _ _ _ _ _ _ (h.1 q)) (fun q => hnx _ _ _ _ _ (h.2 q))
  case tableswitch dflt lo hi offs =>
    have hok : (decide ((pc : Int) + dflt = (a1 : Int)) && (sw.all (fun q => decide (¬ q.1.toInt < lo) && (decide (¬ hi < q.1.toInt) && decide ((offs[(q.1.toInt - lo).toNat]?).map (fun z => (pc : Int) + z) = some (q.2 : Int)))) && ((List.range (hi - lo + 1).toNat).all (fun j => sw.any (fun q => decide (q.1.toInt = lo + (j : Int))) || decide ((offs[j]?).map (fun z => (pc : Int) + z) = some (a1 : Int))) && (decide (-2147483648 ≤ lo) && decide (hi ≤ 2147483647))))) = true := hok
    rw [Bool.and_eq_true, Bool.and_eq_true, Bool.and_eq_true] at hok
    obtain ⟨ht, hsw, hcov, -⟩ := hok
    have ht := of_decide_eq_true ht
    obtain ⟨x, r, rfl, h⟩ := pI_s h
    rcases swc_s h with ⟨q, hq, hx, hK⟩ | ⟨hno, hK⟩
    · have h2 := List.all_eq_true.mp hsw q hq
      simp only [Bool.and_eq_true, decide_eq_true_eq] at h2
      obtain ⟨e1, e2, e3⟩ := h2
      obtain ⟨off, e4, e5⟩ := Option.map_eq_some_iff.mp e3
      rw [← hx] at e1 e2 e4
      exact EV.pure (fun p e R s m args below meth c H locs Z ls F _ w => lv_tableIn F.1 F.2.1 hd e1 e2 e4 e5 w) (hjp _ _ _ _ _ _ hK)
    · by_cases hout : x.toInt < lo ∨ hi < x.toInt
      · exact EV.pure (fun p e R s m args below meth c H locs Z ls F _ w => lv_tableOut F.1 F.2.1 hd hout ht w) (hjp _ _ _ _ _ _ hK)
      · have i1 : ¬ x.toInt < lo := fun q => hout (Or.inl q)
        have i2 : ¬ hi < x.toInt := fun q => hout (Or.inr q)
        have h2 := List.all_eq_true.mp hcov (x.toInt - lo).toNat (List.mem_range.mpr (by omega))
        rw [Bool.or_eq_true] at h2
        rcases h2 with h2 | h2
        · obtain ⟨q, hq, hv⟩ := List.any_eq_true.mp h2
          have hv := of_decide_eq_true hv
          exact absurd (Int32.toInt_inj.mp (by omega)) (hno q hq)
        · obtain ⟨off, e4, e5⟩ := Option.map_eq_some_iff.mp (of_decide_eq_true h2)
          exact EV.pure (fun p e R s m args below meth c H locs Z ls F _ w => lv_tableIn F.1 F.2.1 hd i1 i2 e4 e5 w) (hjp _ _ _ _ _ _ hK)
  case lookupswitch dflt ps =>
    have hok : (decide ((pc : Int) + dflt = (a1 : Int)) && (decide ((ps.toList.zip (ps.toList.drop 1)).all (fun (a, next) => a.1 < next.1) = true) && decide (sw.map (fun q => (q.1.toInt, (q.2 : Int) - (pc : Int))) = ps.toList))) = true := hok
    rw [Bool.and_eq_true, Bool.and_eq_true] at hok
    obtain ⟨ht, hz, hm⟩ := hok
    have ht := of_decide_eq_true ht
    have hz := of_decide_eq_true hz
    have hm := of_decide_eq_true hm
    obtain ⟨x, r, rfl, h⟩ := pI_s h
    have key : ∀ sw2 : List (Int32 × Nat), swc x (fun t => jp t k n L r σ) a1 sw2 → ∃ t : Nat, jp t k n L r σ ∧ Op.lookupswitch.offset (sw2.map (fun q => (q.1.toInt, (q.2 : Int) - (pc : Int)))) dflt x.toInt = (t : Int) - pc := by
      intro sw2 h
      induction sw2 with
      | nil => exact ⟨a1, h, by rw [List.map_nil, Op.lookupswitch.offset_nil]; omega⟩
      | cons q l ih =>
        obtain ⟨v, t⟩ := q
        by_cases hx : x = v
        · refine ⟨t, h.1 hx, ?_⟩
          rw [List.map_cons, Op.lookupswitch.offset_cons, if_pos (by rw [hx])]
        · obtain ⟨t2, h1, h2⟩ := ih (h.2 hx)
          refine ⟨t2, h1, ?_⟩
          rw [List.map_cons, Op.lookupswitch.offset_cons, if_neg (fun q => hx (Int32.toInt_inj.mp q.symm))]
          exact h2
    obtain ⟨t, hK, ho⟩ := key sw h
    rw [hm] at ho
    exact EV.pure (fun p e R s m args below meth c H locs Z ls F _ w => lv_lookup F.1 F.2.1 hd hz ho (by omega) w) (hjp _ _ _ _ _ _ hK)
  all_goals exact absurd hp (by simp [plainI])
