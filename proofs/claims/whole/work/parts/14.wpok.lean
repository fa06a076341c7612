/-! WP is sound -/
theorem EV.mk {G : GG} {y d k n pc : Nat} {L st : List Value} {σ : MH} {Q : Option Value → MH → Prop} (h : ∀ (p : Program) (e : Env) (R : Room) (s : State) (m : MethodId) (args : Array Value) (below : List Frame) (meth : Method) (c : Code) (H : Heap) (locs : List Loc) (Z : State → Prop) (ls : Array Slot),
    FX G y d p R s m args meth c → SO G s → WO G σ s H → va_S (AA G) s.heap H locs → LH G ls (yL y) L → k ≤ yMc y → n ≤ yMs y → RT G y p e R s m args below meth c Z Q →
    W p G.1 e R s m args below meth c H locs k n Z (F0 m pc ls (st.map (cv G)))) : EV G y d k n pc L st σ Q := h
theorem fV_s {G : GG} {σ : MH} {r ci k : Nat} {refs : List (Option Nat)} {K : Value → Prop} (h : fV σ r ci k refs K) : ∃ v, fvE G σ r refs (clT ci k) k = cv G v ∧ K v := by
  unfold fV at h
  unfold fvE
  revert h
  cases clT ci k <;> intro h <;> first | (exact h.elim) | (exact ⟨_, rfl, h⟩) | (obtain ⟨a, h1, h2⟩ := oS_s h; exact ⟨.ref a, by show va_rf (rfO G (refs.getD k none)) = _; rw [h1]; rfl, h2⟩)
theorem fPr_s {σ : MH} {r ci k n : Nat} {refs : List (Option Nat)} {v : Value} {K : MH → Prop} (h : fPr σ r ci k n refs v K) : ∃ a, v = .ref a ∧ K (σ.1.set r (ci, n, refs.set k (some a)), σ.2.1, σ.2.2) := by
  unfold fPr at h
  cases v <;> first | (exact h.elim) | (exact ⟨_, rfl, h⟩)
theorem set_fsE {G : GG} {σ σ' : MH} {r t k : Nat} {f f' : List (Option Nat)} {v : Value} (hv : fvE G σ' r f' (clT t k) k = v) (ho : ∀ j, j ≠ k → fvE G σ' r f' (clT t j) j = fvE G σ r f (clT t j) j) : fsE G σ' r t f' = (fsE G σ r t f).set k v := by
  apply List.ext_getElem?
  intro j
  by_cases hj : j < clN t
  · rw [fsE_at hj]
    by_cases hk : j = k
    · subst hk
      rw [List.getElem?_set_self (by rw [fsE_len]; exact hj), hv]
    · rw [List.getElem?_set_ne (Ne.symm hk), fsE_at hj, ho j hk]
  · rw [List.getElem?_eq_none (by rw [fsE_len]; omega), List.getElem?_eq_none (by rw [List.length_set, fsE_len]; omega)]
section
variable {G : GG} {y d pc : Nat} {k n : Nat} {L : List Value} {σ : MH} {Q : Option Value → MH → Prop} {rest : List Value}
/-- a write of a field -/
theorem EV.putf {r ci kf n' idx : Nat} {f : List (Option Nat)} {v : Value} {K : MH → Prop} (hr : σ.1[r]? = some (ci, n', f)) (hci : ci < 12) (hyo : yO y < 16) (hcn : cn (yO y) = (yN y).cls) (h2 : yK y = 2 → (yN y).name = "<init>")
    (hlk : (FL (yO y)).any (fun q => q.1 == idx && (q.2.1 == ci && q.2.2.1 == kf)) = true) (hfin : finOK y ci kf = true) (hd : decode (yC y) pc = .ok (.putfield idx, 3)) (h : fP σ r ci kf n' f v K) (hK : ∀ σ', K σ' → EV G y d k n (pc + 3) L rest σ' Q) : EV G y d k n pc L (v :: .ref r :: rest) σ Q := by
  refine EV.mk (fun p e R s m args below meth c H locs Z ls F hO hw hS hl hk hn hr' => ?_)
  have h3 : 3 ≤ r := hw.three hr (by omega)
  have go : ∀ (σ' : MH), narrow (clT ci kf) (cv G v) = cv G v → fits (clT ci kf) (cv G v) = true → (∀ (H1 : Heap), va_P G.2.1 vwCl ((wsO G σ).set (r - 3) (adr G r, .inr (ci, (fsE G σ r ci f).set kf (cv G v)))) H1 → H1.size = H.size → WO G σ' s H1) → K σ' → W p G.1 e R s m args below meth c H locs k n Z (F0 m pc ls ((v :: .ref r :: rest).map (cv G))) :=
    fun σ' g1 g2 g3 g4 => putO F hO hw hS hr hci hyo hcn h2 hlk hfin g1 g2 hd (fun H1 locs1 hP hz hS1 => hK σ' g4 p e R s m args below meth c H1 locs1 Z ls F hO (g3 H1 hP hz) hS1 hl hk hn hr')
  have hI : ∀ (x : Int32), (∀ σ2 : MH, fvE G σ2 r f (clT ci kf) kf = .int (σ2.2.1 r kf)) → cellE G (σ.1, upI σ.2.1 r kf x, σ.2.2) r (ci, n', f) = .inr (ci, (fsE G σ r ci f).set kf (.int x)) := by
    intro x hty
    rw [cell_obj hci, set_fsE (σ := σ) (f := f) (v := .int x) (k := kf)]
    · rw [hty]
      show Value.int (upI σ.2.1 r kf x r kf) = _
      rw [upI_row]
      simp [upd]
    · intro j hj
      refine fvE_congr ?_ rfl
      show upI σ.2.1 r kf x r j = _
      rw [upI_row]
      simp [upd, hj]
  have hRf : ∀ a : Nat, kf < f.length → (∀ (σ2 : MH) (f2 : List (Option Nat)), fvE G σ2 r f2 (clT ci kf) kf = va_rf (rfO G (f2.getD kf none))) → cellE G (σ.1.set r (ci, n', f.set kf (some a)), σ.2.1, σ.2.2) r (ci, n', f.set kf (some a)) = .inr (ci, (fsE G σ r ci f).set kf (.ref (adr G a))) := by
    intro a hlt hty
    rw [cell_obj hci, set_fsE (σ := σ) (f := f) (v := .ref (adr G a)) (k := kf)]
    · rw [hty, List.getD_eq_getElem?_getD, List.getElem?_set_self hlt]
      rfl
    · intro j hj
      have : (f.set kf (some a)).getD j none = f.getD j none := by rw [List.getD_eq_getElem?_getD, List.getD_eq_getElem?_getD, List.getElem?_set_ne (Ne.symm hj)]
      unfold fvE
      rw [this]
  unfold fP at h
  split at h
  · rename_i hty
    cases v <;> first | (exact h.elim) | skip
    rename_i x
    exact go _ (by rw [hty]; rfl) (by rw [hty]; rfl) (fun H1 hP hz => hw.putI hr h3 hz (hI x (fun σ2 => by rw [hty]; rfl)) hP) h
  · rename_i hty
    cases v <;> first | (exact h.elim) | skip
    rename_i x
    exact go _ (by rw [hty]; rcases h.1 with e | e <;> rw [e] <;> rfl) (by rw [hty]; rcases h.1 with e | e <;> rw [e] <;> rfl) (fun H1 hP hz => hw.putI hr h3 hz (hI x (fun σ2 => by rw [hty]; rfl)) hP) h.2
  · rename_i hty
    cases v <;> first | (exact h.elim) | skip
    rename_i x
    refine go _ (by rw [hty]; rfl) (by rw [hty]; rfl) (fun H1 hP hz => hw.putL hr h3 hz ?_ hP) h
    rw [cell_obj hci, set_fsE (σ := σ) (f := f) (v := .long x) (k := kf)]
    · rfl
    · rw [hty]
      show Value.long (upL σ.2.2 r kf x r kf) = _
      rw [upL_row]
      simp [vp_updL]
    · intro j hj
      refine fvE_congr rfl ?_
      show upL σ.2.2 r kf x r j = _
      rw [upL_row]
      simp [vp_updL, hj]
  · rename_i hty
    obtain ⟨hb, h5⟩ := cB_s h
    obtain ⟨a, hva, h6⟩ := fPr_s h5
    subst hva
    exact go _ (by rw [hty]; rfl) (by rw [hty]; rfl) (fun H1 hP hz => hw.putR hr h3 hz (hRf a (Nat.le_of_ble_eq_true hb) (fun _ _ => by rw [hty]; rfl)) hP) h6
  · rename_i hty
    obtain ⟨hb, h5⟩ := cB_s h
    obtain ⟨a, hva, h6⟩ := fPr_s h5
    subst hva
    exact go _ (by rw [hty]; rfl) (by rw [hty]; rfl) (fun H1 hP hz => hw.putR hr h3 hz (hRf a (Nat.le_of_ble_eq_true hb) (fun _ _ => by rw [hty]; rfl)) hP) h6
  · exact h.elim
end
theorem sp4_s {a : Nat} {A B C D E : Prop} (h : sp4 a A B C D E) : (a = 1001 ∧ A) ∨ (a = 1002 ∧ B) ∨ (a = 1003 ∧ C) ∨ (a = 1004 ∧ D) ∨ E := by
  unfold sp4 at h
  split at h
  · rename_i q; exact Or.inl ⟨Nat.eq_of_beq_eq_true q, h⟩
  split at h
  · rename_i q; exact Or.inr (Or.inl ⟨Nat.eq_of_beq_eq_true q, h⟩)
  split at h
  · rename_i q; exact Or.inr (Or.inr (Or.inl ⟨Nat.eq_of_beq_eq_true q, h⟩))
  split at h
  · rename_i q; exact Or.inr (Or.inr (Or.inr (Or.inl ⟨Nat.eq_of_beq_eq_true q, h⟩)))
  · exact Or.inr (Or.inr (Or.inr (Or.inr h)))
theorem beq_n {a b : Nat} (h : Nat.beq a b = true) : a = b := Nat.eq_of_beq_eq_true h
theorem ble_n {a b : Nat} (h : Nat.ble a b = true) : a ≤ b := Nat.le_of_ble_eq_true h
set_option maxHeartbeats 8000000 in
theorem stp_rest {G : GG} {y d : Nat} {pc : Nat} {i : Instr} {len a1 a2 : Nat} {val : Value} {sw : List (Int32 × Nat)} {nx : KT} {jp : Nat → KT} {k n : Nat} {L st : List Value} {σ : MH} {Q : Option Value → MH → Prop}
    (hd : decode (yC y) pc = .ok (i, len)) (hok : okI (yO y) pc i len a1 a2 val sw = true) (hyo : yO y < 16) (hcn : cn (yO y) = (yN y).cls) (hy2 : yK y = 2 → (yN y).name = "<init>") (hnx : ∀ k n L st σ, nx k n L st σ → EV G y d k n (pc + len) L st σ Q) (hjp : ∀ t k n L st σ, jp t k n L st σ → EV G y d k n t L st σ Q)
    (h : stp G y d (pc, i, len, a1, a2, val, sw) nx jp k n L st σ Q) (hp : ¬ plainI i = true) : EV G y d k n pc L st σ Q := by
  cases i
  case getstatic idx =>
    have hok : (len == 3 && (SL (yO y)).any (fun q => q.1 == idx && q.2.1 == a1)) = true := hok
    rw [Bool.and_eq_true] at hok
    have hlen := beq_iff_eq.mp hok.1
    subst hlen
    obtain ⟨hw1, ha⟩ := SL_ok hyo hok.2
    have h : nx k n L (.ref a1 :: st) σ := h
    refine EV.mk (fun p e R s m args below meth c H locs Z ls F hO hw hS hl hk hn hr' => ?_)
    have hown : s.vm.findClass (cn (yO y)) = some m.cls := by rw [hcn]; exact F.2.2.2.2.1
    have hkk := hnx _ _ _ _ _ h p e R s m args below meth c H locs Z ls F hO hw hS hl hk hn hr'
    rcases ha with rfl | rfl
    · exact va_getsN F.1 F.2.1 hO.2.2.1 hS hown (va_Nw.use rfl (hO.2.1 _ hw1)) (fun x h => h) hd hkk
    · exact va_getsN F.1 F.2.1 hO.2.2.2.1 hS hown (va_Nw.use rfl (hO.2.1 _ hw1)) (fun x h => h) hd hkk
  case getfield idx =>
    have hok : (len == 3 && (FL (yO y)).any (fun q => q.1 == idx && (q.2.1 == a1 && q.2.2.1 == a2))) = true := hok
    rw [Bool.and_eq_true] at hok
    have hlen := beq_iff_eq.mp hok.1
    subst hlen
    obtain ⟨a, r, hst, h2⟩ := pR_s h
    clear h
    subst hst
    have h := h2
    clear h2
    obtain ⟨t, n', f, hsh, h⟩ := gA_s h
    obtain ⟨ht, h⟩ := cB_s h
    have ht := beq_n ht
    have ht : t = a1 := ht
    subst ht
    obtain ⟨v, hv, h⟩ := fV_s (G := G) h
    obtain ⟨C, T, N, hc, -⟩ := FL_ok hyo hok.2
    have hci : t < 12 := (List.getElem?_eq_some_iff.mp hc).1
    exact EV.mk (fun p e R s m args below meth c H locs Z ls F hO hw hS hl hk hn hr' => getO F hO hw hsh hci hyo hcn hok.2 hv hd (hnx _ _ _ _ _ h p e R s m args below meth c H locs Z ls F hO hw hS hl hk hn hr'))
  case putfield idx =>
    have hok : (len == 3 && (FL (yO y)).any (fun q => q.1 == idx && (q.2.1 == a1 && q.2.2.1 == a2))) = true := hok
    rw [Bool.and_eq_true] at hok
    have hlen := beq_iff_eq.mp hok.1
    subst hlen
    obtain ⟨v, a, r, hst, h2⟩ := pVR_s h
    clear h
    subst hst
    have h := h2
    clear h2
    obtain ⟨t, n', f, hsh, h⟩ := gA_s h
    obtain ⟨ht, h⟩ := cB_s h
    have ht : t = a1 := beq_n ht
    subst ht
    obtain ⟨hf, h⟩ := cB_s h
    obtain ⟨C, T, N, hc, -⟩ := FL_ok hyo hok.2
    have hci : t < 12 := (List.getElem?_eq_some_iff.mp hc).1
    exact EV.putf hsh hci hyo hcn hy2 hok.2 hf hd h (fun σ' hK => hnx _ _ _ _ _ hK)
  case iaload =>
    have hlen : len = 1 := beq_iff_eq.mp (show (len == 1) = true from hok)
    subst hlen
    obtain ⟨i, a, r, hst, h2⟩ := pIR_s h
    clear h
    subst hst
    have h := h2
    clear h2
    obtain ⟨t, n', f, hsh, h⟩ := gA_s h
    obtain ⟨ht, h⟩ := cB_s h
    rw [Bool.or_eq_true] at ht
    have ht : t = 12 ∨ t = 20 := ht.elim (fun q => Or.inl (beq_n q)) (fun q => Or.inr (beq_n q))
    exact EV.mk (fun p e R s m args below meth c H locs Z ls F hO hw hS hl hk hn hr' => getAi F hO hw hS hsh ht h.1 hd (hnx _ _ _ _ _ h.2 p e R s m args below meth c H locs Z ls F hO hw hS hl hk hn hr'))
  case baload =>
    have hlen : len = 1 := beq_iff_eq.mp (show (len == 1) = true from hok)
    subst hlen
    obtain ⟨i, a, r, hst, h2⟩ := pIR_s h
    clear h
    subst hst
    have h := h2
    clear h2
    obtain ⟨t, n', f, hsh, h⟩ := gA_s h
    obtain ⟨ht, h⟩ := cB_s h
    have ht := beq_n ht
    subst ht
    exact EV.mk (fun p e R s m args below meth c H locs Z ls F hO hw hS hl hk hn hr' => va_zald F.1 F.2.1 hO.1 hw.1 (a - 3) 2 (by rw [wsO_at (hw.three hsh (by omega)) hsh, cell_int (Or.inr rfl)]) (tys_at G).2.2.1 h.1 hd (hnx _ _ _ _ _ h.2 p e R s m args below meth c H locs Z ls F hO hw hS hl hk hn hr'))
  case laload =>
    have hlen : len = 1 := beq_iff_eq.mp (show (len == 1) = true from hok)
    subst hlen
    obtain ⟨i, a, r, hst, h2⟩ := pIR_s h
    clear h
    subst hst
    have h := h2
    clear h2
    obtain ⟨t, n', f, hsh, h⟩ := gA_s h
    obtain ⟨ht, h⟩ := cB_s h
    have ht := beq_n ht
    subst ht
    exact EV.mk (fun p e R s m args below meth c H locs Z ls F hO hw hS hl hk hn hr' => va_lald F.1 F.2.1 hO.1 hw.1 (a - 3) 1 (by rw [wsO_at (hw.three hsh (by omega)) hsh, cell_long]) (tys_at G).2.1 h.1 hd (hnx _ _ _ _ _ h.2 p e R s m args below meth c H locs Z ls F hO hw hS hl hk hn hr'))
  case aaload =>
    have hlen : len = 1 := beq_iff_eq.mp (show (len == 1) = true from hok)
    subst hlen
    obtain ⟨i, a, r, hst, h2⟩ := pIR_s h
    clear h
    subst hst
    have h := h2
    clear h2
    obtain ⟨t, n', f, hsh, h⟩ := gA_s h
    obtain ⟨ht, h⟩ := cB_s h
    rw [Bool.and_eq_true] at ht
    have ht1 := ble_n ht.1
    have ht2 := ble_n ht.2
    obtain ⟨hin, h⟩ := h
    obtain ⟨b, hb, h⟩ := oS_s h
    refine EV.mk (fun p e R s m args below meth c H locs Z ls F hO hw hS hl hk hn hr' => ?_)
    obtain ⟨q, hq⟩ := tagC_ty (G := G) (show t = 15 ∨ t = 16 ∨ t = 17 by omega)
    refine va_aldq F.1 F.2.1 hO.1 hw.1 (a - 3) q (by rw [wsO_at (hw.three hsh (by omega)) hsh, cell_ref ht1]) hq hin hd ?_
    rw [hb]
    exact hnx _ _ _ _ _ h p e R s m args below meth c H locs Z ls F hO hw hS hl hk hn hr'
  case iastore =>
    have hlen : len = 1 := beq_iff_eq.mp (show (len == 1) = true from hok)
    subst hlen
    obtain ⟨x, i, a, r, hst, h2⟩ := pIIR_s h
    clear h
    subst hst
    have h := h2
    clear h2
    obtain ⟨t, n', f, hsh, h⟩ := gA_s h
    obtain ⟨ht, h⟩ := cB_s h
    have ht := beq_n ht
    subst ht
    exact EV.mk (fun p e R s m args below meth c H locs Z ls F hO hw hS hl hk hn hr' => putAi F hO hw hS hsh h.1 hd (fun H1 locs1 hw1 hS1 => hnx _ _ _ _ _ h.2 p e R s m args below meth c H1 locs1 Z ls F hO hw1 hS1 hl hk hn hr'))
  case bastore =>
    have hlen : len = 1 := beq_iff_eq.mp (show (len == 1) = true from hok)
    subst hlen
    obtain ⟨x, i, a, r, hst, h2⟩ := pIIR_s h
    clear h
    subst hst
    have h := h2
    clear h2
    obtain ⟨t, n', f, hsh, h⟩ := gA_s h
    obtain ⟨ht, h⟩ := cB_s h
    have ht := beq_n ht
    subst ht
    exact EV.mk (fun p e R s m args below meth c H locs Z ls F hO hw hS hl hk hn hr' => putAz F hO hw hS hsh h.1.1 h.1.2 hd (fun H1 locs1 hw1 hS1 => hnx _ _ _ _ _ h.2 p e R s m args below meth c H1 locs1 Z ls F hO hw1 hS1 hl hk hn hr'))
  case lastore =>
    have hlen : len = 1 := beq_iff_eq.mp (show (len == 1) = true from hok)
    subst hlen
    obtain ⟨x, i, a, r, hst, h2⟩ := pJIR_s h
    clear h
    subst hst
    have h := h2
    clear h2
    obtain ⟨t, n', f, hsh, h⟩ := gA_s h
    obtain ⟨ht, h⟩ := cB_s h
    have ht := beq_n ht
    subst ht
    exact EV.mk (fun p e R s m args below meth c H locs Z ls F hO hw hS hl hk hn hr' => putAl F hO hw hS hsh h.1 hd (fun H1 locs1 hw1 hS1 => hnx _ _ _ _ _ h.2 p e R s m args below meth c H1 locs1 Z ls F hO hw1 hS1 hl hk hn hr'))
  case aastore =>
    have hlen : len = 1 := beq_iff_eq.mp (show (len == 1) = true from hok)
    subst hlen
    obtain ⟨b, i, a, r, hst, h2⟩ := pRIR_s h
    clear h
    subst hst
    have h := h2
    clear h2
    obtain ⟨t, n', f, hsh, h⟩ := gA_s h
    obtain ⟨ht, h⟩ := cB_s h
    rw [Bool.and_eq_true] at ht
    have ht1 := ble_n ht.1
    have ht2 := ble_n ht.2
    obtain ⟨t2, n2, f2, hsh2, h⟩ := gA_s h
    obtain ⟨htt, h⟩ := cB_s h
    obtain ⟨hle, h⟩ := cB_s h
    exact EV.mk (fun p e R s m args below meth c H locs Z ls F hO hw hS hl hk hn hr' => putAr F hO hw hS hsh (by omega) hsh2 (beq_n htt) (beq_n hle) h.1 hd (fun H1 locs1 hw1 hS1 => hnx _ _ _ _ _ h.2 p e R s m args below meth c H1 locs1 Z ls F hO hw1 hS1 hl hk hn hr'))
  case arraylength =>
    have hlen : len = 1 := beq_iff_eq.mp (show (len == 1) = true from hok)
    subst hlen
    obtain ⟨a, r, hst, h2⟩ := pR_s h
    clear h
    subst hst
    have h := h2
    clear h2
    obtain ⟨t, n', f, hsh, h⟩ := gA_s h
    obtain ⟨ht, h⟩ := cB_s h
    exact EV.mk (fun p e R s m args below meth c H locs Z ls F hO hw hS hl hk hn hr' => getAlen F hO hw hS hsh (ble_n ht) hd (hnx _ _ _ _ _ h p e R s m args below meth c H locs Z ls F hO hw hS hl hk hn hr'))
  case new idx =>
    have hok : (len == 3 && (Nat.ble 12 a1 || (NL (yO y)).any (fun q => q.1 == idx && q.2.1 == a1))) = true := hok
    rw [Bool.and_eq_true, Bool.or_eq_true] at hok
    have hlen := beq_iff_eq.mp hok.1
    subst hlen
    obtain ⟨hci, h⟩ := cB_s h
    have hci : a1 < 12 := ble_n hci
    have hlk := hok.2.elim (fun q => absurd (ble_n q) (by omega)) id
    obtain ⟨⟨g1, g2⟩, h⟩ := h
    refine EV.mk (fun p e R s m args below meth c H locs Z ls F hO hw hS hl hk hn hr' => newO F hO hw hS hci hyo hcn hlk (Nat.le_trans g1 F.2.2.2.2.2.2.2.2.2.2.1) (Nat.le_trans g2 F.2.2.2.2.2.2.2.2.2.2.2) hd (fun H1 hw1 hS1 => hnx _ _ _ _ _ h p e R s m args below meth c H1 locs Z ls F hO hw1 hS1 hl g1 g2 hr'))
  case newarray a =>
    have hlen : len = 2 := beq_iff_eq.mp (show (len == 2) = true from hok)
    subst hlen
    obtain ⟨x, r, hst, h2⟩ := pI_s h
    clear h
    subst hst
    have h := h2
    clear h2
    obtain ⟨hci, h⟩ := cB_s h
    obtain ⟨⟨g0, g0', g1, g2⟩, h⟩ := h
    refine EV.mk (fun p e R s m args below meth c H locs Z ls F hO hw hS hl hk hn hr' => newA F hO hw hS (ble_n hci) g0 g0' (Nat.le_trans g1 F.2.2.2.2.2.2.2.2.2.2.1) (Nat.le_trans g2 F.2.2.2.2.2.2.2.2.2.2.2) hd (fun H1 hw1 hS1 => hnx _ _ _ _ _ h p e R s m args below meth c H1 locs Z ls F hO hw1 hS1 hl g1 g2 hr'))
  case anewarray idx =>
    have hok : (len == 3 && (AL (yO y)).any (fun q => q.1 == idx && q.2.1 == a1)) = true := hok
    rw [Bool.and_eq_true] at hok
    have hlen := beq_iff_eq.mp hok.1
    subst hlen
    obtain ⟨x, r, hst, h2⟩ := pI_s h
    clear h
    subst hst
    have h := h2
    clear h2
    obtain ⟨⟨g0, g0', g1, g2⟩, h⟩ := h
    refine EV.mk (fun p e R s m args below meth c H locs Z ls F hO hw hS hl hk hn hr' => newR F hO hw hS hyo hcn hok.2 g0 g0' (Nat.le_trans g1 F.2.2.2.2.2.2.2.2.2.2.1) (Nat.le_trans g2 F.2.2.2.2.2.2.2.2.2.2.2) hd (fun H1 hw1 hS1 => hnx _ _ _ _ _ h p e R s m args below meth c H1 locs Z ls F hO hw1 hS1 hl g1 g2 hr'))
  case ireturn =>
    have hlen : len = 1 := beq_iff_eq.mp (show (len == 1) = true from hok)
    subst hlen
    match st, h with
    | [.int x], h =>
      cases hR : yR y with
      | none => have h : (match yR y with | some .boolean => (x = 0 ∨ x = 1) ∧ Q (some (.int x)) σ | some .int => True ∧ Q (some (.int x)) σ | _ => False) := h; rw [hR] at h; exact h.elim
      | some ty =>
        have h : (match yR y with | some .boolean => (x = 0 ∨ x = 1) ∧ Q (some (.int x)) σ | some .int => True ∧ Q (some (.int x)) σ | _ => False) := h
        rw [hR] at h
        cases ty <;> first | (exact h.elim) | skip
        · exact EV.mk (fun p e R s m args below meth c H locs Z ls F hO hw hS hl hk hn hr' => hr' (some (.int x)) σ H locs k n pc ls h.2 (by unfold rOK; rw [hR]; exact h.1) hw hS hk hn hd)
        · exact EV.mk (fun p e R s m args below meth c H locs Z ls F hO hw hS hl hk hn hr' => hr' (some (.int x)) σ H locs k n pc ls h.2 (by unfold rOK; rw [hR]; first | exact h.1 | trivial) hw hS hk hn hd)
  case lreturn =>
    have hlen : len = 1 := beq_iff_eq.mp (show (len == 1) = true from hok)
    subst hlen
    match st, h with
    | [.long x], h =>
      have h : (match yR y with | some .long => True ∧ Q (some (.long x)) σ | _ => False) := h
      cases hR : yR y with
      | none => rw [hR] at h; exact h.elim
      | some ty =>
        rw [hR] at h
        cases ty <;> first | (exact h.elim) | skip
        exact EV.mk (fun p e R s m args below meth c H locs Z ls F hO hw hS hl hk hn hr' => hr' (some (.long x)) σ H locs k n pc ls h.2 (by unfold rOK; rw [hR]; first | exact h.1 | trivial) hw hS hk hn hd)
  case return_ =>
    have hlen : len = 1 := beq_iff_eq.mp (show (len == 1) = true from hok)
    subst hlen
    match st, h with
    | [], h =>
      have h : (match yR y with | none => True ∧ Q none σ | _ => False) := h
      cases hR : yR y with
      | some ty => rw [hR] at h; exact h.elim
      | none =>
        rw [hR] at h
        exact EV.mk (fun p e R s m args below meth c H locs Z ls F hO hw hS hl hk hn hr' => hr' none σ H locs k n pc ls h.2 (by unfold rOK; rw [hR]; first | exact h.1 | trivial) hw hS hk hn hd)
  case invokevirtual idx =>
    have hok : (len == 3 && (a1 == 2000 || (ML (yO y)).any (fun q => q.1 == idx && q.2.1 == a1))) = true := hok
    rw [Bool.and_eq_true, Bool.or_eq_true] at hok
    have hlen := beq_iff_eq.mp hok.1
    subst hlen
    obtain ⟨hK1, h⟩ := cB_s h
    obtain ⟨A, r, hA, hst0, h2⟩ := takeA_s h
    clear h
    subst hst0
    have h := h2
    clear h2
    rw [List.append_nil] at h
    obtain ⟨b, r', hst, h2⟩ := pR_s h
    clear h
    subst hst
    have h := h2
    clear h2
    obtain ⟨t, n', f, hsh, h⟩ := gA_s h
    obtain ⟨ht, h⟩ := cB_s h
    obtain ⟨hcat, hN, hmm, hM⟩ := callC_s h
    have hN : a1 < NMT := hN
    have hlk := ML_ok hyo (hok.2.elim (fun q => absurd (beq_iff_eq.mp q) (by have : a1 < 265 := hN; omega)) id)
    have hsp : spN a1 = none := by unfold spN; have : a1 < 265 := hN; rw [if_neg (by omega), if_neg (by omega), if_neg (by omega), if_neg (by omega), if_neg (by omega)]
    unfold MLok at hlk
    rw [hsp] at hlk
    refine EV.mk (fun p e R s m args below meth c H locs Z ls F hO hw hS hl hk hn hr' => ?_)
    have hm1 : k + yMc a1 ≤ yMc y := by rcases hmm with q | q; exact q.1; (have := q.1; have : yMc a1 = 0 := this; omega)
    have hm2 : n + yMs a1 ≤ yMs y := by rcases hmm with q | q; exact q.2; (have := q.2; have : yMs a1 = 0 := this; omega)
    have hrun := callV_run (e := e) (below := below) (ls := ls) (y' := a1) F hO hw hS hl.1 (Y_ok hN) (beq_n hK1) hcn hlk hsh (beq_n ht) hA hcat hd (Nat.le_trans hm1 F.2.2.2.2.2.2.2.2.2.2.1) (Nat.le_trans hm2 F.2.2.2.2.2.2.2.2.2.2.2) hM
    have hst : (A.reverse ++ .ref b :: r').map (cv G) = (A.map (cv G)).reverse ++ .ref (adr G b) :: r'.map (cv G) := by simp [cv]
    rw [hst]
    exact EV.after (y' := a1) (A := A) F hO hS hl hm1 hm2 hr' hrun
  case invokespecial idx =>
    have hok : (len == 3 && (a1 == 2000 || (ML (yO y)).any (fun q => q.1 == idx && q.2.1 == a1))) = true := hok
    rw [Bool.and_eq_true, Bool.or_eq_true] at hok
    have hlen := beq_iff_eq.mp hok.1
    subst hlen
    have h : (match Nat.beq a1 1000 with | true => pR st (fun _ r => cB (Nat.ble (cats r) 8) (nx k n L r σ)) | false => cB (Nat.beq (yK a1) 2) (takeA (yNp a1) st [] (fun A r => pR r (fun b r' => callC G y d k n pc L σ Q a1 (.ref b :: A) r')))) := h
    cases h0 : Nat.beq a1 1000 with
    | true =>
      rw [h0] at h
      have ha := beq_n h0
      subst ha
      obtain ⟨b, r, hst, h2⟩ := pR_s h
      clear h
      subst hst
      have h := h2
      clear h2
      obtain ⟨hcat, h⟩ := cB_s h
      have hlk : MLok (yO y) idx 1000 := ML_ok hyo (hok.2.elim (fun q => absurd (beq_iff_eq.mp q) (by omega)) id)
      have hlk : Cond.methodLink (cn (yO y)) idx objectInit ∈ lwG := hlk
      refine EV.mk (fun p e R s m args below meth c H locs Z ls F hO hw hS hl hk hn hr' => ?_)
      have hown : s.vm.findClass (cn (yO y)) = some m.cls := by rw [hcn]; exact F.2.2.2.2.1
      have hts := F.2.2.2.2.2.1
      have q1 := F.2.2.2.2.2.2.2.2.1
      have q2 := F.2.2.2.2.2.2.2.2.2.1
      have q3 := ble_n hcat
      exact W.objInit F.1 F.2.1 hown (hts _ hlk) (hts _ (lw_in (by simp))) (hts _ lw_obj) rfl (by rw [F.2.2.2.1]; exact hl.1) rfl hd (by omega) (by show 2 * 0 + _ + 12 ≤ _; rw [cats_eq]; omega) (hnx _ _ _ _ _ h p e R s m args below meth c H locs Z ls F hO hw hS hl hk hn hr')
    | false =>
      rw [h0] at h
      obtain ⟨hK1, h⟩ := cB_s h
      obtain ⟨A, r, hA, hst0, h2⟩ := takeA_s h
      clear h
      subst hst0
      have h := h2
      clear h2
      rw [List.append_nil] at h
      obtain ⟨b, r', hst, h2⟩ := pR_s h
      clear h
      subst hst
      have h := h2
      clear h2
      obtain ⟨hcat, hN, hmm, hM⟩ := callC_s h
      have hlk := ML_ok hyo (hok.2.elim (fun q => absurd (beq_iff_eq.mp q) (by have : a1 < 265 := hN; omega)) id)
      have hsp : spN a1 = none := by unfold spN; have : a1 < 265 := hN; rw [if_neg (by omega), if_neg (by omega), if_neg (by omega), if_neg (by omega), if_neg (by omega)]
      unfold MLok at hlk
      rw [hsp] at hlk
      refine EV.mk (fun p e R s m args below meth c H locs Z ls F hO hw hS hl hk hn hr' => ?_)
      have hm1 : k + yMc a1 ≤ yMc y := by rcases hmm with q | q; exact q.1; (have := q.1; have : yMc a1 = 0 := this; omega)
      have hm2 : n + yMs a1 ≤ yMs y := by rcases hmm with q | q; exact q.2; (have := q.2; have : yMs a1 = 0 := this; omega)
      have hrun := callI_run (e := e) (below := below) (ls := ls) (y' := a1) F hO hw hS hl.1 (Y_ok hN) (beq_n hK1) hcn hlk hA hcat hd (Nat.le_trans hm1 F.2.2.2.2.2.2.2.2.2.2.1) (Nat.le_trans hm2 F.2.2.2.2.2.2.2.2.2.2.2) hM
      have hst : (A.reverse ++ .ref b :: r').map (cv G) = (A.map (cv G)).reverse ++ .ref (adr G b) :: r'.map (cv G) := by simp [cv]
      rw [hst]
      exact EV.after (y' := a1) (A := A) F hO hS hl hm1 hm2 hr' hrun
  case invokestatic idx =>
    have hok : (len == 3 && (a1 == 2000 || (ML (yO y)).any (fun q => q.1 == idx && q.2.1 == a1))) = true := hok
    rw [Bool.and_eq_true, Bool.or_eq_true] at hok
    have hlen := beq_iff_eq.mp hok.1
    subst hlen
    rcases sp4_s h with ⟨e1, h5⟩ | ⟨e1, h5⟩ | ⟨e1, h5⟩ | ⟨e1, h5⟩ | h5
    · have e1 : a1 = 1001 := e1
      subst e1
      have hlk : MLok (yO y) idx 1001 := ML_ok hyo (hok.2.elim (fun q => absurd (beq_iff_eq.mp q) (by omega)) id)
      have hlk : Cond.methodLink (cn (yO y)) idx arraycopyName ∈ lwG := hlk
      obtain ⟨m', dp, a, sp, a0, r, hst, h6⟩ := pCp_s h5
      obtain ⟨t0, n0, f0, hs0, h7⟩ := gA_s h6
      obtain ⟨t1, n1, f1, hs1, h8⟩ := gA_s h7
      obtain ⟨ht, h9⟩ := cB_s h8
      rw [Bool.and_eq_true, Bool.and_eq_true] at ht
      have h12 := beq_n ht.1
      have h12' := beq_n ht.2.1
      rw [h12] at hs0
      rw [h12'] at hs1
      obtain ⟨⟨g1, g2, g3, g4, g5⟩, hA⟩ := h9
      rw [hst]
      exact EV.mk (fun p e R s m args below meth c H locs Z ls F hO hw hS hl hk hn hr' => copyI F hO hw hS hl.1 hs0 hs1 hyo hcn hlk g1 g2 g3 g4 g5 (by rw [cats_eq]; exact ble_n ht.2.2) hd (fun H1 locs1 hw1 hS1 => hnx _ _ _ _ _ hA p e R s m args below meth c H1 locs1 Z ls F hO hw1 hS1 hl hk hn hr'))
    · have e1 : a1 = 1002 := e1
      subst e1
      have hlk : MLok (yO y) idx 1002 := ML_ok hyo (hok.2.elim (fun q => absurd (beq_iff_eq.mp q) (by omega)) id)
      have hlk : Cond.methodLink (cn (yO y)) idx Lib.Math.max.name ∈ lwG := hlk
      obtain ⟨x, z, r, hst, h6⟩ := pII_s h5
      obtain ⟨hcat, h7⟩ := cB_s h6
      have q3 := ble_n hcat
      rw [hst]
      refine EV.mk (fun p e R s m args below meth c H locs Z ls F hO hw hS hl hk hn hr' => ?_)
      have hown : s.vm.findClass (cn (yO y)) = some m.cls := by rw [hcn]; exact F.2.2.2.2.1
      have hts := F.2.2.2.2.2.1
      have q1 := F.2.2.2.2.2.2.2.2.1
      have q2 := F.2.2.2.2.2.2.2.2.2.1
      exact va_mmax F.1 F.2.1 (by rw [F.2.2.2.1]; exact hl.1.symm) hown (hts _ hlk) (hts _ (lw_min (by simp))) (hts _ (lw_min (by simp))) (hts _ lw_math.1) (by omega) (by rw [cats_eq]; omega) (Nat.le_trans hk F.2.2.2.2.2.2.2.2.2.2.1) (Nat.le_trans hn F.2.2.2.2.2.2.2.2.2.2.2) hd (hnx _ _ _ _ _ h7 p e R s m args below meth c H locs Z ls F hO hw hS hl hk hn hr')
    · have e1 : a1 = 1003 := e1
      subst e1
      have hlk : MLok (yO y) idx 1003 := ML_ok hyo (hok.2.elim (fun q => absurd (beq_iff_eq.mp q) (by omega)) id)
      have hlk : Cond.methodLink (cn (yO y)) idx Lib.MathLoose.max_long.x ∈ lwG := hlk
      obtain ⟨x, z, r, hst, h6⟩ := pJJ_s h5
      obtain ⟨hcat, h7⟩ := cB_s h6
      have q3 := ble_n hcat
      rw [hst]
      refine EV.mk (fun p e R s m args below meth c H locs Z ls F hO hw hS hl hk hn hr' => ?_)
      have hown : s.vm.findClass (cn (yO y)) = some m.cls := by rw [hcn]; exact F.2.2.2.2.1
      have hts := F.2.2.2.2.2.1
      have q1 := F.2.2.2.2.2.2.2.2.1
      have q2 := F.2.2.2.2.2.2.2.2.2.1
      intro T hT X
      obtain ⟨vm', X', st'⟩ := X.mathMaxLH F.1 hown (hts _ hlk) (hts _ (lw_min (by simp))) (hts _ (lw_min (by simp))) (hts _ lw_math.2.1) (g := F0 m pc ls ((.long z :: .long x :: r).map (cv G))) rfl (by rw [F.2.2.2.1]; exact hl.1) (a := x) (b := z) (rest := r.map (cv G)) rfl (by rw [F.2.1]; exact hd) (by omega) (by show 2 * 0 + _ + 15 ≤ _; rw [cats_eq]; omega) (Nat.le_trans hk F.2.2.2.2.2.2.2.2.2.2.1) (Nat.le_trans hn F.2.2.2.2.2.2.2.2.2.2.2)
      obtain ⟨t, b1, b2⟩ := hnx _ _ _ _ _ h7 p e R s m args below meth c H locs Z ls F hO hw hS hl hk hn hr' (T.setVm vm') hT X'
      exact ⟨t, st' t b1, b2⟩
    · have e1 : a1 = 1004 := e1
      subst e1
      have hlk : MLok (yO y) idx 1004 := ML_ok hyo (hok.2.elim (fun q => absurd (beq_iff_eq.mp q) (by omega)) id)
      have hlk : Cond.methodLink (cn (yO y)) idx Lib.Math.min.name ∈ lwG := hlk
      obtain ⟨x, z, r, hst, h6⟩ := pII_s h5
      obtain ⟨hcat, h7⟩ := cB_s h6
      have q3 := ble_n hcat
      rw [hst]
      refine EV.mk (fun p e R s m args below meth c H locs Z ls F hO hw hS hl hk hn hr' => ?_)
      have hown : s.vm.findClass (cn (yO y)) = some m.cls := by rw [hcn]; exact F.2.2.2.2.1
      have hts := F.2.2.2.2.2.1
      have q1 := F.2.2.2.2.2.2.2.2.1
      have q2 := F.2.2.2.2.2.2.2.2.2.1
      exact va_mmin F.1 F.2.1 (by rw [F.2.2.2.1]; exact hl.1.symm) hown (hts _ hlk) (hts _ (lw_min (by simp))) (hts _ (lw_min (by simp))) (hts _ lw_math.2.2) (by omega) (by rw [cats_eq]; omega) (Nat.le_trans hk F.2.2.2.2.2.2.2.2.2.2.1) (Nat.le_trans hn F.2.2.2.2.2.2.2.2.2.2.2) hd (hnx _ _ _ _ _ h7 p e R s m args below meth c H locs Z ls F hO hw hS hl hk hn hr')
    obtain ⟨hK1, h6⟩ := cB_s h5
    obtain ⟨A, r, hA, hst0, h7⟩ := takeA_s h6
    rw [List.append_nil] at h7
    obtain ⟨hcat, hN, hmm, hM⟩ := callC_s h7
    have hlk := ML_ok hyo (hok.2.elim (fun q => absurd (beq_iff_eq.mp q) (by have : a1 < 265 := hN; omega)) id)
    have hsp : spN a1 = none := by unfold spN; have : a1 < 265 := hN; rw [if_neg (by omega), if_neg (by omega), if_neg (by omega), if_neg (by omega), if_neg (by omega)]
    unfold MLok at hlk
    rw [hsp] at hlk
    rw [hst0]
    refine EV.mk (fun p e R s m args below meth c H locs Z ls F hO hw hS hl hk hn hr' => ?_)
    have hm1 : k + yMc a1 ≤ yMc y := by rcases hmm with q | q; exact q.1; (have := q.1; have : yMc a1 = 0 := this; omega)
    have hm2 : n + yMs a1 ≤ yMs y := by rcases hmm with q | q; exact q.2; (have := q.2; have : yMs a1 = 0 := this; omega)
    have hrun := callS_run (e := e) (below := below) (ls := ls) (y' := a1) F hO hw hS hl.1 (Y_ok hN) (beq_n hK1) hcn hlk hA hcat hd (Nat.le_trans hm1 F.2.2.2.2.2.2.2.2.2.2.1) (Nat.le_trans hm2 F.2.2.2.2.2.2.2.2.2.2.2) hM
    have hst : (A.reverse ++ r).map (cv G) = (A.map (cv G)).reverse ++ r.map (cv G) := by simp
    rw [hst]
    exact EV.after (y' := a1) (A := A) F hO hS hl hm1 hm2 hr' hrun
  all_goals first | (exact False.elim h) | (exact absurd rfl hp)
theorem stp_sound {G : GG} {y d : Nat} {ce : CE} {nx : KT} {jp : Nat → KT} {k n : Nat} {L st : List Value} {σ : MH} {Q : Option Value → MH → Prop}
    (hok : okB (yO y) (yC y) ce = true) (hyo : yO y < 16) (hcn : cn (yO y) = (yN y).cls) (hy2 : yK y = 2 → (yN y).name = "<init>") (hnx : ∀ k n L st σ, nx k n L st σ → EV G y d k n (ce.1 + ce.2.2.1) L st σ Q) (hjp : ∀ t k n L st σ, jp t k n L st σ → EV G y d k n t L st σ Q)
    (h : stp G y d ce nx jp k n L st σ Q) : EV G y d k n ce.1 L st σ Q := by
  obtain ⟨pc, i, len, a1, a2, val, sw⟩ := ce
  have hok2 : (decide (decode (yC y) pc = .ok (i, len)) && okI (yO y) pc i len a1 a2 val sw) = true := hok
  rw [Bool.and_eq_true] at hok2
  by_cases hp : plainI i = true
  · exact stp_plain rfl (of_decide_eq_true hok2.1) hok2.2 hyo hcn hnx hjp h hp
  · exact stp_rest (of_decide_eq_true hok2.1) hok2.2 hyo hcn hy2 hnx hjp h hp
theorem findC_s : ∀ {C : List CE} {t : Nat} {K : List CE → Prop}, findC C t K → ∃ pre r, C = pre ++ r ∧ pcH r = t ∧ r ≠ [] ∧ K r
  | [], _, _, h => h.elim
  | ce :: l, t, K, h => by
    unfold findC at h
    split at h
    · rename_i h1
      exact ⟨[], ce :: l, rfl, beq_n h1, by simp, h⟩
    · obtain ⟨pre, r, h1, h2, h3, h4⟩ := findC_s (C := l) h
      exact ⟨ce :: pre, r, by rw [h1]; rfl, h2, h3, h4⟩
theorem EV.of_wp {G : GG} {y d : Nat} {Q : Option Value → MH → Prop} {cuts : List Nat} {C : List CE} (hC : ∀ ce ∈ C, okB (yO y) (yC y) ce = true) (hyo : yO y < 16) (hcn : cn (yO y) = (yN y).cls) (hy2 : yK y = 2 → (yN y).name = "<init>") :
    ∀ (f : Nat) (rem : List CE) (k n : Nat) (L st : List Value) (σ : MH), (∀ ce ∈ rem, ce ∈ C) → wp G y d Q cuts C f rem k n L st σ → EV G y d k n (pcH rem) L st σ Q := by
  intro f
  induction f with
  | zero => intro rem k n L st σ _ h; exact h.2
  | succ f ih =>
    intro rem k n L st σ hsub h
    match rem, hsub, h with
    | [], _, h => exact h.elim
    | ce :: rem', hsub, h =>
      have h : stp G y d ce (nxK G y d Q cuts (wp G y d Q cuts C f) ce.1 ce.2.2.1 rem') (jpK G y d Q cuts C (wp G y d Q cuts C f) ce.1) k n L st σ Q := h
      refine stp_sound (hC ce (hsub ce List.mem_cons_self)) hyo hcn hy2 (fun k n L st σ q => ?_) (fun t k n L st σ q => ?_) h
      · unfold nxK at q
        split at q
        · exact q.2
        · obtain ⟨q1, q2⟩ := cB_s q
          have := ih rem' k n L st σ (fun c hc => hsub c (List.mem_cons_of_mem _ hc)) q2
          rw [beq_n q1] at this
          exact this
      · unfold jpK at q
        split at q
        · exact q.2
        · obtain ⟨pre, r, h1, h2, h3, h4⟩ := findC_s q
          have := ih r k n L st σ (fun c hc => by rw [h1]; exact List.mem_append_right _ hc) h4
          rw [h2] at this
          exact this
