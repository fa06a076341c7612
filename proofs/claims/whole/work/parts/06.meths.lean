/-! what the tables say of each method and each class -/
def Yok (y : Nat) : Prop :=
  Cond.code (yN y) (yC y) (yL y) (yR y) ∈ lwG ∧ plainName (yN y).cls = true ∧ ((yN y).cls ≠ "java/lang/invoke/MethodHandle" ∧ (yN y).cls ≠ "java/lang/invoke/VarHandle") ∧
  Cond.initialized (yN y).cls ∈ lwG ∧ (parseMethodDescriptor (yN y).desc).map (fun d => d.parameters.length) = some (yNp y) ∧ yL y ≤ 45 ∧ cn (yO y) = (yN y).cls ∧ yO y < 16 ∧
  (yK y = 0 → Cond.static (yN y) ∈ lwG) ∧
  (yK y = 1 → Cond.instanceMethod (yN y) ∈ lwG ∧ Cond.selects (yN y).cls (yN y) (yN y) ∈ lwG ∧ (vwCl[yO y]?).map (fun q => q.1) = some (yN y).cls) ∧
  (yK y = 2 → Cond.instanceMethod (yN y) ∈ lwG ∧ (yN y).name = "<init>" ∧ yR y = none)
def chkY (y : Nat) : Bool := match YP[y]? with
  | some (pc, pk, ps, pi) =>
    plainName (yN y).cls && (decide ((yN y).cls ≠ "java/lang/invoke/MethodHandle") && (decide ((yN y).cls ≠ "java/lang/invoke/VarHandle") && (decide (lw_tbl[pi]? = some (.initialized (yN y).cls)) && (goodWord (.initialized (yN y).cls) &&
    (decide ((parseMethodDescriptor (yN y).desc).map (fun d => d.parameters.length) = some (yNp y)) && (decide (yL y ≤ 45) && (decide (cn (yO y) = (yN y).cls) && (decide (yO y < 16) &&
    (if yK y = 0 then decide (lw_tbl[pk]? = some (.static (yN y))) && goodWord (.static (yN y)) else if yK y = 1 then
      decide (lw_tbl[pk]? = some (.instanceMethod (yN y))) && (goodWord (.instanceMethod (yN y)) && (decide (lw_tbl[ps]? = some (.selects (yN y).cls (yN y) (yN y))) && (goodWord (.selects (yN y).cls (yN y) (yN y)) && decide ((vwCl[yO y]?).map (fun q => q.1) = some (yN y).cls))))
     else if yK y = 2 then decide (lw_tbl[pk]? = some (.instanceMethod (yN y))) && (goodWord (.instanceMethod (yN y)) && (decide ((yN y).name = "<init>") && decide (yR y = none))) else false)))))))))
  | none => false
theorem chkY_ok {y : Nat} (h : chkY y = true) (hc : Cond.code (yN y) (yC y) (yL y) (yR y) ∈ lwG) : Yok y := by
  unfold chkY at h
  split at h
  · rename_i pc pk ps pi _
    simp only [Bool.and_eq_true, decide_eq_true_eq] at h
    obtain ⟨a1, a2, a3, a4, a5, a6, a7, a8, a9, a10⟩ := h
    refine ⟨hc, a1, ⟨a2, a3⟩, lwG_of a4 a5, a6, a7, a8, a9, fun hk => ?_, fun hk => ?_, fun hk => ?_⟩
    · rw [if_pos hk] at a10
      simp only [Bool.and_eq_true, decide_eq_true_eq] at a10
      exact lwG_of a10.1 a10.2
    · rw [if_neg (by omega), if_pos hk] at a10
      simp only [Bool.and_eq_true, decide_eq_true_eq] at a10
      exact ⟨lwG_of a10.1 a10.2.1, lwG_of a10.2.2.1 a10.2.2.2.1, a10.2.2.2.2⟩
    · rw [if_neg (by omega), if_neg (by omega), if_pos hk] at a10
      simp only [Bool.and_eq_true, decide_eq_true_eq] at a10
      exact ⟨lwG_of a10.1 a10.2.1, a10.2.2.1, a10.2.2.2⟩
  · cases h
set_option maxRecDepth 100000 in
theorem ya0 : chkY 0 = true := by decide +kernel
set_option maxRecDepth 100000 in
theorem ya1 : chkY 1 = true := by decide +kernel
set_option maxRecDepth 100000 in
theorem ya2 : chkY 2 = true := by decide +kernel
set_option maxRecDepth 100000 in
theorem ya3 : chkY 3 = true := by decide +kernel
set_option maxRecDepth 100000 in
theorem ya4 : chkY 4 = true := by decide +kernel
set_option maxRecDepth 100000 in
theorem ya5 : chkY 5 = true := by decide +kernel
set_option maxRecDepth 100000 in
theorem ya6 : chkY 6 = true := by decide +kernel
set_option maxRecDepth 100000 in
theorem ya7 : chkY 7 = true := by decide +kernel
set_option maxRecDepth 100000 in
theorem ya8 : chkY 8 = true := by decide +kernel
set_option maxRecDepth 100000 in
theorem ya9 : chkY 9 = true := by decide +kernel
set_option maxRecDepth 100000 in
theorem ya10 : chkY 10 = true := by decide +kernel
set_option maxRecDepth 100000 in
theorem ya11 : chkY 11 = true := by decide +kernel
set_option maxRecDepth 100000 in
theorem ya12 : chkY 12 = true := by decide +kernel
set_option maxRecDepth 100000 in
theorem ya13 : chkY 13 = true := by decide +kernel
set_option maxRecDepth 100000 in
theorem ya14 : chkY 14 = true := by decide +kernel
set_option maxRecDepth 100000 in
theorem ya15 : chkY 15 = true := by decide +kernel
set_option maxRecDepth 100000 in
theorem ya16 : chkY 16 = true := by decide +kernel
set_option maxRecDepth 100000 in
theorem ya17 : chkY 17 = true := by decide +kernel
set_option maxRecDepth 100000 in
theorem ya18 : chkY 18 = true := by decide +kernel
set_option maxRecDepth 100000 in
theorem ya19 : chkY 19 = true := by decide +kernel
set_option maxRecDepth 100000 in
theorem ya20 : chkY 20 = true := by decide +kernel
set_option maxRecDepth 100000 in
theorem ya21 : chkY 21 = true := by decide +kernel
set_option maxRecDepth 100000 in
theorem ya22 : chkY 22 = true := by decide +kernel
set_option maxRecDepth 100000 in
theorem ya23 : chkY 23 = true := by decide +kernel
set_option maxRecDepth 100000 in
theorem ya24 : chkY 24 = true := by decide +kernel
set_option maxRecDepth 100000 in
theorem ya25 : chkY 25 = true := by decide +kernel
set_option maxRecDepth 100000 in
theorem ya26 : chkY 26 = true := by decide +kernel
set_option maxRecDepth 100000 in
theorem ya27 : chkY 27 = true := by decide +kernel
set_option maxRecDepth 100000 in
theorem ya28 : chkY 28 = true := by decide +kernel
set_option maxRecDepth 100000 in
theorem ya29 : chkY 29 = true := by decide +kernel
set_option maxRecDepth 100000 in
theorem ya30 : chkY 30 = true := by decide +kernel
set_option maxRecDepth 100000 in
theorem ya31 : chkY 31 = true := by decide +kernel
set_option maxRecDepth 100000 in
theorem ya32 : chkY 32 = true := by decide +kernel
set_option maxRecDepth 100000 in
theorem ya33 : chkY 33 = true := by decide +kernel
set_option maxRecDepth 100000 in
theorem ya34 : chkY 34 = true := by decide +kernel
set_option maxRecDepth 100000 in
theorem ya35 : chkY 35 = true := by decide +kernel
set_option maxRecDepth 100000 in
theorem ya36 : chkY 36 = true := by decide +kernel
set_option maxRecDepth 100000 in
theorem ya37 : chkY 37 = true := by decide +kernel
set_option maxRecDepth 100000 in
theorem ya38 : chkY 38 = true := by decide +kernel
set_option maxRecDepth 100000 in
theorem ya39 : chkY 39 = true := by decide +kernel
set_option maxRecDepth 100000 in
theorem ya40 : chkY 40 = true := by decide +kernel
set_option maxRecDepth 100000 in
theorem ya41 : chkY 41 = true := by decide +kernel
set_option maxRecDepth 100000 in
theorem ya42 : chkY 42 = true := by decide +kernel
set_option maxRecDepth 100000 in
theorem ya43 : chkY 43 = true := by decide +kernel
set_option maxRecDepth 100000 in
theorem ya44 : chkY 44 = true := by decide +kernel
set_option maxRecDepth 100000 in
theorem ya45 : chkY 45 = true := by decide +kernel
set_option maxRecDepth 100000 in
theorem ya46 : chkY 46 = true := by decide +kernel
set_option maxRecDepth 100000 in
theorem ya47 : chkY 47 = true := by decide +kernel
set_option maxRecDepth 100000 in
theorem ya48 : chkY 48 = true := by decide +kernel
set_option maxRecDepth 100000 in
theorem ya49 : chkY 49 = true := by decide +kernel
set_option maxRecDepth 100000 in
theorem ya50 : chkY 50 = true := by decide +kernel
set_option maxRecDepth 100000 in
theorem ya51 : chkY 51 = true := by decide +kernel
set_option maxRecDepth 100000 in
theorem ya52 : chkY 52 = true := by decide +kernel
set_option maxRecDepth 100000 in
theorem ya53 : chkY 53 = true := by decide +kernel
set_option maxRecDepth 100000 in
theorem ya54 : chkY 54 = true := by decide +kernel
set_option maxRecDepth 100000 in
theorem ya55 : chkY 55 = true := by decide +kernel
set_option maxRecDepth 100000 in
theorem ya56 : chkY 56 = true := by decide +kernel
set_option maxRecDepth 100000 in
theorem ya57 : chkY 57 = true := by decide +kernel
set_option maxRecDepth 100000 in
theorem ya58 : chkY 58 = true := by decide +kernel
set_option maxRecDepth 100000 in
theorem ya59 : chkY 59 = true := by decide +kernel
set_option maxRecDepth 100000 in
theorem ya60 : chkY 60 = true := by decide +kernel
set_option maxRecDepth 100000 in
theorem ya61 : chkY 61 = true := by decide +kernel
set_option maxRecDepth 100000 in
theorem ya62 : chkY 62 = true := by decide +kernel
set_option maxRecDepth 100000 in
theorem ya63 : chkY 63 = true := by decide +kernel
set_option maxRecDepth 100000 in
theorem ya64 : chkY 64 = true := by decide +kernel
set_option maxRecDepth 100000 in
theorem ya65 : chkY 65 = true := by decide +kernel
set_option maxRecDepth 100000 in
theorem ya66 : chkY 66 = true := by decide +kernel
set_option maxRecDepth 100000 in
theorem ya67 : chkY 67 = true := by decide +kernel
set_option maxRecDepth 100000 in
theorem ya68 : chkY 68 = true := by decide +kernel
set_option maxRecDepth 100000 in
theorem ya69 : chkY 69 = true := by decide +kernel
set_option maxRecDepth 100000 in
theorem ya70 : chkY 70 = true := by decide +kernel
set_option maxRecDepth 100000 in
theorem ya71 : chkY 71 = true := by decide +kernel
set_option maxRecDepth 100000 in
theorem ya72 : chkY 72 = true := by decide +kernel
set_option maxRecDepth 100000 in
theorem ya73 : chkY 73 = true := by decide +kernel
set_option maxRecDepth 100000 in
theorem ya74 : chkY 74 = true := by decide +kernel
set_option maxRecDepth 100000 in
theorem ya75 : chkY 75 = true := by decide +kernel
set_option maxRecDepth 100000 in
theorem ya76 : chkY 76 = true := by decide +kernel
set_option maxRecDepth 100000 in
theorem ya77 : chkY 77 = true := by decide +kernel
set_option maxRecDepth 100000 in
theorem ya78 : chkY 78 = true := by decide +kernel
set_option maxRecDepth 100000 in
theorem ya79 : chkY 79 = true := by decide +kernel
set_option maxRecDepth 100000 in
theorem ya80 : chkY 80 = true := by decide +kernel
set_option maxRecDepth 100000 in
theorem ya81 : chkY 81 = true := by decide +kernel
set_option maxRecDepth 100000 in
theorem ya82 : chkY 82 = true := by decide +kernel
set_option maxRecDepth 100000 in
theorem ya83 : chkY 83 = true := by decide +kernel
set_option maxRecDepth 100000 in
theorem ya84 : chkY 84 = true := by decide +kernel
set_option maxRecDepth 100000 in
theorem ya85 : chkY 85 = true := by decide +kernel
set_option maxRecDepth 100000 in
theorem ya86 : chkY 86 = true := by decide +kernel
set_option maxRecDepth 100000 in
theorem ya87 : chkY 87 = true := by decide +kernel
set_option maxRecDepth 100000 in
theorem ya88 : chkY 88 = true := by decide +kernel
set_option maxRecDepth 100000 in
theorem ya89 : chkY 89 = true := by decide +kernel
set_option maxRecDepth 100000 in
theorem ya90 : chkY 90 = true := by decide +kernel
set_option maxRecDepth 100000 in
theorem ya91 : chkY 91 = true := by decide +kernel
set_option maxRecDepth 100000 in
theorem ya92 : chkY 92 = true := by decide +kernel
set_option maxRecDepth 100000 in
theorem ya93 : chkY 93 = true := by decide +kernel
set_option maxRecDepth 100000 in
theorem ya94 : chkY 94 = true := by decide +kernel
set_option maxRecDepth 100000 in
theorem ya95 : chkY 95 = true := by decide +kernel
set_option maxRecDepth 100000 in
theorem ya96 : chkY 96 = true := by decide +kernel
set_option maxRecDepth 100000 in
theorem ya97 : chkY 97 = true := by decide +kernel
set_option maxRecDepth 100000 in
theorem ya98 : chkY 98 = true := by decide +kernel
set_option maxRecDepth 100000 in
theorem ya99 : chkY 99 = true := by decide +kernel
set_option maxRecDepth 100000 in
theorem ya100 : chkY 100 = true := by decide +kernel
set_option maxRecDepth 100000 in
theorem ya101 : chkY 101 = true := by decide +kernel
set_option maxRecDepth 100000 in
theorem ya102 : chkY 102 = true := by decide +kernel
set_option maxRecDepth 100000 in
theorem ya103 : chkY 103 = true := by decide +kernel
set_option maxRecDepth 100000 in
theorem ya104 : chkY 104 = true := by decide +kernel
set_option maxRecDepth 100000 in
theorem ya105 : chkY 105 = true := by decide +kernel
set_option maxRecDepth 100000 in
theorem ya106 : chkY 106 = true := by decide +kernel
set_option maxRecDepth 100000 in
theorem ya107 : chkY 107 = true := by decide +kernel
set_option maxRecDepth 100000 in
theorem ya108 : chkY 108 = true := by decide +kernel
set_option maxRecDepth 100000 in
theorem ya109 : chkY 109 = true := by decide +kernel
set_option maxRecDepth 100000 in
theorem ya110 : chkY 110 = true := by decide +kernel
set_option maxRecDepth 100000 in
theorem ya111 : chkY 111 = true := by decide +kernel
set_option maxRecDepth 100000 in
theorem ya112 : chkY 112 = true := by decide +kernel
set_option maxRecDepth 100000 in
theorem ya113 : chkY 113 = true := by decide +kernel
set_option maxRecDepth 100000 in
theorem ya114 : chkY 114 = true := by decide +kernel
set_option maxRecDepth 100000 in
theorem ya115 : chkY 115 = true := by decide +kernel
set_option maxRecDepth 100000 in
theorem ya116 : chkY 116 = true := by decide +kernel
set_option maxRecDepth 100000 in
theorem ya117 : chkY 117 = true := by decide +kernel
set_option maxRecDepth 100000 in
theorem ya118 : chkY 118 = true := by decide +kernel
set_option maxRecDepth 100000 in
theorem ya119 : chkY 119 = true := by decide +kernel
set_option maxRecDepth 100000 in
theorem ya120 : chkY 120 = true := by decide +kernel
set_option maxRecDepth 100000 in
theorem ya121 : chkY 121 = true := by decide +kernel
set_option maxRecDepth 100000 in
theorem ya122 : chkY 122 = true := by decide +kernel
set_option maxRecDepth 100000 in
theorem ya123 : chkY 123 = true := by decide +kernel
set_option maxRecDepth 100000 in
theorem ya124 : chkY 124 = true := by decide +kernel
set_option maxRecDepth 100000 in
theorem ya125 : chkY 125 = true := by decide +kernel
set_option maxRecDepth 100000 in
theorem ya126 : chkY 126 = true := by decide +kernel
set_option maxRecDepth 100000 in
theorem ya127 : chkY 127 = true := by decide +kernel
set_option maxRecDepth 100000 in
theorem ya128 : chkY 128 = true := by decide +kernel
set_option maxRecDepth 100000 in
theorem ya129 : chkY 129 = true := by decide +kernel
set_option maxRecDepth 100000 in
theorem ya130 : chkY 130 = true := by decide +kernel
set_option maxRecDepth 100000 in
theorem ya131 : chkY 131 = true := by decide +kernel
set_option maxRecDepth 100000 in
theorem ya132 : chkY 132 = true := by decide +kernel
set_option maxRecDepth 100000 in
theorem ya133 : chkY 133 = true := by decide +kernel
set_option maxRecDepth 100000 in
theorem ya134 : chkY 134 = true := by decide +kernel
set_option maxRecDepth 100000 in
theorem ya135 : chkY 135 = true := by decide +kernel
set_option maxRecDepth 100000 in
theorem ya136 : chkY 136 = true := by decide +kernel
set_option maxRecDepth 100000 in
theorem ya137 : chkY 137 = true := by decide +kernel
set_option maxRecDepth 100000 in
theorem ya138 : chkY 138 = true := by decide +kernel
set_option maxRecDepth 100000 in
theorem ya139 : chkY 139 = true := by decide +kernel
set_option maxRecDepth 100000 in
theorem ya140 : chkY 140 = true := by decide +kernel
set_option maxRecDepth 100000 in
theorem ya141 : chkY 141 = true := by decide +kernel
set_option maxRecDepth 100000 in
theorem ya142 : chkY 142 = true := by decide +kernel
set_option maxRecDepth 100000 in
theorem ya143 : chkY 143 = true := by decide +kernel
set_option maxRecDepth 100000 in
theorem ya144 : chkY 144 = true := by decide +kernel
set_option maxRecDepth 100000 in
theorem ya145 : chkY 145 = true := by decide +kernel
set_option maxRecDepth 100000 in
theorem ya146 : chkY 146 = true := by decide +kernel
set_option maxRecDepth 100000 in
theorem ya147 : chkY 147 = true := by decide +kernel
set_option maxRecDepth 100000 in
theorem ya148 : chkY 148 = true := by decide +kernel
set_option maxRecDepth 100000 in
theorem ya149 : chkY 149 = true := by decide +kernel
set_option maxRecDepth 100000 in
theorem ya150 : chkY 150 = true := by decide +kernel
set_option maxRecDepth 100000 in
theorem ya151 : chkY 151 = true := by decide +kernel
set_option maxRecDepth 100000 in
theorem ya152 : chkY 152 = true := by decide +kernel
set_option maxRecDepth 100000 in
theorem ya153 : chkY 153 = true := by decide +kernel
set_option maxRecDepth 100000 in
theorem ya154 : chkY 154 = true := by decide +kernel
set_option maxRecDepth 100000 in
theorem ya155 : chkY 155 = true := by decide +kernel
set_option maxRecDepth 100000 in
theorem ya156 : chkY 156 = true := by decide +kernel
set_option maxRecDepth 100000 in
theorem ya157 : chkY 157 = true := by decide +kernel
set_option maxRecDepth 100000 in
theorem ya158 : chkY 158 = true := by decide +kernel
set_option maxRecDepth 100000 in
theorem ya159 : chkY 159 = true := by decide +kernel
set_option maxRecDepth 100000 in
theorem ya160 : chkY 160 = true := by decide +kernel
set_option maxRecDepth 100000 in
theorem ya161 : chkY 161 = true := by decide +kernel
set_option maxRecDepth 100000 in
theorem ya162 : chkY 162 = true := by decide +kernel
set_option maxRecDepth 100000 in
theorem ya163 : chkY 163 = true := by decide +kernel
set_option maxRecDepth 100000 in
theorem ya164 : chkY 164 = true := by decide +kernel
set_option maxRecDepth 100000 in
theorem ya165 : chkY 165 = true := by decide +kernel
set_option maxRecDepth 100000 in
theorem ya166 : chkY 166 = true := by decide +kernel
set_option maxRecDepth 100000 in
theorem ya167 : chkY 167 = true := by decide +kernel
set_option maxRecDepth 100000 in
theorem ya168 : chkY 168 = true := by decide +kernel
set_option maxRecDepth 100000 in
theorem ya169 : chkY 169 = true := by decide +kernel
set_option maxRecDepth 100000 in
theorem ya170 : chkY 170 = true := by decide +kernel
set_option maxRecDepth 100000 in
theorem ya171 : chkY 171 = true := by decide +kernel
set_option maxRecDepth 100000 in
theorem ya172 : chkY 172 = true := by decide +kernel
set_option maxRecDepth 100000 in
theorem ya173 : chkY 173 = true := by decide +kernel
set_option maxRecDepth 100000 in
theorem ya174 : chkY 174 = true := by decide +kernel
set_option maxRecDepth 100000 in
theorem ya175 : chkY 175 = true := by decide +kernel
set_option maxRecDepth 100000 in
theorem ya176 : chkY 176 = true := by decide +kernel
set_option maxRecDepth 100000 in
theorem ya177 : chkY 177 = true := by decide +kernel
set_option maxRecDepth 100000 in
theorem ya178 : chkY 178 = true := by decide +kernel
set_option maxRecDepth 100000 in
theorem ya179 : chkY 179 = true := by decide +kernel
set_option maxRecDepth 100000 in
theorem ya180 : chkY 180 = true := by decide +kernel
set_option maxRecDepth 100000 in
theorem ya181 : chkY 181 = true := by decide +kernel
set_option maxRecDepth 100000 in
theorem ya182 : chkY 182 = true := by decide +kernel
set_option maxRecDepth 100000 in
theorem ya183 : chkY 183 = true := by decide +kernel
set_option maxRecDepth 100000 in
theorem ya184 : chkY 184 = true := by decide +kernel
set_option maxRecDepth 100000 in
theorem ya185 : chkY 185 = true := by decide +kernel
set_option maxRecDepth 100000 in
theorem ya186 : chkY 186 = true := by decide +kernel
set_option maxRecDepth 100000 in
theorem ya187 : chkY 187 = true := by decide +kernel
set_option maxRecDepth 100000 in
theorem ya188 : chkY 188 = true := by decide +kernel
set_option maxRecDepth 100000 in
theorem ya189 : chkY 189 = true := by decide +kernel
set_option maxRecDepth 100000 in
theorem ya190 : chkY 190 = true := by decide +kernel
set_option maxRecDepth 100000 in
theorem ya191 : chkY 191 = true := by decide +kernel
set_option maxRecDepth 100000 in
theorem ya192 : chkY 192 = true := by decide +kernel
set_option maxRecDepth 100000 in
theorem ya193 : chkY 193 = true := by decide +kernel
set_option maxRecDepth 100000 in
theorem ya194 : chkY 194 = true := by decide +kernel
set_option maxRecDepth 100000 in
theorem ya195 : chkY 195 = true := by decide +kernel
set_option maxRecDepth 100000 in
theorem ya196 : chkY 196 = true := by decide +kernel
set_option maxRecDepth 100000 in
theorem ya197 : chkY 197 = true := by decide +kernel
set_option maxRecDepth 100000 in
theorem ya198 : chkY 198 = true := by decide +kernel
set_option maxRecDepth 100000 in
theorem ya199 : chkY 199 = true := by decide +kernel
set_option maxRecDepth 100000 in
theorem ya200 : chkY 200 = true := by decide +kernel
set_option maxRecDepth 100000 in
theorem ya201 : chkY 201 = true := by decide +kernel
set_option maxRecDepth 100000 in
theorem ya202 : chkY 202 = true := by decide +kernel
set_option maxRecDepth 100000 in
theorem ya203 : chkY 203 = true := by decide +kernel
set_option maxRecDepth 100000 in
theorem ya204 : chkY 204 = true := by decide +kernel
set_option maxRecDepth 100000 in
theorem ya205 : chkY 205 = true := by decide +kernel
set_option maxRecDepth 100000 in
theorem ya206 : chkY 206 = true := by decide +kernel
set_option maxRecDepth 100000 in
theorem ya207 : chkY 207 = true := by decide +kernel
set_option maxRecDepth 100000 in
theorem ya208 : chkY 208 = true := by decide +kernel
set_option maxRecDepth 100000 in
theorem ya209 : chkY 209 = true := by decide +kernel
set_option maxRecDepth 100000 in
theorem ya210 : chkY 210 = true := by decide +kernel
set_option maxRecDepth 100000 in
theorem ya211 : chkY 211 = true := by decide +kernel
set_option maxRecDepth 100000 in
theorem ya212 : chkY 212 = true := by decide +kernel
set_option maxRecDepth 100000 in
theorem ya213 : chkY 213 = true := by decide +kernel
set_option maxRecDepth 100000 in
theorem ya214 : chkY 214 = true := by decide +kernel
set_option maxRecDepth 100000 in
theorem ya215 : chkY 215 = true := by decide +kernel
set_option maxRecDepth 100000 in
theorem ya216 : chkY 216 = true := by decide +kernel
set_option maxRecDepth 100000 in
theorem ya217 : chkY 217 = true := by decide +kernel
set_option maxRecDepth 100000 in
theorem ya218 : chkY 218 = true := by decide +kernel
set_option maxRecDepth 100000 in
theorem ya219 : chkY 219 = true := by decide +kernel
set_option maxRecDepth 100000 in
theorem ya220 : chkY 220 = true := by decide +kernel
set_option maxRecDepth 100000 in
theorem ya221 : chkY 221 = true := by decide +kernel
set_option maxRecDepth 100000 in
theorem ya222 : chkY 222 = true := by decide +kernel
set_option maxRecDepth 100000 in
theorem ya223 : chkY 223 = true := by decide +kernel
set_option maxRecDepth 100000 in
theorem ya224 : chkY 224 = true := by decide +kernel
set_option maxRecDepth 100000 in
theorem ya225 : chkY 225 = true := by decide +kernel
set_option maxRecDepth 100000 in
theorem ya226 : chkY 226 = true := by decide +kernel
set_option maxRecDepth 100000 in
theorem ya227 : chkY 227 = true := by decide +kernel
set_option maxRecDepth 100000 in
theorem ya228 : chkY 228 = true := by decide +kernel
set_option maxRecDepth 100000 in
theorem ya229 : chkY 229 = true := by decide +kernel
set_option maxRecDepth 100000 in
theorem ya230 : chkY 230 = true := by decide +kernel
set_option maxRecDepth 100000 in
theorem ya231 : chkY 231 = true := by decide +kernel
set_option maxRecDepth 100000 in
theorem ya232 : chkY 232 = true := by decide +kernel
set_option maxRecDepth 100000 in
theorem ya233 : chkY 233 = true := by decide +kernel
set_option maxRecDepth 100000 in
theorem ya234 : chkY 234 = true := by decide +kernel
set_option maxRecDepth 100000 in
theorem ya235 : chkY 235 = true := by decide +kernel
set_option maxRecDepth 100000 in
theorem ya236 : chkY 236 = true := by decide +kernel
set_option maxRecDepth 100000 in
theorem ya237 : chkY 237 = true := by decide +kernel
set_option maxRecDepth 100000 in
theorem ya238 : chkY 238 = true := by decide +kernel
set_option maxRecDepth 100000 in
theorem ya239 : chkY 239 = true := by decide +kernel
set_option maxRecDepth 100000 in
theorem ya240 : chkY 240 = true := by decide +kernel
set_option maxRecDepth 100000 in
theorem ya241 : chkY 241 = true := by decide +kernel
set_option maxRecDepth 100000 in
theorem ya242 : chkY 242 = true := by decide +kernel
set_option maxRecDepth 100000 in
theorem ya243 : chkY 243 = true := by decide +kernel
set_option maxRecDepth 100000 in
theorem ya244 : chkY 244 = true := by decide +kernel
set_option maxRecDepth 100000 in
theorem ya245 : chkY 245 = true := by decide +kernel
set_option maxRecDepth 100000 in
theorem ya246 : chkY 246 = true := by decide +kernel
set_option maxRecDepth 100000 in
theorem ya247 : chkY 247 = true := by decide +kernel
set_option maxRecDepth 100000 in
theorem ya248 : chkY 248 = true := by decide +kernel
set_option maxRecDepth 100000 in
theorem ya249 : chkY 249 = true := by decide +kernel
set_option maxRecDepth 100000 in
theorem ya250 : chkY 250 = true := by decide +kernel
set_option maxRecDepth 100000 in
theorem ya251 : chkY 251 = true := by decide +kernel
set_option maxRecDepth 100000 in
theorem ya252 : chkY 252 = true := by decide +kernel
set_option maxRecDepth 100000 in
theorem ya253 : chkY 253 = true := by decide +kernel
set_option maxRecDepth 100000 in
theorem ya254 : chkY 254 = true := by decide +kernel
set_option maxRecDepth 100000 in
theorem ya255 : chkY 255 = true := by decide +kernel
set_option maxRecDepth 100000 in
theorem ya256 : chkY 256 = true := by decide +kernel
set_option maxRecDepth 100000 in
theorem ya257 : chkY 257 = true := by decide +kernel
set_option maxRecDepth 100000 in
theorem ya258 : chkY 258 = true := by decide +kernel
set_option maxRecDepth 100000 in
theorem ya259 : chkY 259 = true := by decide +kernel
set_option maxRecDepth 100000 in
theorem ya260 : chkY 260 = true := by decide +kernel
set_option maxRecDepth 100000 in
theorem ya261 : chkY 261 = true := by decide +kernel
set_option maxRecDepth 100000 in
theorem ya262 : chkY 262 = true := by decide +kernel
set_option maxRecDepth 100000 in
theorem ya263 : chkY 263 = true := by decide +kernel
set_option maxRecDepth 100000 in
theorem ya264 : chkY 264 = true := by decide +kernel
set_option maxRecDepth 100000 in
theorem yb0 : lw_tbl[218]? = some (.code (yN 0) (yC 0) (yL 0) (yR 0)) := by rfl
set_option maxRecDepth 100000 in
theorem yb1 : lw_tbl[599]? = some (.code (yN 1) (yC 1) (yL 1) (yR 1)) := by rfl
set_option maxRecDepth 100000 in
theorem yb2 : lw_tbl[782]? = some (.code (yN 2) (yC 2) (yL 2) (yR 2)) := by rfl
set_option maxRecDepth 100000 in
theorem yb3 : lw_tbl[727]? = some (.code (yN 3) (yC 3) (yL 3) (yR 3)) := by rfl
set_option maxRecDepth 100000 in
theorem yb4 : lw_tbl[740]? = some (.code (yN 4) (yC 4) (yL 4) (yR 4)) := by rfl
set_option maxRecDepth 100000 in
theorem yb5 : lw_tbl[761]? = some (.code (yN 5) (yC 5) (yL 5) (yR 5)) := by rfl
set_option maxRecDepth 100000 in
theorem yb6 : lw_tbl[709]? = some (.code (yN 6) (yC 6) (yL 6) (yR 6)) := by rfl
set_option maxRecDepth 100000 in
theorem yb7 : lw_tbl[705]? = some (.code (yN 7) (yC 7) (yL 7) (yR 7)) := by rfl
set_option maxRecDepth 100000 in
theorem yb8 : lw_tbl[749]? = some (.code (yN 8) (yC 8) (yL 8) (yR 8)) := by rfl
set_option maxRecDepth 100000 in
theorem yb9 : lw_tbl[736]? = some (.code (yN 9) (yC 9) (yL 9) (yR 9)) := by rfl
set_option maxRecDepth 100000 in
theorem yb10 : lw_tbl[757]? = some (.code (yN 10) (yC 10) (yL 10) (yR 10)) := by rfl
set_option maxRecDepth 100000 in
theorem yb11 : lw_tbl[923]? = some (.code (yN 11) (yC 11) (yL 11) (yR 11)) := by rfl
set_option maxRecDepth 100000 in
theorem yb12 : lw_tbl[657]? = some (.code (yN 12) (yC 12) (yL 12) (yR 12)) := by rfl
set_option maxRecDepth 100000 in
theorem yb13 : lw_tbl[638]? = some (.code (yN 13) (yC 13) (yL 13) (yR 13)) := by rfl
set_option maxRecDepth 100000 in
theorem yb14 : lw_tbl[349]? = some (.code (yN 14) (yC 14) (yL 14) (yR 14)) := by rfl
set_option maxRecDepth 100000 in
theorem yb15 : lw_tbl[985]? = some (.code (yN 15) (yC 15) (yL 15) (yR 15)) := by rfl
set_option maxRecDepth 100000 in
theorem yb16 : lw_tbl[1024]? = some (.code (yN 16) (yC 16) (yL 16) (yR 16)) := by rfl
set_option maxRecDepth 100000 in
theorem yb17 : lw_tbl[991]? = some (.code (yN 17) (yC 17) (yL 17) (yR 17)) := by rfl
set_option maxRecDepth 100000 in
theorem yb18 : lw_tbl[1000]? = some (.code (yN 18) (yC 18) (yL 18) (yR 18)) := by rfl
set_option maxRecDepth 100000 in
theorem yb19 : lw_tbl[1033]? = some (.code (yN 19) (yC 19) (yL 19) (yR 19)) := by rfl
set_option maxRecDepth 100000 in
theorem yb20 : lw_tbl[1040]? = some (.code (yN 20) (yC 20) (yL 20) (yR 20)) := by rfl
set_option maxRecDepth 100000 in
theorem yb21 : lw_tbl[310]? = some (.code (yN 21) (yC 21) (yL 21) (yR 21)) := by rfl
set_option maxRecDepth 100000 in
theorem yb22 : lw_tbl[803]? = some (.code (yN 22) (yC 22) (yL 22) (yR 22)) := by rfl
set_option maxRecDepth 100000 in
theorem yb23 : lw_tbl[819]? = some (.code (yN 23) (yC 23) (yL 23) (yR 23)) := by rfl
set_option maxRecDepth 100000 in
theorem yb24 : lw_tbl[823]? = some (.code (yN 24) (yC 24) (yL 24) (yR 24)) := by rfl
set_option maxRecDepth 100000 in
theorem yb25 : lw_tbl[828]? = some (.code (yN 25) (yC 25) (yL 25) (yR 25)) := by rfl
set_option maxRecDepth 100000 in
theorem yb26 : lw_tbl[839]? = some (.code (yN 26) (yC 26) (yL 26) (yR 26)) := by rfl
set_option maxRecDepth 100000 in
theorem yb27 : lw_tbl[394]? = some (.code (yN 27) (yC 27) (yL 27) (yR 27)) := by rfl
set_option maxRecDepth 100000 in
theorem yb28 : lw_tbl[1053]? = some (.code (yN 28) (yC 28) (yL 28) (yR 28)) := by rfl
set_option maxRecDepth 100000 in
theorem yb29 : lw_tbl[1062]? = some (.code (yN 29) (yC 29) (yL 29) (yR 29)) := by rfl
set_option maxRecDepth 100000 in
theorem yb30 : lw_tbl[1066]? = some (.code (yN 30) (yC 30) (yL 30) (yR 30)) := by rfl
set_option maxRecDepth 100000 in
theorem yb31 : lw_tbl[1077]? = some (.code (yN 31) (yC 31) (yL 31) (yR 31)) := by rfl
set_option maxRecDepth 100000 in
theorem yb32 : lw_tbl[1081]? = some (.code (yN 32) (yC 32) (yL 32) (yR 32)) := by rfl
set_option maxRecDepth 100000 in
theorem yb33 : lw_tbl[1089]? = some (.code (yN 33) (yC 33) (yL 33) (yR 33)) := by rfl
set_option maxRecDepth 100000 in
theorem yb34 : lw_tbl[1085]? = some (.code (yN 34) (yC 34) (yL 34) (yR 34)) := by rfl
set_option maxRecDepth 100000 in
theorem yb35 : lw_tbl[1097]? = some (.code (yN 35) (yC 35) (yL 35) (yR 35)) := by rfl
set_option maxRecDepth 100000 in
theorem yb36 : lw_tbl[283]? = some (.code (yN 36) (yC 36) (yL 36) (yR 36)) := by rfl
set_option maxRecDepth 100000 in
theorem yb37 : lw_tbl[560]? = some (.code (yN 37) (yC 37) (yL 37) (yR 37)) := by rfl
set_option maxRecDepth 100000 in
theorem yb38 : lw_tbl[564]? = some (.code (yN 38) (yC 38) (yL 38) (yR 38)) := by rfl
set_option maxRecDepth 100000 in
theorem yb39 : lw_tbl[586]? = some (.code (yN 39) (yC 39) (yL 39) (yR 39)) := by rfl
set_option maxRecDepth 100000 in
theorem yb40 : lw_tbl[568]? = some (.code (yN 40) (yC 40) (yL 40) (yR 40)) := by rfl
set_option maxRecDepth 100000 in
theorem yb41 : lw_tbl[580]? = some (.code (yN 41) (yC 41) (yL 41) (yR 41)) := by rfl
set_option maxRecDepth 100000 in
theorem yb42 : lw_tbl[572]? = some (.code (yN 42) (yC 42) (yL 42) (yR 42)) := by rfl
set_option maxRecDepth 100000 in
theorem yb43 : lw_tbl[329]? = some (.code (yN 43) (yC 43) (yL 43) (yR 43)) := by rfl
set_option maxRecDepth 100000 in
theorem yb44 : lw_tbl[849]? = some (.code (yN 44) (yC 44) (yL 44) (yR 44)) := by rfl
set_option maxRecDepth 100000 in
theorem yb45 : lw_tbl[815]? = some (.code (yN 45) (yC 45) (yL 45) (yR 45)) := by rfl
set_option maxRecDepth 100000 in
theorem yb46 : lw_tbl[809]? = some (.code (yN 46) (yC 46) (yL 46) (yR 46)) := by rfl
set_option maxRecDepth 100000 in
theorem yb47 : lw_tbl[831]? = some (.code (yN 47) (yC 47) (yL 47) (yR 47)) := by rfl
set_option maxRecDepth 100000 in
theorem yb48 : lw_tbl[799]? = some (.code (yN 48) (yC 48) (yL 48) (yR 48)) := by rfl
set_option maxRecDepth 100000 in
theorem yb49 : lw_tbl[857]? = some (.code (yN 49) (yC 49) (yL 49) (yR 49)) := by rfl
set_option maxRecDepth 100000 in
theorem yb50 : lw_tbl[863]? = some (.code (yN 50) (yC 50) (yL 50) (yR 50)) := by rfl
set_option maxRecDepth 100000 in
theorem yb51 : lw_tbl[875]? = some (.code (yN 51) (yC 51) (yL 51) (yR 51)) := by rfl
set_option maxRecDepth 100000 in
theorem yb52 : lw_tbl[871]? = some (.code (yN 52) (yC 52) (yL 52) (yR 52)) := by rfl
set_option maxRecDepth 100000 in
theorem yb53 : lw_tbl[883]? = some (.code (yN 53) (yC 53) (yL 53) (yR 53)) := by rfl
set_option maxRecDepth 100000 in
theorem yb54 : lw_tbl[892]? = some (.code (yN 54) (yC 54) (yL 54) (yR 54)) := by rfl
set_option maxRecDepth 100000 in
theorem yb55 : lw_tbl[900]? = some (.code (yN 55) (yC 55) (yL 55) (yR 55)) := by rfl
set_option maxRecDepth 100000 in
theorem yb56 : lw_tbl[904]? = some (.code (yN 56) (yC 56) (yL 56) (yR 56)) := by rfl
set_option maxRecDepth 100000 in
theorem yb57 : lw_tbl[372]? = some (.code (yN 57) (yC 57) (yL 57) (yR 57)) := by rfl
set_option maxRecDepth 100000 in
theorem yb58 : lw_tbl[932]? = some (.code (yN 58) (yC 58) (yL 58) (yR 58)) := by rfl
set_option maxRecDepth 100000 in
theorem yb59 : lw_tbl[938]? = some (.code (yN 59) (yC 59) (yL 59) (yR 59)) := by rfl
set_option maxRecDepth 100000 in
theorem yb60 : lw_tbl[945]? = some (.code (yN 60) (yC 60) (yL 60) (yR 60)) := by rfl
set_option maxRecDepth 100000 in
theorem yb61 : lw_tbl[949]? = some (.code (yN 61) (yC 61) (yL 61) (yR 61)) := by rfl
set_option maxRecDepth 100000 in
theorem yb62 : lw_tbl[953]? = some (.code (yN 62) (yC 62) (yL 62) (yR 62)) := by rfl
set_option maxRecDepth 100000 in
theorem yb63 : lw_tbl[962]? = some (.code (yN 63) (yC 63) (yL 63) (yR 63)) := by rfl
set_option maxRecDepth 100000 in
theorem yb64 : lw_tbl[967]? = some (.code (yN 64) (yC 64) (yL 64) (yR 64)) := by rfl
set_option maxRecDepth 100000 in
theorem yb65 : lw_tbl[975]? = some (.code (yN 65) (yC 65) (yL 65) (yR 65)) := by rfl
set_option maxRecDepth 100000 in
theorem yb66 : lw_tbl[225]? = some (.code (yN 66) (yC 66) (yL 66) (yR 66)) := by rfl
set_option maxRecDepth 100000 in
theorem yb67 : lw_tbl[786]? = some (.code (yN 67) (yC 67) (yL 67) (yR 67)) := by rfl
set_option maxRecDepth 100000 in
theorem yb68 : lw_tbl[681]? = some (.code (yN 68) (yC 68) (yL 68) (yR 68)) := by rfl
set_option maxRecDepth 100000 in
theorem yb69 : lw_tbl[744]? = some (.code (yN 69) (yC 69) (yL 69) (yR 69)) := by rfl
set_option maxRecDepth 100000 in
theorem yb70 : lw_tbl[765]? = some (.code (yN 70) (yC 70) (yL 70) (yR 70)) := by rfl
set_option maxRecDepth 100000 in
theorem yb71 : lw_tbl[410]? = some (.code (yN 71) (yC 71) (yL 71) (yR 71)) := by rfl
set_option maxRecDepth 100000 in
theorem yb72 : lw_tbl[495]? = some (.code (yN 72) (yC 72) (yL 72) (yR 72)) := by rfl
set_option maxRecDepth 100000 in
theorem yb73 : lw_tbl[773]? = some (.code (yN 73) (yC 73) (yL 73) (yR 73)) := by rfl
set_option maxRecDepth 100000 in
theorem yb74 : lw_tbl[533]? = some (.code (yN 74) (yC 74) (yL 74) (yR 74)) := by rfl
set_option maxRecDepth 100000 in
theorem yb75 : lw_tbl[917]? = some (.code (yN 75) (yC 75) (yL 75) (yR 75)) := by rfl
set_option maxRecDepth 100000 in
theorem yb76 : lw_tbl[544]? = some (.code (yN 76) (yC 76) (yL 76) (yR 76)) := by rfl
set_option maxRecDepth 100000 in
theorem yb77 : lw_tbl[1153]? = some (.code (yN 77) (yC 77) (yL 77) (yR 77)) := by rfl
set_option maxRecDepth 100000 in
theorem yb78 : lw_tbl[168]? = some (.code (yN 78) (yC 78) (yL 78) (yR 78)) := by rfl
set_option maxRecDepth 100000 in
theorem yb79 : lw_tbl[594]? = some (.code (yN 79) (yC 79) (yL 79) (yR 79)) := by rfl
set_option maxRecDepth 100000 in
theorem yb80 : lw_tbl[647]? = some (.code (yN 80) (yC 80) (yL 80) (yR 80)) := by rfl
set_option maxRecDepth 100000 in
theorem yb81 : lw_tbl[615]? = some (.code (yN 81) (yC 81) (yL 81) (yR 81)) := by rfl
set_option maxRecDepth 100000 in
theorem yb82 : lw_tbl[611]? = some (.code (yN 82) (yC 82) (yL 82) (yR 82)) := by rfl
set_option maxRecDepth 100000 in
theorem yb83 : lw_tbl[622]? = some (.code (yN 83) (yC 83) (yL 83) (yR 83)) := by rfl
set_option maxRecDepth 100000 in
theorem yb84 : lw_tbl[1101]? = some (.code (yN 84) (yC 84) (yL 84) (yR 84)) := by rfl
set_option maxRecDepth 100000 in
theorem yb85 : lw_tbl[607]? = some (.code (yN 85) (yC 85) (yL 85) (yR 85)) := by rfl
set_option maxRecDepth 100000 in
theorem yb86 : lw_tbl[576]? = some (.code (yN 86) (yC 86) (yL 86) (yR 86)) := by rfl
set_option maxRecDepth 100000 in
theorem yb87 : lw_tbl[626]? = some (.code (yN 87) (yC 87) (yL 87) (yR 87)) := by rfl
set_option maxRecDepth 100000 in
theorem yb88 : lw_tbl[653]? = some (.code (yN 88) (yC 88) (yL 88) (yR 88)) := by rfl
set_option maxRecDepth 100000 in
theorem yb89 : lw_tbl[669]? = some (.code (yN 89) (yC 89) (yL 89) (yR 89)) := by rfl
set_option maxRecDepth 100000 in
theorem yb90 : lw_tbl[1123]? = some (.code (yN 90) (yC 90) (yL 90) (yR 90)) := by rfl
set_option maxRecDepth 100000 in
theorem yb91 : lw_tbl[715]? = some (.code (yN 91) (yC 91) (yL 91) (yR 91)) := by rfl
set_option maxRecDepth 100000 in
theorem yb92 : lw_tbl[158]? = some (.code (yN 92) (yC 92) (yL 92) (yR 92)) := by rfl
set_option maxRecDepth 100000 in
theorem yb93 : lw_tbl[480]? = some (.code (yN 93) (yC 93) (yL 93) (yR 93)) := by rfl
set_option maxRecDepth 100000 in
theorem yb94 : lw_tbl[505]? = some (.code (yN 94) (yC 94) (yL 94) (yR 94)) := by rfl
set_option maxRecDepth 100000 in
theorem yb95 : lw_tbl[517]? = some (.code (yN 95) (yC 95) (yL 95) (yR 95)) := by rfl
set_option maxRecDepth 100000 in
theorem yb96 : lw_tbl[525]? = some (.code (yN 96) (yC 96) (yL 96) (yR 96)) := by rfl
set_option maxRecDepth 100000 in
theorem yb97 : lw_tbl[529]? = some (.code (yN 97) (yC 97) (yL 97) (yR 97)) := by rfl
set_option maxRecDepth 100000 in
theorem yb98 : lw_tbl[540]? = some (.code (yN 98) (yC 98) (yL 98) (yR 98)) := by rfl
set_option maxRecDepth 100000 in
theorem yb99 : lw_tbl[548]? = some (.code (yN 99) (yC 99) (yL 99) (yR 99)) := by rfl
set_option maxRecDepth 100000 in
theorem yb100 : lw_tbl[552]? = some (.code (yN 100) (yC 100) (yL 100) (yR 100)) := by rfl
set_option maxRecDepth 100000 in
theorem yb101 : lw_tbl[556]? = some (.code (yN 101) (yC 101) (yL 101) (yR 101)) := by rfl
set_option maxRecDepth 100000 in
theorem yb102 : lw_tbl[590]? = some (.code (yN 102) (yC 102) (yL 102) (yR 102)) := by rfl
set_option maxRecDepth 100000 in
theorem yb103 : lw_tbl[603]? = some (.code (yN 103) (yC 103) (yL 103) (yR 103)) := by rfl
set_option maxRecDepth 100000 in
theorem yb104 : lw_tbl[630]? = some (.code (yN 104) (yC 104) (yL 104) (yR 104)) := by rfl
set_option maxRecDepth 100000 in
theorem yb105 : lw_tbl[643]? = some (.code (yN 105) (yC 105) (yL 105) (yR 105)) := by rfl
set_option maxRecDepth 100000 in
theorem yb106 : lw_tbl[673]? = some (.code (yN 106) (yC 106) (yL 106) (yR 106)) := by rfl
set_option maxRecDepth 100000 in
theorem yb107 : lw_tbl[685]? = some (.code (yN 107) (yC 107) (yL 107) (yR 107)) := by rfl
set_option maxRecDepth 100000 in
theorem yb108 : lw_tbl[693]? = some (.code (yN 108) (yC 108) (yL 108) (yR 108)) := by rfl
set_option maxRecDepth 100000 in
theorem yb109 : lw_tbl[697]? = some (.code (yN 109) (yC 109) (yL 109) (yR 109)) := by rfl
set_option maxRecDepth 100000 in
theorem yb110 : lw_tbl[701]? = some (.code (yN 110) (yC 110) (yL 110) (yR 110)) := by rfl
set_option maxRecDepth 100000 in
theorem yb111 : lw_tbl[723]? = some (.code (yN 111) (yC 111) (yL 111) (yR 111)) := by rfl
set_option maxRecDepth 100000 in
theorem yb112 : lw_tbl[731]? = some (.code (yN 112) (yC 112) (yL 112) (yR 112)) := by rfl
set_option maxRecDepth 100000 in
theorem yb113 : lw_tbl[753]? = some (.code (yN 113) (yC 113) (yL 113) (yR 113)) := by rfl
set_option maxRecDepth 100000 in
theorem yb114 : lw_tbl[769]? = some (.code (yN 114) (yC 114) (yL 114) (yR 114)) := by rfl
set_option maxRecDepth 100000 in
theorem yb115 : lw_tbl[778]? = some (.code (yN 115) (yC 115) (yL 115) (yR 115)) := by rfl
set_option maxRecDepth 100000 in
theorem yb116 : lw_tbl[791]? = some (.code (yN 116) (yC 116) (yL 116) (yR 116)) := by rfl
set_option maxRecDepth 100000 in
theorem yb117 : lw_tbl[795]? = some (.code (yN 117) (yC 117) (yL 117) (yR 117)) := by rfl
set_option maxRecDepth 100000 in
theorem yb118 : lw_tbl[845]? = some (.code (yN 118) (yC 118) (yL 118) (yR 118)) := by rfl
set_option maxRecDepth 100000 in
theorem yb119 : lw_tbl[853]? = some (.code (yN 119) (yC 119) (yL 119) (yR 119)) := by rfl
set_option maxRecDepth 100000 in
theorem yb120 : lw_tbl[867]? = some (.code (yN 120) (yC 120) (yL 120) (yR 120)) := by rfl
set_option maxRecDepth 100000 in
theorem yb121 : lw_tbl[879]? = some (.code (yN 121) (yC 121) (yL 121) (yR 121)) := by rfl
set_option maxRecDepth 100000 in
theorem yb122 : lw_tbl[888]? = some (.code (yN 122) (yC 122) (yL 122) (yR 122)) := by rfl
set_option maxRecDepth 100000 in
theorem yb123 : lw_tbl[896]? = some (.code (yN 123) (yC 123) (yL 123) (yR 123)) := by rfl
set_option maxRecDepth 100000 in
theorem yb124 : lw_tbl[909]? = some (.code (yN 124) (yC 124) (yL 124) (yR 124)) := by rfl
set_option maxRecDepth 100000 in
theorem yb125 : lw_tbl[928]? = some (.code (yN 125) (yC 125) (yL 125) (yR 125)) := by rfl
set_option maxRecDepth 100000 in
theorem yb126 : lw_tbl[971]? = some (.code (yN 126) (yC 126) (yL 126) (yR 126)) := by rfl
set_option maxRecDepth 100000 in
theorem yb127 : lw_tbl[981]? = some (.code (yN 127) (yC 127) (yL 127) (yR 127)) := by rfl
set_option maxRecDepth 100000 in
theorem yb128 : lw_tbl[1020]? = some (.code (yN 128) (yC 128) (yL 128) (yR 128)) := by rfl
set_option maxRecDepth 100000 in
theorem yb129 : lw_tbl[1028]? = some (.code (yN 129) (yC 129) (yL 129) (yR 129)) := by rfl
set_option maxRecDepth 100000 in
theorem yb130 : lw_tbl[1049]? = some (.code (yN 130) (yC 130) (yL 130) (yR 130)) := by rfl
set_option maxRecDepth 100000 in
theorem yb131 : lw_tbl[1058]? = some (.code (yN 131) (yC 131) (yL 131) (yR 131)) := by rfl
set_option maxRecDepth 100000 in
theorem yb132 : lw_tbl[1073]? = some (.code (yN 132) (yC 132) (yL 132) (yR 132)) := by rfl
set_option maxRecDepth 100000 in
theorem yb133 : lw_tbl[1093]? = some (.code (yN 133) (yC 133) (yL 133) (yR 133)) := by rfl
set_option maxRecDepth 100000 in
theorem yb134 : lw_tbl[1107]? = some (.code (yN 134) (yC 134) (yL 134) (yR 134)) := by rfl
set_option maxRecDepth 100000 in
theorem yb135 : lw_tbl[1111]? = some (.code (yN 135) (yC 135) (yL 135) (yR 135)) := by rfl
set_option maxRecDepth 100000 in
theorem yb136 : lw_tbl[1115]? = some (.code (yN 136) (yC 136) (yL 136) (yR 136)) := by rfl
set_option maxRecDepth 100000 in
theorem yb137 : lw_tbl[1119]? = some (.code (yN 137) (yC 137) (yL 137) (yR 137)) := by rfl
set_option maxRecDepth 100000 in
theorem yb138 : lw_tbl[1134]? = some (.code (yN 138) (yC 138) (yL 138) (yR 138)) := by rfl
set_option maxRecDepth 100000 in
theorem yb139 : lw_tbl[1138]? = some (.code (yN 139) (yC 139) (yL 139) (yR 139)) := by rfl
set_option maxRecDepth 100000 in
theorem yb140 : lw_tbl[1142]? = some (.code (yN 140) (yC 140) (yL 140) (yR 140)) := by rfl
set_option maxRecDepth 100000 in
theorem yb141 : lw_tbl[1149]? = some (.code (yN 141) (yC 141) (yL 141) (yR 141)) := by rfl
set_option maxRecDepth 100000 in
theorem yb142 : lw_tbl[487]? = some (.code (yN 142) (yC 142) (yL 142) (yR 142)) := by rfl
set_option maxRecDepth 100000 in
theorem yb143 : lw_tbl[618]? = some (.code (yN 143) (yC 143) (yL 143) (yR 143)) := by rfl
set_option maxRecDepth 100000 in
theorem yb144 : lw_tbl[689]? = some (.code (yN 144) (yC 144) (yL 144) (yR 144)) := by rfl
set_option maxRecDepth 100000 in
theorem yb145 : lw_tbl[677]? = some (.code (yN 145) (yC 145) (yL 145) (yR 145)) := by rfl
set_option maxRecDepth 100000 in
theorem yb146 : lw_tbl[491]? = some (.code (yN 146) (yC 146) (yL 146) (yR 146)) := by rfl
set_option maxRecDepth 100000 in
theorem yb147 : lw_tbl[521]? = some (.code (yN 147) (yC 147) (yL 147) (yR 147)) := by rfl
set_option maxRecDepth 100000 in
theorem yb148 : lw_tbl[1011]? = some (.code (yN 148) (yC 148) (yL 148) (yR 148)) := by rfl
set_option maxRecDepth 100000 in
theorem yb149 : lw_tbl[1015]? = some (.code (yN 149) (yC 149) (yL 149) (yR 149)) := by rfl
set_option maxRecDepth 100000 in
theorem yb150 : lw_tbl[484]? = some (.code (yN 150) (yC 150) (yL 150) (yR 150)) := by rfl
set_option maxRecDepth 100000 in
theorem yb151 : lw_tbl[513]? = some (.code (yN 151) (yC 151) (yL 151) (yR 151)) := by rfl
set_option maxRecDepth 100000 in
theorem yb152 : lw_tbl[509]? = some (.code (yN 152) (yC 152) (yL 152) (yR 152)) := by rfl
set_option maxRecDepth 100000 in
theorem yb153 : lw_tbl[913]? = some (.code (yN 153) (yC 153) (yL 153) (yR 153)) := by rfl
set_option maxRecDepth 100000 in
theorem yb154 : lw_tbl[634]? = some (.code (yN 154) (yC 154) (yL 154) (yR 154)) := by rfl
set_option maxRecDepth 100000 in
theorem yb155 : lw_tbl[1126]? = some (.code (yN 155) (yC 155) (yL 155) (yR 155)) := by rfl
set_option maxRecDepth 100000 in
theorem yb156 : lw_tbl[1130]? = some (.code (yN 156) (yC 156) (yL 156) (yR 156)) := by rfl
set_option maxRecDepth 100000 in
theorem yb157 : lw_tbl[1159]? = some (.code (yN 157) (yC 157) (yL 157) (yR 157)) := by rfl
set_option maxRecDepth 100000 in
theorem yb158 : lw_tbl[1314]? = some (.code (yN 158) (yC 158) (yL 158) (yR 158)) := by rfl
set_option maxRecDepth 100000 in
theorem yb159 : lw_tbl[1430]? = some (.code (yN 159) (yC 159) (yL 159) (yR 159)) := by rfl
set_option maxRecDepth 100000 in
theorem yb160 : lw_tbl[1461]? = some (.code (yN 160) (yC 160) (yL 160) (yR 160)) := by rfl
set_option maxRecDepth 100000 in
theorem yb161 : lw_tbl[1318]? = some (.code (yN 161) (yC 161) (yL 161) (yR 161)) := by rfl
set_option maxRecDepth 100000 in
theorem yb162 : lw_tbl[1330]? = some (.code (yN 162) (yC 162) (yL 162) (yR 162)) := by rfl
set_option maxRecDepth 100000 in
theorem yb163 : lw_tbl[1310]? = some (.code (yN 163) (yC 163) (yL 163) (yR 163)) := by rfl
set_option maxRecDepth 100000 in
theorem yb164 : lw_tbl[1357]? = some (.code (yN 164) (yC 164) (yL 164) (yR 164)) := by rfl
set_option maxRecDepth 100000 in
theorem yb165 : lw_tbl[1322]? = some (.code (yN 165) (yC 165) (yL 165) (yR 165)) := by rfl
set_option maxRecDepth 100000 in
theorem yb166 : lw_tbl[1307]? = some (.code (yN 166) (yC 166) (yL 166) (yR 166)) := by rfl
set_option maxRecDepth 100000 in
theorem yb167 : lw_tbl[1326]? = some (.code (yN 167) (yC 167) (yL 167) (yR 167)) := by rfl
set_option maxRecDepth 100000 in
theorem yb168 : lw_tbl[1334]? = some (.code (yN 168) (yC 168) (yL 168) (yR 168)) := by rfl
set_option maxRecDepth 100000 in
theorem yb169 : lw_tbl[1338]? = some (.code (yN 169) (yC 169) (yL 169) (yR 169)) := by rfl
set_option maxRecDepth 100000 in
theorem yb170 : lw_tbl[1346]? = some (.code (yN 170) (yC 170) (yL 170) (yR 170)) := by rfl
set_option maxRecDepth 100000 in
theorem yb171 : lw_tbl[1342]? = some (.code (yN 171) (yC 171) (yL 171) (yR 171)) := by rfl
set_option maxRecDepth 100000 in
theorem yb172 : lw_tbl[1350]? = some (.code (yN 172) (yC 172) (yL 172) (yR 172)) := by rfl
set_option maxRecDepth 100000 in
theorem yb173 : lw_tbl[1354]? = some (.code (yN 173) (yC 173) (yL 173) (yR 173)) := by rfl
set_option maxRecDepth 100000 in
theorem yb174 : lw_tbl[1362]? = some (.code (yN 174) (yC 174) (yL 174) (yR 174)) := by rfl
set_option maxRecDepth 100000 in
theorem yb175 : lw_tbl[1374]? = some (.code (yN 175) (yC 175) (yL 175) (yR 175)) := by rfl
set_option maxRecDepth 100000 in
theorem yb176 : lw_tbl[1390]? = some (.code (yN 176) (yC 176) (yL 176) (yR 176)) := by rfl
set_option maxRecDepth 100000 in
theorem yb177 : lw_tbl[1397]? = some (.code (yN 177) (yC 177) (yL 177) (yR 177)) := by rfl
set_option maxRecDepth 100000 in
theorem yb178 : lw_tbl[1401]? = some (.code (yN 178) (yC 178) (yL 178) (yR 178)) := by rfl
set_option maxRecDepth 100000 in
theorem yb179 : lw_tbl[1386]? = some (.code (yN 179) (yC 179) (yL 179) (yR 179)) := by rfl
set_option maxRecDepth 100000 in
theorem yb180 : lw_tbl[1382]? = some (.code (yN 180) (yC 180) (yL 180) (yR 180)) := by rfl
set_option maxRecDepth 100000 in
theorem yb181 : lw_tbl[1394]? = some (.code (yN 181) (yC 181) (yL 181) (yR 181)) := by rfl
set_option maxRecDepth 100000 in
theorem yb182 : lw_tbl[1378]? = some (.code (yN 182) (yC 182) (yL 182) (yR 182)) := by rfl
set_option maxRecDepth 100000 in
theorem yb183 : lw_tbl[1370]? = some (.code (yN 183) (yC 183) (yL 183) (yR 183)) := by rfl
set_option maxRecDepth 100000 in
theorem yb184 : lw_tbl[1366]? = some (.code (yN 184) (yC 184) (yL 184) (yR 184)) := by rfl
set_option maxRecDepth 100000 in
theorem yb185 : lw_tbl[1407]? = some (.code (yN 185) (yC 185) (yL 185) (yR 185)) := by rfl
set_option maxRecDepth 100000 in
theorem yb186 : lw_tbl[1415]? = some (.code (yN 186) (yC 186) (yL 186) (yR 186)) := by rfl
set_option maxRecDepth 100000 in
theorem yb187 : lw_tbl[1446]? = some (.code (yN 187) (yC 187) (yL 187) (yR 187)) := by rfl
set_option maxRecDepth 100000 in
theorem yb188 : lw_tbl[1469]? = some (.code (yN 188) (yC 188) (yL 188) (yR 188)) := by rfl
set_option maxRecDepth 100000 in
theorem yb189 : lw_tbl[1427]? = some (.code (yN 189) (yC 189) (yL 189) (yR 189)) := by rfl
set_option maxRecDepth 100000 in
theorem yb190 : lw_tbl[1423]? = some (.code (yN 190) (yC 190) (yL 190) (yR 190)) := by rfl
set_option maxRecDepth 100000 in
theorem yb191 : lw_tbl[1434]? = some (.code (yN 191) (yC 191) (yL 191) (yR 191)) := by rfl
set_option maxRecDepth 100000 in
theorem yb192 : lw_tbl[1438]? = some (.code (yN 192) (yC 192) (yL 192) (yR 192)) := by rfl
set_option maxRecDepth 100000 in
theorem yb193 : lw_tbl[1419]? = some (.code (yN 193) (yC 193) (yL 193) (yR 193)) := by rfl
set_option maxRecDepth 100000 in
theorem yb194 : lw_tbl[1411]? = some (.code (yN 194) (yC 194) (yL 194) (yR 194)) := by rfl
set_option maxRecDepth 100000 in
theorem yb195 : lw_tbl[1450]? = some (.code (yN 195) (yC 195) (yL 195) (yR 195)) := by rfl
set_option maxRecDepth 100000 in
theorem yb196 : lw_tbl[1442]? = some (.code (yN 196) (yC 196) (yL 196) (yR 196)) := by rfl
set_option maxRecDepth 100000 in
theorem yb197 : lw_tbl[1458]? = some (.code (yN 197) (yC 197) (yL 197) (yR 197)) := by rfl
set_option maxRecDepth 100000 in
theorem yb198 : lw_tbl[1454]? = some (.code (yN 198) (yC 198) (yL 198) (yR 198)) := by rfl
set_option maxRecDepth 100000 in
theorem yb199 : lw_tbl[1465]? = some (.code (yN 199) (yC 199) (yL 199) (yR 199)) := by rfl
set_option maxRecDepth 100000 in
theorem yb200 : lw_tbl[1473]? = some (.code (yN 200) (yC 200) (yL 200) (yR 200)) := by rfl
set_option maxRecDepth 100000 in
theorem yb201 : lw_tbl[1477]? = some (.code (yN 201) (yC 201) (yL 201) (yR 201)) := by rfl
set_option maxRecDepth 100000 in
theorem yb202 : lw_tbl[1481]? = some (.code (yN 202) (yC 202) (yL 202) (yR 202)) := by rfl
set_option maxRecDepth 100000 in
theorem yb203 : lw_tbl[1489]? = some (.code (yN 203) (yC 203) (yL 203) (yR 203)) := by rfl
set_option maxRecDepth 100000 in
theorem yb204 : lw_tbl[1501]? = some (.code (yN 204) (yC 204) (yL 204) (yR 204)) := by rfl
set_option maxRecDepth 100000 in
theorem yb205 : lw_tbl[1497]? = some (.code (yN 205) (yC 205) (yL 205) (yR 205)) := by rfl
set_option maxRecDepth 100000 in
theorem yb206 : lw_tbl[1493]? = some (.code (yN 206) (yC 206) (yL 206) (yR 206)) := by rfl
set_option maxRecDepth 100000 in
theorem yb207 : lw_tbl[1521]? = some (.code (yN 207) (yC 207) (yL 207) (yR 207)) := by rfl
set_option maxRecDepth 100000 in
theorem yb208 : lw_tbl[1517]? = some (.code (yN 208) (yC 208) (yL 208) (yR 208)) := by rfl
set_option maxRecDepth 100000 in
theorem yb209 : lw_tbl[1550]? = some (.code (yN 209) (yC 209) (yL 209) (yR 209)) := by rfl
set_option maxRecDepth 100000 in
theorem yb210 : lw_tbl[1546]? = some (.code (yN 210) (yC 210) (yL 210) (yR 210)) := by rfl
set_option maxRecDepth 100000 in
theorem yb211 : lw_tbl[1485]? = some (.code (yN 211) (yC 211) (yL 211) (yR 211)) := by rfl
set_option maxRecDepth 100000 in
theorem yb212 : lw_tbl[1505]? = some (.code (yN 212) (yC 212) (yL 212) (yR 212)) := by rfl
set_option maxRecDepth 100000 in
theorem yb213 : lw_tbl[1513]? = some (.code (yN 213) (yC 213) (yL 213) (yR 213)) := by rfl
set_option maxRecDepth 100000 in
theorem yb214 : lw_tbl[1509]? = some (.code (yN 214) (yC 214) (yL 214) (yR 214)) := by rfl
set_option maxRecDepth 100000 in
theorem yb215 : lw_tbl[1525]? = some (.code (yN 215) (yC 215) (yL 215) (yR 215)) := by rfl
set_option maxRecDepth 100000 in
theorem yb216 : lw_tbl[1529]? = some (.code (yN 216) (yC 216) (yL 216) (yR 216)) := by rfl
set_option maxRecDepth 100000 in
theorem yb217 : lw_tbl[1533]? = some (.code (yN 217) (yC 217) (yL 217) (yR 217)) := by rfl
set_option maxRecDepth 100000 in
theorem yb218 : lw_tbl[1538]? = some (.code (yN 218) (yC 218) (yL 218) (yR 218)) := by rfl
set_option maxRecDepth 100000 in
theorem yb219 : lw_tbl[1542]? = some (.code (yN 219) (yC 219) (yL 219) (yR 219)) := by rfl
set_option maxRecDepth 100000 in
theorem yb220 : lw_tbl[1557]? = some (.code (yN 220) (yC 220) (yL 220) (yR 220)) := by rfl
set_option maxRecDepth 100000 in
theorem yb221 : lw_tbl[1554]? = some (.code (yN 221) (yC 221) (yL 221) (yR 221)) := by rfl
set_option maxRecDepth 100000 in
theorem yb222 : lw_tbl[1561]? = some (.code (yN 222) (yC 222) (yL 222) (yR 222)) := by rfl
set_option maxRecDepth 100000 in
theorem yb223 : lw_tbl[1569]? = some (.code (yN 223) (yC 223) (yL 223) (yR 223)) := by rfl
set_option maxRecDepth 100000 in
theorem yb224 : lw_tbl[1565]? = some (.code (yN 224) (yC 224) (yL 224) (yR 224)) := by rfl
set_option maxRecDepth 100000 in
theorem yb225 : lw_tbl[1573]? = some (.code (yN 225) (yC 225) (yL 225) (yR 225)) := by rfl
set_option maxRecDepth 100000 in
theorem yb226 : lw_tbl[1577]? = some (.code (yN 226) (yC 226) (yL 226) (yR 226)) := by rfl
set_option maxRecDepth 100000 in
theorem yb227 : lw_tbl[1581]? = some (.code (yN 227) (yC 227) (yL 227) (yR 227)) := by rfl
set_option maxRecDepth 100000 in
theorem yb228 : lw_tbl[1590]? = some (.code (yN 228) (yC 228) (yL 228) (yR 228)) := by rfl
set_option maxRecDepth 100000 in
theorem yb229 : lw_tbl[1586]? = some (.code (yN 229) (yC 229) (yL 229) (yR 229)) := by rfl
set_option maxRecDepth 100000 in
theorem yb230 : lw_tbl[1598]? = some (.code (yN 230) (yC 230) (yL 230) (yR 230)) := by rfl
set_option maxRecDepth 100000 in
theorem yb231 : lw_tbl[1602]? = some (.code (yN 231) (yC 231) (yL 231) (yR 231)) := by rfl
set_option maxRecDepth 100000 in
theorem yb232 : lw_tbl[1594]? = some (.code (yN 232) (yC 232) (yL 232) (yR 232)) := by rfl
set_option maxRecDepth 100000 in
theorem yb233 : lw_tbl[1606]? = some (.code (yN 233) (yC 233) (yL 233) (yR 233)) := by rfl
set_option maxRecDepth 100000 in
theorem yb234 : lw_tbl[1633]? = some (.code (yN 234) (yC 234) (yL 234) (yR 234)) := by rfl
set_option maxRecDepth 100000 in
theorem yb235 : lw_tbl[1630]? = some (.code (yN 235) (yC 235) (yL 235) (yR 235)) := by rfl
set_option maxRecDepth 100000 in
theorem yb236 : lw_tbl[1622]? = some (.code (yN 236) (yC 236) (yL 236) (yR 236)) := by rfl
set_option maxRecDepth 100000 in
theorem yb237 : lw_tbl[1641]? = some (.code (yN 237) (yC 237) (yL 237) (yR 237)) := by rfl
set_option maxRecDepth 100000 in
theorem yb238 : lw_tbl[1637]? = some (.code (yN 238) (yC 238) (yL 238) (yR 238)) := by rfl
set_option maxRecDepth 100000 in
theorem yb239 : lw_tbl[1618]? = some (.code (yN 239) (yC 239) (yL 239) (yR 239)) := by rfl
set_option maxRecDepth 100000 in
theorem yb240 : lw_tbl[1626]? = some (.code (yN 240) (yC 240) (yL 240) (yR 240)) := by rfl
set_option maxRecDepth 100000 in
theorem yb241 : lw_tbl[1614]? = some (.code (yN 241) (yC 241) (yL 241) (yR 241)) := by rfl
set_option maxRecDepth 100000 in
theorem yb242 : lw_tbl[1610]? = some (.code (yN 242) (yC 242) (yL 242) (yR 242)) := by rfl
set_option maxRecDepth 100000 in
theorem yb243 : lw_tbl[1645]? = some (.code (yN 243) (yC 243) (yL 243) (yR 243)) := by rfl
set_option maxRecDepth 100000 in
theorem yb244 : lw_tbl[1649]? = some (.code (yN 244) (yC 244) (yL 244) (yR 244)) := by rfl
set_option maxRecDepth 100000 in
theorem yb245 : lw_tbl[1657]? = some (.code (yN 245) (yC 245) (yL 245) (yR 245)) := by rfl
set_option maxRecDepth 100000 in
theorem yb246 : lw_tbl[1661]? = some (.code (yN 246) (yC 246) (yL 246) (yR 246)) := by rfl
set_option maxRecDepth 100000 in
theorem yb247 : lw_tbl[1665]? = some (.code (yN 247) (yC 247) (yL 247) (yR 247)) := by rfl
set_option maxRecDepth 100000 in
theorem yb248 : lw_tbl[1669]? = some (.code (yN 248) (yC 248) (yL 248) (yR 248)) := by rfl
set_option maxRecDepth 100000 in
theorem yb249 : lw_tbl[1673]? = some (.code (yN 249) (yC 249) (yL 249) (yR 249)) := by rfl
set_option maxRecDepth 100000 in
theorem yb250 : lw_tbl[1677]? = some (.code (yN 250) (yC 250) (yL 250) (yR 250)) := by rfl
set_option maxRecDepth 100000 in
theorem yb251 : lw_tbl[1681]? = some (.code (yN 251) (yC 251) (yL 251) (yR 251)) := by rfl
set_option maxRecDepth 100000 in
theorem yb252 : lw_tbl[1694]? = some (.code (yN 252) (yC 252) (yL 252) (yR 252)) := by rfl
set_option maxRecDepth 100000 in
theorem yb253 : lw_tbl[1698]? = some (.code (yN 253) (yC 253) (yL 253) (yR 253)) := by rfl
set_option maxRecDepth 100000 in
theorem yb254 : lw_tbl[1690]? = some (.code (yN 254) (yC 254) (yL 254) (yR 254)) := by rfl
set_option maxRecDepth 100000 in
theorem yb255 : lw_tbl[1685]? = some (.code (yN 255) (yC 255) (yL 255) (yR 255)) := by rfl
set_option maxRecDepth 100000 in
theorem yb256 : lw_tbl[1702]? = some (.code (yN 256) (yC 256) (yL 256) (yR 256)) := by rfl
set_option maxRecDepth 100000 in
theorem yb257 : lw_tbl[1706]? = some (.code (yN 257) (yC 257) (yL 257) (yR 257)) := by rfl
set_option maxRecDepth 100000 in
theorem yb258 : lw_tbl[1715]? = some (.code (yN 258) (yC 258) (yL 258) (yR 258)) := by rfl
set_option maxRecDepth 100000 in
theorem yb259 : lw_tbl[1710]? = some (.code (yN 259) (yC 259) (yL 259) (yR 259)) := by rfl
set_option maxRecDepth 100000 in
theorem yb260 : lw_tbl[1043]? = some (.code (yN 260) (yC 260) (yL 260) (yR 260)) := by rfl
set_option maxRecDepth 100000 in
theorem yb261 : lw_tbl[662]? = some (.code (yN 261) (yC 261) (yL 261) (yR 261)) := by rfl
set_option maxRecDepth 100000 in
theorem yb262 : lw_tbl[501]? = some (.code (yN 262) (yC 262) (yL 262) (yR 262)) := by rfl
set_option maxRecDepth 100000 in
theorem yb263 : lw_tbl[941]? = some (.code (yN 263) (yC 263) (yL 263) (yR 263)) := by rfl
set_option maxRecDepth 100000 in
theorem yb264 : lw_tbl[498]? = some (.code (yN 264) (yC 264) (yL 264) (yR 264)) := by rfl
theorem Y_one {y p : Nat} (h : chkY y = true) (h2 : lw_tbl[p]? = some (.code (yN y) (yC y) (yL y) (yR y))) : Yok y := chkY_ok h (lwG_of h2 (by first | rfl | simp [goodWord, Cond.onTables, Cond.keeps, Cond.steady]))
theorem yc0 : ∀ y ∈ ([0, 1, 2, 3, 4, 5, 6, 7, 8, 9, 10, 11, 12, 13, 14, 15, 16, 17, 18, 19] : List Nat), Yok y := List.forall_mem_cons.mpr ⟨Y_one ya0 yb0, List.forall_mem_cons.mpr ⟨Y_one ya1 yb1, List.forall_mem_cons.mpr ⟨Y_one ya2 yb2, List.forall_mem_cons.mpr ⟨Y_one ya3 yb3, List.forall_mem_cons.mpr ⟨Y_one ya4 yb4, List.forall_mem_cons.mpr ⟨Y_one ya5 yb5, List.forall_mem_cons.mpr ⟨Y_one ya6 yb6, List.forall_mem_cons.mpr ⟨Y_one ya7 yb7, List.forall_mem_cons.mpr ⟨Y_one ya8 yb8, List.forall_mem_cons.mpr ⟨Y_one ya9 yb9, List.forall_mem_cons.mpr ⟨Y_one ya10 yb10, List.forall_mem_cons.mpr ⟨Y_one ya11 yb11, List.forall_mem_cons.mpr ⟨Y_one ya12 yb12, List.forall_mem_cons.mpr ⟨Y_one ya13 yb13, List.forall_mem_cons.mpr ⟨Y_one ya14 yb14, List.forall_mem_cons.mpr ⟨Y_one ya15 yb15, List.forall_mem_cons.mpr ⟨Y_one ya16 yb16, List.forall_mem_cons.mpr ⟨Y_one ya17 yb17, List.forall_mem_cons.mpr ⟨Y_one ya18 yb18, List.forall_mem_cons.mpr ⟨Y_one ya19 yb19, List.forall_mem_nil _⟩⟩⟩⟩⟩⟩⟩⟩⟩⟩⟩⟩⟩⟩⟩⟩⟩⟩⟩⟩
theorem yc20 : ∀ y ∈ ([20, 21, 22, 23, 24, 25, 26, 27, 28, 29, 30, 31, 32, 33, 34, 35, 36, 37, 38, 39] : List Nat), Yok y := List.forall_mem_cons.mpr ⟨Y_one ya20 yb20, List.forall_mem_cons.mpr ⟨Y_one ya21 yb21, List.forall_mem_cons.mpr ⟨Y_one ya22 yb22, List.forall_mem_cons.mpr ⟨Y_one ya23 yb23, List.forall_mem_cons.mpr ⟨Y_one ya24 yb24, List.forall_mem_cons.mpr ⟨Y_one ya25 yb25, List.forall_mem_cons.mpr ⟨Y_one ya26 yb26, List.forall_mem_cons.mpr ⟨Y_one ya27 yb27, List.forall_mem_cons.mpr ⟨Y_one ya28 yb28, List.forall_mem_cons.mpr ⟨Y_one ya29 yb29, List.forall_mem_cons.mpr ⟨Y_one ya30 yb30, List.forall_mem_cons.mpr ⟨Y_one ya31 yb31, List.forall_mem_cons.mpr ⟨Y_one ya32 yb32, List.forall_mem_cons.mpr ⟨Y_one ya33 yb33, List.forall_mem_cons.mpr ⟨Y_one ya34 yb34, List.forall_mem_cons.mpr ⟨Y_one ya35 yb35, List.forall_mem_cons.mpr ⟨Y_one ya36 yb36, List.forall_mem_cons.mpr ⟨Y_one ya37 yb37, List.forall_mem_cons.mpr ⟨Y_one ya38 yb38, List.forall_mem_cons.mpr ⟨Y_one ya39 yb39, List.forall_mem_nil _⟩⟩⟩⟩⟩⟩⟩⟩⟩⟩⟩⟩⟩⟩⟩⟩⟩⟩⟩⟩
theorem yc40 : ∀ y ∈ ([40, 41, 42, 43, 44, 45, 46, 47, 48, 49, 50, 51, 52, 53, 54, 55, 56, 57, 58, 59] : List Nat), Yok y := List.forall_mem_cons.mpr ⟨Y_one ya40 yb40, List.forall_mem_cons.mpr ⟨Y_one ya41 yb41, List.forall_mem_cons.mpr ⟨Y_one ya42 yb42, List.forall_mem_cons.mpr ⟨Y_one ya43 yb43, List.forall_mem_cons.mpr ⟨Y_one ya44 yb44, List.forall_mem_cons.mpr ⟨Y_one ya45 yb45, List.forall_mem_cons.mpr ⟨Y_one ya46 yb46, List.forall_mem_cons.mpr ⟨Y_one ya47 yb47, List.forall_mem_cons.mpr ⟨Y_one ya48 yb48, List.forall_mem_cons.mpr ⟨Y_one ya49 yb49, List.forall_mem_cons.mpr ⟨Y_one ya50 yb50, List.forall_mem_cons.mpr ⟨Y_one ya51 yb51, List.forall_mem_cons.mpr ⟨Y_one ya52 yb52, List.forall_mem_cons.mpr ⟨Y_one ya53 yb53, List.forall_mem_cons.mpr ⟨Y_one ya54 yb54, List.forall_mem_cons.mpr ⟨Y_one ya55 yb55, List.forall_mem_cons.mpr ⟨Y_one ya56 yb56, List.forall_mem_cons.mpr ⟨Y_one ya57 yb57, List.forall_mem_cons.mpr ⟨Y_one ya58 yb58, List.forall_mem_cons.mpr ⟨Y_one ya59 yb59, List.forall_mem_nil _⟩⟩⟩⟩⟩⟩⟩⟩⟩⟩⟩⟩⟩⟩⟩⟩⟩⟩⟩⟩
theorem yc60 : ∀ y ∈ ([60, 61, 62, 63, 64, 65, 66, 67, 68, 69, 70, 71, 72, 73, 74, 75, 76, 77, 78, 79] : List Nat), Yok y := List.forall_mem_cons.mpr ⟨Y_one ya60 yb60, List.forall_mem_cons.mpr ⟨Y_one ya61 yb61, List.forall_mem_cons.mpr ⟨Y_one ya62 yb62, List.forall_mem_cons.mpr ⟨Y_one ya63 yb63, List.forall_mem_cons.mpr ⟨Y_one ya64 yb64, List.forall_mem_cons.mpr ⟨Y_one ya65 yb65, List.forall_mem_cons.mpr ⟨Y_one ya66 yb66, List.forall_mem_cons.mpr ⟨Y_one ya67 yb67, List.forall_mem_cons.mpr ⟨Y_one ya68 yb68, List.forall_mem_cons.mpr ⟨Y_one ya69 yb69, List.forall_mem_cons.mpr ⟨Y_one ya70 yb70, List.forall_mem_cons.mpr ⟨Y_one ya71 yb71, List.forall_mem_cons.mpr ⟨Y_one ya72 yb72, List.forall_mem_cons.mpr ⟨Y_one ya73 yb73, List.forall_mem_cons.mpr ⟨Y_one ya74 yb74, List.forall_mem_cons.mpr ⟨Y_one ya75 yb75, List.forall_mem_cons.mpr ⟨Y_one ya76 yb76, List.forall_mem_cons.mpr ⟨Y_one ya77 yb77, List.forall_mem_cons.mpr ⟨Y_one ya78 yb78, List.forall_mem_cons.mpr ⟨Y_one ya79 yb79, List.forall_mem_nil _⟩⟩⟩⟩⟩⟩⟩⟩⟩⟩⟩⟩⟩⟩⟩⟩⟩⟩⟩⟩
theorem yc80 : ∀ y ∈ ([80, 81, 82, 83, 84, 85, 86, 87, 88, 89, 90, 91, 92, 93, 94, 95, 96, 97, 98, 99] : List Nat), Yok y := List.forall_mem_cons.mpr ⟨Y_one ya80 yb80, List.forall_mem_cons.mpr ⟨Y_one ya81 yb81, List.forall_mem_cons.mpr ⟨Y_one ya82 yb82, List.forall_mem_cons.mpr ⟨Y_one ya83 yb83, List.forall_mem_cons.mpr ⟨Y_one ya84 yb84, List.forall_mem_cons.mpr ⟨Y_one ya85 yb85, List.forall_mem_cons.mpr ⟨Y_one ya86 yb86, List.forall_mem_cons.mpr ⟨Y_one ya87 yb87, List.forall_mem_cons.mpr ⟨Y_one ya88 yb88, List.forall_mem_cons.mpr ⟨Y_one ya89 yb89, List.forall_mem_cons.mpr ⟨Y_one ya90 yb90, List.forall_mem_cons.mpr ⟨Y_one ya91 yb91, List.forall_mem_cons.mpr ⟨Y_one ya92 yb92, List.forall_mem_cons.mpr ⟨Y_one ya93 yb93, List.forall_mem_cons.mpr ⟨Y_one ya94 yb94, List.forall_mem_cons.mpr ⟨Y_one ya95 yb95, List.forall_mem_cons.mpr ⟨Y_one ya96 yb96, List.forall_mem_cons.mpr ⟨Y_one ya97 yb97, List.forall_mem_cons.mpr ⟨Y_one ya98 yb98, List.forall_mem_cons.mpr ⟨Y_one ya99 yb99, List.forall_mem_nil _⟩⟩⟩⟩⟩⟩⟩⟩⟩⟩⟩⟩⟩⟩⟩⟩⟩⟩⟩⟩
theorem yc100 : ∀ y ∈ ([100, 101, 102, 103, 104, 105, 106, 107, 108, 109, 110, 111, 112, 113, 114, 115, 116, 117, 118, 119] : List Nat), Yok y := List.forall_mem_cons.mpr ⟨Y_one ya100 yb100, List.forall_mem_cons.mpr ⟨Y_one ya101 yb101, List.forall_mem_cons.mpr ⟨Y_one ya102 yb102, List.forall_mem_cons.mpr ⟨Y_one ya103 yb103, List.forall_mem_cons.mpr ⟨Y_one ya104 yb104, List.forall_mem_cons.mpr ⟨Y_one ya105 yb105, List.forall_mem_cons.mpr ⟨Y_one ya106 yb106, List.forall_mem_cons.mpr ⟨Y_one ya107 yb107, List.forall_mem_cons.mpr ⟨Y_one ya108 yb108, List.forall_mem_cons.mpr ⟨Y_one ya109 yb109, List.forall_mem_cons.mpr ⟨Y_one ya110 yb110, List.forall_mem_cons.mpr ⟨Y_one ya111 yb111, List.forall_mem_cons.mpr ⟨Y_one ya112 yb112, List.forall_mem_cons.mpr ⟨Y_one ya113 yb113, List.forall_mem_cons.mpr ⟨Y_one ya114 yb114, List.forall_mem_cons.mpr ⟨Y_one ya115 yb115, List.forall_mem_cons.mpr ⟨Y_one ya116 yb116, List.forall_mem_cons.mpr ⟨Y_one ya117 yb117, List.forall_mem_cons.mpr ⟨Y_one ya118 yb118, List.forall_mem_cons.mpr ⟨Y_one ya119 yb119, List.forall_mem_nil _⟩⟩⟩⟩⟩⟩⟩⟩⟩⟩⟩⟩⟩⟩⟩⟩⟩⟩⟩⟩
theorem yc120 : ∀ y ∈ ([120, 121, 122, 123, 124, 125, 126, 127, 128, 129, 130, 131, 132, 133, 134, 135, 136, 137, 138, 139] : List Nat), Yok y := List.forall_mem_cons.mpr ⟨Y_one ya120 yb120, List.forall_mem_cons.mpr ⟨Y_one ya121 yb121, List.forall_mem_cons.mpr ⟨Y_one ya122 yb122, List.forall_mem_cons.mpr ⟨Y_one ya123 yb123, List.forall_mem_cons.mpr ⟨Y_one ya124 yb124, List.forall_mem_cons.mpr ⟨Y_one ya125 yb125, List.forall_mem_cons.mpr ⟨Y_one ya126 yb126, List.forall_mem_cons.mpr ⟨Y_one ya127 yb127, List.forall_mem_cons.mpr ⟨Y_one ya128 yb128, List.forall_mem_cons.mpr ⟨Y_one ya129 yb129, List.forall_mem_cons.mpr ⟨Y_one ya130 yb130, List.forall_mem_cons.mpr ⟨Y_one ya131 yb131, List.forall_mem_cons.mpr ⟨Y_one ya132 yb132, List.forall_mem_cons.mpr ⟨Y_one ya133 yb133, List.forall_mem_cons.mpr ⟨Y_one ya134 yb134, List.forall_mem_cons.mpr ⟨Y_one ya135 yb135, List.forall_mem_cons.mpr ⟨Y_one ya136 yb136, List.forall_mem_cons.mpr ⟨Y_one ya137 yb137, List.forall_mem_cons.mpr ⟨Y_one ya138 yb138, List.forall_mem_cons.mpr ⟨Y_one ya139 yb139, List.forall_mem_nil _⟩⟩⟩⟩⟩⟩⟩⟩⟩⟩⟩⟩⟩⟩⟩⟩⟩⟩⟩⟩
theorem yc140 : ∀ y ∈ ([140, 141, 142, 143, 144, 145, 146, 147, 148, 149, 150, 151, 152, 153, 154, 155, 156, 157, 158, 159] : List Nat), Yok y := List.forall_mem_cons.mpr ⟨Y_one ya140 yb140, List.forall_mem_cons.mpr ⟨Y_one ya141 yb141, List.forall_mem_cons.mpr ⟨Y_one ya142 yb142, List.forall_mem_cons.mpr ⟨Y_one ya143 yb143, List.forall_mem_cons.mpr ⟨Y_one ya144 yb144, List.forall_mem_cons.mpr ⟨Y_one ya145 yb145, List.forall_mem_cons.mpr ⟨Y_one ya146 yb146, List.forall_mem_cons.mpr ⟨Y_one ya147 yb147, List.forall_mem_cons.mpr ⟨Y_one ya148 yb148, List.forall_mem_cons.mpr ⟨Y_one ya149 yb149, List.forall_mem_cons.mpr ⟨Y_one ya150 yb150, List.forall_mem_cons.mpr ⟨Y_one ya151 yb151, List.forall_mem_cons.mpr ⟨Y_one ya152 yb152, List.forall_mem_cons.mpr ⟨Y_one ya153 yb153, List.forall_mem_cons.mpr ⟨Y_one ya154 yb154, List.forall_mem_cons.mpr ⟨Y_one ya155 yb155, List.forall_mem_cons.mpr ⟨Y_one ya156 yb156, List.forall_mem_cons.mpr ⟨Y_one ya157 yb157, List.forall_mem_cons.mpr ⟨Y_one ya158 yb158, List.forall_mem_cons.mpr ⟨Y_one ya159 yb159, List.forall_mem_nil _⟩⟩⟩⟩⟩⟩⟩⟩⟩⟩⟩⟩⟩⟩⟩⟩⟩⟩⟩⟩
theorem yc160 : ∀ y ∈ ([160, 161, 162, 163, 164, 165, 166, 167, 168, 169, 170, 171, 172, 173, 174, 175, 176, 177, 178, 179] : List Nat), Yok y := List.forall_mem_cons.mpr ⟨Y_one ya160 yb160, List.forall_mem_cons.mpr ⟨Y_one ya161 yb161, List.forall_mem_cons.mpr ⟨Y_one ya162 yb162, List.forall_mem_cons.mpr ⟨Y_one ya163 yb163, List.forall_mem_cons.mpr ⟨Y_one ya164 yb164, List.forall_mem_cons.mpr ⟨Y_one ya165 yb165, List.forall_mem_cons.mpr ⟨Y_one ya166 yb166, List.forall_mem_cons.mpr ⟨Y_one ya167 yb167, List.forall_mem_cons.mpr ⟨Y_one ya168 yb168, List.forall_mem_cons.mpr ⟨Y_one ya169 yb169, List.forall_mem_cons.mpr ⟨Y_one ya170 yb170, List.forall_mem_cons.mpr ⟨Y_one ya171 yb171, List.forall_mem_cons.mpr ⟨Y_one ya172 yb172, List.forall_mem_cons.mpr ⟨Y_one ya173 yb173, List.forall_mem_cons.mpr ⟨Y_one ya174 yb174, List.forall_mem_cons.mpr ⟨Y_one ya175 yb175, List.forall_mem_cons.mpr ⟨Y_one ya176 yb176, List.forall_mem_cons.mpr ⟨Y_one ya177 yb177, List.forall_mem_cons.mpr ⟨Y_one ya178 yb178, List.forall_mem_cons.mpr ⟨Y_one ya179 yb179, List.forall_mem_nil _⟩⟩⟩⟩⟩⟩⟩⟩⟩⟩⟩⟩⟩⟩⟩⟩⟩⟩⟩⟩
theorem yc180 : ∀ y ∈ ([180, 181, 182, 183, 184, 185, 186, 187, 188, 189, 190, 191, 192, 193, 194, 195, 196, 197, 198, 199] : List Nat), Yok y := List.forall_mem_cons.mpr ⟨Y_one ya180 yb180, List.forall_mem_cons.mpr ⟨Y_one ya181 yb181, List.forall_mem_cons.mpr ⟨Y_one ya182 yb182, List.forall_mem_cons.mpr ⟨Y_one ya183 yb183, List.forall_mem_cons.mpr ⟨Y_one ya184 yb184, List.forall_mem_cons.mpr ⟨Y_one ya185 yb185, List.forall_mem_cons.mpr ⟨Y_one ya186 yb186, List.forall_mem_cons.mpr ⟨Y_one ya187 yb187, List.forall_mem_cons.mpr ⟨Y_one ya188 yb188, List.forall_mem_cons.mpr ⟨Y_one ya189 yb189, List.forall_mem_cons.mpr ⟨Y_one ya190 yb190, List.forall_mem_cons.mpr ⟨Y_one ya191 yb191, List.forall_mem_cons.mpr ⟨Y_one ya192 yb192, List.forall_mem_cons.mpr ⟨Y_one ya193 yb193, List.forall_mem_cons.mpr ⟨Y_one ya194 yb194, List.forall_mem_cons.mpr ⟨Y_one ya195 yb195, List.forall_mem_cons.mpr ⟨Y_one ya196 yb196, List.forall_mem_cons.mpr ⟨Y_one ya197 yb197, List.forall_mem_cons.mpr ⟨Y_one ya198 yb198, List.forall_mem_cons.mpr ⟨Y_one ya199 yb199, List.forall_mem_nil _⟩⟩⟩⟩⟩⟩⟩⟩⟩⟩⟩⟩⟩⟩⟩⟩⟩⟩⟩⟩
theorem yc200 : ∀ y ∈ ([200, 201, 202, 203, 204, 205, 206, 207, 208, 209, 210, 211, 212, 213, 214, 215, 216, 217, 218, 219] : List Nat), Yok y := List.forall_mem_cons.mpr ⟨Y_one ya200 yb200, List.forall_mem_cons.mpr ⟨Y_one ya201 yb201, List.forall_mem_cons.mpr ⟨Y_one ya202 yb202, List.forall_mem_cons.mpr ⟨Y_one ya203 yb203, List.forall_mem_cons.mpr ⟨Y_one ya204 yb204, List.forall_mem_cons.mpr ⟨Y_one ya205 yb205, List.forall_mem_cons.mpr ⟨Y_one ya206 yb206, List.forall_mem_cons.mpr ⟨Y_one ya207 yb207, List.forall_mem_cons.mpr ⟨Y_one ya208 yb208, List.forall_mem_cons.mpr ⟨Y_one ya209 yb209, List.forall_mem_cons.mpr ⟨Y_one ya210 yb210, List.forall_mem_cons.mpr ⟨Y_one ya211 yb211, List.forall_mem_cons.mpr ⟨Y_one ya212 yb212, List.forall_mem_cons.mpr ⟨Y_one ya213 yb213, List.forall_mem_cons.mpr ⟨Y_one ya214 yb214, List.forall_mem_cons.mpr ⟨Y_one ya215 yb215, List.forall_mem_cons.mpr ⟨Y_one ya216 yb216, List.forall_mem_cons.mpr ⟨Y_one ya217 yb217, List.forall_mem_cons.mpr ⟨Y_one ya218 yb218, List.forall_mem_cons.mpr ⟨Y_one ya219 yb219, List.forall_mem_nil _⟩⟩⟩⟩⟩⟩⟩⟩⟩⟩⟩⟩⟩⟩⟩⟩⟩⟩⟩⟩
theorem yc220 : ∀ y ∈ ([220, 221, 222, 223, 224, 225, 226, 227, 228, 229, 230, 231, 232, 233, 234, 235, 236, 237, 238, 239] : List Nat), Yok y := List.forall_mem_cons.mpr ⟨Y_one ya220 yb220, List.forall_mem_cons.mpr ⟨Y_one ya221 yb221, List.forall_mem_cons.mpr ⟨Y_one ya222 yb222, List.forall_mem_cons.mpr ⟨Y_one ya223 yb223, List.forall_mem_cons.mpr ⟨Y_one ya224 yb224, List.forall_mem_cons.mpr ⟨Y_one ya225 yb225, List.forall_mem_cons.mpr ⟨Y_one ya226 yb226, List.forall_mem_cons.mpr ⟨Y_one ya227 yb227, List.forall_mem_cons.mpr ⟨Y_one ya228 yb228, List.forall_mem_cons.mpr ⟨Y_one ya229 yb229, List.forall_mem_cons.mpr ⟨Y_one ya230 yb230, List.forall_mem_cons.mpr ⟨Y_one ya231 yb231, List.forall_mem_cons.mpr ⟨Y_one ya232 yb232, List.forall_mem_cons.mpr ⟨Y_one ya233 yb233, List.forall_mem_cons.mpr ⟨Y_one ya234 yb234, List.forall_mem_cons.mpr ⟨Y_one ya235 yb235, List.forall_mem_cons.mpr ⟨Y_one ya236 yb236, List.forall_mem_cons.mpr ⟨Y_one ya237 yb237, List.forall_mem_cons.mpr ⟨Y_one ya238 yb238, List.forall_mem_cons.mpr ⟨Y_one ya239 yb239, List.forall_mem_nil _⟩⟩⟩⟩⟩⟩⟩⟩⟩⟩⟩⟩⟩⟩⟩⟩⟩⟩⟩⟩
theorem yc240 : ∀ y ∈ ([240, 241, 242, 243, 244, 245, 246, 247, 248, 249, 250, 251, 252, 253, 254, 255, 256, 257, 258, 259] : List Nat), Yok y := List.forall_mem_cons.mpr ⟨Y_one ya240 yb240, List.forall_mem_cons.mpr ⟨Y_one ya241 yb241, List.forall_mem_cons.mpr ⟨Y_one ya242 yb242, List.forall_mem_cons.mpr ⟨Y_one ya243 yb243, List.forall_mem_cons.mpr ⟨Y_one ya244 yb244, List.forall_mem_cons.mpr ⟨Y_one ya245 yb245, List.forall_mem_cons.mpr ⟨Y_one ya246 yb246, List.forall_mem_cons.mpr ⟨Y_one ya247 yb247, List.forall_mem_cons.mpr ⟨Y_one ya248 yb248, List.forall_mem_cons.mpr ⟨Y_one ya249 yb249, List.forall_mem_cons.mpr ⟨Y_one ya250 yb250, List.forall_mem_cons.mpr ⟨Y_one ya251 yb251, List.forall_mem_cons.mpr ⟨Y_one ya252 yb252, List.forall_mem_cons.mpr ⟨Y_one ya253 yb253, List.forall_mem_cons.mpr ⟨Y_one ya254 yb254, List.forall_mem_cons.mpr ⟨Y_one ya255 yb255, List.forall_mem_cons.mpr ⟨Y_one ya256 yb256, List.forall_mem_cons.mpr ⟨Y_one ya257 yb257, List.forall_mem_cons.mpr ⟨Y_one ya258 yb258, List.forall_mem_cons.mpr ⟨Y_one ya259 yb259, List.forall_mem_nil _⟩⟩⟩⟩⟩⟩⟩⟩⟩⟩⟩⟩⟩⟩⟩⟩⟩⟩⟩⟩
theorem yc260 : ∀ y ∈ ([260, 261, 262, 263, 264] : List Nat), Yok y := List.forall_mem_cons.mpr ⟨Y_one ya260 yb260, List.forall_mem_cons.mpr ⟨Y_one ya261 yb261, List.forall_mem_cons.mpr ⟨Y_one ya262 yb262, List.forall_mem_cons.mpr ⟨Y_one ya263 yb263, List.forall_mem_cons.mpr ⟨Y_one ya264 yb264, List.forall_mem_nil _⟩⟩⟩⟩⟩
theorem Y_ok {y : Nat} (h : y < NMT) : Yok y := by
  by_cases h0 : y < 20
  · exact yc0 y (by simp only [List.mem_cons, List.not_mem_nil, or_false]; omega)
  by_cases h20 : y < 40
  · exact yc20 y (by simp only [List.mem_cons, List.not_mem_nil, or_false]; omega)
  by_cases h40 : y < 60
  · exact yc40 y (by simp only [List.mem_cons, List.not_mem_nil, or_false]; omega)
  by_cases h60 : y < 80
  · exact yc60 y (by simp only [List.mem_cons, List.not_mem_nil, or_false]; omega)
  by_cases h80 : y < 100
  · exact yc80 y (by simp only [List.mem_cons, List.not_mem_nil, or_false]; omega)
  by_cases h100 : y < 120
  · exact yc100 y (by simp only [List.mem_cons, List.not_mem_nil, or_false]; omega)
  by_cases h120 : y < 140
  · exact yc120 y (by simp only [List.mem_cons, List.not_mem_nil, or_false]; omega)
  by_cases h140 : y < 160
  · exact yc140 y (by simp only [List.mem_cons, List.not_mem_nil, or_false]; omega)
  by_cases h160 : y < 180
  · exact yc160 y (by simp only [List.mem_cons, List.not_mem_nil, or_false]; omega)
  by_cases h180 : y < 200
  · exact yc180 y (by simp only [List.mem_cons, List.not_mem_nil, or_false]; omega)
  by_cases h200 : y < 220
  · exact yc200 y (by simp only [List.mem_cons, List.not_mem_nil, or_false]; omega)
  by_cases h220 : y < 240
  · exact yc220 y (by simp only [List.mem_cons, List.not_mem_nil, or_false]; omega)
  by_cases h240 : y < 260
  · exact yc240 y (by simp only [List.mem_cons, List.not_mem_nil, or_false]; omega)
  have h9 : y < 265 := h
  exact yc260 y (by simp only [List.mem_cons, List.not_mem_nil, or_false]; omega)
/-- classes: their fields' words, names, types -/
def Cok (c : Nat) : Prop := ∀ (C : String) (T : u_T) (N : Nat), vwCl[c]? = some (C, T, N) → clN c = N ∧ (∀ w ∈ u_ws C T N, w ∈ lwG) ∧ (∀ k, k < N → parseFieldDescriptor (T k).2.2.1 = some (clT c k)) ∧ (∀ a, a < N → ∀ b, b < N → a ≠ b → (T a).2.1 ≠ (T b).2.1)
def chkU (q : vw_C) : Bool := (u_ws q.1 q.2.1 q.2.2).all (fun w => decide (w ∈ lw_tbl) && goodWord w)
set_option maxRecDepth 100000 in
theorem U_all : vwCl.all chkU = true := by decide +kernel
theorem C_u {q : vw_C} (h : q ∈ vwCl) : ∀ w ∈ u_ws q.1 q.2.1 q.2.2, w ∈ lwG := by
  intro w hw
  have h2 := List.all_eq_true.mp (List.all_eq_true.mp U_all q h) w hw
  simp only [Bool.and_eq_true, decide_eq_true_eq] at h2
  exact List.mem_filter.mpr h2
theorem C_ok (c : Nat) : Cok c := by
  intro C T N h
  have hu := C_u (List.mem_of_getElem? h)
  match c, h with
  | 0, h => cases h; exact ⟨rfl, hu, tyX0_ok, nmX0⟩
  | 1, h => cases h; exact ⟨rfl, hu, tyX1_ok, nmX1⟩
  | 2, h => cases h; exact ⟨rfl, hu, tyX2_ok, nmX2⟩
  | 3, h => cases h; exact ⟨rfl, hu, tyX3_ok, nmX3⟩
  | 4, h => cases h; exact ⟨rfl, hu, tyX4_ok, nmX4⟩
  | 5, h => cases h; exact ⟨rfl, hu, tyX5_ok, nmX5⟩
  | 6, h => cases h; exact ⟨rfl, hu, tyX6_ok, nmX6⟩
  | 7, h => cases h; exact ⟨rfl, hu, tyX7_ok, nmX7⟩
  | 8, h => cases h; exact ⟨rfl, hu, tyX8_ok, nmX8⟩
  | 9, h => cases h; exact ⟨rfl, hu, tyX9_ok, nmX9⟩
  | 10, h => cases h; exact ⟨rfl, hu, tyX10_ok, nmX10⟩
  | 11, h => cases h; exact ⟨rfl, hu, tyX11_ok, nmX11⟩
  | n + 12, h => simp [vwCl] at h
set_option maxRecDepth 100000 in
theorem lw_fix : ([Cond.instanceMethod objectInit, .native arraycopyName, .static arraycopyName, .initialized "java/lang/System", .arrayClass .int, .arrayClass .long, .arrayClass .boolean]).all (fun w => decide (w ∈ lw_tbl) && goodWord w) = true := by decide +kernel
theorem lw_in {w : Cond} (h : w ∈ ([Cond.instanceMethod objectInit, .native arraycopyName, .static arraycopyName, .initialized "java/lang/System", .arrayClass .int, .arrayClass .long, .arrayClass .boolean] : List Cond)) : w ∈ lwG := by
  have h2 := List.all_eq_true.mp lw_fix w h
  simp only [Bool.and_eq_true, decide_eq_true_eq] at h2
  exact List.mem_filter.mpr h2
set_option maxRecDepth 100000 in
theorem lw_obj : Cond.code objectInit ⟨#[0xb1]⟩ 1 none ∈ lwG := lwG_of (p := 161) (by decide +kernel) (by decide +kernel)
theorem lw_cg {p : Nat} {n : MethodName} {b : ByteArray} {k : Nat} {r : Option FieldType} (h : lw_tbl[p]? = some (.code n b k r)) : Cond.code n b k r ∈ lwG := lwG_of h (by first | rfl | simp [goodWord, Cond.onTables, Cond.keeps, Cond.steady])
set_option maxRecDepth 100000 in
theorem lw_math : Cond.code Lib.Math.max.name Lib.Math.max.code 2 (some .int) ∈ lwG ∧ Cond.code Lib.MathLoose.max_long.x Lib.MathLoose.max_long.code 4 (some .long) ∈ lwG ∧ Cond.code Lib.Math.min.name Lib.Math.min.code 2 (some .int) ∈ lwG := ⟨lw_cg (p := 719) (by decide +kernel), lw_cg (p := 1006) (by decide +kernel), lw_cg (p := 834) (by decide +kernel)⟩
set_option maxRecDepth 100000 in
theorem lw_mfix : ([Cond.static Lib.Math.max.name, .static Lib.MathLoose.max_long.x, .static Lib.Math.min.name, .initialized "java/lang/Math"]).all (fun w => decide (w ∈ lw_tbl) && goodWord w) = true := by decide +kernel
theorem lw_min {w : Cond} (h : w ∈ ([Cond.static Lib.Math.max.name, .static Lib.MathLoose.max_long.x, .static Lib.Math.min.name, .initialized "java/lang/Math"] : List Cond)) : w ∈ lwG := by
  have h2 := List.all_eq_true.mp lw_mfix w h
  simp only [Bool.and_eq_true, decide_eq_true_eq] at h2
  exact List.mem_filter.mpr h2
