/-! the reference's alike -/
theorem ok_more {T : TN} {g : Nat → Nat} {k : Nat} (h : okG T g k = false) : ∀ m, okG T g (k + m) = false
  | 0 => h
  | m + 1 => by rw [← Nat.add_assoc, okG, ok_more h m]; rfl
theorem pw_le : ∀ s, s < 6 → s ^ s ≤ 3125 := by decide
section
variable {G : GG} {D n : Nat}
theorem m_alike : RS G n 247 [] sp_alike := by
  intro D I J Q a hO hC h
  try dsimp only at h
  obtain ⟨hcT, hcF, hcK, hcR, hcX, hcN, hcA, hcU⟩ := id hC
  obtain ⟨oT, oF, oN, oK, oR, oX⟩ := id hO
  unfold sp_alike at h
  have hT := oT.1
  have h5 : tS (aT a) ≤ 5 := hT.1
  have hS : I 77 3 = nI (tS (aT a)) := hcT.1
  have hN : ∀ i, i < tS (aT a) → btT (aT a) i i = false := fun i hi => by unfold btT; rw [oT.2.1 i hi]; rfl
  generalize hTT : aT a = T at *
  have hpw := pw_le (tS T) (by omega)
  obtain ⟨v1, v2⟩ := ev_eq (tS T) (by omega)
  rw [alN_code] at h
  generalize hv : (fun c => valG T (extG (tS T) (tS T) 0 (fun _ => 0) c)) = val at h
  have hval : ∀ c, val c = valG T (extG (tS T) (tS T) 0 (fun _ => 0) c) := fun c => by rw [← hv]
  generalize hs : tS T = s at h5 hS hpw v1 v2 hN
  have hss : s * s ≤ 5 * 5 := Nat.mul_le_mul h5 h5
  have loop : ∀ m c (I1 : Nat → Nat → Int32) (z5 z6 z7 z8 : Value), c + m = s ^ s → (∀ r, r ≠ 90 → I1 r = I r) → EV G 247 (D + 59) 0 0 32 [.ref 77, .int (nI (s ^ s)), .int (nI (wS val c).1), .int (nI (wS val c).2), .int (nI c), z5, z6, z7, z8] [] (SH n, I1, J) Q := by
    intro m
    induction m with
    | zero =>
      intro c I1 z5 z6 z7 z8 hc ho
      have hc : c = s ^ s := hc
      have hsr : SR I I1 := ⟨fun r h1 h2 => ho r (by omega), by rw [ho 77 (by decide)], by rw [ho 77 (by decide)], by rw [ho 77 (by decide)], by rw [ho 77 (by decide)], by rw [ho 77 (by decide)]⟩
      rw [hs] at h
      rw [hc]
      refine EV.at ck247 (by decide) 300 [] ?_
      conv => whnf
      try dsimp only
      refine pk_le (s ^ s) (s ^ s) (fun _ => ?_) (fun z => absurd z (by omega))
      conv => whnf
      try dsimp only
      refine ⟨trivial, r_says ?_⟩
      refine EV.at ck247 (by decide) 300 [] ?_
      conv => whnf
      try dsimp only
      exact ⟨trivial, rfin rfl (hC.scr (J' := J) hsr rfl rfl).ask (hsr.fm.up (by decide)) (FMJ.rf J) h⟩
    | succ m ih =>
      intro c I1 z5 z6 z7 z8 hc ho
      have ihj := ih (c + 1)
      rw [nI_succ c] at ihj
      have e0 : wS val (c + 1) = ((wS val c).1 + (val c).1, (wS val c).2 ||| (val c).2) := rfl
      rw [hval c, hs] at e0
      generalize hg : extG s s 0 (fun _ => 0) c = g at e0
      have hgl : ∀ x, x < s → g x < s := fun x hx => by
        rw [← hg]
        exact ext_lt (by omega) s 0 _ _ x (Nat.zero_le _) (by omega)
      have hok : okG T g (s * s) = preG T g s := by
        have := ok_pre (T := T) (g := g) (by omega) (by rw [hs]; exact hN) (by rw [hs]; exact hgl)
        rw [hs] at this
        exact this
      unfold valG at e0
      rw [hs, ← hok] at e0
      have e255 : ∀ (I2 : Nat → Nat → Int32) (mv : Nat) (z5 z6 z8 : Value), (∀ r, r ≠ 90 → I2 r = I r) → mv = (wS val (c + 1)).2 → EV G 247 (D + 59) 0 0 255 [.ref 77, .int (nI (s ^ s)), .int (nI (wS val c).1), .int (nI mv), .int (nI c), z5, z6, .int (b2i (okG T g (s * s))), z8] [] (SH n, I2, J) Q := by
        intro I2 mv z5 z6 z8 ho2 hmv
        cases hb : okG T g (s * s)
        · rw [hb, if_neg (by decide)] at e0
          have ihk := ihj I2 z5 z6 (.int (b2i false)) z8 (by omega) ho2
          rw [← hmv, show (wS val (c + 1)).1 = (wS val c).1 by rw [e0]; rfl] at ihk
          refine EV.at ck247 (by decide) 300 [] ?_
          conv => whnf
          try dsimp only
          first | refine ⟨fun h1 => absurd h1 (by decide), fun _ => ?_⟩ | refine ⟨fun _ => ?_, fun h1 => absurd (by decide) h1⟩ | refine ⟨fun h1 => absurd (by decide) h1, fun _ => ?_⟩ | refine ⟨fun _ => ?_, fun h1 => absurd h1 (by decide)⟩
          conv => whnf
          try dsimp only
          rw [Int32.add_zero]
          exact ⟨trivial, ihk⟩
        · rw [hb, if_pos rfl] at e0
          have ihk := ihj I2 z5 z6 (.int (b2i true)) z8 (by omega) ho2
          rw [← hmv, show (wS val (c + 1)).1 = (wS val c).1 + 1 by rw [e0], nI_succ (wS val c).1] at ihk
          refine EV.at ck247 (by decide) 300 [] ?_
          conv => whnf
          try dsimp only
          first | refine ⟨fun h1 => absurd h1 (by decide), fun _ => ?_⟩ | refine ⟨fun _ => ?_, fun h1 => absurd (by decide) h1⟩ | refine ⟨fun h1 => absurd (by decide) h1, fun _ => ?_⟩ | refine ⟨fun _ => ?_, fun h1 => absurd h1 (by decide)⟩
          conv => whnf
          try dsimp only
          exact ⟨trivial, ihk⟩
      have e204 : ∀ (I2 : Nat → Nat → Int32) (z5 z6 z8 : Value), (∀ r, r ≠ 90 → I2 r = I r) → (∀ x, x < s → I2 90 x = nI (g x)) → EV G 247 (D + 59) 0 0 204 [.ref 77, .int (nI (s ^ s)), .int (nI (wS val c).1), .int (nI (wS val c).2), .int (nI c), z5, z6, .int (b2i (okG T g (s * s))), z8] [] (SH n, I2, J) Q := by
        intro I2 z5 z6 z8 ho2 h90
        have hS2 : I2 77 3 = nI s := by rw [ho2 77 (by decide)]; exact hS
        have e255 := e255 I2
        cases hb : okG T g (s * s)
        · rw [hb] at e0 e255
          rw [if_neg (by decide)] at e0
          have k0 := fun z8 => e255 (wS val c).2 z5 z6 z8 ho2 (by rw [e0]; exact (Nat.or_zero _).symm)
          refine EV.at ck247 (by decide) 300 [255] ?_
          conv => whnf
          try dsimp only
          rw [hS2]
          refine pk_le s 0 (fun _ => ?_) (fun _ => ?_)
          · conv => whnf
            try dsimp only
            exact ⟨trivial, k0 _⟩
          · conv => whnf
            try dsimp only
            first | refine ⟨fun h1 => absurd h1 (by decide), fun _ => ?_⟩ | refine ⟨fun _ => ?_, fun h1 => absurd (by decide) h1⟩ | refine ⟨fun h1 => absurd (by decide) h1, fun _ => ?_⟩ | refine ⟨fun _ => ?_, fun h1 => absurd h1 (by decide)⟩
            conv => whnf
            try dsimp only
            exact ⟨trivial, k0 _⟩
        · rw [hb] at e0 e255
          rw [if_pos rfl] at e0
          have mov : ∀ l k, k + l = s → EV G 247 (D + 59) 0 0 207 [.ref 77, .int (nI (s ^ s)), .int (nI (wS val c).1), .int (nI ((wS val c).2 ||| mvN g k)), .int (nI c), z5, z6, .int (b2i true), .int (nI k)] [] (SH n, I2, J) Q := by
            intro l
            induction l with
            | zero =>
              intro k hk
              have hk : k = s := hk
              rw [hk]
              refine EV.at ck247 (by decide) 300 [255] ?_
              conv => whnf
              try dsimp only
              rw [hS2]
              refine pk_le s s (fun _ => ?_) (fun z => absurd z (by omega))
              conv => whnf
              try dsimp only
              exact ⟨trivial, e255 _ z5 z6 _ ho2 (by rw [e0])⟩
            | succ l ihl =>
              intro k hk
              have ihk := ihl (k + 1) (by omega)
              have e : mvN g (k + 1) = mvN g k ||| (if g k = k then 0 else 2 ^ g k) := rfl
              rw [e, ← Nat.or_assoc, ← fa_or, nI_succ k] at ihk
              have ck : (nI k).toNatClampNeg = k := nI_clamp (by omega)
              have gk := hgl k (by omega)
              refine EV.at ck247 (by decide) 300 [255] ?_
              conv => whnf
              try dsimp only
              rw [hS2]
              refine pk_le s k (fun z => absurd z (by omega)) (fun _ => ?_)
              conv => whnf
              try dsimp only
              first | refine ⟨fun h1 => absurd h1 (by decide), fun _ => ?_⟩ | refine ⟨fun _ => ?_, fun h1 => absurd (by decide) h1⟩ | refine ⟨fun h1 => absurd (by decide) h1, fun _ => ?_⟩ | refine ⟨fun _ => ?_, fun h1 => absurd h1 (by decide)⟩
              conv => whnf
              try dsimp only
              refine ⟨in_nI (show k < 40 by omega) (by decide), ?_⟩
              conv => whnf
              try dsimp only
              rw [ck, h90 k (by omega)]
              refine pk_eq (g k) k (fun z => ?_) (fun z => ?_)
              · rw [if_pos z] at ihk
                conv => whnf
                try dsimp only
                exact ⟨trivial, ihk⟩
              · rw [if_neg z, ← nu_one (show g k < 31 by omega)] at ihk
                conv => whnf
                try dsimp only
                refine ⟨in_nI (show k < 40 by omega) (by decide), ?_⟩
                conv => whnf
                try dsimp only
                rw [ck, h90 k (by omega)]
                exact ⟨trivial, ihk⟩
          have l0 := mov s 0 (by omega)
          rw [show (wS val c).2 ||| mvN g 0 = (wS val c).2 from Nat.or_zero _] at l0
          refine EV.at ck247 (by decide) 300 [207] ?_
          conv => whnf
          try dsimp only
          exact ⟨trivial, l0⟩
      have pairs : ∀ (I2 : Nat → Nat → Int32), (∀ r, r ≠ 90 → I2 r = I r) → (∀ x, x < s → I2 90 x = nI (g x)) → ∀ l k (z5 : Value) (z6 : Int32), k + l = s * s → EV G 247 (D + 59) 0 0 123 [.ref 77, .int (nI (s ^ s)), .int (nI (wS val c).1), .int (nI (wS val c).2), .int (nI c), z5, .int z6, .int (b2i (okG T g k)), .int (nI k)] [] (SH n, I2, J) Q := by
        intro I2 ho2 h90 l
        have hS2 : I2 77 3 = nI s := by rw [ho2 77 (by decide)]; exact hS
        have hM2 : mT T I2 := hcT.of (fun r x y => ho2 r (by omega)) (by rw [ho2 77 (by decide)]) (by rw [ho2 77 (by decide)])
        induction l with
        | zero =>
          intro k z5 z6 hk
          have hk : k = s * s := hk
          rw [hk]
          refine EV.at ck247 (by decide) 300 [204] ?_
          conv => whnf
          try dsimp only
          rw [hS2, show nI s * nI s = nI (s * s) from pk_mul s s]
          refine pk_le (s * s) (s * s) (fun _ => ?_) (fun z => absurd z (by omega))
          conv => whnf
          try dsimp only
          exact ⟨trivial, e204 I2 _ _ _ ho2 h90⟩
        | succ l ihl =>
          intro k z5 z6 hk
          have ihk := ihl (k + 1) z5 z6 (by omega)
          have hs0 : 0 < s := by
            rcases Nat.eq_zero_or_pos s with h0 | h0
            · rw [h0] at hk; omega
            · exact h0
          have ns : ¬ nI s = 0 := nI_ne0 (by omega) (by omega)
          have ha : k / s < s := Nat.div_lt_of_lt_mul (by omega)
          have hb' : k % s < s := Nat.mod_lt _ hs0
          have e : okG T g (k + 1) = (okG T g k && (btT T (k / s) (k % s) == btT T (g (k / s)) (g (k % s)))) := by rw [okG, hs]
          rw [e, nI_succ k] at ihk
          have d1 : nI k / nI s = nI (k / s) := pk_div (d := s) (by omega) hs0 (by omega)
          have d2 : jrem (nI k) (nI s) = nI (k % s) := pk_rem (d := s) (by omega) hs0 (by omega)
          have c1 : (nI (k / s)).toNatClampNeg = k / s := nI_clamp (by omega)
          have c2 : (nI (k % s)).toNatClampNeg = k % s := nI_clamp (by omega)
          have g1 := hgl _ ha
          have g2 := hgl _ hb'
          refine EV.at ck247 (by decide) 300 [204] ?_
          conv => whnf
          try dsimp only
          rw [hS2, show nI s * nI s = nI (s * s) from pk_mul s s]
          refine pk_le (s * s) k (fun z => absurd z (by omega)) (fun _ => ?_)
          conv => whnf
          try dsimp only
          cases hb : okG T g k
          · have hm := ok_more hb (l + 1)
            rw [hk] at hm
            have k0 := e204 I2 z5 (.int z6) (.int (nI k)) ho2 h90
            rw [hm] at k0
            first | refine ⟨fun h1 => absurd h1 (by decide), fun _ => ?_⟩ | refine ⟨fun _ => ?_, fun h1 => absurd (by decide) h1⟩ | refine ⟨fun h1 => absurd (by decide) h1, fun _ => ?_⟩ | refine ⟨fun _ => ?_, fun h1 => absurd h1 (by decide)⟩
            conv => whnf
            try dsimp only
            exact ⟨trivial, k0⟩
          · rw [hb, Bool.true_and] at ihk
            first | refine ⟨fun h1 => absurd h1 (by decide), fun _ => ?_⟩ | refine ⟨fun _ => ?_, fun h1 => absurd (by decide) h1⟩ | refine ⟨fun h1 => absurd (by decide) h1, fun _ => ?_⟩ | refine ⟨fun _ => ?_, fun h1 => absurd h1 (by decide)⟩
            conv => whnf
            try dsimp only
            rw [hS2]
            refine ⟨ns, ?_⟩
            conv => whnf
            try dsimp only
            rw [hS2]
            refine ⟨ns, ?_⟩
            conv => whnf
            try dsimp only
            rw [d1, d2]
            refine ⟨trivial, r_beats hT hM2 (by omega) (by omega) ?_⟩
            refine EV.at ck247 (by decide) 300 [204] ?_
            conv => whnf
            try dsimp only
            rw [hS2]
            refine ⟨ns, ?_⟩
            conv => whnf
            try dsimp only
            rw [d1]
            refine ⟨in_nI (show k / s < 40 by omega) (by decide), ?_⟩
            conv => whnf
            try dsimp only
            rw [hS2]
            refine ⟨ns, ?_⟩
            conv => whnf
            try dsimp only
            rw [d2]
            refine ⟨in_nI (show k % s < 40 by omega) (by decide), ?_⟩
            conv => whnf
            try dsimp only
            rw [c1, c2, h90 _ ha, h90 _ hb']
            refine ⟨trivial, r_beats hT hM2 (by omega) (by omega) ?_⟩
            cases hb1 : btT T (k / s) (k % s) <;> cases hb2 : btT T (g (k / s)) (g (k % s)) <;> rw [hb1, hb2] at ihk
            · refine EV.at ck247 (by decide) 300 [204] ?_
              conv => whnf
              try dsimp only
              first | refine ⟨fun h1 => absurd h1 (by decide), fun _ => ?_⟩ | refine ⟨fun _ => ?_, fun h1 => absurd (by decide) h1⟩ | refine ⟨fun h1 => absurd (by decide) h1, fun _ => ?_⟩ | refine ⟨fun _ => ?_, fun h1 => absurd h1 (by decide)⟩
              conv => whnf
              try dsimp only
              exact ⟨trivial, ihk⟩
            · refine EV.at ck247 (by decide) 300 [204] ?_
              conv => whnf
              try dsimp only
              first | refine ⟨fun h1 => absurd h1 (by decide), fun _ => ?_⟩ | refine ⟨fun _ => ?_, fun h1 => absurd (by decide) h1⟩ | refine ⟨fun h1 => absurd (by decide) h1, fun _ => ?_⟩ | refine ⟨fun _ => ?_, fun h1 => absurd h1 (by decide)⟩
              conv => whnf
              try dsimp only
              exact ⟨trivial, ihk⟩
            · refine EV.at ck247 (by decide) 300 [204] ?_
              conv => whnf
              try dsimp only
              first | refine ⟨fun h1 => absurd h1 (by decide), fun _ => ?_⟩ | refine ⟨fun _ => ?_, fun h1 => absurd (by decide) h1⟩ | refine ⟨fun h1 => absurd (by decide) h1, fun _ => ?_⟩ | refine ⟨fun _ => ?_, fun h1 => absurd h1 (by decide)⟩
              conv => whnf
              try dsimp only
              exact ⟨trivial, ihk⟩
            · refine EV.at ck247 (by decide) 300 [204] ?_
              conv => whnf
              try dsimp only
              first | refine ⟨fun h1 => absurd h1 (by decide), fun _ => ?_⟩ | refine ⟨fun _ => ?_, fun h1 => absurd (by decide) h1⟩ | refine ⟨fun h1 => absurd (by decide) h1, fun _ => ?_⟩ | refine ⟨fun _ => ?_, fun h1 => absurd h1 (by decide)⟩
              conv => whnf
              try dsimp only
              exact ⟨trivial, ihk⟩
      have digits : ∀ l i (g' : Nat → Nat) c' (I2 : Nat → Nat → Int32) (z8 : Value), i + l = s → c' < 65536 → (∀ r, r ≠ 90 → I2 r = I r) → (∀ x, x < i → I2 90 x = nI (g' x)) → extG s l i g' c' = g → EV G 247 (D + 59) 0 0 48 [.ref 77, .int (nI (s ^ s)), .int (nI (wS val c).1), .int (nI (wS val c).2), .int (nI c), .int (nI (orG g' i)), .int (nI c'), .int (nI i), z8] [] (SH n, I2, J) Q := by
        intro l
        induction l with
        | zero =>
          intro i g' c' I2 z8 hi hc' ho2 h90 he
          have hi : i = s := hi
          have he : g' = g := he
          subst he
          rw [hi] at h90 ⊢
          have hS2 : I2 77 3 = nI s := by rw [ho2 77 (by decide)]; exact hS
          have hol := orG_lt (g := g') (s := s) s hgl
          have hp32 : 2 ^ s ≤ 2 ^ 5 := Nat.pow_le_pow_right (by decide) h5
          have p0 := pairs I2 ho2 h90 (s * s) 0 (.int (nI (orG g' s))) (nI c') (by omega)
          have e : okG T g' 0 = decide (orG g' s = 2 ^ s - 1) := by rw [okG, hs]
          rw [e] at p0
          refine EV.at ck247 (by decide) 300 [123] ?_
          conv => whnf
          try dsimp only
          rw [hS2]
          refine pk_le s s (fun _ => ?_) (fun z => absurd z (by omega))
          conv => whnf
          try dsimp only
          rw [hS2, v1]
          refine ⟨fun z => ?_, fun z => ?_⟩
          · rw [decide_eq_false (fun y => z (by rw [y]))] at p0
            conv => whnf
            try dsimp only
            exact ⟨trivial, p0⟩
          · rw [decide_eq_true ((nu_eq (by omega) (by omega)).mp z)] at p0
            conv => whnf
            try dsimp only
            exact ⟨trivial, p0⟩
        | succ l ihl =>
          intro i g' c' I2 z8 hi hc' ho2 h90 he
          have hS2 : I2 77 3 = nI s := by rw [ho2 77 (by decide)]; exact hS
          have hs0 : 0 < s := by omega
          have ns : ¬ nI s = 0 := nI_ne0 (by omega) (by omega)
          have d1 : nI c' / nI s = nI (c' / s) := pk_div (d := s) (by omega) hs0 (by omega)
          have d2 : jrem (nI c') (nI s) = nI (c' % s) := pk_rem (d := s) (by omega) hs0 (by omega)
          have ci : (nI i).toNatClampNeg = i := nI_clamp (by omega)
          have hm : c' % s < s := Nat.mod_lt _ hs0
          have hdl : c' / s ≤ c' := Nat.div_le_self _ _
          have ihk := ihl (i + 1) (setG g' i (c' % s)) (c' / s) (upI I2 90 i (nI (c' % s))) z8 (by omega) (by omega) (fun r hr => by rw [upI_oth hr]; exact ho2 r hr) (fun x hx => by
            by_cases hxi : x = i
            · subst hxi
              rw [up_same, set_at]
            · rw [up_ne hxi, set_old x (by omega)]
              exact h90 x (by omega)) he
          have e : orG (setG g' i (c' % s)) (i + 1) = orG g' i ||| 2 ^ (c' % s) := by rw [orG, set_at, orG_congr i set_old]
          rw [e, ← fa_or, ← nu_one (show c' % s < 31 by omega), nI_succ i] at ihk
          have hS3 : upI I2 90 i (nI (c' % s)) 77 3 = nI s := by rw [upI_oth (by decide)]; exact hS2
          refine EV.at ck247 (by decide) 300 [123] ?_
          conv => whnf
          try dsimp only
          rw [hS2]
          refine pk_le s i (fun z => absurd z (by omega)) (fun _ => ?_)
          conv => whnf
          try dsimp only
          rw [hS2]
          refine ⟨ns, ?_⟩
          conv => whnf
          try dsimp only
          rw [d2]
          refine ⟨in_nI (show i < 40 by omega) (by decide), ?_⟩
          conv => whnf
          try dsimp only
          refine ⟨in_nI (show i < 40 by omega) (by decide), ?_⟩
          conv => whnf
          try dsimp only
          rw [ci, hS3]
          refine ⟨ns, ?_⟩
          conv => whnf
          try dsimp only
          rw [d1, up_same]
          exact ⟨trivial, ihk⟩
      refine EV.at ck247 (by decide) 300 [48] ?_
      conv => whnf
      try dsimp only
      refine pk_le (s ^ s) c (fun z => absurd z (by omega)) (fun _ => ?_)
      conv => whnf
      try dsimp only
      exact ⟨trivial, digits s 0 (fun _ => 0) c I1 _ (by omega) (by omega) ho (fun x hx => absurd hx (Nat.not_lt_zero x)) hg⟩
  have pow : ∀ l i (z3 : Value), i + l = s → EV G 247 (D + 59) 0 0 4 [.ref 77, .int (nI (s ^ i)), .int (nI i), z3, dm, dm, dm, dm, dm] [] (SH n, I, J) Q := by
    intro l
    induction l with
    | zero =>
      intro i z3 hi
      have hi : i = s := hi
      have l0 := loop (s ^ s) 0 I dm dm dm dm (by omega) (fun _ _ => rfl)
      rw [hi]
      refine EV.at ck247 (by decide) 300 [32] ?_
      conv => whnf
      try dsimp only
      rw [hS]
      refine pk_le s s (fun _ => ?_) (fun z => absurd z (by omega))
      conv => whnf
      try dsimp only
      exact ⟨trivial, l0⟩
    | succ l ih =>
      intro i z3 hi
      have ihk := ih (i + 1) z3 (by omega)
      rw [Nat.pow_succ, nI_succ i, ← pk_mul] at ihk
      refine EV.at ck247 (by decide) 300 [32] ?_
      conv => whnf
      try dsimp only
      rw [hS]
      refine pk_le s i (fun z => absurd z (by omega)) (fun _ => ?_)
      conv => whnf
      try dsimp only
      rw [hS]
      exact ⟨trivial, ihk⟩
  refine MT.by ck247 (by decide) rfl (Nat.le_of_ble_eq_true rfl) rfl 300 [4] ?_
  conv => whnf
  try dsimp only
  exact ⟨trivial, pow s 0 dm (by omega)⟩
end
