/-! WP: what must hold so that the machine goes on well from a place, computed from the code. -/
def pI (st : List Value) (K : Int32 → List Value → Prop) : Prop := match st with
  | .int x :: r => K x r
  | _ => False
def pII (st : List Value) (K : Int32 → Int32 → List Value → Prop) : Prop := match st with
  | .int y :: .int x :: r => K x y r
  | _ => False
def pJ (st : List Value) (K : Int64 → List Value → Prop) : Prop := match st with
  | .long x :: r => K x r
  | _ => False
def pJJ (st : List Value) (K : Int64 → Int64 → List Value → Prop) : Prop := match st with
  | .long y :: .long x :: r => K x y r
  | _ => False
def pIJ (st : List Value) (K : Int64 → Int32 → List Value → Prop) : Prop := match st with
  | .int y :: .long x :: r => K x y r
  | _ => False
def pR (st : List Value) (K : Nat → List Value → Prop) : Prop := match st with
  | .ref a :: r => K a r
  | _ => False
def pIR (st : List Value) (K : Int32 → Nat → List Value → Prop) : Prop := match st with
  | .int i :: .ref a :: r => K i a r
  | _ => False
def pIIR (st : List Value) (K : Int32 → Int32 → Nat → List Value → Prop) : Prop := match st with
  | .int x :: .int i :: .ref a :: r => K x i a r
  | _ => False
def pJIR (st : List Value) (K : Int64 → Int32 → Nat → List Value → Prop) : Prop := match st with
  | .long x :: .int i :: .ref a :: r => K x i a r
  | _ => False
def pRIR (st : List Value) (K : Nat → Int32 → Nat → List Value → Prop) : Prop := match st with
  | .ref x :: .int i :: .ref a :: r => K x i a r
  | _ => False
def pVR (st : List Value) (K : Value → Nat → List Value → Prop) : Prop := match st with
  | v :: .ref a :: r => K v a r
  | _ => False
def pCp (st : List Value) (K : Int32 → Int32 → Nat → Int32 → Nat → List Value → Prop) : Prop := match st with
  | .int n :: .int dp :: .ref a :: .int sp :: .ref a0 :: r => K n dp a sp a0 r
  | _ => False
def cOne (v : Value) (P : Prop) : Prop := match v with
  | .long _ => False
  | .double _ => False
  | _ => P
def pV (st : List Value) (K : Value → List Value → Prop) : Prop := match st with
  | v :: r => cOne v (K v r)
  | [] => False
def pDup2 (st : List Value) (K : List Value → Prop) : Prop := match st with
  | .long x :: r => K (.long x :: .long x :: r)
  | .int x :: .int y :: r => K (.int x :: .int y :: .int x :: .int y :: r)
  | .int x :: .ref y :: r => K (.int x :: .ref y :: .int x :: .ref y :: r)
  | _ => False
def getL : List Value → Nat → (Value → Prop) → Prop
  | [], _, _ => False
  | a :: _, 0, K => K a
  | _ :: l, i + 1, K => getL l i K
def setL : List Value → Nat → Value → (List Value → Prop) → Prop
  | [], _, _, _ => False
  | _ :: l, 0, v, K => K (v :: l)
  | a :: l, i + 1, v, K => setL l i v (fun l' => K (a :: l'))
def lowL (L : List Value) (i : Nat) (P : Prop) : Prop := match i with
  | 0 => P
  | j + 1 => getL L j (fun v => cOne v P)
def st1 (L : List Value) (i : Nat) (v : Value) (K : List Value → Prop) : Prop := lowL L i (setL L i v K)
def st2 (L : List Value) (i : Nat) (v : Value) (K : List Value → Prop) : Prop := lowL L i (setL L i v (fun L' => setL L' (i + 1) dm K))
def upI (I : Nat → Nat → Int32) (r k : Nat) (x : Int32) : Nat → Nat → Int32 := fun r' k' => if r' = r ∧ k' = k then x else I r' k'
def upL (I : Nat → Nat → Int64) (r k : Nat) (x : Int64) : Nat → Nat → Int64 := fun r' k' => if r' = r ∧ k' = k then x else I r' k'
def zrI (I : Nat → Nat → Int32) (r : Nat) : Nat → Nat → Int32 := fun r' k' => if r' = r then 0 else I r' k'
def zrL (I : Nat → Nat → Int64) (r : Nat) : Nat → Nat → Int64 := fun r' k' => if r' = r then 0 else I r' k'
def cpI (I : Nat → Nat → Int32) (a0 a sp dp n : Nat) : Nat → Nat → Int32 := fun r' k' => if r' = a ∧ dp ≤ k' ∧ k' < dp + n then I a0 (sp + (k' - dp)) else I r' k'
def jrem (x y : Int32) : Int32 := x - x / y * y
def jremL (x y : Int64) : Int64 := x - x / y * y
def jshl (x y : Int32) : Int32 := x <<< (y &&& 31)
def jshr (x y : Int32) : Int32 := x >>> (y &&& 31)
def jushr (x y : Int32) : Int32 := (x.toUInt32 >>> (y.toUInt32 &&& Int32.toUInt32 31)).toInt32
def jushrL (x : Int64) (y : Int32) : Int64 := (x.toUInt64 >>> (y.toInt64.toUInt64 &&& Int64.toUInt64 63)).toInt64
def jshlL (x : Int64) (y : Int32) : Int64 := x <<< (y.toInt64 &&& 63)
def jmax (x y : Int32) : Int32 := if x < y then y else x
def jmin (x y : Int32) : Int32 := if y < x then y else x
def jmaxL (x y : Int64) : Int64 := if y < x then x else y
def i2b (x : Int32) : Int32 := x.toInt8.toInt32
def gA (sh : SHL) (r : Nat) (K : Nat → Nat → List (Option Nat) → Prop) : Prop := match sh[r]? with
  | some q => K q.1 q.2.1 q.2.2
  | none => False
def cB (b : Bool) (P : Prop) : Prop := match b with
  | true => P
  | false => False
def oS (o : Option Nat) (K : Nat → Prop) : Prop := match o with
  | some a => K a
  | none => False
def fV (σ : MH) (r ci k : Nat) (refs : List (Option Nat)) (K : Value → Prop) : Prop := match clT ci k with
  | .long => K (.long (σ.2.2 r k))
  | .object _ => oS (refs.getD k none) (fun a => K (.ref a))
  | .array _ => oS (refs.getD k none) (fun a => K (.ref a))
  | .int => K (.int (σ.2.1 r k))
  | .boolean => K (.int (σ.2.1 r k))
  | _ => False
def fPr (σ : MH) (r ci k n : Nat) (refs : List (Option Nat)) (v : Value) (K : MH → Prop) : Prop := match v with
  | .ref a => K (σ.1.set r (ci, n, refs.set k (some a)), σ.2.1, σ.2.2)
  | _ => False
def fP (σ : MH) (r ci k n : Nat) (refs : List (Option Nat)) (v : Value) (K : MH → Prop) : Prop := match clT ci k with
  | .int => (match v with
    | .int x => K (σ.1, upI σ.2.1 r k x, σ.2.2)
    | _ => False)
  | .boolean => (match v with
    | .int x => (x = 0 ∨ x = 1) ∧ K (σ.1, upI σ.2.1 r k x, σ.2.2)
    | _ => False)
  | .long => (match v with
    | .long x => K (σ.1, σ.2.1, upL σ.2.2 r k x)
    | _ => False)
  | .object _ => cB (Nat.blt k refs.length) (fPr σ r ci k n refs v K)
  | .array _ => cB (Nat.blt k refs.length) (fPr σ r ci k n refs v K)
  | _ => False
def finF (ci k : Nat) : Bool := ((vwCl.getD ci (RX0, TX0, 0)).2.1 k).2.2.2
def finOK (y ci k : Nat) : Bool := match finF ci k with
  | false => true
  | true => Nat.beq (yK y) 2 && Nat.beq (yO y) ci
def cats : List Value → Nat
  | [] => 0
  | v :: l => v.category + cats l
def takeA : Nat → List Value → List Value → (List Value → List Value → Prop) → Prop
  | 0, st, acc, K => K acc st
  | n + 1, v :: st, acc, K => takeA n st (v :: acc) K
  | _ + 1, [], _, _ => False
def cnd (c : ClassFile.Cond) (x y : Int32) (A B : Prop) : Prop := match c with
  | .eq => (x = y → A) ∧ (¬ x = y → B)
  | .ne => (¬ x = y → A) ∧ (x = y → B)
  | .lt => (x < y → A) ∧ (¬ x < y → B)
  | .ge => (y ≤ x → A) ∧ (¬ y ≤ x → B)
  | .gt => (y < x → A) ∧ (¬ y < x → B)
  | .le => (x ≤ y → A) ∧ (¬ x ≤ y → B)
def swc (x : Int32) (K : Nat → Prop) (df : Nat) : List (Int32 × Nat) → Prop
  | [] => K df
  | (v, t) :: l => (x = v → K t) ∧ (¬ x = v → swc x K df l)
def cmpT (t : Nat) : Nat := match t with
  | 15 => 0
  | 16 => 7
  | _ => 8
def sp4 (a : Nat) (A B C D E : Prop) : Prop := match Nat.beq a 1001 with
  | true => A
  | false => match Nat.beq a 1002 with
    | true => B
    | false => match Nat.beq a 1003 with
      | true => C
      | false => match Nat.beq a 1004 with
        | true => D
        | false => E
abbrev KT : Type := Nat → Nat → List Value → List Value → MH → Prop
def tagNew (a : ArrayType) : Nat := match a with
  | .int => 12
  | .long => 13
  | .boolean => 14
  | _ => 99
def callC (G : GG) (y d k n pc : Nat) (L : List Value) (σ : MH) (Q : Option Value → MH → Prop) (y' : Nat) (A rest : List Value) : Prop :=
  cB (Nat.ble (cats rest) 8) (cB (Nat.blt y' NMT) (match yK y' with
    | 2 => (k + yMc y' ≤ yMc y ∧ n + yMs y' ≤ yMs y) ∧ MT G d y' A σ (fun v σ' => EV G y d (k + yMc y') (n + yMs y') (pc + 3) L (v.toList ++ rest) σ' Q)
    | _ => cB (Nat.beq (yMc y') 0 && Nat.beq (yMs y') 0) (True ∧ MT G d y' A σ (fun v σ' => EV G y d k n (pc + 3) L (v.toList ++ rest) σ' Q))))
def stp (G : GG) (y d : Nat) (ce : CE) (nx : KT) (jp : Nat → KT) (k n : Nat) (L st : List Value) (σ : MH) (Q : Option Value → MH → Prop) : Prop :=
  match ce.2.1 with
  | .iconst _ | .bipush _ | .sipush _ | .ldc _ | .ldc_w _ => (match ce.2.2.2.2.2.1 with
    | .int x => nx k n L (.int x :: st) σ
    | _ => False)
  | .lconst _ | .ldc2_w _ => (match ce.2.2.2.2.2.1 with
    | .long x => nx k n L (.long x :: st) σ
    | _ => False)
  | .iload_n j => getL L j (fun v => match v with
    | .int x => nx k n L (.int x :: st) σ
    | _ => False)
  | .iload j => getL L j (fun v => match v with
    | .int x => nx k n L (.int x :: st) σ
    | _ => False)
  | .lload_n j => getL L j (fun v => match v with
    | .long x => nx k n L (.long x :: st) σ
    | _ => False)
  | .lload j => getL L j (fun v => match v with
    | .long x => nx k n L (.long x :: st) σ
    | _ => False)
  | .aload_n j => getL L j (fun v => match v with
    | .ref x => nx k n L (.ref x :: st) σ
    | _ => False)
  | .aload j => getL L j (fun v => match v with
    | .ref x => nx k n L (.ref x :: st) σ
    | _ => False)
  | .istore_n j => pI st (fun x r => st1 L j (.int x) (fun L' => nx k n L' r σ))
  | .istore j => pI st (fun x r => st1 L j (.int x) (fun L' => nx k n L' r σ))
  | .lstore_n j => pJ st (fun x r => st2 L j (.long x) (fun L' => nx k n L' r σ))
  | .lstore j => pJ st (fun x r => st2 L j (.long x) (fun L' => nx k n L' r σ))
  | .astore_n j => pR st (fun x r => st1 L j (.ref x) (fun L' => nx k n L' r σ))
  | .astore j => pR st (fun x r => st1 L j (.ref x) (fun L' => nx k n L' r σ))
  | .iinc j _ => getL L j (fun v => match v, ce.2.2.2.2.2.1 with
    | .int x, .int c => st1 L j (.int (x + c)) (fun L' => nx k n L' st σ)
    | _, _ => False)
  | .iadd => pII st (fun x y r => nx k n L (.int (x + y) :: r) σ)
  | .isub => pII st (fun x y r => nx k n L (.int (x - y) :: r) σ)
  | .imul => pII st (fun x y r => nx k n L (.int (x * y) :: r) σ)
  | .iand => pII st (fun x y r => nx k n L (.int (x &&& y) :: r) σ)
  | .ior => pII st (fun x y r => nx k n L (.int (x ||| y) :: r) σ)
  | .ixor => pII st (fun x y r => nx k n L (.int (x ^^^ y) :: r) σ)
  | .ishl => pII st (fun x y r => nx k n L (.int (jshl x y) :: r) σ)
  | .ishr => pII st (fun x y r => nx k n L (.int (jshr x y) :: r) σ)
  | .iushr => pII st (fun x y r => nx k n L (.int (jushr x y) :: r) σ)
  | .idiv => pII st (fun x y r => (¬ y = 0) ∧ nx k n L (.int (x / y) :: r) σ)
  | .irem => pII st (fun x y r => (¬ y = 0) ∧ nx k n L (.int (jrem x y) :: r) σ)
  | .ineg => pI st (fun x r => nx k n L (.int (-x) :: r) σ)
  | .i2l => pI st (fun x r => nx k n L (.long x.toInt64 :: r) σ)
  | .i2b => pI st (fun x r => nx k n L (.int (i2b x) :: r) σ)
  | .l2i => pJ st (fun x r => nx k n L (.int x.toInt32 :: r) σ)
  | .ladd => pJJ st (fun x y r => nx k n L (.long (x + y) :: r) σ)
  | .lsub => pJJ st (fun x y r => nx k n L (.long (x - y) :: r) σ)
  | .lmul => pJJ st (fun x y r => nx k n L (.long (x * y) :: r) σ)
  | .lor => pJJ st (fun x y r => nx k n L (.long (x ||| y) :: r) σ)
  | .ldiv => pJJ st (fun x y r => (¬ y = 0) ∧ nx k n L (.long (x / y) :: r) σ)
  | .lrem => pJJ st (fun x y r => (¬ y = 0) ∧ nx k n L (.long (jremL x y) :: r) σ)
  | .lshl => pIJ st (fun x y r => nx k n L (.long (jshlL x y) :: r) σ)
  | .lushr => pIJ st (fun x y r => nx k n L (.long (jushrL x y) :: r) σ)
  | .lcmp => pJJ st (fun x y r => nx k n L (.int (lg_cmp x y) :: r) σ)
  | .dup => pV st (fun v r => nx k n L (v :: v :: r) σ)
  | .pop => pV st (fun _ r => nx k n L r σ)
  | .dup2 => pDup2 st (fun r => nx k n L r σ)
  | .goto _ => jp ce.2.2.2.1 k n L st σ
  | .ifCond c _ => pI st (fun x r => cnd c x 0 (jp ce.2.2.2.1 k n L r σ) (nx k n L r σ))
  | .if_icmp c _ => pII st (fun x y r => cnd c x y (jp ce.2.2.2.1 k n L r σ) (nx k n L r σ))
  | .tableswitch _ _ _ _ => pI st (fun x r => swc x (fun t => jp t k n L r σ) ce.2.2.2.1 ce.2.2.2.2.2.2)
  | .lookupswitch _ _ => pI st (fun x r => swc x (fun t => jp t k n L r σ) ce.2.2.2.1 ce.2.2.2.2.2.2)
  | .getstatic _ => nx k n L (.ref ce.2.2.2.1 :: st) σ
  | .getfield _ => pR st (fun a r => gA σ.1 a (fun t _ refs => cB (Nat.beq t ce.2.2.2.1) (fV σ a ce.2.2.2.1 ce.2.2.2.2.1 refs (fun v => nx k n L (v :: r) σ))))
  | .putfield _ => pVR st (fun v a r => gA σ.1 a (fun t n' refs => cB (Nat.beq t ce.2.2.2.1) (cB (finOK y ce.2.2.2.1 ce.2.2.2.2.1) (fP σ a ce.2.2.2.1 ce.2.2.2.2.1 n' refs v (fun σ' => nx k n L r σ')))))
  | .iaload => pIR st (fun i a r => gA σ.1 a (fun t n' _ => cB (Nat.beq t 12 || Nat.beq t 20) (vp_in i n' ∧ nx k n L (.int (σ.2.1 a i.toNatClampNeg) :: r) σ)))
  | .baload => pIR st (fun i a r => gA σ.1 a (fun t n' _ => cB (Nat.beq t 14) (vp_in i n' ∧ nx k n L (.int (σ.2.1 a i.toNatClampNeg) :: r) σ)))
  | .laload => pIR st (fun i a r => gA σ.1 a (fun t n' _ => cB (Nat.beq t 13) (vp_in i n' ∧ nx k n L (.long (σ.2.2 a i.toNatClampNeg) :: r) σ)))
  | .aaload => pIR st (fun i a r => gA σ.1 a (fun t n' refs => cB (Nat.ble 15 t && Nat.ble t 17) (vp_in i n' ∧ oS (refs.getD i.toNatClampNeg none) (fun b => nx k n L (.ref b :: r) σ))))
  | .iastore => pIIR st (fun x i a r => gA σ.1 a (fun t n' _ => cB (Nat.beq t 12) (vp_in i n' ∧ nx k n L r (σ.1, upI σ.2.1 a i.toNatClampNeg x, σ.2.2))))
  | .bastore => pIIR st (fun x i a r => gA σ.1 a (fun t n' _ => cB (Nat.beq t 14) ((vp_in i n' ∧ (x = 0 ∨ x = 1)) ∧ nx k n L r (σ.1, upI σ.2.1 a i.toNatClampNeg x, σ.2.2))))
  | .lastore => pJIR st (fun x i a r => gA σ.1 a (fun t n' _ => cB (Nat.beq t 13) (vp_in i n' ∧ nx k n L r (σ.1, σ.2.1, upL σ.2.2 a i.toNatClampNeg x))))
  | .aastore => pRIR st (fun b i a r => gA σ.1 a (fun t n' refs => cB (Nat.ble 15 t && Nat.ble t 17) (gA σ.1 b (fun t2 _ _ => cB (Nat.beq t2 (cmpT t)) (cB (Nat.beq refs.length n') (vp_in i n' ∧ nx k n L r (σ.1.set a (t, n', refs.set i.toNatClampNeg (some b)), σ.2.1, σ.2.2)))))))
  | .arraylength => pR st (fun a r => gA σ.1 a (fun t n' _ => cB (Nat.ble 12 t) (nx k n L (.int (Int32.ofNat n') :: r) σ)))
  | .new _ => cB (Nat.blt ce.2.2.2.1 12) ((k + 1 ≤ yMc y ∧ n + clN ce.2.2.2.1 ≤ yMs y) ∧ nx (k + 1) (n + clN ce.2.2.2.1) L (.ref σ.1.length :: st) (σ.1 ++ [(ce.2.2.2.1, clN ce.2.2.2.1, List.replicate (clN ce.2.2.2.1) none)], zrI σ.2.1 σ.1.length, zrL σ.2.2 σ.1.length))
  | .newarray a => pI st (fun x r => cB (Nat.blt (tagNew a) 18) ((¬ x < 0 ∧ x.toNatClampNeg ≤ 65536 ∧ k + 1 ≤ yMc y ∧ n + x.toNatClampNeg ≤ yMs y) ∧ nx (k + 1) (n + x.toNatClampNeg) L (.ref σ.1.length :: r) (σ.1 ++ [(tagNew a, x.toNatClampNeg, [])], zrI σ.2.1 σ.1.length, zrL σ.2.2 σ.1.length)))
  | .anewarray _ => pI st (fun x r => (¬ x < 0 ∧ x.toNatClampNeg ≤ 65536 ∧ k + 1 ≤ yMc y ∧ n + x.toNatClampNeg ≤ yMs y) ∧ nx (k + 1) (n + x.toNatClampNeg) L (.ref σ.1.length :: r) (σ.1 ++ [(ce.2.2.2.1, x.toNatClampNeg, List.replicate x.toNatClampNeg none)], zrI σ.2.1 σ.1.length, zrL σ.2.2 σ.1.length))
  | .invokespecial _ => (match Nat.beq ce.2.2.2.1 1000 with
    | true => pR st (fun _ r => cB (Nat.ble (cats r) 8) (nx k n L r σ))
    | false => cB (Nat.beq (yK ce.2.2.2.1) 2) (takeA (yNp ce.2.2.2.1) st [] (fun A r => pR r (fun b r' => callC G y d k n ce.1 L σ Q ce.2.2.2.1 (.ref b :: A) r'))))
  | .invokevirtual _ => cB (Nat.beq (yK ce.2.2.2.1) 1) (takeA (yNp ce.2.2.2.1) st [] (fun A r => pR r (fun b r' => gA σ.1 b (fun t _ _ => cB (Nat.beq t (yO ce.2.2.2.1)) (callC G y d k n ce.1 L σ Q ce.2.2.2.1 (.ref b :: A) r')))))
  | .invokestatic _ => sp4 ce.2.2.2.1
      (pCp st (fun m dp a sp a0 r => gA σ.1 a0 (fun t0 n0 _ => gA σ.1 a (fun t1 n1 _ => cB (Nat.beq t0 12 && (Nat.beq t1 12 && Nat.ble (cats r) 8))
        ((¬ sp < 0 ∧ ¬ dp < 0 ∧ ¬ m < 0 ∧ sp.toNatClampNeg + m.toNatClampNeg ≤ n0 ∧ dp.toNatClampNeg + m.toNatClampNeg ≤ n1) ∧ nx k n L r (σ.1, cpI σ.2.1 a0 a sp.toNatClampNeg dp.toNatClampNeg m.toNatClampNeg, σ.2.2))))))
      (pII st (fun x y r => cB (Nat.ble (cats r) 8) (nx k n L (.int (jmax x y) :: r) σ)))
      (pJJ st (fun x y r => cB (Nat.ble (cats r) 8) (nx k n L (.long (jmaxL x y) :: r) σ)))
      (pII st (fun x y r => cB (Nat.ble (cats r) 8) (nx k n L (.int (jmin x y) :: r) σ)))
      (cB (Nat.beq (yK ce.2.2.2.1) 0) (takeA (yNp ce.2.2.2.1) st [] (fun A r => callC G y d k n ce.1 L σ Q ce.2.2.2.1 A r)))
  | .ireturn => (match st with
    | [.int x] => (match yR y with
      | some .boolean => (x = 0 ∨ x = 1) ∧ Q (some (.int x)) σ
      | some .int => True ∧ Q (some (.int x)) σ
      | _ => False)
    | _ => False)
  | .lreturn => (match st with
    | [.long x] => (match yR y with
      | some .long => True ∧ Q (some (.long x)) σ
      | _ => False)
    | _ => False)
  | .return_ => (match st with
    | [] => (match yR y with
      | none => True ∧ Q none σ
      | _ => False)
    | _ => False)
  | _ => False
def pcH (rem : List CE) : Nat := match rem with
  | ce :: _ => ce.1
  | [] => 0
def inN (x : Nat) : List Nat → Bool
  | [] => false
  | a :: l => Nat.beq x a || inN x l
def findC : List CE → Nat → (List CE → Prop) → Prop
  | [], _, _ => False
  | ce :: l, t, K => match Nat.beq ce.1 t with
    | true => K (ce :: l)
    | false => findC l t K
def leaf (G : GG) (y d : Nat) (Q : Option Value → MH → Prop) (pc : Nat) : KT := fun k n L st σ => True ∧ EV G y d k n pc L st σ Q
def nxK (G : GG) (y d : Nat) (Q : Option Value → MH → Prop) (cuts : List Nat) (W0 : List CE → KT) (pc len : Nat) (rem' : List CE) : KT := fun k n L st σ =>
  match inN (pc + len) cuts with
  | true => True ∧ EV G y d k n (pc + len) L st σ Q
  | false => cB (Nat.beq (pcH rem') (pc + len)) (W0 rem' k n L st σ)
def jpK (G : GG) (y d : Nat) (Q : Option Value → MH → Prop) (cuts : List Nat) (C : List CE) (W0 : List CE → KT) (pc : Nat) : Nat → KT := fun t k n L st σ =>
  match Nat.ble t pc || inN t cuts with
  | true => True ∧ EV G y d k n t L st σ Q
  | false => findC C t (fun r => W0 r k n L st σ)
def wp (G : GG) (y d : Nat) (Q : Option Value → MH → Prop) (cuts : List Nat) (C : List CE) : Nat → List CE → KT
  | 0, rem, k, n, L, st, σ => True ∧ EV G y d k n (pcH rem) L st σ Q
  | f + 1, rem, k, n, L, st, σ => match rem with
    | [] => False
    | ce :: rem' => stp G y d ce (nxK G y d Q cuts (wp G y d Q cuts C f) ce.1 ce.2.2.1 rem') (jpK G y d Q cuts C (wp G y d Q cuts C f) ce.1) k n L st σ Q
