/-! A small machine over a typed memory: what a method does, said without the heap. Values: an int, a long, a reference (class, which object of it, part: 0 the object itself, k + 1 the array in its field k). -/
abbrev zV : Type := Int32 ⊕ Int64 ⊕ Option (Nat × Nat × Nat)
abbrev zM : Type := (Nat → Nat → Nat → Nat → Int32) × (Nat → Nat → Nat → Nat → Int64)
abbrev zi (x : Int32) : zV := .inl x
abbrev zl (x : Int64) : zV := .inr (.inl x)
abbrev zo (c t f : Nat) : zV := .inr (.inr (some (c, t, f)))
abbrev zn : zV := .inr (.inr none)
/-- the locals by their places -/
abbrev zL : Type := List (Option zV)
def zld : zL → Nat → Option zV
  | [], _ => none
  | x :: _, 0 => x
  | _ :: L, i + 1 => zld L i
def zdl (x : Option zV) : Option zV := match x with
  | some (.inr (.inl _)) => none
  | y => y
def zset : zL → Nat → zV → zL
  | [], _, _ => []
  | x :: L, i, v => match i with
    | 0 => some v :: L
    | 1 => zdl x :: zset L 0 v
    | j + 2 => x :: zset L (j + 1) v
def zclr : zL → Nat → zL
  | [], _ => []
  | _ :: L, 0 => none :: L
  | x :: L, i + 1 => x :: zclr L i
def zw (M : zM) (c t f i : Nat) (x : Int32) : zM := (fun c' t' f' i' => if c' = c ∧ t' = t ∧ f' = f ∧ i' = i then x else M.1 c' t' f' i', M.2)
def zwl (M : zM) (c t f i : Nat) (x : Int64) : zM := (M.1, fun c' t' f' i' => if c' = c ∧ t' = t ∧ f' = f ∧ i' = i then x else M.2 c' t' f' i')
/-- a stretch of the array (c0, t0, f0) into the array (c, t, f) -/
def zcp (M : zM) (c0 t0 f0 c t f sp dp n : Nat) : zM := (fun c' t' f' i' => if c' = c ∧ t' = t ∧ f' = f then va_cpy (M.1 c0 t0 f0) (M.1 c t f) sp dp n i' else M.1 c' t' f' i', M.2)
/-- what field k of an object holds -/
def zfv (c t k : Nat) (M : zM) : zV := match zar c (k + 1) with
  | some _ => zo c t (k + 1)
  | none => match zob c k with
    | some q => zo q.1 q.2 0
    | none => bif zlg c k then zl (M.2 c t 0 k) else zi (M.1 c t 0 k)
def zbl (x : Int32) : Prop := x = 0 ∨ x = 1
def zpop : Nat → List zV → List zV → Option (List zV × List zV)
  | 0, st, acc => some (acc, st)
  | n + 1, v :: st, acc => zpop n st (v :: acc)
  | _ + 1, [], _ => none
def zwd1 (v : zV) : Nat := match v with
  | .inr (.inl _) => 2
  | _ => 1
def zwds : List zV → Nat
  | [] => 0
  | v :: st => zwd1 v + zwds st
def ztsw (x : Int32) (pc : Nat) : Int → List Int → (Nat → Prop) → Prop
  | _, [], _ => True
  | lo, o :: os, k => (x.toInt = lo → k ((pc : Int) + o).toNat) ∧ ztsw x pc (lo + 1) os k
abbrev zK : Type := Nat → zL → List zV → zM → Prop
abbrev zQ : Type := Option zV → zM → Prop
abbrev zE : Type := Nat → List zV → zM → zQ → Prop
/-- an int is loaded -/
def zsti (L : zL) (i : Nat) (k : Int32 → Prop) : Prop := match zld L i with
  | some (.inl x) => k x
  | _ => False
def zstl (L : zL) (i : Nat) (k : Int64 → Prop) : Prop := match zld L i with
  | some (.inr (.inl x)) => k x
  | _ => False
def zsta (L : zL) (i : Nat) (k : Option (Nat × Nat × Nat) → Prop) : Prop := match zld L i with
  | some (.inr (.inr r)) => k r
  | _ => False
def zs1 (st : List zV) (k : Int32 → List zV → Prop) : Prop := match st with
  | .inl x :: r => k x r
  | _ => False
def zs2 (st : List zV) (k : Int32 → Int32 → List zV → Prop) : Prop := match st with
  | .inl y :: .inl x :: r => k x y r
  | _ => False
def zsl2 (st : List zV) (k : Int64 → Int64 → List zV → Prop) : Prop := match st with
  | .inr (.inl y) :: .inr (.inl x) :: r => k x y r
  | _ => False
def zrcv (c : Nat) (as : List zV) : Bool := match as with
  | .inr (.inr (some (c', _, 0))) :: _ => Nat.beq c' c
  | _ => false
def zcall (vi : Bool) (a b : Nat) (z : Int) (pc : Nat) (L : zL) (st : List zV) (M : zM) (E : zE) (K : zK) : Prop := match zpop b st [] with
  | none => False
  | some (as, r) => bif Nat.ble (zwds r) 8 && (!vi || zrcv (zm a).1 as) then
      (match z with
      | 0 => E a as M (fun o M' => o = none ∧ K (pc + 3) L r M')
      | 1 => E a as M (fun o M' => ∃ x, o = some (zi x) ∧ K (pc + 3) L (zi x :: r) M')
      | 2 => E a as M (fun o M' => ∃ x, o = some (zl x) ∧ K (pc + 3) L (zl x :: r) M')
      | _ => E a as M (fun o M' => (o = some zn ∧ K (pc + 3) L (zn :: r) M') ∨ ∃ t, o = some (zo 7 t 0) ∧ K (pc + 3) L (zo 7 t 0 :: r) M'))
    else False
def zstep (i : Instr) (a b : Nat) (z : Int) (pc : Nat) (L : zL) (st : List zV) (M : zM) (E : zE) (Q : zQ) (K : zK) : Prop := match i with
  | .iload_n n => zsti L n.val fun x => K (pc + 1) L (zi x :: st) M
  | .iload n => zsti L n fun x => K (pc + 2) L (zi x :: st) M
  | .lload_n n => zstl L n.val fun x => K (pc + 1) L (zl x :: st) M
  | .lload n => zstl L n fun x => K (pc + 2) L (zl x :: st) M
  | .aload_n n => zsta L n.val fun x => K (pc + 1) L (.inr (.inr x) :: st) M
  | .aload n => zsta L n fun x => K (pc + 2) L (.inr (.inr x) :: st) M
  | .istore_n n => zs1 st fun x r => bif Nat.blt n.val L.length then K (pc + 1) (zset L n.val (zi x)) r M else False
  | .istore n => zs1 st fun x r => bif Nat.blt n L.length then K (pc + 2) (zset L n (zi x)) r M else False
  | .lstore_n n => (match st with
    | .inr (.inl x) :: r => bif Nat.blt (n.val + 1) L.length then K (pc + 1) (zclr (zset L n.val (zl x)) (n.val + 1)) r M else False
    | _ => False)
  | .lstore n => (match st with
    | .inr (.inl x) :: r => bif Nat.blt (n + 1) L.length then K (pc + 2) (zclr (zset L n (zl x)) (n + 1)) r M else False
    | _ => False)
  | .astore_n n => (match st with
    | .inr (.inr x) :: r => bif Nat.blt n.val L.length then K (pc + 1) (zset L n.val (.inr (.inr x))) r M else False
    | _ => False)
  | .astore n => (match st with
    | .inr (.inr x) :: r => bif Nat.blt n L.length then K (pc + 2) (zset L n (.inr (.inr x))) r M else False
    | _ => False)
  | .iinc n d => bif Nat.blt n L.length then zsti L n fun x => K (pc + 3) (zset L n (zi (x + Int32.ofInt d))) st M else False
  | .iconst n => K (pc + 1) L (zi (Int32.ofInt n) :: st) M
  | .bipush n => K (pc + 2) L (zi (Int32.ofInt n) :: st) M
  | .sipush n => K (pc + 3) L (zi (Int32.ofInt n) :: st) M
  | .lconst n => K (pc + 1) L (zl (Int64.ofNat n.val) :: st) M
  | .ldc _ => (match b with
    | 0 => K (pc + 2) L (zi (Int32.ofInt z) :: st) M
    | _ => False)
  | .ldc_w _ => K (pc + 3) L (zi (Int32.ofInt z) :: st) M
  | .ldc2_w _ => K (pc + 3) L (zl (Int64.ofInt z) :: st) M
  | .aconst_null => K (pc + 1) L (zn :: st) M
  | .iadd => zs2 st fun x y r => K (pc + 1) L (zi (x + y) :: r) M
  | .isub => zs2 st fun x y r => K (pc + 1) L (zi (x - y) :: r) M
  | .imul => zs2 st fun x y r => K (pc + 1) L (zi (x * y) :: r) M
  | .idiv => zs2 st fun x y r => ¬ y = 0 ∧ K (pc + 1) L (zi (x / y) :: r) M
  | .irem => zs2 st fun x y r => ¬ y = 0 ∧ K (pc + 1) L (zi (x - x / y * y) :: r) M
  | .iand => zs2 st fun x y r => K (pc + 1) L (zi (x &&& y) :: r) M
  | .ior => zs2 st fun x y r => K (pc + 1) L (zi (x ||| y) :: r) M
  | .ixor => zs2 st fun x y r => K (pc + 1) L (zi (x ^^^ y) :: r) M
  | .ishl => zs2 st fun x y r => K (pc + 1) L (zi (x <<< (y &&& 31)) :: r) M
  | .ishr => zs2 st fun x y r => K (pc + 1) L (zi (x >>> (y &&& 31)) :: r) M
  | .iushr => zs2 st fun x y r => K (pc + 1) L (zi ((x.toUInt32 >>> (y.toUInt32 &&& Int32.toUInt32 31)).toInt32) :: r) M
  | .ineg => zs1 st fun x r => K (pc + 1) L (zi (-x) :: r) M
  | .i2l => zs1 st fun x r => K (pc + 1) L (zl x.toInt64 :: r) M
  | .i2b => zs1 st fun x r => K (pc + 1) L (zi x.toInt8.toInt32 :: r) M
  | .ladd => zsl2 st fun x y r => K (pc + 1) L (zl (x + y) :: r) M
  | .lsub => zsl2 st fun x y r => K (pc + 1) L (zl (x - y) :: r) M
  | .lmul => zsl2 st fun x y r => K (pc + 1) L (zl (x * y) :: r) M
  | .lcmp => zsl2 st fun x y r => K (pc + 1) L (zi (lg_cmp x y) :: r) M
  | .dup => (match st with
    | .inl x :: r => K (pc + 1) L (zi x :: zi x :: r) M
    | .inr (.inr x) :: r => K (pc + 1) L (.inr (.inr x) :: .inr (.inr x) :: r) M
    | _ => False)
  | .dup2 => (match st with
    | .inl x :: .inr (.inr y) :: r => K (pc + 1) L (zi x :: .inr (.inr y) :: zi x :: .inr (.inr y) :: r) M
    | _ => False)
  | .pop => (match st with
    | .inl _ :: r => K (pc + 1) L r M
    | .inr (.inr _) :: r => K (pc + 1) L r M
    | _ => False)
  | .goto _ => K a L st M
  | .ifCond c _ => (match c with
    | .eq => zs1 st fun x r => (x = 0 → K a L r M) ∧ (¬ x = 0 → K (pc + 3) L r M)
    | .ne => zs1 st fun x r => (¬ x = 0 → K a L r M) ∧ (x = 0 → K (pc + 3) L r M)
    | .lt => zs1 st fun x r => (x < 0 → K a L r M) ∧ (¬ x < 0 → K (pc + 3) L r M)
    | .ge => zs1 st fun x r => (0 ≤ x → K a L r M) ∧ (¬ 0 ≤ x → K (pc + 3) L r M)
    | .gt => zs1 st fun x r => (0 < x → K a L r M) ∧ (¬ 0 < x → K (pc + 3) L r M)
    | .le => zs1 st fun x r => (x ≤ 0 → K a L r M) ∧ (¬ x ≤ 0 → K (pc + 3) L r M))
  | .if_icmp c _ => (match c with
    | .eq => zs2 st fun x y r => (x = y → K a L r M) ∧ (¬ x = y → K (pc + 3) L r M)
    | .ne => zs2 st fun x y r => (¬ x = y → K a L r M) ∧ (x = y → K (pc + 3) L r M)
    | .lt => zs2 st fun x y r => (x < y → K a L r M) ∧ (¬ x < y → K (pc + 3) L r M)
    | .ge => zs2 st fun x y r => (y ≤ x → K a L r M) ∧ (¬ y ≤ x → K (pc + 3) L r M)
    | .gt => zs2 st fun x y r => (y < x → K a L r M) ∧ (¬ y < x → K (pc + 3) L r M)
    | .le => zs2 st fun x y r => (x ≤ y → K a L r M) ∧ (¬ x ≤ y → K (pc + 3) L r M))
  | .ifnull _ => (match st with
    | .inr (.inr none) :: r => K a L r M
    | .inr (.inr (some _)) :: r => K (pc + 3) L r M
    | _ => False)
  | .ifnonnull _ => (match st with
    | .inr (.inr none) :: r => K (pc + 3) L r M
    | .inr (.inr (some _)) :: r => K a L r M
    | _ => False)
  | .tableswitch d lo _ offs => zs1 st fun x r => ((x.toInt < lo ∨ lo + offs.toList.length ≤ x.toInt) → K ((pc : Int) + d).toNat L r M) ∧ ztsw x pc lo offs.toList (fun t => K t L r M)
  | .getfield _ => (match st with
    | .inr (.inr (some (c, t, 0))) :: r => bif Nat.beq c a then K (pc + 3) L (zfv a t b M :: r) M else False
    | _ => False)
  | .putfield _ => (match st with
    | .inl x :: .inr (.inr (some (c, t, 0))) :: r => bif Nat.beq c a then (match z with
      | 0 => K (pc + 3) L r (zw M a t 0 b x)
      | 1 => zbl x ∧ K (pc + 3) L r (zw M a t 0 b x)
      | _ => False) else False
    | .inr (.inl x) :: .inr (.inr (some (c, t, 0))) :: r => bif Nat.beq c a then (match z with
      | 2 => K (pc + 3) L r (zwl M a t 0 b x)
      | _ => False) else False
    | _ => False)
  | .iaload => (match st with
    | .inl i :: .inr (.inr (some (c, t, f))) :: r => (match zar c f with
      | some (0, n) => vp_in i n ∧ K (pc + 1) L (zi (M.1 c t f i.toNatClampNeg) :: r) M
      | _ => False)
    | _ => False)
  | .baload => (match st with
    | .inl i :: .inr (.inr (some (c, t, f))) :: r => (match zar c f with
      | some (2, n) => vp_in i n ∧ K (pc + 1) L (zi (M.1 c t f i.toNatClampNeg) :: r) M
      | some (3, n) => vp_in i n ∧ K (pc + 1) L (zi (M.1 c t f i.toNatClampNeg) :: r) M
      | _ => False)
    | _ => False)
  | .laload => (match st with
    | .inl i :: .inr (.inr (some (c, t, f))) :: r => (match zar c f with
      | some (1, n) => vp_in i n ∧ K (pc + 1) L (zl (M.2 c t f i.toNatClampNeg) :: r) M
      | _ => False)
    | _ => False)
  | .aaload => (match st with
    | .inl i :: .inr (.inr (some (c, t, f))) :: r => (match zar c f with
      | some (4, n) => vp_in i n ∧ K (pc + 1) L (.inr (.inr (some (zrf c t i.toNatClampNeg))) :: r) M
      | _ => False)
    | _ => False)
  | .iastore => (match st with
    | .inl x :: .inl i :: .inr (.inr (some (c, t, f))) :: r => (match zar c f with
      | some (0, n) => vp_in i n ∧ K (pc + 1) L r (zw M c t f i.toNatClampNeg x)
      | _ => False)
    | _ => False)
  | .bastore => (match st with
    | .inl x :: .inl i :: .inr (.inr (some (c, t, f))) :: r => (match zar c f with
      | some (2, n) => vp_in i n ∧ K (pc + 1) L r (zw M c t f i.toNatClampNeg (vp_nar .boolean x))
      | some (3, n) => vp_in i n ∧ K (pc + 1) L r (zw M c t f i.toNatClampNeg (vp_nar .byte x))
      | _ => False)
    | _ => False)
  | .lastore => (match st with
    | .inr (.inl x) :: .inl i :: .inr (.inr (some (c, t, f))) :: r => (match zar c f with
      | some (1, n) => vp_in i n ∧ K (pc + 1) L r (zwl M c t f i.toNatClampNeg x)
      | _ => False)
    | _ => False)
  | .invokevirtual _ => bif Nat.blt a 1000 then zcall true a b z pc L st M E K else False
  | .invokestatic _ => bif Nat.blt a 1000 then zcall false a b z pc L st M E K else
      (match a with
      | 1000 => zs2 st fun x y r => bif Nat.ble (zwds r) 8 then K (pc + 3) L (zi (if x < y then y else x) :: r) M else False
      | 1001 => zs2 st fun x y r => bif Nat.ble (zwds r) 8 then K (pc + 3) L (zi (if x < y then x else y) :: r) M else False
      | 1002 => (match st with
        | .inl n :: .inl dp :: .inr (.inr (some (c, t, f))) :: .inl sp :: .inr (.inr (some (c0, t0, f0))) :: r => bif Nat.ble (zwds r) 8 then
            (match zar c0 f0, zar c f with
            | some (0, n0), some (0, n1) => ¬ sp < 0 ∧ ¬ dp < 0 ∧ ¬ n < 0 ∧ sp.toNatClampNeg + n.toNatClampNeg ≤ n0 ∧ dp.toNatClampNeg + n.toNatClampNeg ≤ n1 ∧ K (pc + 3) L r (zcp M c0 t0 f0 c t f sp.toNatClampNeg dp.toNatClampNeg n.toNatClampNeg)
            | some (3, n0), some (3, n1) => ¬ sp < 0 ∧ ¬ dp < 0 ∧ ¬ n < 0 ∧ sp.toNatClampNeg + n.toNatClampNeg ≤ n0 ∧ dp.toNatClampNeg + n.toNatClampNeg ≤ n1 ∧ (∀ i, i < n.toNatClampNeg → fits .byte (.int (M.1 c0 t0 f0 (sp.toNatClampNeg + i))) = true) ∧ K (pc + 3) L r (zcp M c0 t0 f0 c t f sp.toNatClampNeg dp.toNatClampNeg n.toNatClampNeg)
            | _, _ => False) else False
        | _ => False)
      | _ => False)
  | .ireturn => (match st with
    | [.inl x] => (match z with
      | 0 => Q (some (zi x)) M
      | _ => zbl x ∧ Q (some (zi x)) M)
    | _ => False)
  | .lreturn => (match st with
    | [.inr (.inl x)] => Q (some (zl x)) M
    | _ => False)
  | .areturn => (match st with
    | [.inr (.inr x)] => Q (some (.inr (.inr x))) M
    | _ => False)
  | .return_ => (match st with
    | [] => Q none M
    | _ => False)
  | _ => False
def zfind : List zRow → Nat → Option (Instr × Nat × Nat × Nat × Int)
  | [], _ => none
  | r :: t, pc => bif Nat.beq r.1 pc then some r.2 else zfind t pc
/-- where a stretch stops, and which locals live there -/
def zmask : List Bool → zL → zL
  | true :: bs, x :: L => x :: zmask bs L
  | false :: bs, _ :: L => none :: zmask bs L
  | _, L => L
def zstop : List (Nat × List Bool) → Nat → Option (List Bool)
  | [], _ => none
  | r :: t, pc => bif Nat.beq r.1 pc then some r.2 else zstop t pc
/-- the weakest that must hold at pc, so that the method goes on rightly: up to the stops K, or to its end Q -/
def zwp (tb : List zRow) (ss : List (Nat × List Bool)) (E : zE) (Q : zQ) (K : zK) : Nat → zK
  | 0, _, _, _, _ => False
  | n + 1, pc, L, st, M => match zfind tb pc with
    | none => False
    | some (i, _, a, b, z) => zstep i a b z pc L st M E Q (fun pc' L' st' M' => match zstop ss pc' with
      | some bs => K pc' (zmask bs L') st' M'
      | none => zwp tb ss E Q K n pc' L' st' M')
/-- what must be seen of a row of a table: the length, the links, the jump, the number -/
def zil (i : Instr) : Nat := match i with
  | .iload _ | .lload _ | .aload _ | .istore _ | .lstore _ | .astore _ | .bipush _ | .ldc _ => 2
  | .ldc_w _ | .getstatic _ | .iinc _ _ | .sipush _ | .ldc2_w _ | .goto _ | .ifCond _ _ | .if_icmp _ _ | .ifnull _ | .ifnonnull _ | .getfield _ | .putfield _ | .invokevirtual _ | .invokestatic _ => 3
  | .tableswitch _ _ _ _ => 0
  | _ => 1
def zroom (μ ν : Nat) : Bool := Nat.ble ((zm ν).2.2.2.2.2.2.2.1 + 1) (zm μ).2.2.2.2.2.2.2.1 && Nat.ble (8 + ((zm ν).2.2.1 + 11) + (zm ν).2.2.2.2.2.2.2.2) (zm μ).2.2.2.2.2.2.2.2
def zlk (μ : Nat) (r : zRow) : Bool := match r with
  | (pc, i, len, a, b, z) => (Nat.beq (zil i) 0 || Nat.beq len (zil i)) && (match i with
    | .getfield idx => (zflT.getD (zm μ).1 []).contains (idx, a, b) && Nat.blt b (zN a) && Nat.blt a 11
    | .putfield idx => (zflT.getD (zm μ).1 []).contains (idx, a, b) && Nat.blt b (zN a) && Nat.blt a 11 && !(zT a b).2.2.2 && (zar a (b + 1)).isNone && (zob a b).isNone && (match z with
      | 0 => decide (zty a b = .int) && !zlg a b
      | 1 => decide (zty a b = .boolean) && !zlg a b
      | _ => decide (zty a b = .long) && zlg a b)
    | .invokevirtual idx => !Nat.blt a 1000 || ((zmlT.getD (zm μ).1 []).contains (idx, a) && Nat.blt a znm && !(zm a).2.2.2.2.2.2.1 && Nat.beq b ((zm a).2.2.2.2.2.1 + 1) && zroom μ a)
    | .invokestatic idx => (Nat.blt a 1000 && (zmlT.getD (zm μ).1 []).contains (idx, a) && Nat.blt a znm && (zm a).2.2.2.2.2.2.1 && Nat.beq b (zm a).2.2.2.2.2.1 && zroom μ a) || (!Nat.blt a 1000 && (zslT.getD (zm μ).1 []).contains (idx, a) && Nat.ble 1 (zm μ).2.2.2.2.2.2.2.1 && Nat.ble 26 (zm μ).2.2.2.2.2.2.2.2)
    | .ifCond _ o => decide ((pc : Int) + o = (a : Int))
    | .if_icmp _ o => decide ((pc : Int) + o = (a : Int))
    | .goto o => decide ((pc : Int) + o = (a : Int))
    | .ifnull o => decide ((pc : Int) + o = (a : Int))
    | .ifnonnull o => decide ((pc : Int) + o = (a : Int))
    | .bipush n => decide ((Int8.ofInt n).toInt32 = Int32.ofInt n)
    | .sipush n => decide ((Int16.ofInt n).toInt32 = Int32.ofInt n)
    | .ldc idx => Nat.beq b 2 || (Nat.beq b 0 && (zciT.getD (zm μ).1 []).contains (idx, z))
    | .ldc_w idx => (zciT.getD (zm μ).1 []).contains (idx, z)
    | .ldc2_w idx => (zcLT.getD (zm μ).1 []).contains (idx, z)
    | .tableswitch d lo hi offs => decide (hi = lo + offs.toList.length - 1) && decide (0 ≤ (pc : Int) + d) && offs.toList.all (fun o => decide (0 ≤ (pc : Int) + o))
    | .ireturn => (match z with
      | 0 => decide ((zm μ).2.2.2.1 = some .int)
      | _ => decide ((zm μ).2.2.2.1 = some .boolean))
    | .lreturn => decide ((zm μ).2.2.2.1 = some .long)
    | .areturn => decide ((zm μ).2.2.2.1 = some (.object RX7))
    | .return_ => decide ((zm μ).2.2.2.1 = none)
    | _ => true)
def zrok (μ : Nat) (r : zRow) : Bool := decide (decode (zm μ).2.1 r.1 = .ok (r.2.1, r.2.2.1)) && zlk μ r
