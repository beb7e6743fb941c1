/-! THE SMALL MACHINE: a big-step reader of the same bytecode over a plain heap: what each cell holds is a function of its number.
    Cells are numbered 1, 2 .. as they are made; 0 is the law's script. -/
/-- cells made, slots made, the kind of each (0..8 an object of that class, 9 int[], 10 boolean[], 11.. rows of Clumping, Field, Halos), its length, what it refers to -/
abbrev jm_S : Type := Nat × Nat × (Nat → Nat) × (Nat → Nat) × (Nat → Nat → Option Nat)
/-- the shape, the ints (fields and elements), the longs -/
abbrev jm_T : Type := jm_S × (Nat → Nat → Int32) × (Nat → Nat → Int64)
abbrev jm_V : Type := List (Option Value)
abbrev jm_R : Type := Option Value × jm_T
/-- an instruction as it is read here: itself, its length, three numbers (jump, place, class, field, callee ..), an int, a long, a switch, the locals that are dead here -/
abbrev jm_I : Type := Instr × Nat × Nat × Nat × Nat × Int32 × Int64 × List (Int32 × Nat) × List Nat
/-- a method: its locals, what it gives back (0 nothing, 1 int, 2 boolean, 3 a reference), its code -/
abbrev jm_M : Type := Nat × Nat × List (Nat × jm_I)

def jm_fts : List (List Nat) := [[0, 0, 1, 1], [0, 0, 0, 1, 1], [3, 0, 1, 1], [0, 1, 1, 1, 1, 1, 1], [2], [1, 0, 0], [0, 0, 1, 1, 1, 1, 1, 1], [1, 1, 1, 1, 1, 1, 1, 1], [1, 1, 0, 2, 1, 1, 0, 1, 1, 1, 1, 0, 1, 1, 1, 1]]
def jm_ft (c k : Nat) : Nat := (jm_fts.getD c []).getD k 9
def jm_nf (c : Nat) : Nat := (jm_fts.getD c []).length
def jm_cn (c : Nat) : String := match c with
  | 0 => RX0 | 1 => RX1 | 2 => RX2 | 3 => RX3 | 4 => RX4 | 5 => RX5 | 6 => RX6 | 7 => RX7 | _ => RX8
def jm_cT (c : Nat) : u_T := match c with
  | 0 => TX0 | 1 => TX1 | 2 => TX2 | 3 => TX3 | 4 => TX4 | 5 => TX5 | 6 => TX6 | 7 => TX7 | _ => TX8
def jm_ty (c : Nat) : Nat → FieldType := match c with
  | 0 => tyX0 | 1 => tyX1 | 2 => tyX2 | 3 => tyX3 | 4 => tyX4 | 5 => tyX5 | 6 => tyX6 | 7 => tyX7 | _ => tyX8
def jm_cl : List vw_C := [(RX0, TX0, 4), (RX1, TX1, 5), (RX2, TX2, 4), (RX3, TX3, 7), (RX4, TX4, 1), (RX5, TX5, 3), (RX6, TX6, 8), (RX7, TX7, 8), (RX8, TX8, 16)]
/-- the class of the elements of a row of references -/
def jm_ec (k : Nat) : Nat := match k with
  | 11 => 0 | 12 => 1 | _ => 3

def jm_at : List (Nat × jm_I) → Nat → Option jm_I
  | [], _ => none
  | (k, i) :: r, pc => bif Nat.beq k pc then some i else jm_at r pc
def jm_lk (ls : jm_V) (i : Nat) : Option Value := match ls[i]? with
  | some (some v) => some v
  | _ => none
def jm_set : jm_V → Nat → Option Value → jm_V
  | [], _, _ => []
  | _ :: r, 0, v => v :: r
  | x :: r, i + 1, v => x :: jm_set r i v
/-- dead locals go -/
def jm_kl : List Nat → jm_V → jm_V
  | [], ls => ls
  | i :: r, ls => jm_kl r (jm_set ls i none)
/-- storing a value of one slot: a long that stood just ahead is broken -/
def jm_st1 (ls : jm_V) (i : Nat) (v : Value) : jm_V := match i with
  | 0 => jm_set ls 0 (some v)
  | j + 1 => match jm_lk ls j with
    | some (.long _) => jm_set (jm_set ls j none) (j + 1) (some v)
    | some (.double _) => jm_set (jm_set ls j none) (j + 1) (some v)
    | _ => jm_set ls (j + 1) (some v)
def jm_up (M : Nat → Nat → Int32) (a k : Nat) (v : Int32) : Nat → Nat → Int32 := va_up M a (upd (M a) k v)
def jm_upL (M : Nat → Nat → Int64) (a k : Nat) (v : Int64) : Nat → Nat → Int64 := va_up M a (vp_updL (M a) k v)
def jm_upR (M : Nat → Nat → Option Nat) (a k : Nat) (v : Option Nat) : Nat → Nat → Option Nat := va_up M a (va_up (M a) k v)
/-- cell a is there and is of this kind -/
def jm_is (S : jm_S) (a k : Nat) : Bool := Nat.blt 0 a && Nat.ble a S.1 && Nat.beq (S.2.2.1 a) k
/-- cell a is a row of references -/
def jm_ir (S : jm_S) (a : Nat) : Bool := Nat.blt 0 a && Nat.ble a S.1 && Nat.ble 11 (S.2.2.1 a) && Nat.ble (S.2.2.1 a) 13
def jm_inb (i : Int32) (n : Nat) : Bool := !(decide (i < 0)) && Nat.blt i.toNatClampNeg n
def jm_if (b : Bool) (x : Option jm_R) : Option jm_R := bif b then x else none
def jm_z1 (x : Int32) : Bool := decide (x = 0) || decide (x = 1)
def jm_c0 (c : Jvm.ClassFile.Cond) (x : Int32) : Bool := match c with
  | .eq => decide (x = 0) | .ne => !decide (x = 0) | .lt => decide (x < 0) | .ge => decide (0 ≤ x) | .gt => decide (0 < x) | .le => decide (x ≤ 0)
def jm_c2 (c : Jvm.ClassFile.Cond) (x y : Int32) : Bool := match c with
  | .eq => decide (x = y) | .ne => !decide (x = y) | .lt => decide (x < y) | .ge => decide (y ≤ x) | .gt => decide (y < x) | .le => decide (x ≤ y)
def jm_sw (k : Nat → Option jm_R) (x : Int32) (d : Nat) : List (Int32 × Nat) → Option jm_R
  | [] => k d
  | (c, q) :: r => bif decide (x = c) then k q else jm_sw k x d r
def jm_sum (st : List Value) : Nat := (st.map fun v => v.category).sum
/-- a new cell of a kind, of so many slots, of this length -/
def jm_nw (t : jm_T) (kind len slots : Nat) : jm_T := ((t.1.1 + 1, t.1.2.1 + slots, va_up t.1.2.2.1 (t.1.1 + 1) kind, va_up t.1.2.2.2.1 (t.1.1 + 1) len, va_up t.1.2.2.2.2 (t.1.1 + 1) (fun _ => none)), va_up t.2.1 (t.1.1 + 1) (fun _ => 0), va_up t.2.2 (t.1.1 + 1) (fun _ => 0))
def jm_en (n : Nat) (as : List Value) : jm_V := (as.flatMap fun v => match v.category with | 2 => [some v, none] | _ => [some v]) ++ List.replicate (n - (lg_sl as).length) none

/-- one instruction: k goes on in this method, C calls another -/
def jm_step (op : Instr) (u v w : Nat) (c : Int32) (cl : Int64) (ts : List (Int32 × Nat)) (d ret pc : Nat) (ls : jm_V) (st : List Value) (t : jm_T) (k : Nat → jm_V → List Value → jm_T → Option jm_R) (C : Nat → List Value → jm_T → Option jm_R) : Option jm_R := match op with
  | .iconst _ => k (pc + 1) ls (.int c :: st) t
  | .bipush _ => k (pc + 2) ls (.int c :: st) t
  | .sipush _ => k (pc + 3) ls (.int c :: st) t
  | .ldc _ => k (pc + 2) ls (.int c :: st) t
  | .ldc_w _ => k (pc + 3) ls (.int c :: st) t
  | .ldc2_w _ => k (pc + 3) ls (.long cl :: st) t
  | .lconst _ => k (pc + 1) ls (.long cl :: st) t
  | .iload _ => match jm_lk ls u with
    | some (.int x) => k (pc + 2) ls (.int x :: st) t
    | _ => none
  | .iload_n _ => match jm_lk ls u with
    | some (.int x) => k (pc + 1) ls (.int x :: st) t
    | _ => none
  | .lload _ => match jm_lk ls u with
    | some (.long x) => k (pc + 2) ls (.long x :: st) t
    | _ => none
  | .lload_n _ => match jm_lk ls u with
    | some (.long x) => k (pc + 1) ls (.long x :: st) t
    | _ => none
  | .aload _ => match jm_lk ls u with
    | some (.ref x) => k (pc + 2) ls (.ref x :: st) t
    | _ => none
  | .aload_n _ => match jm_lk ls u with
    | some (.ref x) => k (pc + 1) ls (.ref x :: st) t
    | _ => none
  | .istore _ => match st with
    | .int x :: st => k (pc + 2) (jm_st1 ls u (.int x)) st t
    | _ => none
  | .istore_n _ => match st with
    | .int x :: st => k (pc + 1) (jm_st1 ls u (.int x)) st t
    | _ => none
  | .astore _ => match st with
    | .ref x :: st => k (pc + 2) (jm_st1 ls u (.ref x)) st t
    | _ => none
  | .astore_n _ => match st with
    | .ref x :: st => k (pc + 1) (jm_st1 ls u (.ref x)) st t
    | _ => none
  | .iinc _ _ => match jm_lk ls u with
    | some (.int x) => k (pc + 3) (jm_st1 ls u (.int (x + c))) st t
    | _ => none
  | .iadd => match st with
    | .int y :: .int x :: st => k (pc + 1) ls (.int (x + y) :: st) t
    | _ => none
  | .isub => match st with
    | .int y :: .int x :: st => k (pc + 1) ls (.int (x - y) :: st) t
    | _ => none
  | .imul => match st with
    | .int y :: .int x :: st => k (pc + 1) ls (.int (x * y) :: st) t
    | _ => none
  | .iand => match st with
    | .int y :: .int x :: st => k (pc + 1) ls (.int (x &&& y) :: st) t
    | _ => none
  | .ior => match st with
    | .int y :: .int x :: st => k (pc + 1) ls (.int (x ||| y) :: st) t
    | _ => none
  | .ixor => match st with
    | .int y :: .int x :: st => k (pc + 1) ls (.int (x ^^^ y) :: st) t
    | _ => none
  | .ishl => match st with
    | .int y :: .int x :: st => k (pc + 1) ls (.int (x <<< (y &&& 31)) :: st) t
    | _ => none
  | .ishr => match st with
    | .int y :: .int x :: st => k (pc + 1) ls (.int (x >>> (y &&& 31)) :: st) t
    | _ => none
  | .iushr => match st with
    | .int y :: .int x :: st => k (pc + 1) ls (.int (x.toUInt32 >>> (y.toUInt32 &&& Int32.toUInt32 31)).toInt32 :: st) t
    | _ => none
  | .idiv => match st with
    | .int y :: .int x :: st => jm_if (!decide (y = 0)) (k (pc + 1) ls (.int (x / y) :: st) t)
    | _ => none
  | .irem => match st with
    | .int y :: .int x :: st => jm_if (!decide (y = 0)) (k (pc + 1) ls (.int (x - x / y * y) :: st) t)
    | _ => none
  | .lmul => match st with
    | .long y :: .long x :: st => k (pc + 1) ls (.long (x * y) :: st) t
    | _ => none
  | .lrem => match st with
    | .long y :: .long x :: st => jm_if (!decide (y = 0)) (k (pc + 1) ls (.long (x - x / y * y) :: st) t)
    | _ => none
  | .lcmp => match st with
    | .long y :: .long x :: st => k (pc + 1) ls (.int (lg_cmp x y) :: st) t
    | _ => none
  | .l2i => match st with
    | .long x :: st => k (pc + 1) ls (.int x.toInt32 :: st) t
    | _ => none
  | .i2l => match st with
    | .int x :: st => k (pc + 1) ls (.long x.toInt64 :: st) t
    | _ => none
  | .dup => match st with
    | x :: st => jm_if (Nat.beq x.category 1) (k (pc + 1) ls (x :: x :: st) t)
    | _ => none
  | .dup2 => match st with
    | x :: y :: st => jm_if (Nat.beq x.category 1 && Nat.beq y.category 1) (k (pc + 1) ls (x :: y :: x :: y :: st) t)
    | _ => none
  | .goto _ => k u ls st t
  | .ifCond q _ => match st with
    | .int x :: st => bif jm_c0 q x then k u ls st t else k (pc + 3) ls st t
    | _ => none
  | .if_icmp q _ => match st with
    | .int y :: .int x :: st => bif jm_c2 q x y then k u ls st t else k (pc + 3) ls st t
    | _ => none
  | .tableswitch _ _ _ _ => match st with
    | .int x :: st => jm_sw (fun q => k q ls st t) x u ts
    | _ => none
  | .lookupswitch _ _ => match st with
    | .int x :: st => jm_sw (fun q => k q ls st t) x u ts
    | _ => none
  | .getfield _ => match st with
    | .ref a :: st => jm_if (jm_is t.1 a u) (match jm_ft u v with
      | 1 => match t.1.2.2.2.2 a v with
        | some b => k (pc + 3) ls (.ref b :: st) t
        | none => none
      | 2 => k (pc + 3) ls (.long (t.2.2 a v) :: st) t
      | _ => k (pc + 3) ls (.int (t.2.1 a v) :: st) t)
    | _ => none
  | .putfield _ => match jm_ft u v with
    | 0 => match st with
      | .int x :: .ref a :: st => jm_if (jm_is t.1 a u) (k (pc + 3) ls st (t.1, jm_up t.2.1 a v x, t.2.2))
      | _ => none
    | 3 => match st with
      | .int x :: .ref a :: st => jm_if (jm_is t.1 a u && jm_z1 x) (k (pc + 3) ls st (t.1, jm_up t.2.1 a v x, t.2.2))
      | _ => none
    | 2 => match st with
      | .long x :: .ref a :: st => jm_if (jm_is t.1 a u) (k (pc + 3) ls st (t.1, t.2.1, jm_upL t.2.2 a v x))
      | _ => none
    | 1 => match st with
      | .ref x :: .ref a :: st => jm_if (jm_is t.1 a u) (k (pc + 3) ls st ((t.1.1, t.1.2.1, t.1.2.2.1, t.1.2.2.2.1, jm_upR t.1.2.2.2.2 a v (some x)), t.2.1, t.2.2))
      | _ => none
    | _ => none
  | .arraylength => match st with
    | .ref a :: st => jm_if ((Nat.beq w 1 && Nat.beq a 0) || (Nat.beq w 0 && jm_is t.1 a 9)) (k (pc + 1) ls (.int (Int32.ofNat (t.1.2.2.2.1 a)) :: st) t)
    | _ => none
  | .iaload => match st with
    | .int i :: .ref a :: st => jm_if (((Nat.beq w 1 && Nat.beq a 0) || (Nat.beq w 0 && jm_is t.1 a 9)) && jm_inb i (t.1.2.2.2.1 a)) (k (pc + 1) ls (.int (t.2.1 a i.toNatClampNeg) :: st) t)
    | _ => none
  | .baload => match st with
    | .int i :: .ref a :: st => jm_if (jm_is t.1 a 10 && jm_inb i (t.1.2.2.2.1 a)) (k (pc + 1) ls (.int (t.2.1 a i.toNatClampNeg) :: st) t)
    | _ => none
  | .iastore => match st with
    | .int x :: .int i :: .ref a :: st => jm_if (jm_is t.1 a 9 && jm_inb i (t.1.2.2.2.1 a)) (k (pc + 1) ls st (t.1, jm_up t.2.1 a i.toNatClampNeg x, t.2.2))
    | _ => none
  | .bastore => match st with
    | .int x :: .int i :: .ref a :: st => jm_if (jm_is t.1 a 10 && jm_inb i (t.1.2.2.2.1 a) && jm_z1 x) (k (pc + 1) ls st (t.1, jm_up t.2.1 a i.toNatClampNeg x, t.2.2))
    | _ => none
  | .aaload => match st with
    | .int i :: .ref a :: st => jm_if (jm_ir t.1 a && jm_inb i (t.1.2.2.2.1 a)) (match t.1.2.2.2.2 a i.toNatClampNeg with
      | some b => k (pc + 1) ls (.ref b :: st) t
      | none => none)
    | _ => none
  | .aastore => match st with
    | .ref b :: .int i :: .ref a :: st => jm_if (jm_ir t.1 a && jm_inb i (t.1.2.2.2.1 a) && jm_is t.1 b (jm_ec (t.1.2.2.1 a))) (k (pc + 1) ls st ((t.1.1, t.1.2.1, t.1.2.2.1, t.1.2.2.2.1, jm_upR t.1.2.2.2.2 a i.toNatClampNeg (some b)), t.2.1, t.2.2))
    | _ => none
  | .new _ => k (pc + 3) ls (.ref (t.1.1 + 1) :: st) (jm_nw t u 0 (jm_nf u))
  | .newarray _ => match st with
    | .int x :: st => jm_if (jm_inb x 10000) (k (pc + 2) ls (.ref (t.1.1 + 1) :: st) (jm_nw t u x.toNatClampNeg x.toNatClampNeg))
    | _ => none
  | .anewarray _ => match st with
    | .int x :: st => jm_if (jm_inb x 10000) (k (pc + 3) ls (.ref (t.1.1 + 1) :: st) (jm_nw t u x.toNatClampNeg x.toNatClampNeg))
    | _ => none
  | .invokevirtual _ => match (st.take v).reverse with
    | .ref a :: as => jm_if (Nat.ble (jm_sum (st.drop v)) 8 && Nat.beq as.length (v - 1) && jm_is t.1 a w) (match C u (.ref a :: as) t with
      | some r => k (pc + 3) ls (r.1.toList ++ st.drop v) r.2
      | none => none)
    | _ => none
  | .invokestatic _ => match w with
    | 7 => match st with
      | .int n :: .int dp :: .ref a :: .int sp :: .ref b :: st => jm_if (Nat.blt 0 d && Nat.ble (jm_sum st) 8 && jm_is t.1 a 9 && jm_is t.1 b 9 && !decide (n < 0) && !decide (dp < 0) && !decide (sp < 0) && Nat.ble (sp.toNatClampNeg + n.toNatClampNeg) (t.1.2.2.2.1 b) && Nat.ble (dp.toNatClampNeg + n.toNatClampNeg) (t.1.2.2.2.1 a))
        (k (pc + 3) ls st (t.1, va_up t.2.1 a (va_cpy (t.2.1 b) (t.2.1 a) sp.toNatClampNeg dp.toNatClampNeg n.toNatClampNeg), t.2.2))
      | _ => none
    | 8 => match st with
      | .int y :: .int x :: st => jm_if (Nat.blt 0 d && Nat.ble (jm_sum st) 8) (k (pc + 3) ls (.int (if x < y then y else x) :: st) t)
      | _ => none
    | 9 => match st with
      | .int y :: .int x :: st => jm_if (Nat.blt 0 d && Nat.ble (jm_sum st) 8) (k (pc + 3) ls (.int (if y < x then y else x) :: st) t)
      | _ => none
    | _ => jm_if (Nat.ble (jm_sum (st.drop v)) 8 && Nat.beq (st.take v).reverse.length v) (match C u (st.take v).reverse t with
      | some r => k (pc + 3) ls (r.1.toList ++ st.drop v) r.2
      | none => none)
  | .invokespecial _ => match w with
    | 7 => match st with
      | .ref _ :: st => jm_if (Nat.blt 0 d && Nat.ble (jm_sum st) 8) (k (pc + 3) ls st t)
      | _ => none
    | _ => match (st.take v).reverse with
      | .ref a :: as => jm_if (Nat.ble (jm_sum (st.drop v)) 8 && Nat.beq as.length (v - 1)) (match C u (.ref a :: as) t with
        | some r => k (pc + 3) ls (r.1.toList ++ st.drop v) r.2
        | none => none)
      | _ => none
  | .ireturn => match st with
    | [.int x] => match ret with
      | 1 => some (some (.int x), t)
      | 2 => jm_if (jm_z1 x) (some (some (.int x), t))
      | _ => none
    | _ => none
  | .areturn => match st with
    | [.ref a] => match ret with
      | 3 => some (some (.ref a), t)
      | _ => none
    | _ => none
  | .return_ => match st with
    | [] => match ret with
      | 0 => some (none, t)
      | _ => none
    | _ => none
  | _ => none

/-- a method's body from pc on, at most n instructions deep; d calls may stand open below it -/
def jm_run (G : Nat → jm_M) : Nat → Nat → jm_M → Nat → jm_V → List Value → jm_T → Option jm_R
  | 0, _, _, _, _, _, _ => none
  | n + 1, d, Y, pc, ls, st, t => match jm_at Y.2.2 pc with
    | none => none
    | some (op, _, u, v, w, c, cl, ts, kl) => jm_step op u v w c cl ts d Y.2.1 pc (jm_kl kl ls) st t (fun pc ls st t => jm_run G n d Y pc ls st t)
        (fun y as t => match d with
          | 0 => none
          | d + 1 => jm_if (Nat.ble (lg_sl as).length (G y).1) (jm_run G n d (G y) 0 (jm_en (G y).1 as) [] t))
