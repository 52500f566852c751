/-! ===== the small machine: shapes of cells, whole numbers in them; one step, a method's run, a call. What its runs say of the big machine: part 06 ===== -/
abbrev mV : Type := Int ⊕ (Int ⊕ (Nat ⊕ Value))
abbrev mSh : Type := (Nat × List (Option (Option Nat))) ⊕ (Nat × (Nat × List (Option Nat)))
abbrev mG : Type := Nat → Nat → Int
abbrev mM : Type := List mSh × (mG × (Nat × Nat))
abbrev mO : Type := (Option mV) ⊕ Nat
abbrev mI : Type := Nat × (Instr × (Nat × (Nat × (Nat × Nat))))
abbrev mL : Type := List (Option mV)
abbrev mS : Type := Nat × (mL × (List mV × mM))
abbrev mScr : Type := Nat × (Nat × (Nat → Int))
def w32 (z : Int) : Int := (Int32.ofInt z).toInt
def w64 (z : Int) : Int := (Int64.ofInt z).toInt
def up1 (f : Nat → Int) (i : Nat) (x : Int) : Nat → Int := fun j => bif Nat.beq j i then x else f j
def upG (G : mG) (a : Nat) (f : Nat → Int) : mG := fun b => bif Nat.beq b a then f else G b
def up2 (G : mG) (a i : Nat) (x : Int) : mG := upG G a (up1 (G a) i x)
def cpyF (f g : Nat → Int) (sp dp n : Nat) : Nat → Int := fun k => if dp ≤ k ∧ k < dp + n then f (sp + (k - dp)) else g k
def mcat : mV → Nat
  | .inl _ => 1
  | .inr (.inl _) => 2
  | .inr (.inr (.inl _)) => 1
  | .inr (.inr (.inr v)) => v.category
def mNar (o : Option mV) : Option mV := match o with
  | none => none
  | some v => match mcat v with
    | 1 => some v
    | _ => none
def mSt : mL → Nat → mV → mL
  | [], _, _ => []
  | _ :: r, 0, v => some v :: r
  | o :: r, 1, v => mNar o :: mSt r 0 v
  | o :: r, i + 2, v => o :: mSt r (i + 1) v
def mSt2 : mL → Nat → mV → mL
  | [], _, _ => []
  | _ :: [], 0, _ => []
  | _ :: _ :: r, 0, v => some v :: none :: r
  | o :: r, 1, v => mNar o :: mSt2 r 0 v
  | o :: r, i + 2, v => o :: mSt2 r (i + 1) v
-- comparisons, as the machine makes them on 32 bits
def ilt (a b : Int) : Bool := decide (w32 a < w32 b)
def ieq (a b : Int) : Bool := decide (w32 a = w32 b)
def mCmp (c : ClassFile.Cond) (a b : Int) : Bool := match c with
  | .eq => ieq a b
  | .ne => !(ieq a b)
  | .lt => ilt a b
  | .ge => !(ilt a b)
  | .gt => ilt b a
  | .le => !(ilt b a)
def lcmpI (a b : Int) : Int := if w64 a < w64 b then -1 else if w64 a = w64 b then 0 else 1
def iAnd (a b : Int) : Int := (Int32.ofInt a &&& Int32.ofInt b).toInt
def iOr (a b : Int) : Int := (Int32.ofInt a ||| Int32.ofInt b).toInt
def iXor (a b : Int) : Int := (Int32.ofInt a ^^^ Int32.ofInt b).toInt
def iShl (a b : Int) : Int := (Int32.ofInt a <<< (Int32.ofInt b &&& 31)).toInt
def iShr (a b : Int) : Int := (Int32.ofInt a >>> (Int32.ofInt b &&& 31)).toInt
def iUshr (a b : Int) : Int := (((Int32.ofInt a).toUInt32 >>> ((Int32.ofInt b).toUInt32 &&& Int32.toUInt32 31)).toInt32).toInt
def iDiv (a b : Int) : Int := Int.tdiv (w32 a) (w32 b)
def iRem (a b : Int) : Int := Int.tmod (w32 a) (w32 b)
def lAnd (a b : Int) : Int := (Int64.ofInt a &&& Int64.ofInt b).toInt
def lOr (a b : Int) : Int := (Int64.ofInt a ||| Int64.ofInt b).toInt
def lShl (a b : Int) : Int := (Int64.ofInt a <<< ((Int32.ofInt b).toInt64 &&& 63)).toInt
def lDiv (a b : Int) : Int := Int.tdiv (w64 a) (w64 b)
def lRem (a b : Int) : Int := Int.tmod (w64 a) (w64 b)
def iMax (a b : Int) : Int := if w32 a < w32 b then b else a
def iMin (a b : Int) : Int := if w32 b < w32 a then b else a
def n64 (r : UInt64) : Bool := decide (r &&& 0x7fffffffffffffff ≤ 0x7ff0000000000000)
def n32 (r : UInt32) : Bool := decide (r &&& 0x7fffffff ≤ 0x7f800000)
def mBin (f : Int → Int → Int) : List mV → Option (List mV)
  | .inl b :: .inl a :: r => some (.inl (f a b) :: r)
  | _ => none
def mBinL (f : Int → Int → Int) : List mV → Option (List mV)
  | .inr (.inl b) :: .inr (.inl a) :: r => some (.inr (.inl (f a b)) :: r)
  | _ => none
def mBinD (f : Int → Int → Int) : List mV → Option (List mV)
  | .inl b :: .inl a :: r => bif ieq b 0 then none else some (.inl (f a b) :: r)
  | _ => none
def mBinLD (f : Int → Int → Int) : List mV → Option (List mV)
  | .inr (.inl b) :: .inr (.inl a) :: r => bif decide (w64 b = 0) then none else some (.inr (.inl (f a b)) :: r)
  | _ => none
def mLdI (ls : mL) (i : Nat) (st : List mV) : Option (List mV) := match ls[i]? with
  | some (some (.inl z)) => some (.inl z :: st)
  | _ => none
def mLdL (ls : mL) (i : Nat) (st : List mV) : Option (List mV) := match ls[i]? with
  | some (some (.inr (.inl z))) => some (.inr (.inl z) :: st)
  | _ => none
def mLdA (ls : mL) (i : Nat) (st : List mV) : Option (List mV) := match ls[i]? with
  | some (some (.inr (.inr (.inl a)))) => some (.inr (.inr (.inl a)) :: st)
  | some (some (.inr (.inr (.inr .null)))) => some (.inr (.inr (.inr .null)) :: st)
  | some (some (.inr (.inr (.inr (.ref b))))) => some (.inr (.inr (.inr (.ref b))) :: st)
  | _ => none
def mLdF (ls : mL) (i : Nat) (st : List mV) : Option (List mV) := match ls[i]? with
  | some (some (.inr (.inr (.inr (.float x))))) => some (.inr (.inr (.inr (.float x))) :: st)
  | _ => none
def mLdD (ls : mL) (i : Nat) (st : List mV) : Option (List mV) := match ls[i]? with
  | some (some (.inr (.inr (.inr (.double x))))) => some (.inr (.inr (.inr (.double x))) :: st)
  | _ => none
def mStI (ls : mL) (i : Nat) : List mV → Option (mL × List mV)
  | .inl z :: r => bif Nat.blt i ls.length then some (mSt ls i (.inl z), r) else none
  | _ => none
def mStL (ls : mL) (i : Nat) : List mV → Option (mL × List mV)
  | .inr (.inl z) :: r => bif Nat.blt (i + 1) ls.length then some (mSt2 ls i (.inr (.inl z)), r) else none
  | _ => none
def mStA (ls : mL) (i : Nat) : List mV → Option (mL × List mV)
  | .inr (.inr (.inl a)) :: r => bif Nat.blt i ls.length then some (mSt ls i (.inr (.inr (.inl a))), r) else none
  | .inr (.inr (.inr .null)) :: r => bif Nat.blt i ls.length then some (mSt ls i (.inr (.inr (.inr .null))), r) else none
  | .inr (.inr (.inr (.retAddr _))) :: r => bif Nat.blt i ls.length then some (mSt ls i (.inr (.inr (.inr (.retAddr 0)))), r) else none
  | _ => none
def mStF (ls : mL) (i : Nat) : List mV → Option (mL × List mV)
  | .inr (.inr (.inr (.float x))) :: r => bif Nat.blt i ls.length then some (mSt ls i (.inr (.inr (.inr (.float x)))), r) else none
  | _ => none
def mStD (ls : mL) (i : Nat) : List mV → Option (mL × List mV)
  | .inr (.inr (.inr (.double x))) :: r => bif Nat.blt (i + 1) ls.length then some (mSt2 ls i (.inr (.inr (.inr (.double x)))), r) else none
  | _ => none
def mWith (ls : mL) : Option (List mV) → Option (mL × List mV)
  | some st => some (ls, st)
  | none => none
/-- instructions on the locals and the operand stack alone; c: a constant of the pool -/
def mPure (ins : Instr) (c : Nat) (ls : mL) (st : List mV) : Option (mL × List mV) := match ins with
  | .iconst n => some (ls, .inl n :: st)
  | .bipush n => some (ls, .inl n :: st)
  | .sipush n => some (ls, .inl n :: st)
  | .ldc _ => some (ls, .inl (c : Int) :: st)
  | .ldc_w _ => some (ls, .inl (c : Int) :: st)
  | .ldc2_w _ => some (ls, .inr (.inl (c : Int)) :: st)
  | .lconst n => some (ls, .inr (.inl ((n : Nat) : Int)) :: st)
  | .fconst _ => some (ls, .inr (.inr (.inr (.float FP.fconst0))) :: st)
  | .dconst _ => some (ls, .inr (.inr (.inr (.double FP.dconst0))) :: st)
  | .aconst_null => some (ls, .inr (.inr (.inr .null)) :: st)
  | .iload_n k => mWith ls (mLdI ls k st)
  | .iload i => mWith ls (mLdI ls i st)
  | .lload_n k => mWith ls (mLdL ls k st)
  | .lload i => mWith ls (mLdL ls i st)
  | .aload_n k => mWith ls (mLdA ls k st)
  | .aload i => mWith ls (mLdA ls i st)
  | .fload i => mWith ls (mLdF ls i st)
  | .dload i => mWith ls (mLdD ls i st)
  | .istore_n k => mStI ls k st
  | .istore i => mStI ls i st
  | .lstore i => mStL ls i st
  | .astore_n k => mStA ls k st
  | .astore i => mStA ls i st
  | .fstore i => mStF ls i st
  | .dstore i => mStD ls i st
  | .iinc i n => match ls[i]? with
    | some (some (.inl z)) => some (mSt ls i (.inl (z + n)), st)
    | _ => none
  | .iadd => mWith ls (mBin (fun a b => a + b) st)
  | .isub => mWith ls (mBin (fun a b => a - b) st)
  | .imul => mWith ls (mBin (fun a b => a * b) st)
  | .iand => mWith ls (mBin iAnd st)
  | .ior => mWith ls (mBin iOr st)
  | .ixor => mWith ls (mBin iXor st)
  | .ishl => mWith ls (mBin iShl st)
  | .ishr => mWith ls (mBin iShr st)
  | .iushr => mWith ls (mBin iUshr st)
  | .idiv => mWith ls (mBinD iDiv st)
  | .irem => mWith ls (mBinD iRem st)
  | .ineg => match st with
    | .inl a :: r => some (ls, .inl (-a) :: r)
    | _ => none
  | .ladd => mWith ls (mBinL (fun a b => a + b) st)
  | .lmul => mWith ls (mBinL (fun a b => a * b) st)
  | .land => mWith ls (mBinL lAnd st)
  | .lor => mWith ls (mBinL lOr st)
  | .ldiv => mWith ls (mBinLD lDiv st)
  | .lrem => mWith ls (mBinLD lRem st)
  | .lshl => match st with
    | .inl b :: .inr (.inl a) :: r => some (ls, .inr (.inl (lShl a b)) :: r)
    | _ => none
  | .lcmp => match st with
    | .inr (.inl b) :: .inr (.inl a) :: r => some (ls, .inl (lcmpI a b) :: r)
    | _ => none
  | .i2l => match st with
    | .inl a :: r => some (ls, .inr (.inl (w32 a)) :: r)
    | _ => none
  | .l2i => match st with
    | .inr (.inl a) :: r => some (ls, .inl a :: r)
    | _ => none
  | .i2d => match st with
    | .inl a :: r => some (ls, .inr (.inr (.inr (.double (FP.i2d (Int32.ofInt a))))) :: r)
    | _ => none
  | .i2f => match st with
    | .inl a :: r => some (ls, .inr (.inr (.inr (.float (FP.i2f (Int32.ofInt a))))) :: r)
    | _ => none
  | .f2d => match st with
    | .inr (.inr (.inr (.float x))) :: r => bif n64 (FP.f2d x) then some (ls, .inr (.inr (.inr (.double (FP.f2d x)))) :: r) else none
    | _ => none
  | .ddiv => match st with
    | .inr (.inr (.inr (.double y))) :: .inr (.inr (.inr (.double x))) :: r => bif n64 (FP.ddiv x y) then some (ls, .inr (.inr (.inr (.double (FP.ddiv x y)))) :: r) else none
    | _ => none
  | .fdiv => match st with
    | .inr (.inr (.inr (.float y))) :: .inr (.inr (.inr (.float x))) :: r => bif n32 (FP.fdiv x y) then some (ls, .inr (.inr (.inr (.float (FP.fdiv x y)))) :: r) else none
    | _ => none
  | .dcmp op => match st with
    | .inr (.inr (.inr (.double y))) :: .inr (.inr (.inr (.double x))) :: r => some (ls, .inl (Op.cmpValue (FP.dcmp x y) op).toInt :: r)
    | _ => none
  | .fcmp op => match st with
    | .inr (.inr (.inr (.float y))) :: .inr (.inr (.inr (.float x))) :: r => some (ls, .inl (Op.cmpValue (FP.fcmp x y) op).toInt :: r)
    | _ => none
  | .dup => match st with
    | v :: r => match mcat v with
      | 1 => some (ls, v :: v :: r)
      | _ => none
    | _ => none
  | .pop => match st with
    | v :: r => match mcat v with
      | 1 => some (ls, r)
      | _ => none
    | _ => none
  | .dup2 => match st with
    | v :: w :: r => match mcat v, mcat w with
      | 1, 1 => some (ls, v :: w :: v :: w :: r)
      | _, _ => none
    | _ => none
  | _ => none
def mTgt (pc : Nat) (off : Int) : Nat := ((pc : Int) + off).toNat
/-- branches -/
def mJump (ins : Instr) (pc : Nat) (st : List mV) : Option (Nat × List mV) := match ins with
  | .goto off => some (mTgt pc off, st)
  | .if_icmp c off => match st with
    | .inl b :: .inl a :: r => some (bif mCmp c a b then mTgt pc off else pc + 3, r)
    | _ => none
  | .ifCond c off => match st with
    | .inl a :: r => some (bif mCmp c a 0 then mTgt pc off else pc + 3, r)
    | _ => none
  | .ifnull off => match st with
    | .inr (.inr (.inl _)) :: r => some (pc + 3, r)
    | .inr (.inr (.inr .null)) :: r => some (mTgt pc off, r)
    | _ => none
  | .ifnonnull off => match st with
    | .inr (.inr (.inl _)) :: r => some (mTgt pc off, r)
    | .inr (.inr (.inr .null)) :: r => some (pc + 3, r)
    | _ => none
  | .tableswitch dflt lo hi offs => match st with
    | .inl x :: r => bif decide (w32 x < lo ∨ hi < w32 x) then some (mTgt pc dflt, r) else match offs.toList[(w32 x - lo).toNat]? with
      | some off => some (mTgt pc off, r)
      | none => none
    | _ => none
  | _ => none
def mIn (i : Int) (n : Nat) : Bool := decide (0 ≤ w32 i ∧ w32 i < (n : Int))
def mIx (i : Int) : Nat := (w32 i).toNat
def b2i (t : Bool) : Int := bif t then 1 else 0
def m01 (z : Int) : Bool := decide (z = 0 ∨ z = 1)
/-- what a field's slot holds -/
def mFld (G : mG) (a k : Nat) : Option (Option Nat) → mV
  | none => .inl (G a k)
  | some none => .inr (.inr (.inr .null))
  | some (some q) => .inr (.inr (.inl q))
/-- instructions on cells; c, k, b: what the pool says (class and slot; b: 1 a field of booleans, 2 a final one) -/
def mMem (scr : mScr) (ins : Instr) (c k b : Nat) (st : List mV) (M : mM) : Option (List mV × mM) := match ins with
  | .getfield _ => match st with
    | .inr (.inr (.inl a)) :: r => match M.1[a]? with
      | some (.inl q) => bif Nat.beq q.1 c then (match q.2[k]? with
        | some f => some (mFld M.2.1 a k f :: r, M)
        | none => none) else none
      | _ => none
    | _ => none
  | .putfield _ => match st with
    | .inl z :: .inr (.inr (.inl a)) :: r => match M.1[a]? with
      | some (.inl q) => bif Nat.beq q.1 c then (match q.2[k]? with
        | some none => bif (Nat.beq b 0 || (Nat.beq b 1 && m01 z)) then some (r, (M.1, (up2 M.2.1 a k z, M.2.2))) else none
        | _ => none) else none
      | _ => none
    | .inr (.inr (.inl v)) :: .inr (.inr (.inl a)) :: r => match M.1[a]? with
      | some (.inl q) => bif Nat.beq q.1 c then (match q.2[k]? with
        | some (some _) => bif Nat.beq b 2 then some (r, (M.1.set a (.inl (q.1, q.2.set k (some (some v)))), M.2)) else none
        | _ => none) else none
      | _ => none
    | _ => none
  | .iaload => match st with
    | .inl i :: .inr (.inr (.inl a)) :: r => match M.1[a]? with
      | some (.inr (0, (n, _))) => bif mIn i n then some (.inl (M.2.1 a (mIx i)) :: r, M) else none
      | _ => none
    | .inl i :: .inr (.inr (.inr (.ref q))) :: r => bif Nat.beq q scr.1 && mIn i scr.2.1 then some (.inl (scr.2.2 (mIx i)) :: r, M) else none
    | _ => none
  | .laload => match st with
    | .inl i :: .inr (.inr (.inl a)) :: r => match M.1[a]? with
      | some (.inr (1, (n, _))) => bif mIn i n then some (.inr (.inl (M.2.1 a (mIx i))) :: r, M) else none
      | _ => none
    | _ => none
  | .daload => match st with
    | .inl i :: .inr (.inr (.inl a)) :: r => match M.1[a]? with
      | some (.inr (2, (n, _))) => bif mIn i n then some (.inr (.inr (.inr (.double (UInt64.ofNat (M.2.1 a (mIx i)).toNat)))) :: r, M) else none
      | _ => none
    | _ => none
  | .aaload => match st with
    | .inl i :: .inr (.inr (.inl a)) :: r => match M.1[a]? with
      | some (.inr (3, (n, rs))) => bif mIn i n then (match rs[mIx i]? with
        | some (some q) => some (.inr (.inr (.inl q)) :: r, M)
        | some none => some (.inr (.inr (.inr .null)) :: r, M)
        | none => none) else none
      | _ => none
    | _ => none
  | .iastore => match st with
    | .inl x :: .inl i :: .inr (.inr (.inl a)) :: r => match M.1[a]? with
      | some (.inr (0, (n, _))) => bif mIn i n then some (r, (M.1, (up2 M.2.1 a (mIx i) x, M.2.2))) else none
      | _ => none
    | _ => none
  | .lastore => match st with
    | .inr (.inl x) :: .inl i :: .inr (.inr (.inl a)) :: r => match M.1[a]? with
      | some (.inr (1, (n, _))) => bif mIn i n then some (r, (M.1, (up2 M.2.1 a (mIx i) x, M.2.2))) else none
      | _ => none
    | _ => none
  | .dastore => match st with
    | .inr (.inr (.inr (.double x))) :: .inl i :: .inr (.inr (.inl a)) :: r => match M.1[a]? with
      | some (.inr (2, (n, _))) => bif mIn i n then some (r, (M.1, (up2 M.2.1 a (mIx i) (x.toNat : Int), M.2.2))) else none
      | _ => none
    | _ => none
  | .aastore => match st with
    | .inr (.inr (.inl v)) :: .inl i :: .inr (.inr (.inl a)) :: r => match M.1[a]?, M.1[v]? with
      | some (.inr (3, (n, rs))), some (.inl q) => bif mIn i n && Nat.beq q.1 c then some (r, (M.1.set a (.inr (3, (n, rs.set (mIx i) (some v)))), M.2)) else none
      | _, _ => none
    | _ => none
  | .arraylength => match st with
    | .inr (.inr (.inl a)) :: r => match M.1[a]? with
      | some (.inr (_, (n, _))) => some (.inl (n : Int) :: r, M)
      | _ => none
    | .inr (.inr (.inr (.ref q))) :: r => bif Nat.beq q scr.1 then some (.inl (scr.2.1 : Int) :: r, M) else none
    | _ => none
  | .newarray t => match st with
    | .inl z :: r => bif mIn z 8192 then (match t with
      | .int => some (.inr (.inr (.inl M.1.length)) :: r, (M.1 ++ [.inr (0, (mIx z, []))], (upG M.2.1 M.1.length (fun _ => 0), (M.2.2.1 + 1, M.2.2.2 + mIx z))))
      | .long => some (.inr (.inr (.inl M.1.length)) :: r, (M.1 ++ [.inr (1, (mIx z, []))], (upG M.2.1 M.1.length (fun _ => 0), (M.2.2.1 + 1, M.2.2.2 + mIx z))))
      | .double => some (.inr (.inr (.inl M.1.length)) :: r, (M.1 ++ [.inr (2, (mIx z, []))], (upG M.2.1 M.1.length (fun _ => 0), (M.2.2.1 + 1, M.2.2.2 + mIx z))))
      | _ => none) else none
    | _ => none
  | .anewarray _ => match st with
    | .inl z :: r => bif mIn z 8192 then some (.inr (.inr (.inl M.1.length)) :: r, (M.1 ++ [.inr (3, (mIx z, List.replicate (mIx z) none))], (upG M.2.1 M.1.length (fun _ => 0), (M.2.2.1 + 1, M.2.2.2 + mIx z)))) else none
    | _ => none
  | _ => none
