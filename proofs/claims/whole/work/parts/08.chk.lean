/-! ===== what is checked of the program's tables, a method at a time, by the kernel ===== -/
def mLen : Instr → Nat → Bool
  | .bipush _, n => Nat.beq n 2
  | .sipush _, n => Nat.beq n 3
  | .ldc _, n => Nat.beq n 2
  | .ldc_w _, n => Nat.beq n 3
  | .ldc2_w _, n => Nat.beq n 3
  | .iload _, n => Nat.beq n 2
  | .lload _, n => Nat.beq n 2
  | .aload _, n => Nat.beq n 2
  | .fload _, n => Nat.beq n 2
  | .dload _, n => Nat.beq n 2
  | .istore _, n => Nat.beq n 2
  | .lstore _, n => Nat.beq n 2
  | .astore _, n => Nat.beq n 2
  | .fstore _, n => Nat.beq n 2
  | .dstore _, n => Nat.beq n 2
  | .iinc _ _, n => Nat.beq n 3
  | .goto _, n => Nat.beq n 3
  | .if_icmp _ _, n => Nat.beq n 3
  | .ifCond _ _, n => Nat.beq n 3
  | .ifnull _, n => Nat.beq n 3
  | .ifnonnull _, n => Nat.beq n 3
  | .tableswitch _ _ _ _, _ => true
  | .getfield _, n => Nat.beq n 3
  | .putfield _, n => Nat.beq n 3
  | .invokevirtual _, n => Nat.beq n 3
  | .invokestatic _, n => Nat.beq n 3
  | .invokespecial _, n => Nat.beq n 3
  | .new _, n => Nat.beq n 3
  | .anewarray _, n => Nat.beq n 3
  | .newarray _, n => Nat.beq n 2
  | _, n => Nat.beq n 1
def mOff (pc : Nat) (off : Int) : Bool := decide (0 ≤ (pc : Int) + off)
/-- beside the decoding: what an entry's numbers must be; o: the class; ini: a constructor -/
def mSide (o : Nat) (ini : Bool) (nL : Nat) (e : mI) : Bool := match e.2.1 with
  | .bipush n => decide (-128 ≤ n ∧ n < 128)
  | .sipush n => decide (-32768 ≤ n ∧ n < 32768)
  | .ldc i => decide ((i, e.2.2.2.1) ∈ mPoolK o)
  | .ldc_w i => decide ((i, e.2.2.2.1) ∈ mPoolK o)
  | .ldc2_w i => decide ((i, e.2.2.2.1) ∈ mPoolL o)
  | .fconst n => decide (n = 0)
  | .dconst n => decide (n = 0)
  | .iinc i _ => Nat.blt i nL
  | .goto off => mOff e.1 off
  | .if_icmp _ off => mOff e.1 off
  | .ifCond _ off => mOff e.1 off
  | .ifnull off => mOff e.1 off
  | .ifnonnull off => mOff e.1 off
  | .tableswitch d _ _ offs => mOff e.1 d && offs.toList.all (fun off => mOff e.1 off)
  | .getfield i => decide ((i, e.2.2.2.1, e.2.2.2.2.1, e.2.2.2.2.2) ∈ mPoolF o)
  | .putfield i => decide ((i, e.2.2.2.1, e.2.2.2.2.1, e.2.2.2.2.2) ∈ mPoolF o) && (!(Nat.beq e.2.2.2.2.2 2) || (ini && Nat.beq o e.2.2.2.1))
  | .invokevirtual i => decide ((i, e.2.2.2.1, e.2.2.2.2.2) ∈ mPoolM o) && Nat.beq e.2.2.2.2.2 0
  | .invokestatic i => decide ((i, e.2.2.2.1, e.2.2.2.2.2) ∈ mPoolM o) && (Nat.beq e.2.2.2.2.2 1 || Nat.beq e.2.2.2.2.2 5 || Nat.beq e.2.2.2.2.2 6 || Nat.beq e.2.2.2.2.2 7 || Nat.beq e.2.2.2.2.2 8)
  | .invokespecial i => decide ((i, e.2.2.2.1, e.2.2.2.2.2) ∈ mPoolM o) && (Nat.beq e.2.2.2.2.2 2 || Nat.beq e.2.2.2.2.2 3 || Nat.beq e.2.2.2.2.2 4)
  | .new i => Nat.ble 1000 e.2.2.2.1 || decide ((i, e.2.2.2.1) ∈ mPoolC o)
  | .anewarray i => Nat.beq e.2.2.2.1 7 && decide ((i, e.2.2.2.1) ∈ mPoolC o)
  | .aastore => Nat.beq e.2.2.2.1 7
  | _ => true
/-- calls: the callee's kind and its number of values -/
noncomputable def mCalls (e : mI) : Bool := match e.2.1 with
  | .invokevirtual _ => Nat.beq e.2.2.2.2.1 (mMt e.2.2.2.1).2.2.2.1 && !(mMt e.2.2.2.1).2.2.2.2.1 && !((mMt e.2.2.2.1).1.name == "<init>") && (mMt e.2.2.2.1).2.2.2.2.2.isEmpty && Nat.blt 0 e.2.2.2.2.1
  | .invokestatic _ => Nat.ble 5 e.2.2.2.2.2 && Nat.ble e.2.2.2.2.2 7 || (Nat.beq e.2.2.2.2.1 (mMt e.2.2.2.1).2.2.2.1 && (mMt e.2.2.2.1).2.2.2.2.1 && (Nat.beq e.2.2.2.2.2 8 == !(mMt e.2.2.2.1).2.2.2.2.2.isEmpty))
  | .invokespecial _ => Nat.beq e.2.2.2.2.2 4 || (Nat.beq e.2.2.2.2.1 (mMt e.2.2.2.1).2.2.2.1 && !(mMt e.2.2.2.1).2.2.2.2.1 && ((mMt e.2.2.2.1).1.name == "<init>") && (mMt e.2.2.2.1).2.2.2.2.2.isEmpty && Nat.blt 0 e.2.2.2.2.1)
  | _ => true
/-- a throw: new, dup, ldc, invokespecial, athrow -/
def mThr (bytes : ByteArray) (e : mI) : Bool := match e.2.1 with
  | .new ik => !(Nat.ble 1000 e.2.2.2.1) || (match e.2.2.2.2.2 % 2 with
    | 0 => decide ((ik, e.2.2.2.2.1, e.2.2.2.2.2 / 2, 0, e.2.2.2.1 - 1000) ∈ mPoolX) && decide (decode bytes (e.1 + 3) = .ok (.dup, 1)) && decide (decode bytes (e.1 + 4) = .ok (.ldc e.2.2.2.2.1, 2)) && decide (decode bytes (e.1 + 6) = .ok (.invokespecial (e.2.2.2.2.2 / 2), 3)) && decide (decode bytes (e.1 + 9) = .ok (.athrow, 1))
    | _ => decide ((ik, e.2.2.2.2.1, e.2.2.2.2.2 / 2, 1, e.2.2.2.1 - 1000) ∈ mPoolX) && decide (decode bytes (e.1 + 3) = .ok (.dup, 1)) && decide (decode bytes (e.1 + 4) = .ok (.ldc_w e.2.2.2.2.1, 3)) && decide (decode bytes (e.1 + 7) = .ok (.invokespecial (e.2.2.2.2.2 / 2), 3)) && decide (decode bytes (e.1 + 10) = .ok (.athrow, 1)))
  | _ => true
def mDec (bytes : ByteArray) (e : mI) : Bool := decide (decode bytes e.1 = .ok (e.2.1, e.2.2.1)) && mLen e.2.1 e.2.2.1
def mCt (E : Nat) : Nat := match E with
  | 0 => 13
  | 1 => 15
  | _ => 17
/-- a method's number of locals, its class, its return type and its table are those of the words -/
noncomputable def mHead (y : Nat) : Bool := match mProg[y]? with
  | none => false
  | some q => (mMt y).1.cls == mOwn (q.2.2.2.1 % 100) && (Nat.beq q.2.2.1 0 == !(decide ((mMt y).2.2.1 = some .boolean))) && Nat.ble q.2.1 12 && ((mMt y).2.2.2.2.1 == Nat.ble 100 q.2.2.2.1) && (q.2.2.2.2.map (fun h => (h.1, h.2.1, h.2.2.1, mCt h.2.2.2)) == (mMt y).2.2.2.2.2) && q.2.2.2.2.all (fun h => Nat.blt h.2.2.2 3) && (q.2.2.2.2.isEmpty || Nat.beq q.2.2.2.1 112)
