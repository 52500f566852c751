/-! ===== runs of the small machine ===== -/
noncomputable def mFetch (cs : List (List mI)) (pc : Nat) : Option mI := (cs.getD (pc / 64) []).find? (fun e => Nat.beq e.1 pc)
def mArgs : List mV → mL
  | [] => []
  | v :: r => match mcat v with
    | 1 => some v :: mArgs r
    | _ => some v :: none :: mArgs r
def mLoc (n : Nat) (vs : List mV) : mL := mArgs vs ++ List.replicate (n - (mArgs vs).length) none
def mCatch (hs : List (Nat × (Nat × (Nat × Nat)))) (pc E : Nat) : Option Nat :=
  (hs.find? (fun h => Nat.ble h.1 pc && Nat.blt pc h.2.1 && Nat.beq h.2.2.2 E)).map (fun h => h.2.2.1)
/-- the words of an operand stack -/
def mWd : List mV → Nat
  | [] => 0
  | v :: r => mcat v + mWd r
/-- the next state behind a call's end -/
def mBack (hs : List (Nat × (Nat × (Nat × Nat)))) (pc : Nat) (ls : mL) (rest : List mV) (x : mO × mM) : Option (mS ⊕ (mO × mM)) := match x.1 with
  | .inl none => some (.inl (pc + 3, (ls, (rest, x.2))))
  | .inl (some v) => some (.inl (pc + 3, (ls, (v :: rest, x.2))))
  | .inr E => match mCatch hs pc E with
    | some h => some (.inl (h, (ls, ([.inr (.inr (.inr (.retAddr 0)))], x.2))))
    | none => match hs with
      | [] => some (.inr (.inr E, x.2))
      | _ => none
/-- calls: a method's number, how many values, which kind of call -/
def mCallI (call : Nat → List mV → mM → Option (mO × mM)) (hs : List (Nat × (Nat × (Nat × Nat)))) (y n kd : Nat) (pc : Nat) (ls : mL) (st : List mV) (M : mM) : Option (mS ⊕ (mO × mM)) := match kd with
  | 4 => match st with
    | .inr (.inr (.inl _)) :: r => bif Nat.ble (mWd r) 8 then some (.inl (pc + 3, (ls, (r, M)))) else none
    | _ => none
  | 5 => match st with
    | .inl b :: .inl a :: r => bif Nat.ble (mWd r) 8 then some (.inl (pc + 3, (ls, (.inl (iMax a b) :: r, M)))) else none
    | _ => none
  | 6 => match st with
    | .inl b :: .inl a :: r => bif Nat.ble (mWd r) 8 then some (.inl (pc + 3, (ls, (.inl (iMin a b) :: r, M)))) else none
    | _ => none
  | 7 => match st with
    | .inl n :: .inl dp :: .inr (.inr (.inl a1)) :: .inl sp :: .inr (.inr (.inl a0)) :: r => match M.1[a0]?, M.1[a1]? with
      | some (.inr (0, (n0, _))), some (.inr (0, (n1, _))) => bif Nat.ble (mWd r) 8 && decide (0 ≤ w32 sp ∧ 0 ≤ w32 dp ∧ 0 ≤ w32 n ∧ w32 sp + w32 n ≤ (n0 : Int) ∧ w32 dp + w32 n ≤ (n1 : Int)) then
          some (.inl (pc + 3, (ls, (r, (M.1, (upG M.2.1 a1 (cpyF (M.2.1 a0) (M.2.1 a1) (mIx sp) (mIx dp) (mIx n)), M.2.2)))))) else none
      | _, _ => none
    | _ => none
  | _ => bif Nat.ble n st.length && Nat.ble (mWd (st.drop n)) 8 then (match call y (st.take n).reverse M with
    | some x => bif Nat.ble kd 1 || x.1.isLeft then mBack hs pc ls (st.drop n) x else none
    | none => none) else none
/-- one step: the next state, or the method's end -/
def mStep (scr : mScr) (call : Nat → List mV → mM → Option (mO × mM)) (rk : Nat) (hs : List (Nat × (Nat × (Nat × Nat)))) (e : mI) (s : mS) : Option (mS ⊕ (mO × mM)) := match e.2.1 with
  | .ireturn => match s.2.2.1 with
    | [.inl z] => bif Nat.beq rk 0 || m01 z then some (.inr (.inl (some (.inl z)), s.2.2.2)) else none
    | _ => none
  | .lreturn => match s.2.2.1 with
    | [.inr (.inl z)] => some (.inr (.inl (some (.inr (.inl z))), s.2.2.2))
    | _ => none
  | .dreturn => match s.2.2.1 with
    | [.inr (.inr (.inr (.double x)))] => some (.inr (.inl (some (.inr (.inr (.inr (.double x))))), s.2.2.2))
    | _ => none
  | .freturn => match s.2.2.1 with
    | [.inr (.inr (.inr (.float x)))] => some (.inr (.inl (some (.inr (.inr (.inr (.float x))))), s.2.2.2))
    | _ => none
  | .return_ => match s.2.2.1 with
    | [] => some (.inr (.inl none, s.2.2.2))
    | _ => none
  | .new _ => bif Nat.ble 1000 e.2.2.2.1 then bif Nat.ble (mWd s.2.2.1) 8 && hs.isEmpty then some (.inr (.inr (e.2.2.2.1 - 1000), (s.2.2.2.1, (s.2.2.2.2.1, (s.2.2.2.2.2.1 + 1, s.2.2.2.2.2.2 + 6))))) else none
    else match mFL[e.2.2.2.1]? with
      | some fl => some (.inl (e.1 + 3, (s.2.1, (.inr (.inr (.inl s.2.2.2.1.length)) :: s.2.2.1, (s.2.2.2.1 ++ [.inl (e.2.2.2.1, fl)], (upG s.2.2.2.2.1 s.2.2.2.1.length (fun _ => 0), (s.2.2.2.2.2.1 + 1, s.2.2.2.2.2.2 + fl.length)))))))
      | none => none
  | .invokevirtual _ => mCallI call hs e.2.2.2.1 e.2.2.2.2.1 e.2.2.2.2.2 e.1 s.2.1 s.2.2.1 s.2.2.2
  | .invokestatic _ => mCallI call hs e.2.2.2.1 e.2.2.2.2.1 e.2.2.2.2.2 e.1 s.2.1 s.2.2.1 s.2.2.2
  | .invokespecial _ => mCallI call hs e.2.2.2.1 e.2.2.2.2.1 e.2.2.2.2.2 e.1 s.2.1 s.2.2.1 s.2.2.2
  | ins => match mPure ins e.2.2.2.1 s.2.1 s.2.2.1 with
    | some q => some (.inl (e.1 + e.2.2.1, (q.1, (q.2, s.2.2.2))))
    | none => match mJump ins e.1 s.2.2.1 with
      | some q => some (.inl (q.1, (s.2.1, (q.2, s.2.2.2))))
      | none => match mMem scr ins e.2.2.2.1 e.2.2.2.2.1 e.2.2.2.2.2 s.2.2.1 s.2.2.2 with
        | some q => some (.inl (e.1 + e.2.2.1, (s.2.1, (q.1, q.2))))
        | none => none
noncomputable def mExec (scr : mScr) (call : Nat → List mV → mM → Option (mO × mM)) (cs : List (List mI)) (rk : Nat) (hs : List (Nat × (Nat × (Nat × Nat)))) : Nat → mS → Option (mO × mM)
  | 0, _ => none
  | k + 1, s => match mFetch cs s.1 with
    | none => none
    | some e => match mStep scr call rk hs e s with
      | none => none
      | some (.inl s') => mExec scr call cs rk hs k s'
      | some (.inr r) => some r
/-- a virtual call's receiver is of the class that the method names -/
def mRecv (o : Nat) (args : List mV) (M : mM) : Bool := match args with
  | .inr (.inr (.inl a)) :: _ => match M.1[a]? with
    | some (.inl q) => Nat.beq q.1 o
    | _ => false
  | _ => false
noncomputable def mCall (scr : mScr) (K : Nat) : Nat → Nat → List mV → mM → Option (mO × mM)
  | 0, _, _, _ => none
  | d + 1, y, args, M => match mProg[y]? with
    | none => none
    | some q => bif Nat.ble 12 q.2.2.2.1 || mRecv q.2.2.2.1 args M then (bif Nat.ble (mArgs args).length q.2.1 then
        mExec scr (mCall scr K d) q.1 q.2.2.1 q.2.2.2.2 K (0, (mLoc q.2.1 args, ([], M))) else none) else none
