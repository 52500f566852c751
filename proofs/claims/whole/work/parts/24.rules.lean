/-! ===== rules by instruction ===== -/
def LF : Nat := 100000000
def letK {α β : Type} (j : α) (body : α → β) : β := body j
def ald (G : mG) (a n : Nat) (i : Int) : Option Int := bif mIn i n then some (G a (mIx i)) else none
def ast (G : mG) (a n : Nat) (i x : Int) : Option mG := bif mIn i n then some (up2 G a (mIx i) x) else none
def pst (G : mG) (a k : Nat) (z : Int) : Option mG := some (up2 G a k z)
def pstZ (G : mG) (a k : Nat) (z : Int) : Option mG := bif m01 z then some (up2 G a k z) else none
def acp (G : mG) (a0 n0 : Nat) (sp : Int) (a1 n1 : Nat) (dp n : Int) : Option mG := bif decide (0 ≤ w32 sp ∧ 0 ≤ w32 dp ∧ 0 ≤ w32 n ∧ w32 sp + w32 n ≤ (n0 : Int) ∧ w32 dp + w32 n ≤ (n1 : Int)) then some (upG G a1 (cpyF (G a0) (G a1) (mIx sp) (mIx dp) (mIx n))) else none
def xld (scr : mScr) (i : Int) : Option Int := bif mIn i scr.2.1 then some (scr.2.2 (mIx i)) else none
def ldv (a b : Int) : Option Int := bif decide (w64 b = 0) then none else some (lDiv a b)
def dld (G : mG) (a n : Nat) (i : Int) : Option UInt64 := bif mIn i n then some (UInt64.ofNat (G a (mIx i)).toNat) else none
def dst (G : mG) (a n : Nat) (i : Int) (x : UInt64) : Option mG := bif mIn i n then some (up2 G a (mIx i) (x.toNat : Int)) else none
def ddv (x y : UInt64) : Option UInt64 := bif n64 (FP.ddiv x y) then some (FP.ddiv x y) else none
def fdv (x y : UInt32) : Option UInt32 := bif n32 (FP.fdiv x y) then some (FP.fdiv x y) else none
def ftd (x : UInt32) : Option UInt64 := bif n64 (FP.f2d x) then some (FP.f2d x) else none
def retZ (z : Int) : Option Bool := bif m01 z then some (decide (z = 1)) else none
abbrev mW : Type := List (Option Nat) × (List mSh × (mG × (Nat × Nat)))
def mSH (r : List (Option Nat)) (tl : List mSh) : List mSh := .inl (10, [some (some 1), some (some 17), some (some 26), some (some 35), some (some 36), some (some 37), some (some 38), some (some 40), some (some 42), some (some 44), some (some 48), some (some 51), some (some 54), none, none]) ::
  .inl (7, [none, some (some 2), some (some 3), some (some 4), some (some 5), some (some 6), some (some 7), some (some 8), some (some 9), some (some 10), some (some 11), some (some 12), some (some 13), some (some 14), some (some 15), none, some (some 16)]) ::
  .inr (0, (6, [])) ::
  .inr (0, (6, [])) ::
  .inr (0, (6, [])) ::
  .inr (0, (6, [])) ::
  .inr (0, (6, [])) ::
  .inr (0, (30, [])) ::
  .inr (0, (30, [])) ::
  .inr (0, (4, [])) ::
  .inr (0, (16, [])) ::
  .inr (0, (16, [])) ::
  .inr (0, (4, [])) ::
  .inr (0, (4, [])) ::
  .inr (0, (16, [])) ::
  .inr (0, (6, [])) ::
  .inr (0, (30, [])) ::
  .inl (8, [some (some 1), none, some (some 18), some (some 19), some (some 20), some (some 21), some (some 22), some (some 23), some (some 24), some (some 25)]) ::
  .inr (0, (30, [])) ::
  .inr (0, (6, [])) ::
  .inr (0, (4, [])) ::
  .inr (0, (120, [])) ::
  .inr (0, (30, [])) ::
  .inr (0, (30, [])) ::
  .inr (0, (30, [])) ::
  .inr (0, (30, [])) ::
  .inl (8, [some (some 1), none, some (some 27), some (some 28), some (some 29), some (some 30), some (some 31), some (some 32), some (some 33), some (some 34)]) ::
  .inr (0, (30, [])) ::
  .inr (0, (6, [])) ::
  .inr (0, (4, [])) ::
  .inr (0, (120, [])) ::
  .inr (0, (30, [])) ::
  .inr (0, (30, [])) ::
  .inr (0, (30, [])) ::
  .inr (0, (30, [])) ::
  .inr (3, (8, r)) ::
  .inr (0, (19, [])) ::
  .inr (0, (120, [])) ::
  .inl (0, [some (some 1), some (some 26), some (some 39), none, none, none]) ::
  .inr (0, (8, [])) ::
  .inl (9, [some (some 1), some (some 17), some (some 41), none, none, none]) ::
  .inr (0, (30, [])) ::
  .inl (2, [some (some 1), some (some 17), some (some 43)]) ::
  .inr (0, (5000, [])) ::
  .inl (5, [some (some 1), some (some 45)]) ::
  .inl (3, [some (some 46), some (some 47), none]) ::
  .inr (0, (6, [])) ::
  .inr (0, (6, [])) ::
  .inl (6, [some (some 1), some (some 49), some (some 50), none, none]) ::
  .inr (0, (6, [])) ::
  .inr (0, (6, [])) ::
  .inl (1, [some (some 1), some (some 52), some (some 53), none]) ::
  .inr (0, (4, [])) ::
  .inr (0, (4, [])) ::
  .inl (4, [some (some 1), some (some 55)]) ::
  .inr (1, (251, [])) ::
  .inl (11, [some (some 57), some (some 58), none, none, some (some 59), some (some 60), some (some 61), some (some 62), some (some 63), some (some 64), some (some 65), some (some 66), some (some 67), some (some 68), some (some 69), some (some 70), some (some 71), some (some 72), some (some 73), none]) ::
  .inr (0, (282, [])) ::
  .inr (0, (2256, [])) ::
  .inr (0, (30, [])) ::
  .inr (0, (6, [])) ::
  .inr (0, (6, [])) ::
  .inr (0, (4, [])) ::
  .inr (0, (4, [])) ::
  .inr (0, (4, [])) ::
  .inr (0, (4, [])) ::
  .inr (0, (124, [])) ::
  .inr (0, (9, [])) ::
  .inr (0, (36, [])) ::
  .inr (0, (8, [])) ::
  .inr (0, (6, [])) ::
  .inr (0, (6, [])) ::
  .inr (0, (4, [])) ::
  .inr (0, (30, [])) ::
  .inr (1, (1, [])) ::
  .inr (2, (1, [])) :: tl
abbrev mShop (S : List mSh) (q : Nat) : Prop := S[q]? = some (.inl (7, [none, some (some (q + 1)), some (some (q + 2)), some (some (q + 3)), some (some (q + 4)), some (some (q + 5)), some (some (q + 6)), some (some (q + 7)), some (some (q + 8)), some (some (q + 9)), some (some (q + 10)), some (some (q + 11)), some (some (q + 12)), some (some (q + 13)), some (some (q + 14)), none, some (some (q + 15))])) ∧ S[q + 1]? = some (.inr (0, (6, []))) ∧ S[q + 2]? = some (.inr (0, (6, []))) ∧ S[q + 3]? = some (.inr (0, (6, []))) ∧ S[q + 4]? = some (.inr (0, (6, []))) ∧ S[q + 5]? = some (.inr (0, (6, []))) ∧ S[q + 6]? = some (.inr (0, (30, []))) ∧ S[q + 7]? = some (.inr (0, (30, []))) ∧ S[q + 8]? = some (.inr (0, (4, []))) ∧ S[q + 9]? = some (.inr (0, (16, []))) ∧ S[q + 10]? = some (.inr (0, (16, []))) ∧ S[q + 11]? = some (.inr (0, (4, []))) ∧ S[q + 12]? = some (.inr (0, (4, []))) ∧ S[q + 13]? = some (.inr (0, (16, []))) ∧ S[q + 14]? = some (.inr (0, (6, []))) ∧ S[q + 15]? = some (.inr (0, (30, [])))
abbrev mkM (W : mW) : mM := (mSH W.1 W.2.1, (W.2.2.1, W.2.2.2))
def thrB {T Z : Type} (q : Option ((T ⊕ Nat) × mW)) (f : T → mW → Option ((Z ⊕ Nat) × mW)) : Option ((Z ⊕ Nat) × mW) := q.bind fun x => match x with
  | (.inl v, W) => f v W
  | (.inr E, W) => some (.inr E, W)
def notB {T R : Type} (q : Option ((T ⊕ Nat) × mW)) (f : T → mW → Option R) : Option R := q.bind fun x => match x with
  | (.inl v, W) => f v W
  | (.inr _, _) => none
def ctcB {T R : Type} (q : Option ((T ⊕ Nat) × mW)) (f : T → mW → Option R) (h0 h1 h2 : mW → Option R) : Option R := q.bind fun x => match x with
  | (.inl v, W) => f v W
  | (.inr 0, W) => h0 W
  | (.inr 1, W) => h1 W
  | (.inr 2, W) => h2 W
  | _ => none
abbrev e0I (M : mM) (v : Int) : mO × mM := (.inl (some (sI v)), M)
abbrev e0L (M : mM) (v : Int) : mO × mM := (.inl (some (sL v)), M)
abbrev e0B (M : mM) (v : Bool) : mO × mM := (.inl (some (sI (b2i v))), M)
abbrev e0D (M : mM) (v : UInt64) : mO × mM := (.inl (some (sD v)), M)
abbrev e0F (M : mM) (v : UInt32) : mO × mM := (.inl (some (sF v)), M)
abbrev e1U (r : List (Option Nat)) (tl : List mSh) (nk : Nat × Nat) (G : mG) : mO × mM := (.inl none, (mSH r tl, (G, nk)))
abbrev e1I (r : List (Option Nat)) (tl : List mSh) (nk : Nat × Nat) (z : Int × mG) : mO × mM := (.inl (some (sI z.1)), (mSH r tl, (z.2, nk)))
abbrev e1L (r : List (Option Nat)) (tl : List mSh) (nk : Nat × Nat) (z : Int × mG) : mO × mM := (.inl (some (sL z.1)), (mSH r tl, (z.2, nk)))
abbrev e1B (r : List (Option Nat)) (tl : List mSh) (nk : Nat × Nat) (z : Bool × mG) : mO × mM := (.inl (some (sI (b2i z.1))), (mSH r tl, (z.2, nk)))
abbrev e1D (r : List (Option Nat)) (tl : List mSh) (nk : Nat × Nat) (z : UInt64 × mG) : mO × mM := (.inl (some (sD z.1)), (mSH r tl, (z.2, nk)))
abbrev e1F (r : List (Option Nat)) (tl : List mSh) (nk : Nat × Nat) (z : UInt32 × mG) : mO × mM := (.inl (some (sF z.1)), (mSH r tl, (z.2, nk)))
def e2U (x : (Unit ⊕ Nat) × mW) : mO × mM := (match x.1 with
  | .inl _ => .inl none
  | .inr E => .inr E, mkM x.2)
def e2I (x : (Int ⊕ Nat) × mW) : mO × mM := (match x.1 with
  | .inl v => .inl (some (sI v))
  | .inr E => .inr E, mkM x.2)
def e2B (x : (Bool ⊕ Nat) × mW) : mO × mM := (match x.1 with
  | .inl v => .inl (some (sI (b2i v)))
  | .inr E => .inr E, mkM x.2)
def e2D (x : (UInt64 ⊕ Nat) × mW) : mO × mM := (match x.1 with
  | .inl v => .inl (some (sD v))
  | .inr E => .inr E, mkM x.2)
def e2F (x : (UInt32 ⊕ Nat) × mW) : mO × mM := (match x.1 with
  | .inl v => .inl (some (sF v))
  | .inr E => .inr E, mkM x.2)
theorem mCmpB_eq (v : Bool) : mCmp .eq (b2i v) 0 = !v := by cases v <;> decide
theorem mCmpB_ne (v : Bool) : mCmp .ne (b2i v) 0 = v := by cases v <;> decide
theorem m01_b2i (v : Bool) : m01 (b2i v) = true := by cases v <;> rfl
noncomputable def mGo (scr : mScr) (cs : List (List mI)) (rk : Nat) (hs : mHs) : Nat → Nat → mL → List mV → mM → Option mS
  | 0, pc, ls, st, M => some (pc, (ls, (st, M)))
  | n + 1, pc, ls, st, M => match mFetch cs pc with
    | none => none
    | some e => match mStep scr mDum rk hs e (pc, (ls, (st, M))) with
      | some (.inl (pc', (ls', (st', M')))) => mGo scr cs rk hs n pc' ls' st' M'
      | _ => none
section SR
variable {X Y : Type} {scr : mScr} {d : Nat} {cs : List (List mI)} {rk : Nat} {hs : mHs} {enc : X → mO × mM} {ls : mL} {st : List mV} {M : mM} {pc : Nat} {p p1 p2 : Option X} {S : List mSh} {G : mG} {nk : Nat × Nat} {e2 : Nat × (Nat × Nat)}
theorem mGo_eq (n : Nat) : ∀ (pc : Nat) (ls : mL) (st : List mV) (M : mM), mGo scr cs rk hs n pc ls st M = mSteps scr cs rk hs n (pc, (ls, (st, M))) := by
  induction n with
  | zero => exact fun _ _ _ _ => rfl
  | succ n ih =>
    intro pc ls st M
    simp only [mGo, mSteps]
    cases mFetch cs pc with
    | none => rfl
    | some e =>
      simp only
      cases mStep scr mDum rk hs e (pc, (ls, (st, M))) with
      | none => rfl
      | some x =>
        cases x with
        | inl s' =>
          obtain ⟨pc', ls', st', M'⟩ := s'
          exact ih pc' ls' st' M'
        | inr r => rfl
theorem sm_go (n : Nat) {s' : mS} (k : Sim scr d cs rk hs enc s' p) (h : mGo scr cs rk hs n pc ls st M = some s') : Sim scr d cs rk hs enc (pc, (ls, (st, M))) p := sm_run n ((mGo_eq n pc ls st M).symm.trans h) k
theorem sm_callX {y maxL o : Nat} {as : List mV} (ls0 : mL) (hq : mProg[y]? = some (cs, (maxL, (rk, (o, hs))))) (hr : (Nat.ble 12 o || mRecv o as M) = true) (hlen : Nat.ble (mArgs as).length maxL = true) (hls : mLoc maxL as = ls0) (h : Sim scr d cs rk hs enc (0, (ls0, ([], M))) p) : SimC scr (d + 1) y as M enc p := sm_callE hq hr hlen (by rw [← hls] at h; exact h)
theorem sm_bnone {T : Type} {f : T → Option X} {s : mS} : Sim scr d cs rk hs enc s (Option.bind none f) := fun _ h => nomatch h
theorem sm_ald {a n : Nat} {x : List (Option Nat)} {i : Int} {f : Int → Option X} (hf : mFetch cs pc = some (pc, (.iaload, (1, e2)))) (hS : S[a]? = some (.inr (0, (n, x)))) (k : ∀ v, Sim scr d cs rk hs enc (pc + 1, (ls, (sI v :: st, (S, (G, nk))))) (f v)) : Sim scr d cs rk hs enc (pc, (ls, (sI i :: sR a :: st, (S, (G, nk))))) ((ald G a n i).bind f) := by
  unfold ald
  cases h : mIn i n with
  | false => exact sm_bnone
  | true => exact sm_step hf (by simp only [mStep, mPure, mJump, mMem, hS, h, cond_true]) (k _)
theorem sm_lld {a n : Nat} {x : List (Option Nat)} {i : Int} {f : Int → Option X} (hf : mFetch cs pc = some (pc, (.laload, (1, e2)))) (hS : S[a]? = some (.inr (1, (n, x)))) (k : ∀ v, Sim scr d cs rk hs enc (pc + 1, (ls, (sL v :: st, (S, (G, nk))))) (f v)) : Sim scr d cs rk hs enc (pc, (ls, (sI i :: sR a :: st, (S, (G, nk))))) ((ald G a n i).bind f) := by
  unfold ald
  cases h : mIn i n with
  | false => exact sm_bnone
  | true => exact sm_step hf (by simp only [mStep, mPure, mJump, mMem, hS, h, cond_true]) (k _)
theorem sm_dld {a n : Nat} {x : List (Option Nat)} {i : Int} {f : UInt64 → Option X} (hf : mFetch cs pc = some (pc, (.daload, (1, e2)))) (hS : S[a]? = some (.inr (2, (n, x)))) (k : ∀ v, Sim scr d cs rk hs enc (pc + 1, (ls, (sD v :: st, (S, (G, nk))))) (f v)) : Sim scr d cs rk hs enc (pc, (ls, (sI i :: sR a :: st, (S, (G, nk))))) ((dld G a n i).bind f) := by
  unfold dld
  cases h : mIn i n with
  | false => exact sm_bnone
  | true => exact sm_step hf (by simp only [mStep, mPure, mJump, mMem, hS, h, cond_true]) (k _)
theorem sm_xld {i : Int} {f : Int → Option X} (hf : mFetch cs pc = some (pc, (.iaload, (1, e2)))) (k : ∀ v, Sim scr d cs rk hs enc (pc + 1, (ls, (sI v :: st, (S, (G, nk))))) (f v)) : Sim scr d cs rk hs enc (pc, (ls, (sI i :: sX scr.1 :: st, (S, (G, nk))))) ((xld scr i).bind f) := by
  unfold xld
  cases h : mIn i scr.2.1 with
  | false => exact sm_bnone
  | true => exact sm_step hf (by simp only [mStep, mPure, mJump, mMem, h, cond_true, Nat.beq_refl, Bool.and_self]) (k _)
theorem sm_ast {a n : Nat} {x : List (Option Nat)} {i z : Int} {f : mG → Option X} (hf : mFetch cs pc = some (pc, (.iastore, (1, e2)))) (hS : S[a]? = some (.inr (0, (n, x)))) (k : ∀ G', Sim scr d cs rk hs enc (pc + 1, (ls, (st, (S, (G', nk))))) (f G')) : Sim scr d cs rk hs enc (pc, (ls, (sI z :: sI i :: sR a :: st, (S, (G, nk))))) ((ast G a n i z).bind f) := by
  unfold ast
  cases h : mIn i n with
  | false => exact sm_bnone
  | true => exact sm_step hf (by simp only [mStep, mPure, mJump, mMem, hS, h, cond_true]) (k _)
theorem sm_lst {a n : Nat} {x : List (Option Nat)} {i z : Int} {f : mG → Option X} (hf : mFetch cs pc = some (pc, (.lastore, (1, e2)))) (hS : S[a]? = some (.inr (1, (n, x)))) (k : ∀ G', Sim scr d cs rk hs enc (pc + 1, (ls, (st, (S, (G', nk))))) (f G')) : Sim scr d cs rk hs enc (pc, (ls, (sL z :: sI i :: sR a :: st, (S, (G, nk))))) ((ast G a n i z).bind f) := by
  unfold ast
  cases h : mIn i n with
  | false => exact sm_bnone
  | true => exact sm_step hf (by simp only [mStep, mPure, mJump, mMem, hS, h, cond_true]) (k _)
theorem sm_dst {a n : Nat} {x : List (Option Nat)} {i : Int} {z : UInt64} {f : mG → Option X} (hf : mFetch cs pc = some (pc, (.dastore, (1, e2)))) (hS : S[a]? = some (.inr (2, (n, x)))) (k : ∀ G', Sim scr d cs rk hs enc (pc + 1, (ls, (st, (S, (G', nk))))) (f G')) : Sim scr d cs rk hs enc (pc, (ls, (sD z :: sI i :: sR a :: st, (S, (G, nk))))) ((dst G a n i z).bind f) := by
  unfold dst
  cases h : mIn i n with
  | false => exact sm_bnone
  | true => exact sm_step hf (by simp only [mStep, mPure, mJump, mMem, hS, h, cond_true]) (k _)
theorem sm_pst {a c kk : Nat} {j : Nat} {fl : List (Option (Option Nat))} {z : Int} {f : mG → Option X} (hf : mFetch cs pc = some (pc, (.putfield j, (3, (c, (kk, 0)))))) (hS : S[a]? = some (.inl (c, fl))) (hk : fl[kk]? = some none) (k : ∀ G', Sim scr d cs rk hs enc (pc + 3, (ls, (st, (S, (G', nk))))) (f G')) : Sim scr d cs rk hs enc (pc, (ls, (sI z :: sR a :: st, (S, (G, nk))))) ((pst G a kk z).bind f) := by
  unfold pst
  exact sm_step hf (by simp only [mStep, mPure, mJump, mMem, hS, hk, Nat.beq_refl, cond_true, Bool.true_or]) (k _)
theorem sm_pstZ {a c kk : Nat} {j : Nat} {fl : List (Option (Option Nat))} {z : Int} {f : mG → Option X} (hf : mFetch cs pc = some (pc, (.putfield j, (3, (c, (kk, 1)))))) (hS : S[a]? = some (.inl (c, fl))) (hk : fl[kk]? = some none) (k : ∀ G', Sim scr d cs rk hs enc (pc + 3, (ls, (st, (S, (G', nk))))) (f G')) : Sim scr d cs rk hs enc (pc, (ls, (sI z :: sR a :: st, (S, (G, nk))))) ((pstZ G a kk z).bind f) := by
  unfold pstZ
  cases h : m01 z with
  | false => exact sm_bnone
  | true => exact sm_step hf (by simp only [mStep, mPure, mJump, mMem, hS, hk, h, Nat.beq_refl, cond_true, Bool.true_and, Bool.or_true]) (k _)
theorem sm_gf {a c kk : Nat} {j b : Nat} {fl : List (Option (Option Nat))} {fv : Option (Option Nat)} (hS : S[a]? = some (.inl (c, fl))) (hk : fl[kk]? = some fv) (hf : mFetch cs pc = some (pc, (.getfield j, (3, (c, (kk, b)))))) (k : Sim scr d cs rk hs enc (pc + 3, (ls, (mFld G a kk fv :: st, (S, (G, nk))))) p) : Sim scr d cs rk hs enc (pc, (ls, (sR a :: st, (S, (G, nk))))) p := sm_step hf (by simp only [mStep, mPure, mJump, mMem, hS, hk, Nat.beq_refl, cond_true]) k
theorem sm_al {a t n : Nat} {x : List (Option Nat)} (hS : S[a]? = some (.inr (t, (n, x)))) (hf : mFetch cs pc = some (pc, (.arraylength, (1, e2)))) (k : Sim scr d cs rk hs enc (pc + 1, (ls, (sI (n : Int) :: st, (S, (G, nk))))) p) : Sim scr d cs rk hs enc (pc, (ls, (sR a :: st, (S, (G, nk))))) p := sm_step hf (by simp only [mStep, mPure, mJump, mMem, hS]) k
theorem sm_acp {a0 a1 n0 n1 j y na : Nat} {x0 x1 : List (Option Nat)} {sp dp n : Int} {f : mG → Option X} (hf : mFetch cs pc = some (pc, (.invokestatic j, (3, (y, (na, 7)))))) (h0 : S[a0]? = some (.inr (0, (n0, x0)))) (h1 : S[a1]? = some (.inr (0, (n1, x1)))) (hr : Nat.ble (mWd st) 8 = true) (k : ∀ G', Sim scr d cs rk hs enc (pc + 3, (ls, (st, (S, (G', nk))))) (f G')) : Sim scr d cs rk hs enc (pc, (ls, (sI n :: sI dp :: sR a1 :: sI sp :: sR a0 :: st, (S, (G, nk))))) ((acp G a0 n0 sp a1 n1 dp n).bind f) := by
  unfold acp
  cases h : decide (0 ≤ w32 sp ∧ 0 ≤ w32 dp ∧ 0 ≤ w32 n ∧ w32 sp + w32 n ≤ (n0 : Int) ∧ w32 dp + w32 n ≤ (n1 : Int)) with
  | false => exact sm_bnone
  | true => exact sm_step hf (by simp only [mStep, mCallI, h0, h1, hr, h, Bool.and_self, cond_true]) (k _)
theorem sm_ldv {a b : Int} {f : Int → Option X} (hf : mFetch cs pc = some (pc, (.ldiv, (1, e2)))) (k : ∀ v, Sim scr d cs rk hs enc (pc + 1, (ls, (sL v :: st, M))) (f v)) : Sim scr d cs rk hs enc (pc, (ls, (sL b :: sL a :: st, M))) ((ldv a b).bind f) := by
  unfold ldv
  cases h : decide (w64 b = 0) with
  | true => exact sm_bnone
  | false => exact sm_step hf (by simp only [mStep, mPure, mBinLD, mWith, h, cond_false]) (k _)
theorem sm_ddv {x y : UInt64} {f : UInt64 → Option X} (hf : mFetch cs pc = some (pc, (.ddiv, (1, e2)))) (k : ∀ v, Sim scr d cs rk hs enc (pc + 1, (ls, (sD v :: st, M))) (f v)) : Sim scr d cs rk hs enc (pc, (ls, (sD y :: sD x :: st, M))) ((ddv x y).bind f) := by
  unfold ddv
  cases h : n64 (FP.ddiv x y) with
  | false => exact sm_bnone
  | true => exact sm_step hf (by simp only [mStep, mPure, h, cond_true]) (k _)
theorem sm_fdv {x y : UInt32} {f : UInt32 → Option X} (hf : mFetch cs pc = some (pc, (.fdiv, (1, e2)))) (k : ∀ v, Sim scr d cs rk hs enc (pc + 1, (ls, (sF v :: st, M))) (f v)) : Sim scr d cs rk hs enc (pc, (ls, (sF y :: sF x :: st, M))) ((fdv x y).bind f) := by
  unfold fdv
  cases h : n32 (FP.fdiv x y) with
  | false => exact sm_bnone
  | true => exact sm_step hf (by simp only [mStep, mPure, h, cond_true]) (k _)
theorem sm_ftd {x : UInt32} {f : UInt64 → Option X} (hf : mFetch cs pc = some (pc, (.f2d, (1, e2)))) (k : ∀ v, Sim scr d cs rk hs enc (pc + 1, (ls, (sD v :: st, M))) (f v)) : Sim scr d cs rk hs enc (pc, (ls, (sF x :: st, M))) ((ftd x).bind f) := by
  unfold ftd
  cases h : n64 (FP.f2d x) with
  | false => exact sm_bnone
  | true => exact sm_step hf (by simp only [mStep, mPure, h, cond_true]) (k _)
theorem sm_if2 {c : ClassFile.Cond} {off a b : Int} {t : Bool} {pt : Nat} (ht : mCmp c a b = t) (hp : mTgt pc off = pt) (hf : mFetch cs pc = some (pc, (.if_icmp c off, (3, e2)))) (k1 : t = true → Sim scr d cs rk hs enc (pt, (ls, (st, M))) p1) (k2 : t = false → Sim scr d cs rk hs enc (pc + 3, (ls, (st, M))) p2) : Sim scr d cs rk hs enc (pc, (ls, (sI b :: sI a :: st, M))) (cond t p1 p2) := by
  cases t with
  | true => exact sm_step hf (by simp only [mStep, mPure, mJump, ht, hp, cond_true]) (k1 rfl)
  | false => exact sm_step hf (by simp only [mStep, mPure, mJump, ht, cond_false]) (k2 rfl)
theorem sm_if2n {c : ClassFile.Cond} {off a b : Int} {t : Bool} {pt : Nat} (ht : mCmp c a b = !t) (hp : mTgt pc off = pt) (hf : mFetch cs pc = some (pc, (.if_icmp c off, (3, e2)))) (k1 : t = true → Sim scr d cs rk hs enc (pc + 3, (ls, (st, M))) p1) (k2 : t = false → Sim scr d cs rk hs enc (pt, (ls, (st, M))) p2) : Sim scr d cs rk hs enc (pc, (ls, (sI b :: sI a :: st, M))) (cond t p1 p2) := by
  cases t with
  | true => exact sm_step hf (by simp only [mStep, mPure, mJump, ht, Bool.not_true, cond_false]) (k1 rfl)
  | false => exact sm_step hf (by simp only [mStep, mPure, mJump, ht, hp, Bool.not_false, cond_true]) (k2 rfl)
theorem sm_if1 {c : ClassFile.Cond} {off a : Int} {t : Bool} {pt : Nat} (ht : mCmp c a 0 = t) (hp : mTgt pc off = pt) (hf : mFetch cs pc = some (pc, (.ifCond c off, (3, e2)))) (k1 : t = true → Sim scr d cs rk hs enc (pt, (ls, (st, M))) p1) (k2 : t = false → Sim scr d cs rk hs enc (pc + 3, (ls, (st, M))) p2) : Sim scr d cs rk hs enc (pc, (ls, (sI a :: st, M))) (cond t p1 p2) := by
  cases t with
  | true => exact sm_step hf (by simp only [mStep, mPure, mJump, ht, hp, cond_true]) (k1 rfl)
  | false => exact sm_step hf (by simp only [mStep, mPure, mJump, ht, cond_false]) (k2 rfl)
theorem sm_if1n {c : ClassFile.Cond} {off a : Int} {t : Bool} {pt : Nat} (ht : mCmp c a 0 = !t) (hp : mTgt pc off = pt) (hf : mFetch cs pc = some (pc, (.ifCond c off, (3, e2)))) (k1 : t = true → Sim scr d cs rk hs enc (pc + 3, (ls, (st, M))) p1) (k2 : t = false → Sim scr d cs rk hs enc (pt, (ls, (st, M))) p2) : Sim scr d cs rk hs enc (pc, (ls, (sI a :: st, M))) (cond t p1 p2) := by
  cases t with
  | true => exact sm_step hf (by simp only [mStep, mPure, mJump, ht, Bool.not_true, cond_false]) (k1 rfl)
  | false => exact sm_step hf (by simp only [mStep, mPure, mJump, ht, hp, Bool.not_false, cond_true]) (k2 rfl)
/-- a switch's case: the state stands at the switch in both -/
theorem sm_sw {s : mS} {v c : Int} (k1 : w32 v = c → Sim scr d cs rk hs enc s p1) (k2 : w32 v ≠ c → Sim scr d cs rk hs enc s p2) : Sim scr d cs rk hs enc s (cond (decide (w32 v = c)) p1 p2) := by
  by_cases h : w32 v = c
  · rw [decide_eq_true h]
    exact k1 h
  · rw [decide_eq_false h]
    exact k2 h
theorem sm_swC {df lo hi : Int} {offs : Array Int} {v c : Int} {pt : Nat} {ln : Nat} (hv : w32 v = c) (hf : mFetch cs pc = some (pc, (.tableswitch df lo hi offs, (ln, e2)))) (ht : (bif decide (c < lo ∨ hi < c) then some (mTgt pc df) else (offs.toList[(c - lo).toNat]?).map (fun o => mTgt pc o)) = some pt) (k : Sim scr d cs rk hs enc (pt, (ls, (st, M))) p) : Sim scr d cs rk hs enc (pc, (ls, (sI v :: st, M))) p := by
  refine sm_step hf ?_ k
  simp only [mStep, mPure, mJump, hv]
  revert ht
  cases decide (c < lo ∨ hi < c) with
  | true => intro ht; cases ht; rfl
  | false =>
    cases offs.toList[(c - lo).toNat]? with
    | none => intro ht; cases ht
    | some o => intro ht; cases ht; rfl
theorem sm_swD {df lo hi : Int} {offs : Array Int} {v : Int} {pt : Nat} {ln : Nat} (hv : w32 v < lo ∨ hi < w32 v) (hf : mFetch cs pc = some (pc, (.tableswitch df lo hi offs, (ln, e2)))) (ht : mTgt pc df = pt) (k : Sim scr d cs rk hs enc (pt, (ls, (st, M))) p) : Sim scr d cs rk hs enc (pc, (ls, (sI v :: st, M))) p := by
  refine sm_step hf ?_ k
  simp only [mStep, mPure, mJump, decide_eq_true hv, cond_true, ht]
theorem sm_retI {e : Nat × (Nat × (Nat × Nat))} {v : Int} {x : X} (hf : mFetch cs pc = some (pc, (.ireturn, e))) (hrk : Nat.beq rk 0 = true) (he : enc x = (.inl (some (sI v)), M)) : Sim scr d cs rk hs enc (pc, (ls, ([sI v], M))) (some x) := by
  refine sm_ret hf ?_
  simp only [mStep, hrk, Bool.true_or, cond_true, he]
theorem sm_retL {e : Nat × (Nat × (Nat × Nat))} {v : Int} {x : X} (hf : mFetch cs pc = some (pc, (.lreturn, e))) (he : enc x = (.inl (some (sL v)), M)) : Sim scr d cs rk hs enc (pc, (ls, ([sL v], M))) (some x) := by
  refine sm_ret hf ?_
  simp only [mStep, he]
theorem sm_retD {e : Nat × (Nat × (Nat × Nat))} {v : UInt64} {x : X} (hf : mFetch cs pc = some (pc, (.dreturn, e))) (he : enc x = (.inl (some (sD v)), M)) : Sim scr d cs rk hs enc (pc, (ls, ([sD v], M))) (some x) := by
  refine sm_ret hf ?_
  simp only [mStep, he]
theorem sm_retF {e : Nat × (Nat × (Nat × Nat))} {v : UInt32} {x : X} (hf : mFetch cs pc = some (pc, (.freturn, e))) (he : enc x = (.inl (some (sF v)), M)) : Sim scr d cs rk hs enc (pc, (ls, ([sF v], M))) (some x) := by
  refine sm_ret hf ?_
  simp only [mStep, he]
theorem sm_retU {e : Nat × (Nat × (Nat × Nat))} {x : X} (hf : mFetch cs pc = some (pc, (.return_, e))) (he : enc x = (.inl none, M)) : Sim scr d cs rk hs enc (pc, (ls, ([], M))) (some x) := by
  refine sm_ret hf ?_
  simp only [mStep, he]
theorem sm_exc {i E : Nat} {e : Nat × Nat} {ln : Nat} {x : X} (hf : mFetch cs pc = some (pc, (.new i, (ln, (E, e))))) (hE : Nat.ble 1000 E = true) (hl : Nat.ble (mWd st) 8 = true) (he : enc x = (.inr (E - 1000), (M.1, (M.2.1, (M.2.2.1 + 1, M.2.2.2 + 6))))) : Sim scr d cs rk [] enc (pc, (ls, (st, M))) (some x) := by
  refine sm_ret hf ?_
  simp only [mStep, hE, hl, List.isEmpty_nil, Bool.and_self, cond_true, he]
theorem sm_retB {e : Nat × (Nat × (Nat × Nat))} {b : Bool} {encB : Bool → mO × mM} (hf : mFetch cs pc = some (pc, (.ireturn, e))) (he : encB b = (.inl (some (sI (b2i b))), M)) : Sim scr d cs rk hs encB (pc, (ls, ([sI (b2i b)], M))) (some b) := by
  refine sm_ret hf ?_
  simp only [mStep, m01_b2i, Bool.or_true, cond_true, he]
theorem sm_retB1 {e : Nat × (Nat × (Nat × Nat))} {b : Bool} {x : X} (hf : mFetch cs pc = some (pc, (.ireturn, e))) (he : enc x = (.inl (some (sI (b2i b))), M)) : Sim scr d cs rk hs enc (pc, (ls, ([sI (b2i b)], M))) (some x) := by
  refine sm_ret hf ?_
  simp only [mStep, m01_b2i, Bool.or_true, cond_true, he]
theorem sm_retZ {e : Nat × (Nat × (Nat × Nat))} {z : Int} {f : Bool → Option X} (hf : mFetch cs pc = some (pc, (.ireturn, e))) (k : ∀ b, z = b2i b → Sim scr d cs rk hs enc (pc, (ls, ([sI (b2i b)], M))) (f b)) : Sim scr d cs rk hs enc (pc, (ls, ([sI z], M))) ((retZ z).bind f) := by
  unfold retZ
  cases h : m01 z with
  | false => exact sm_bnone
  | true =>
    have h1 := of_decide_eq_true (h : decide (z = 0 ∨ z = 1) = true)
    rcases h1 with rfl | rfl
    · exact k false rfl
    · exact k true rfl
theorem mRun_call {y n kd i : Nat} {ins : Instr} {as rest : List mV} {x0 : mO × mM} (hc : ∃ K, mCall scr K d y as M = some x0) (hf : mFetch cs pc = some (pc, (ins, (3, (y, (n, kd)))))) (hi : ins = .invokevirtual i ∨ ins = .invokestatic i ∨ ins = .invokespecial i) (hkd : (Nat.blt kd 4 || Nat.beq kd 8) = true) (hst : st = as.reverse ++ rest) (hn : as.length = n) (hr : Nat.ble (mWd rest) 8 = true) (hl : (Nat.ble kd 1 || x0.1.isLeft) = true) {res : mO × mM} (k : (∃ s', mBack hs pc ls rest x0 = some (.inl s') ∧ mRun scr d cs rk hs s' res) ∨ mBack hs pc ls rest x0 = some (.inr res)) : mRun scr d cs rk hs (pc, (ls, (st, M))) res := by
  obtain ⟨K1, hK1⟩ := hc
  have hlen : st.length = n + rest.length := by rw [hst]; simp [hn]
  have htk : (st.take n).reverse = as := by
    rw [hst, ← hn]
    rw [List.take_left' (by simp)]
    simp
  have hdr : st.drop n = rest := by
    rw [hst, ← hn]
    rw [List.drop_left' (by simp)]
  have hkd' : kd < 4 ∨ kd = 8 := by
    rw [Bool.or_eq_true] at hkd
    rcases hkd with h | h
    · exact Or.inl (Nat.ble_eq.mp h)
    · exact Or.inr (Nat.eq_of_beq_eq_true h)
  have e1 : Nat.ble n st.length = true := Nat.ble_eq.mpr (by omega)
  have hgen : ∀ K, K1 ≤ K → ∀ z, mBack hs pc ls rest x0 = some z → mStep scr (mCall scr K d) rk hs (pc, (ins, (3, (y, (n, kd))))) (pc, (ls, (st, M))) = some z := by
    intro K hK z hz
    have h3 := mCall_sub scr hK d _ _ _ _ hK1
    have h6 : mCallI (mCall scr K d) hs y n kd pc ls st M = some z := by
      have hg : mCallI (mCall scr K d) hs y n kd pc ls st M = (bif Nat.ble n st.length && Nat.ble (mWd (st.drop n)) 8 then (match mCall scr K d y (st.take n).reverse M with
        | some x => bif Nat.ble kd 1 || x.1.isLeft then mBack hs pc ls (st.drop n) x else none
        | none => none) else none) := by
        unfold mCallI
        split
        · omega
        · omega
        · omega
        · omega
        · rfl
      rw [hg, htk, hdr, h3, e1, hr]
      simp only [Bool.and_self, cond_true, hl]
      exact hz
    unfold mStep
    rcases hi with rfl | rfl | rfl <;> exact h6
  rcases k with ⟨s', h1, K2, hK2⟩ | h1
  · refine ⟨K1 + K2 + 1, ?_⟩
    have h4 := mExec_sub (mCall_sub scr (show K2 ≤ K1 + K2 + 1 by omega) d) K2 (K1 + K2) _ _ (by omega) hK2
    simp only [mExec, hf, hgen (K1 + K2 + 1) (by omega) _ h1]
    exact h4
  · refine ⟨K1 + 1, ?_⟩
    simp only [mExec, hf, hgen (K1 + 1) (by omega) _ h1]
theorem sm_callG {y n kd i : Nat} {ins : Instr} {as rest : List mV} {encY : Y → mO × mM} {q : Option Y} {f : Y → Option X} (hc : SimC scr d y as M encY q) (hf : mFetch cs pc = some (pc, (ins, (3, (y, (n, kd)))))) (hi : ins = .invokevirtual i ∨ ins = .invokestatic i ∨ ins = .invokespecial i) (hkd : (Nat.blt kd 4 || Nat.beq kd 8) = true) (hst : st = as.reverse ++ rest) (hn : as.length = n) (hr : Nat.ble (mWd rest) 8 = true) (hl : ∀ z, (encY z).1.isLeft = true) (St : Y → mS) (hb : ∀ z, mBack hs pc ls rest (encY z) = some (.inl (St z))) (k : ∀ z, Sim scr d cs rk hs enc (St z) (f z)) : Sim scr d cs rk hs enc (pc, (ls, (st, M))) (q.bind f) := by
  intro x hx
  cases q with
  | none => exact nomatch hx
  | some z => exact mRun_call (hc z rfl) hf hi hkd hst hn hr (by rw [hl z]; exact Bool.or_true _) (Or.inl ⟨_, hb z, k z x hx⟩)
theorem sm_thr {T Z : Type} {y n kd i : Nat} {ins : Instr} {as rest : List mV} {encY : (T ⊕ Nat) × mW → mO × mM} {encZ : (Z ⊕ Nat) × mW → mO × mM} {q : Option ((T ⊕ Nat) × mW)} {f : T → mW → Option ((Z ⊕ Nat) × mW)} (hc : SimC scr d y as M encY q) (hf : mFetch cs pc = some (pc, (ins, (3, (y, (n, kd)))))) (hi : ins = .invokevirtual i ∨ ins = .invokestatic i ∨ ins = .invokespecial i) (hkd : Nat.ble kd 1 = true) (hst : st = as.reverse ++ rest) (hn : as.length = n) (hr : Nat.ble (mWd rest) 8 = true) (heY : ∀ E W, encY (.inr E, W) = (.inr E, mkM W)) (heZ : ∀ E W, encZ (.inr E, W) = (.inr E, mkM W)) (St : T → mW → mS) (hb : ∀ v W, mBack [] pc ls rest (encY (.inl v, W)) = some (.inl (St v W))) (k : ∀ v W, Sim scr d cs rk [] encZ (St v W) (f v W)) : Sim scr d cs rk [] encZ (pc, (ls, (st, M))) (thrB q f) := by
  have hkd' : (Nat.blt kd 4 || Nat.beq kd 8) = true := by
    have := Nat.ble_eq.mp hkd
    rw [Bool.or_eq_true]
    exact Or.inl (Nat.ble_eq.mpr (by omega))
  have hl : ∀ b : Bool, (Nat.ble kd 1 || b) = true := fun b => by rw [hkd]; rfl
  intro x hx
  cases q with
  | none => exact nomatch hx
  | some z =>
    obtain ⟨z1, W⟩ := z
    cases z1 with
    | inl v => exact mRun_call (hc _ rfl) hf hi hkd' hst hn hr (hl _) (Or.inl ⟨_, hb v W, k v W x hx⟩)
    | inr E =>
      cases hx
      refine mRun_call (hc _ rfl) hf hi hkd' hst hn hr (hl _) (Or.inr ?_)
      rw [heY, heZ]
      rfl
theorem sm_notB {T : Type} {y n kd i : Nat} {ins : Instr} {as rest : List mV} {encY : (T ⊕ Nat) × mW → mO × mM} {q : Option ((T ⊕ Nat) × mW)} {f : T → mW → Option X} (hc : SimC scr d y as M encY q) (hf : mFetch cs pc = some (pc, (ins, (3, (y, (n, kd)))))) (hi : ins = .invokevirtual i ∨ ins = .invokestatic i ∨ ins = .invokespecial i) (hkd : (Nat.blt kd 4 || Nat.beq kd 8) = true) (hst : st = as.reverse ++ rest) (hn : as.length = n) (hr : Nat.ble (mWd rest) 8 = true) (hl : ∀ v W, (encY (.inl v, W)).1.isLeft = true) (St : T → mW → mS) (hb : ∀ v W, mBack hs pc ls rest (encY (.inl v, W)) = some (.inl (St v W))) (k : ∀ v W, Sim scr d cs rk hs enc (St v W) (f v W)) : Sim scr d cs rk hs enc (pc, (ls, (st, M))) (notB q f) := by
  intro x hx
  cases q with
  | none => exact nomatch hx
  | some z =>
    obtain ⟨z1, W⟩ := z
    cases z1 with
    | inl v => exact mRun_call (hc _ rfl) hf hi hkd hst hn hr (by rw [hl v W]; exact Bool.or_true _) (Or.inl ⟨_, hb v W, k v W x hx⟩)
    | inr E => exact nomatch hx
/-- a call in a method with handlers: h: what the handler of each kind does -/
theorem sm_ctc {T : Type} {y n kd i : Nat} {ins : Instr} {as rest : List mV} {encY : (T ⊕ Nat) × mW → mO × mM} {q : Option ((T ⊕ Nat) × mW)} {f : T → mW → Option X} {h0 h1 h2 : mW → Option X} (hc : SimC scr d y as M encY q) (hf : mFetch cs pc = some (pc, (ins, (3, (y, (n, kd)))))) (hi : ins = .invokevirtual i ∨ ins = .invokestatic i ∨ ins = .invokespecial i) (hkd : Nat.ble kd 1 = true) (hst : st = as.reverse ++ rest) (hn : as.length = n) (hr : Nat.ble (mWd rest) 8 = true) (heY : ∀ E W, encY (.inr E, W) = (.inr E, mkM W)) (St : T → mW → mS) (hb : ∀ v W, mBack hs pc ls rest (encY (.inl v, W)) = some (.inl (St v W))) (k : ∀ v W, Sim scr d cs rk hs enc (St v W) (f v W))
    (k0 : (∃ pch, mCatch hs pc 0 = some pch ∧ ∀ W, Sim scr d cs rk hs enc (pch, (ls, ([sO], mkM W))) (h0 W)) ∨ h0 = fun _ => none)
    (k1 : (∃ pch, mCatch hs pc 1 = some pch ∧ ∀ W, Sim scr d cs rk hs enc (pch, (ls, ([sO], mkM W))) (h1 W)) ∨ h1 = fun _ => none)
    (k2 : (∃ pch, mCatch hs pc 2 = some pch ∧ ∀ W, Sim scr d cs rk hs enc (pch, (ls, ([sO], mkM W))) (h2 W)) ∨ h2 = fun _ => none) : Sim scr d cs rk hs enc (pc, (ls, (st, M))) (ctcB q f h0 h1 h2) := by
  have hkd' : (Nat.blt kd 4 || Nat.beq kd 8) = true := by
    have := Nat.ble_eq.mp hkd
    rw [Bool.or_eq_true]
    exact Or.inl (Nat.ble_eq.mpr (by omega))
  have hl : ∀ b : Bool, (Nat.ble kd 1 || b) = true := fun b => by rw [hkd]; rfl
  have key : ∀ (E : Nat) (h : mW → Option X), ((∃ pch, mCatch hs pc E = some pch ∧ ∀ W, Sim scr d cs rk hs enc (pch, (ls, ([sO], mkM W))) (h W)) ∨ h = fun _ => none) → ∀ W, q = some (.inr E, W) → ∀ x, h W = some x → mRun scr d cs rk hs (pc, (ls, (st, M))) (enc x) := by
    intro E h hk W hq x hx
    rcases hk with ⟨pch, hp, hs'⟩ | rfl
    · refine mRun_call (hc _ hq) hf hi hkd' hst hn hr (hl _) (Or.inl ⟨_, ?_, hs' W x hx⟩)
      rw [heY]
      simp only [mBack, hp]
    · exact nomatch hx
  intro x hx
  cases hq : q with
  | none => rw [hq] at hx; exact nomatch hx
  | some z =>
    obtain ⟨z1, W⟩ := z
    rw [hq] at hx
    cases z1 with
    | inl v => exact mRun_call (hc _ hq) hf hi hkd' hst hn hr (hl _) (Or.inl ⟨_, hb v W, k v W x hx⟩)
    | inr E =>
      match E with
      | 0 => exact key 0 h0 k0 W hq x hx
      | 1 => exact key 1 h1 k1 W hq x hx
      | 2 => exact key 2 h2 k2 W hq x hx
      | E + 3 => exact nomatch hx
end SR

section SQ
variable {X : Type} {scr : mScr} {d : Nat} {cs : List (List mI)} {rk : Nat} {hs : mHs} {enc : X → mO × mM} {s : mS}
theorem sm_letK0 {Γ : Type} {j : Option X} {body : (Option X) → Option X} (S : Γ → mS) (h1 : ∀ g, Sim scr d cs rk hs enc (S g) (j)) (h2 : ∀ k : Option X, (∀ g, Sim scr d cs rk hs enc (S g) (k)) → Sim scr d cs rk hs enc s (body k)) : Sim scr d cs rk hs enc s (letK j body) := h2 j h1
def loop1 {α0 R : Type} : Nat → ((α0 → Option R) → α0 → Option R) → α0 → Option R
  | 0, _ => fun _ => none
  | n + 1, F => F (loop1 n F)
theorem sm_loop1 {α0 : Type} {Γ : Type} {F : (α0 → Option X) → α0 → Option X} (S : Γ → α0 → mS) (h : ∀ again : α0 → Option X, (∀ g y0, Sim scr d cs rk hs enc (S g y0) (again y0)) → ∀ g y0, Sim scr d cs rk hs enc (S g y0) (F again y0)) : ∀ (n : Nat) (g : Γ) (y0 : α0), Sim scr d cs rk hs enc (S g y0) (loop1 n F y0)
  | 0 => fun _ _ _ h => nomatch h
  | n + 1 => fun g y0 => h (loop1 n F) (sm_loop1 S h n) g y0
theorem sm_letK1 {α0 : Type} {Γ : Type} {j : α0 → Option X} {body : (α0 → Option X) → Option X} (S : Γ → α0 → mS) (h1 : ∀ g y0, Sim scr d cs rk hs enc (S g y0) (j y0)) (h2 : ∀ k : α0 → Option X, (∀ g y0, Sim scr d cs rk hs enc (S g y0) (k y0)) → Sim scr d cs rk hs enc s (body k)) : Sim scr d cs rk hs enc s (letK j body) := h2 j h1
def loop2 {α0 α1 R : Type} : Nat → ((α0 → α1 → Option R) → α0 → α1 → Option R) → α0 → α1 → Option R
  | 0, _ => fun _ _ => none
  | n + 1, F => F (loop2 n F)
theorem sm_loop2 {α0 α1 : Type} {Γ : Type} {F : (α0 → α1 → Option X) → α0 → α1 → Option X} (S : Γ → α0 → α1 → mS) (h : ∀ again : α0 → α1 → Option X, (∀ g y0 y1, Sim scr d cs rk hs enc (S g y0 y1) (again y0 y1)) → ∀ g y0 y1, Sim scr d cs rk hs enc (S g y0 y1) (F again y0 y1)) : ∀ (n : Nat) (g : Γ) (y0 : α0) (y1 : α1), Sim scr d cs rk hs enc (S g y0 y1) (loop2 n F y0 y1)
  | 0 => fun _ _ _ _ h => nomatch h
  | n + 1 => fun g y0 y1 => h (loop2 n F) (sm_loop2 S h n) g y0 y1
theorem sm_letK2 {α0 α1 : Type} {Γ : Type} {j : α0 → α1 → Option X} {body : (α0 → α1 → Option X) → Option X} (S : Γ → α0 → α1 → mS) (h1 : ∀ g y0 y1, Sim scr d cs rk hs enc (S g y0 y1) (j y0 y1)) (h2 : ∀ k : α0 → α1 → Option X, (∀ g y0 y1, Sim scr d cs rk hs enc (S g y0 y1) (k y0 y1)) → Sim scr d cs rk hs enc s (body k)) : Sim scr d cs rk hs enc s (letK j body) := h2 j h1
def loop3 {α0 α1 α2 R : Type} : Nat → ((α0 → α1 → α2 → Option R) → α0 → α1 → α2 → Option R) → α0 → α1 → α2 → Option R
  | 0, _ => fun _ _ _ => none
  | n + 1, F => F (loop3 n F)
theorem sm_loop3 {α0 α1 α2 : Type} {Γ : Type} {F : (α0 → α1 → α2 → Option X) → α0 → α1 → α2 → Option X} (S : Γ → α0 → α1 → α2 → mS) (h : ∀ again : α0 → α1 → α2 → Option X, (∀ g y0 y1 y2, Sim scr d cs rk hs enc (S g y0 y1 y2) (again y0 y1 y2)) → ∀ g y0 y1 y2, Sim scr d cs rk hs enc (S g y0 y1 y2) (F again y0 y1 y2)) : ∀ (n : Nat) (g : Γ) (y0 : α0) (y1 : α1) (y2 : α2), Sim scr d cs rk hs enc (S g y0 y1 y2) (loop3 n F y0 y1 y2)
  | 0 => fun _ _ _ _ _ h => nomatch h
  | n + 1 => fun g y0 y1 y2 => h (loop3 n F) (sm_loop3 S h n) g y0 y1 y2
theorem sm_letK3 {α0 α1 α2 : Type} {Γ : Type} {j : α0 → α1 → α2 → Option X} {body : (α0 → α1 → α2 → Option X) → Option X} (S : Γ → α0 → α1 → α2 → mS) (h1 : ∀ g y0 y1 y2, Sim scr d cs rk hs enc (S g y0 y1 y2) (j y0 y1 y2)) (h2 : ∀ k : α0 → α1 → α2 → Option X, (∀ g y0 y1 y2, Sim scr d cs rk hs enc (S g y0 y1 y2) (k y0 y1 y2)) → Sim scr d cs rk hs enc s (body k)) : Sim scr d cs rk hs enc s (letK j body) := h2 j h1
def loop4 {α0 α1 α2 α3 R : Type} : Nat → ((α0 → α1 → α2 → α3 → Option R) → α0 → α1 → α2 → α3 → Option R) → α0 → α1 → α2 → α3 → Option R
  | 0, _ => fun _ _ _ _ => none
  | n + 1, F => F (loop4 n F)
theorem sm_loop4 {α0 α1 α2 α3 : Type} {Γ : Type} {F : (α0 → α1 → α2 → α3 → Option X) → α0 → α1 → α2 → α3 → Option X} (S : Γ → α0 → α1 → α2 → α3 → mS) (h : ∀ again : α0 → α1 → α2 → α3 → Option X, (∀ g y0 y1 y2 y3, Sim scr d cs rk hs enc (S g y0 y1 y2 y3) (again y0 y1 y2 y3)) → ∀ g y0 y1 y2 y3, Sim scr d cs rk hs enc (S g y0 y1 y2 y3) (F again y0 y1 y2 y3)) : ∀ (n : Nat) (g : Γ) (y0 : α0) (y1 : α1) (y2 : α2) (y3 : α3), Sim scr d cs rk hs enc (S g y0 y1 y2 y3) (loop4 n F y0 y1 y2 y3)
  | 0 => fun _ _ _ _ _ _ h => nomatch h
  | n + 1 => fun g y0 y1 y2 y3 => h (loop4 n F) (sm_loop4 S h n) g y0 y1 y2 y3
theorem sm_letK4 {α0 α1 α2 α3 : Type} {Γ : Type} {j : α0 → α1 → α2 → α3 → Option X} {body : (α0 → α1 → α2 → α3 → Option X) → Option X} (S : Γ → α0 → α1 → α2 → α3 → mS) (h1 : ∀ g y0 y1 y2 y3, Sim scr d cs rk hs enc (S g y0 y1 y2 y3) (j y0 y1 y2 y3)) (h2 : ∀ k : α0 → α1 → α2 → α3 → Option X, (∀ g y0 y1 y2 y3, Sim scr d cs rk hs enc (S g y0 y1 y2 y3) (k y0 y1 y2 y3)) → Sim scr d cs rk hs enc s (body k)) : Sim scr d cs rk hs enc s (letK j body) := h2 j h1
def loop5 {α0 α1 α2 α3 α4 R : Type} : Nat → ((α0 → α1 → α2 → α3 → α4 → Option R) → α0 → α1 → α2 → α3 → α4 → Option R) → α0 → α1 → α2 → α3 → α4 → Option R
  | 0, _ => fun _ _ _ _ _ => none
  | n + 1, F => F (loop5 n F)
theorem sm_loop5 {α0 α1 α2 α3 α4 : Type} {Γ : Type} {F : (α0 → α1 → α2 → α3 → α4 → Option X) → α0 → α1 → α2 → α3 → α4 → Option X} (S : Γ → α0 → α1 → α2 → α3 → α4 → mS) (h : ∀ again : α0 → α1 → α2 → α3 → α4 → Option X, (∀ g y0 y1 y2 y3 y4, Sim scr d cs rk hs enc (S g y0 y1 y2 y3 y4) (again y0 y1 y2 y3 y4)) → ∀ g y0 y1 y2 y3 y4, Sim scr d cs rk hs enc (S g y0 y1 y2 y3 y4) (F again y0 y1 y2 y3 y4)) : ∀ (n : Nat) (g : Γ) (y0 : α0) (y1 : α1) (y2 : α2) (y3 : α3) (y4 : α4), Sim scr d cs rk hs enc (S g y0 y1 y2 y3 y4) (loop5 n F y0 y1 y2 y3 y4)
  | 0 => fun _ _ _ _ _ _ _ h => nomatch h
  | n + 1 => fun g y0 y1 y2 y3 y4 => h (loop5 n F) (sm_loop5 S h n) g y0 y1 y2 y3 y4
theorem sm_letK5 {α0 α1 α2 α3 α4 : Type} {Γ : Type} {j : α0 → α1 → α2 → α3 → α4 → Option X} {body : (α0 → α1 → α2 → α3 → α4 → Option X) → Option X} (S : Γ → α0 → α1 → α2 → α3 → α4 → mS) (h1 : ∀ g y0 y1 y2 y3 y4, Sim scr d cs rk hs enc (S g y0 y1 y2 y3 y4) (j y0 y1 y2 y3 y4)) (h2 : ∀ k : α0 → α1 → α2 → α3 → α4 → Option X, (∀ g y0 y1 y2 y3 y4, Sim scr d cs rk hs enc (S g y0 y1 y2 y3 y4) (k y0 y1 y2 y3 y4)) → Sim scr d cs rk hs enc s (body k)) : Sim scr d cs rk hs enc s (letK j body) := h2 j h1
def loop6 {α0 α1 α2 α3 α4 α5 R : Type} : Nat → ((α0 → α1 → α2 → α3 → α4 → α5 → Option R) → α0 → α1 → α2 → α3 → α4 → α5 → Option R) → α0 → α1 → α2 → α3 → α4 → α5 → Option R
  | 0, _ => fun _ _ _ _ _ _ => none
  | n + 1, F => F (loop6 n F)
theorem sm_loop6 {α0 α1 α2 α3 α4 α5 : Type} {Γ : Type} {F : (α0 → α1 → α2 → α3 → α4 → α5 → Option X) → α0 → α1 → α2 → α3 → α4 → α5 → Option X} (S : Γ → α0 → α1 → α2 → α3 → α4 → α5 → mS) (h : ∀ again : α0 → α1 → α2 → α3 → α4 → α5 → Option X, (∀ g y0 y1 y2 y3 y4 y5, Sim scr d cs rk hs enc (S g y0 y1 y2 y3 y4 y5) (again y0 y1 y2 y3 y4 y5)) → ∀ g y0 y1 y2 y3 y4 y5, Sim scr d cs rk hs enc (S g y0 y1 y2 y3 y4 y5) (F again y0 y1 y2 y3 y4 y5)) : ∀ (n : Nat) (g : Γ) (y0 : α0) (y1 : α1) (y2 : α2) (y3 : α3) (y4 : α4) (y5 : α5), Sim scr d cs rk hs enc (S g y0 y1 y2 y3 y4 y5) (loop6 n F y0 y1 y2 y3 y4 y5)
  | 0 => fun _ _ _ _ _ _ _ _ h => nomatch h
  | n + 1 => fun g y0 y1 y2 y3 y4 y5 => h (loop6 n F) (sm_loop6 S h n) g y0 y1 y2 y3 y4 y5
theorem sm_letK6 {α0 α1 α2 α3 α4 α5 : Type} {Γ : Type} {j : α0 → α1 → α2 → α3 → α4 → α5 → Option X} {body : (α0 → α1 → α2 → α3 → α4 → α5 → Option X) → Option X} (S : Γ → α0 → α1 → α2 → α3 → α4 → α5 → mS) (h1 : ∀ g y0 y1 y2 y3 y4 y5, Sim scr d cs rk hs enc (S g y0 y1 y2 y3 y4 y5) (j y0 y1 y2 y3 y4 y5)) (h2 : ∀ k : α0 → α1 → α2 → α3 → α4 → α5 → Option X, (∀ g y0 y1 y2 y3 y4 y5, Sim scr d cs rk hs enc (S g y0 y1 y2 y3 y4 y5) (k y0 y1 y2 y3 y4 y5)) → Sim scr d cs rk hs enc s (body k)) : Sim scr d cs rk hs enc s (letK j body) := h2 j h1
def loop7 {α0 α1 α2 α3 α4 α5 α6 R : Type} : Nat → ((α0 → α1 → α2 → α3 → α4 → α5 → α6 → Option R) → α0 → α1 → α2 → α3 → α4 → α5 → α6 → Option R) → α0 → α1 → α2 → α3 → α4 → α5 → α6 → Option R
  | 0, _ => fun _ _ _ _ _ _ _ => none
  | n + 1, F => F (loop7 n F)
theorem sm_loop7 {α0 α1 α2 α3 α4 α5 α6 : Type} {Γ : Type} {F : (α0 → α1 → α2 → α3 → α4 → α5 → α6 → Option X) → α0 → α1 → α2 → α3 → α4 → α5 → α6 → Option X} (S : Γ → α0 → α1 → α2 → α3 → α4 → α5 → α6 → mS) (h : ∀ again : α0 → α1 → α2 → α3 → α4 → α5 → α6 → Option X, (∀ g y0 y1 y2 y3 y4 y5 y6, Sim scr d cs rk hs enc (S g y0 y1 y2 y3 y4 y5 y6) (again y0 y1 y2 y3 y4 y5 y6)) → ∀ g y0 y1 y2 y3 y4 y5 y6, Sim scr d cs rk hs enc (S g y0 y1 y2 y3 y4 y5 y6) (F again y0 y1 y2 y3 y4 y5 y6)) : ∀ (n : Nat) (g : Γ) (y0 : α0) (y1 : α1) (y2 : α2) (y3 : α3) (y4 : α4) (y5 : α5) (y6 : α6), Sim scr d cs rk hs enc (S g y0 y1 y2 y3 y4 y5 y6) (loop7 n F y0 y1 y2 y3 y4 y5 y6)
  | 0 => fun _ _ _ _ _ _ _ _ _ h => nomatch h
  | n + 1 => fun g y0 y1 y2 y3 y4 y5 y6 => h (loop7 n F) (sm_loop7 S h n) g y0 y1 y2 y3 y4 y5 y6
theorem sm_letK7 {α0 α1 α2 α3 α4 α5 α6 : Type} {Γ : Type} {j : α0 → α1 → α2 → α3 → α4 → α5 → α6 → Option X} {body : (α0 → α1 → α2 → α3 → α4 → α5 → α6 → Option X) → Option X} (S : Γ → α0 → α1 → α2 → α3 → α4 → α5 → α6 → mS) (h1 : ∀ g y0 y1 y2 y3 y4 y5 y6, Sim scr d cs rk hs enc (S g y0 y1 y2 y3 y4 y5 y6) (j y0 y1 y2 y3 y4 y5 y6)) (h2 : ∀ k : α0 → α1 → α2 → α3 → α4 → α5 → α6 → Option X, (∀ g y0 y1 y2 y3 y4 y5 y6, Sim scr d cs rk hs enc (S g y0 y1 y2 y3 y4 y5 y6) (k y0 y1 y2 y3 y4 y5 y6)) → Sim scr d cs rk hs enc s (body k)) : Sim scr d cs rk hs enc s (letK j body) := h2 j h1
def loop8 {α0 α1 α2 α3 α4 α5 α6 α7 R : Type} : Nat → ((α0 → α1 → α2 → α3 → α4 → α5 → α6 → α7 → Option R) → α0 → α1 → α2 → α3 → α4 → α5 → α6 → α7 → Option R) → α0 → α1 → α2 → α3 → α4 → α5 → α6 → α7 → Option R
  | 0, _ => fun _ _ _ _ _ _ _ _ => none
  | n + 1, F => F (loop8 n F)
theorem sm_loop8 {α0 α1 α2 α3 α4 α5 α6 α7 : Type} {Γ : Type} {F : (α0 → α1 → α2 → α3 → α4 → α5 → α6 → α7 → Option X) → α0 → α1 → α2 → α3 → α4 → α5 → α6 → α7 → Option X} (S : Γ → α0 → α1 → α2 → α3 → α4 → α5 → α6 → α7 → mS) (h : ∀ again : α0 → α1 → α2 → α3 → α4 → α5 → α6 → α7 → Option X, (∀ g y0 y1 y2 y3 y4 y5 y6 y7, Sim scr d cs rk hs enc (S g y0 y1 y2 y3 y4 y5 y6 y7) (again y0 y1 y2 y3 y4 y5 y6 y7)) → ∀ g y0 y1 y2 y3 y4 y5 y6 y7, Sim scr d cs rk hs enc (S g y0 y1 y2 y3 y4 y5 y6 y7) (F again y0 y1 y2 y3 y4 y5 y6 y7)) : ∀ (n : Nat) (g : Γ) (y0 : α0) (y1 : α1) (y2 : α2) (y3 : α3) (y4 : α4) (y5 : α5) (y6 : α6) (y7 : α7), Sim scr d cs rk hs enc (S g y0 y1 y2 y3 y4 y5 y6 y7) (loop8 n F y0 y1 y2 y3 y4 y5 y6 y7)
  | 0 => fun _ _ _ _ _ _ _ _ _ _ h => nomatch h
  | n + 1 => fun g y0 y1 y2 y3 y4 y5 y6 y7 => h (loop8 n F) (sm_loop8 S h n) g y0 y1 y2 y3 y4 y5 y6 y7
theorem sm_letK8 {α0 α1 α2 α3 α4 α5 α6 α7 : Type} {Γ : Type} {j : α0 → α1 → α2 → α3 → α4 → α5 → α6 → α7 → Option X} {body : (α0 → α1 → α2 → α3 → α4 → α5 → α6 → α7 → Option X) → Option X} (S : Γ → α0 → α1 → α2 → α3 → α4 → α5 → α6 → α7 → mS) (h1 : ∀ g y0 y1 y2 y3 y4 y5 y6 y7, Sim scr d cs rk hs enc (S g y0 y1 y2 y3 y4 y5 y6 y7) (j y0 y1 y2 y3 y4 y5 y6 y7)) (h2 : ∀ k : α0 → α1 → α2 → α3 → α4 → α5 → α6 → α7 → Option X, (∀ g y0 y1 y2 y3 y4 y5 y6 y7, Sim scr d cs rk hs enc (S g y0 y1 y2 y3 y4 y5 y6 y7) (k y0 y1 y2 y3 y4 y5 y6 y7)) → Sim scr d cs rk hs enc s (body k)) : Sim scr d cs rk hs enc s (letK j body) := h2 j h1
def loop9 {α0 α1 α2 α3 α4 α5 α6 α7 α8 R : Type} : Nat → ((α0 → α1 → α2 → α3 → α4 → α5 → α6 → α7 → α8 → Option R) → α0 → α1 → α2 → α3 → α4 → α5 → α6 → α7 → α8 → Option R) → α0 → α1 → α2 → α3 → α4 → α5 → α6 → α7 → α8 → Option R
  | 0, _ => fun _ _ _ _ _ _ _ _ _ => none
  | n + 1, F => F (loop9 n F)
theorem sm_loop9 {α0 α1 α2 α3 α4 α5 α6 α7 α8 : Type} {Γ : Type} {F : (α0 → α1 → α2 → α3 → α4 → α5 → α6 → α7 → α8 → Option X) → α0 → α1 → α2 → α3 → α4 → α5 → α6 → α7 → α8 → Option X} (S : Γ → α0 → α1 → α2 → α3 → α4 → α5 → α6 → α7 → α8 → mS) (h : ∀ again : α0 → α1 → α2 → α3 → α4 → α5 → α6 → α7 → α8 → Option X, (∀ g y0 y1 y2 y3 y4 y5 y6 y7 y8, Sim scr d cs rk hs enc (S g y0 y1 y2 y3 y4 y5 y6 y7 y8) (again y0 y1 y2 y3 y4 y5 y6 y7 y8)) → ∀ g y0 y1 y2 y3 y4 y5 y6 y7 y8, Sim scr d cs rk hs enc (S g y0 y1 y2 y3 y4 y5 y6 y7 y8) (F again y0 y1 y2 y3 y4 y5 y6 y7 y8)) : ∀ (n : Nat) (g : Γ) (y0 : α0) (y1 : α1) (y2 : α2) (y3 : α3) (y4 : α4) (y5 : α5) (y6 : α6) (y7 : α7) (y8 : α8), Sim scr d cs rk hs enc (S g y0 y1 y2 y3 y4 y5 y6 y7 y8) (loop9 n F y0 y1 y2 y3 y4 y5 y6 y7 y8)
  | 0 => fun _ _ _ _ _ _ _ _ _ _ _ h => nomatch h
  | n + 1 => fun g y0 y1 y2 y3 y4 y5 y6 y7 y8 => h (loop9 n F) (sm_loop9 S h n) g y0 y1 y2 y3 y4 y5 y6 y7 y8
theorem sm_letK9 {α0 α1 α2 α3 α4 α5 α6 α7 α8 : Type} {Γ : Type} {j : α0 → α1 → α2 → α3 → α4 → α5 → α6 → α7 → α8 → Option X} {body : (α0 → α1 → α2 → α3 → α4 → α5 → α6 → α7 → α8 → Option X) → Option X} (S : Γ → α0 → α1 → α2 → α3 → α4 → α5 → α6 → α7 → α8 → mS) (h1 : ∀ g y0 y1 y2 y3 y4 y5 y6 y7 y8, Sim scr d cs rk hs enc (S g y0 y1 y2 y3 y4 y5 y6 y7 y8) (j y0 y1 y2 y3 y4 y5 y6 y7 y8)) (h2 : ∀ k : α0 → α1 → α2 → α3 → α4 → α5 → α6 → α7 → α8 → Option X, (∀ g y0 y1 y2 y3 y4 y5 y6 y7 y8, Sim scr d cs rk hs enc (S g y0 y1 y2 y3 y4 y5 y6 y7 y8) (k y0 y1 y2 y3 y4 y5 y6 y7 y8)) → Sim scr d cs rk hs enc s (body k)) : Sim scr d cs rk hs enc s (letK j body) := h2 j h1
def loop10 {α0 α1 α2 α3 α4 α5 α6 α7 α8 α9 R : Type} : Nat → ((α0 → α1 → α2 → α3 → α4 → α5 → α6 → α7 → α8 → α9 → Option R) → α0 → α1 → α2 → α3 → α4 → α5 → α6 → α7 → α8 → α9 → Option R) → α0 → α1 → α2 → α3 → α4 → α5 → α6 → α7 → α8 → α9 → Option R
  | 0, _ => fun _ _ _ _ _ _ _ _ _ _ => none
  | n + 1, F => F (loop10 n F)
theorem sm_loop10 {α0 α1 α2 α3 α4 α5 α6 α7 α8 α9 : Type} {Γ : Type} {F : (α0 → α1 → α2 → α3 → α4 → α5 → α6 → α7 → α8 → α9 → Option X) → α0 → α1 → α2 → α3 → α4 → α5 → α6 → α7 → α8 → α9 → Option X} (S : Γ → α0 → α1 → α2 → α3 → α4 → α5 → α6 → α7 → α8 → α9 → mS) (h : ∀ again : α0 → α1 → α2 → α3 → α4 → α5 → α6 → α7 → α8 → α9 → Option X, (∀ g y0 y1 y2 y3 y4 y5 y6 y7 y8 y9, Sim scr d cs rk hs enc (S g y0 y1 y2 y3 y4 y5 y6 y7 y8 y9) (again y0 y1 y2 y3 y4 y5 y6 y7 y8 y9)) → ∀ g y0 y1 y2 y3 y4 y5 y6 y7 y8 y9, Sim scr d cs rk hs enc (S g y0 y1 y2 y3 y4 y5 y6 y7 y8 y9) (F again y0 y1 y2 y3 y4 y5 y6 y7 y8 y9)) : ∀ (n : Nat) (g : Γ) (y0 : α0) (y1 : α1) (y2 : α2) (y3 : α3) (y4 : α4) (y5 : α5) (y6 : α6) (y7 : α7) (y8 : α8) (y9 : α9), Sim scr d cs rk hs enc (S g y0 y1 y2 y3 y4 y5 y6 y7 y8 y9) (loop10 n F y0 y1 y2 y3 y4 y5 y6 y7 y8 y9)
  | 0 => fun _ _ _ _ _ _ _ _ _ _ _ _ h => nomatch h
  | n + 1 => fun g y0 y1 y2 y3 y4 y5 y6 y7 y8 y9 => h (loop10 n F) (sm_loop10 S h n) g y0 y1 y2 y3 y4 y5 y6 y7 y8 y9
theorem sm_letK10 {α0 α1 α2 α3 α4 α5 α6 α7 α8 α9 : Type} {Γ : Type} {j : α0 → α1 → α2 → α3 → α4 → α5 → α6 → α7 → α8 → α9 → Option X} {body : (α0 → α1 → α2 → α3 → α4 → α5 → α6 → α7 → α8 → α9 → Option X) → Option X} (S : Γ → α0 → α1 → α2 → α3 → α4 → α5 → α6 → α7 → α8 → α9 → mS) (h1 : ∀ g y0 y1 y2 y3 y4 y5 y6 y7 y8 y9, Sim scr d cs rk hs enc (S g y0 y1 y2 y3 y4 y5 y6 y7 y8 y9) (j y0 y1 y2 y3 y4 y5 y6 y7 y8 y9)) (h2 : ∀ k : α0 → α1 → α2 → α3 → α4 → α5 → α6 → α7 → α8 → α9 → Option X, (∀ g y0 y1 y2 y3 y4 y5 y6 y7 y8 y9, Sim scr d cs rk hs enc (S g y0 y1 y2 y3 y4 y5 y6 y7 y8 y9) (k y0 y1 y2 y3 y4 y5 y6 y7 y8 y9)) → Sim scr d cs rk hs enc s (body k)) : Sim scr d cs rk hs enc s (letK j body) := h2 j h1
end SQ
