/-! ===== the hand-made programs: a new Shop, remember, undo: printed by wip/whole/gen/gen_man.py ===== -/
def shCells (q : Nat) : List mSh := .inl (7, [none, some (some (q + 1)), some (some (q + 2)), some (some (q + 3)), some (some (q + 4)), some (some (q + 5)), some (some (q + 6)), some (some (q + 7)), some (some (q + 8)), some (some (q + 9)), some (some (q + 10)), some (some (q + 11)), some (some (q + 12)), some (some (q + 13)), some (some (q + 14)), none, some (some (q + 15))]) :: [.inr (0, (6, [])), .inr (0, (6, [])), .inr (0, (6, [])), .inr (0, (6, [])), .inr (0, (6, [])), .inr (0, (30, [])), .inr (0, (30, [])), .inr (0, (4, [])), .inr (0, (16, [])), .inr (0, (16, [])), .inr (0, (4, [])), .inr (0, (4, [])), .inr (0, (16, [])), .inr (0, (6, [])), .inr (0, (30, []))]
def zG (G : mG) (q : Nat) : Nat → mG
  | 0 => upG G q (fun _ => 0)
  | k + 1 => upG (zG G q k) (q + (k + 1)) (fun _ => 0)
def rld (rs : List (Option Nat)) (n : Nat) (i : Int) : Option (Option Nat) := bif mIn i n then rs[mIx i]? else none
section SX
variable {X : Type} {scr : mScr} {d : Nat} {cs : List (List mI)} {rk : Nat} {hs : mHs} {enc : X → mO × mM} {ls : mL} {st : List mV} {pc : Nat} {p : Option X} {S : List mSh} {G : mG} {nk : Nat × Nat} {e2 : Nat × (Nat × Nat)}
theorem sm_newI {S0 l : List mSh} {z : Int} (a n k1 k2 : Nat) (ha : a = S0.length + l.length) (hz : mIn z 8192 = true) (hn : mIx z = n) (h1 : nk.1 + 1 = k1) (h2 : nk.2 + n = k2) (hf : mFetch cs pc = some (pc, (.newarray .int, (2, e2)))) (k : Sim scr d cs rk hs enc (pc + 2, (ls, (sR a :: st, (S0 ++ (l ++ [.inr (0, (n, []))]), (upG G a (fun _ => 0), (k1, k2)))))) p) : Sim scr d cs rk hs enc (pc, (ls, (sI z :: st, (S0 ++ l, (G, nk))))) p := by
  refine sm_step hf ?_ k
  have hL : (S0 ++ l).length = a := by rw [List.length_append, ha]
  simp only [mStep, mPure, mJump, mMem, hz, cond_true, hL, hn, h1, h2, List.append_assoc]
theorem sm_putref {S0 l : List mSh} {q v c kk j : Nat} {f1 : List (Option (Option Nat))} (f2 : List (Option (Option Nat))) (w : Option Nat) (hq : q = S0.length) (hk : f1[kk]? = some (some w)) (h2 : f1.set kk (some (some v)) = f2) (hf : mFetch cs pc = some (pc, (.putfield j, (3, (c, (kk, 2)))))) (k : Sim scr d cs rk hs enc (pc + 3, (ls, (st, (S0 ++ (.inl (c, f2) :: l), (G, nk))))) p) : Sim scr d cs rk hs enc (pc, (ls, (sR v :: sR q :: st, (S0 ++ (.inl (c, f1) :: l), (G, nk))))) p := by
  refine sm_step hf ?_ k
  have e1 : (S0 ++ (.inl (c, f1) :: l))[q]? = some (.inl (c, f1)) := by
    rw [hq, List.getElem?_append_right (Nat.le_refl _), Nat.sub_self]
    rfl
  have e2 : (S0 ++ (.inl (c, f1) :: l)).set q (.inl (c, f2)) = S0 ++ (.inl (c, f2) :: l) := by
    rw [hq, List.set_append_right _ _ (Nat.le_refl _), Nat.sub_self]
    rfl
  simp only [mStep, mPure, mJump, mMem, e1, hk, Nat.beq_refl, cond_true, h2, e2]
theorem sm_aald {a n : Nat} {rs : List (Option Nat)} {i : Int} {f : Option Nat → Option X} (hf : mFetch cs pc = some (pc, (.aaload, (1, e2)))) (hS : S[a]? = some (.inr (3, (n, rs)))) (k1 : ∀ q, mIn i n = true → Sim scr d cs rk hs enc (pc + 1, (ls, (sR q :: st, (S, (G, nk))))) (f (some q))) (k2 : mIn i n = true → Sim scr d cs rk hs enc (pc + 1, (ls, (sN :: st, (S, (G, nk))))) (f none)) : Sim scr d cs rk hs enc (pc, (ls, (sI i :: sR a :: st, (S, (G, nk))))) ((rld rs n i).bind f) := by
  unfold rld
  cases h : mIn i n with
  | false => exact sm_bnone
  | true =>
    simp only [cond_true]
    cases h1 : rs[mIx i]? with
    | none => exact sm_bnone
    | some o =>
      cases o with
      | none => exact sm_step hf (by simp only [mStep, mPure, mJump, mMem, hS, h, h1, cond_true]) (k2 h)
      | some q => exact sm_step hf (by simp only [mStep, mPure, mJump, mMem, hS, h, h1, cond_true]) (k1 q h)
theorem sm_aast {S' : List mSh} {a v c n : Nat} {rs : List (Option Nat)} {i : Int} {x : Nat × List (Option (Option Nat))} (hS : S[a]? = some (.inr (3, (n, rs)))) (hV : S[v]? = some (.inl x)) (hx : Nat.beq x.1 c = true) (hi : mIn i n = true) (h' : S.set a (.inr (3, (n, rs.set (mIx i) (some v)))) = S') (hf : mFetch cs pc = some (pc, (.aastore, (1, (c, (0, 0)))))) (k : Sim scr d cs rk hs enc (pc + 1, (ls, (st, (S', (G, nk))))) p) : Sim scr d cs rk hs enc (pc, (ls, (sR v :: sI i :: sR a :: st, (S, (G, nk))))) p := sm_step hf (by simp only [mStep, mPure, mJump, mMem, hS, hV, hx, hi, Bool.and_self, cond_true, h']) k
theorem sm_xal (hf : mFetch cs pc = some (pc, (.arraylength, (1, e2)))) (k : Sim scr d cs rk hs enc (pc + 1, (ls, (sI (scr.2.1 : Int) :: st, (S, (G, nk))))) p) : Sim scr d cs rk hs enc (pc, (ls, (sX scr.1 :: st, (S, (G, nk))))) p := sm_step hf (by simp only [mStep, mPure, mJump, mMem, Nat.beq_refl, cond_true]) k
end SX
set_option maxRecDepth 100000 in
theorem T_X7_init (scr : mScr) (d : Nat) (S : List mSh) (G : mG) (n0 k0 : Nat) : SimC scr (d + 1) 31 [sR S.length] (S ++ [.inl (7, [none, some none, some none, some none, some none, some none, some none, some none, some none, some none, some none, some none, some none, some none, some none, none, some none])], (zG G S.length 0, (n0, k0))) (fun _ : Unit => (.inl none, (S ++ shCells S.length, (zG G S.length 15, (n0 + 15, k0 + 186))))) (some ()) := by
  refine sm_callX (cs := mc_X7_init) (maxL := 1) (rk := 0) (o := 7) (hs := []) (d := d) [lR S.length] rfl ?_ rfl rfl ?_
  · have e1 : (S ++ [(.inl (7, [none, some none, some none, some none, some none, some none, some none, some none, some none, some none, some none, some none, some none, some none, some none, none, some none]) : mSh)])[S.length]? = some (.inl (7, [none, some none, some none, some none, some none, some none, some none, some none, some none, some none, some none, some none, some none, some none, some none, none, some none])) := by
      rw [List.getElem?_append_right (Nat.le_refl _), Nat.sub_self]
      rfl
    simp only [mRecv, e1, Nat.beq_refl, Bool.or_true]
  refine sm_go 2 (s' := (4, ([lR S.length], ([], (S ++ (.inl (7, [none, some none, some none, some none, some none, some none, some none, some none, some none, some none, some none, some none, some none, some none, some none, none, some none]) :: []), (zG G S.length 0, (n0, k0))))))) ?_ rfl
  refine sm_go 2 (s' := (7, ([lR S.length], ([sI 6, sR S.length], (S ++ (.inl (7, [none, some none, some none, some none, some none, some none, some none, some none, some none, some none, some none, some none, some none, some none, some none, none, some none]) :: []), (zG G S.length 0, (n0, k0))))))) ?_ rfl
  refine sm_newI (S.length + 1) 6 (n0 + 1) (k0 + 6) rfl (by decide) (by decide) rfl rfl rfl ?_
  refine sm_putref ([none, some (some (S.length + 1)), some none, some none, some none, some none, some none, some none, some none, some none, some none, some none, some none, some none, some none, none, some none]) none rfl rfl rfl rfl ?_
  refine sm_go 2 (s' := (15, ([lR S.length], ([sI 6, sR S.length], (S ++ (.inl (7, [none, some (some (S.length + 1)), some none, some none, some none, some none, some none, some none, some none, some none, some none, some none, some none, some none, some none, none, some none]) :: [.inr (0, (6, []))]), (zG G S.length 1, ((n0 + 1), (k0 + 6)))))))) ?_ rfl
  refine sm_newI (S.length + 2) 6 (n0 + 2) (k0 + 12) rfl (by decide) (by decide) rfl rfl rfl ?_
  refine sm_putref ([none, some (some (S.length + 1)), some (some (S.length + 2)), some none, some none, some none, some none, some none, some none, some none, some none, some none, some none, some none, some none, none, some none]) none rfl rfl rfl rfl ?_
  refine sm_go 2 (s' := (23, ([lR S.length], ([sI 6, sR S.length], (S ++ (.inl (7, [none, some (some (S.length + 1)), some (some (S.length + 2)), some none, some none, some none, some none, some none, some none, some none, some none, some none, some none, some none, some none, none, some none]) :: [.inr (0, (6, [])), .inr (0, (6, []))]), (zG G S.length 2, ((n0 + 2), (k0 + 12)))))))) ?_ rfl
  refine sm_newI (S.length + 3) 6 (n0 + 3) (k0 + 18) rfl (by decide) (by decide) rfl rfl rfl ?_
  refine sm_putref ([none, some (some (S.length + 1)), some (some (S.length + 2)), some (some (S.length + 3)), some none, some none, some none, some none, some none, some none, some none, some none, some none, some none, some none, none, some none]) none rfl rfl rfl rfl ?_
  refine sm_go 2 (s' := (31, ([lR S.length], ([sI 6, sR S.length], (S ++ (.inl (7, [none, some (some (S.length + 1)), some (some (S.length + 2)), some (some (S.length + 3)), some none, some none, some none, some none, some none, some none, some none, some none, some none, some none, some none, none, some none]) :: [.inr (0, (6, [])), .inr (0, (6, [])), .inr (0, (6, []))]), (zG G S.length 3, ((n0 + 3), (k0 + 18)))))))) ?_ rfl
  refine sm_newI (S.length + 4) 6 (n0 + 4) (k0 + 24) rfl (by decide) (by decide) rfl rfl rfl ?_
  refine sm_putref ([none, some (some (S.length + 1)), some (some (S.length + 2)), some (some (S.length + 3)), some (some (S.length + 4)), some none, some none, some none, some none, some none, some none, some none, some none, some none, some none, none, some none]) none rfl rfl rfl rfl ?_
  refine sm_go 2 (s' := (39, ([lR S.length], ([sI 6, sR S.length], (S ++ (.inl (7, [none, some (some (S.length + 1)), some (some (S.length + 2)), some (some (S.length + 3)), some (some (S.length + 4)), some none, some none, some none, some none, some none, some none, some none, some none, some none, some none, none, some none]) :: [.inr (0, (6, [])), .inr (0, (6, [])), .inr (0, (6, [])), .inr (0, (6, []))]), (zG G S.length 4, ((n0 + 4), (k0 + 24)))))))) ?_ rfl
  refine sm_newI (S.length + 5) 6 (n0 + 5) (k0 + 30) rfl (by decide) (by decide) rfl rfl rfl ?_
  refine sm_putref ([none, some (some (S.length + 1)), some (some (S.length + 2)), some (some (S.length + 3)), some (some (S.length + 4)), some (some (S.length + 5)), some none, some none, some none, some none, some none, some none, some none, some none, some none, none, some none]) none rfl rfl rfl rfl ?_
  refine sm_go 2 (s' := (47, ([lR S.length], ([sI 30, sR S.length], (S ++ (.inl (7, [none, some (some (S.length + 1)), some (some (S.length + 2)), some (some (S.length + 3)), some (some (S.length + 4)), some (some (S.length + 5)), some none, some none, some none, some none, some none, some none, some none, some none, some none, none, some none]) :: [.inr (0, (6, [])), .inr (0, (6, [])), .inr (0, (6, [])), .inr (0, (6, [])), .inr (0, (6, []))]), (zG G S.length 5, ((n0 + 5), (k0 + 30)))))))) ?_ rfl
  refine sm_newI (S.length + 6) 30 (n0 + 6) (k0 + 60) rfl (by decide) (by decide) rfl rfl rfl ?_
  refine sm_putref ([none, some (some (S.length + 1)), some (some (S.length + 2)), some (some (S.length + 3)), some (some (S.length + 4)), some (some (S.length + 5)), some (some (S.length + 6)), some none, some none, some none, some none, some none, some none, some none, some none, none, some none]) none rfl rfl rfl rfl ?_
  refine sm_go 2 (s' := (55, ([lR S.length], ([sI 30, sR S.length], (S ++ (.inl (7, [none, some (some (S.length + 1)), some (some (S.length + 2)), some (some (S.length + 3)), some (some (S.length + 4)), some (some (S.length + 5)), some (some (S.length + 6)), some none, some none, some none, some none, some none, some none, some none, some none, none, some none]) :: [.inr (0, (6, [])), .inr (0, (6, [])), .inr (0, (6, [])), .inr (0, (6, [])), .inr (0, (6, [])), .inr (0, (30, []))]), (zG G S.length 6, ((n0 + 6), (k0 + 60)))))))) ?_ rfl
  refine sm_newI (S.length + 7) 30 (n0 + 7) (k0 + 90) rfl (by decide) (by decide) rfl rfl rfl ?_
  refine sm_putref ([none, some (some (S.length + 1)), some (some (S.length + 2)), some (some (S.length + 3)), some (some (S.length + 4)), some (some (S.length + 5)), some (some (S.length + 6)), some (some (S.length + 7)), some none, some none, some none, some none, some none, some none, some none, none, some none]) none rfl rfl rfl rfl ?_
  refine sm_go 2 (s' := (62, ([lR S.length], ([sI 4, sR S.length], (S ++ (.inl (7, [none, some (some (S.length + 1)), some (some (S.length + 2)), some (some (S.length + 3)), some (some (S.length + 4)), some (some (S.length + 5)), some (some (S.length + 6)), some (some (S.length + 7)), some none, some none, some none, some none, some none, some none, some none, none, some none]) :: [.inr (0, (6, [])), .inr (0, (6, [])), .inr (0, (6, [])), .inr (0, (6, [])), .inr (0, (6, [])), .inr (0, (30, [])), .inr (0, (30, []))]), (zG G S.length 7, ((n0 + 7), (k0 + 90)))))))) ?_ rfl
  refine sm_newI (S.length + 8) 4 (n0 + 8) (k0 + 94) rfl (by decide) (by decide) rfl rfl rfl ?_
  refine sm_putref ([none, some (some (S.length + 1)), some (some (S.length + 2)), some (some (S.length + 3)), some (some (S.length + 4)), some (some (S.length + 5)), some (some (S.length + 6)), some (some (S.length + 7)), some (some (S.length + 8)), some none, some none, some none, some none, some none, some none, none, some none]) none rfl rfl rfl rfl ?_
  refine sm_go 2 (s' := (70, ([lR S.length], ([sI 16, sR S.length], (S ++ (.inl (7, [none, some (some (S.length + 1)), some (some (S.length + 2)), some (some (S.length + 3)), some (some (S.length + 4)), some (some (S.length + 5)), some (some (S.length + 6)), some (some (S.length + 7)), some (some (S.length + 8)), some none, some none, some none, some none, some none, some none, none, some none]) :: [.inr (0, (6, [])), .inr (0, (6, [])), .inr (0, (6, [])), .inr (0, (6, [])), .inr (0, (6, [])), .inr (0, (30, [])), .inr (0, (30, [])), .inr (0, (4, []))]), (zG G S.length 8, ((n0 + 8), (k0 + 94)))))))) ?_ rfl
  refine sm_newI (S.length + 9) 16 (n0 + 9) (k0 + 110) rfl (by decide) (by decide) rfl rfl rfl ?_
  refine sm_putref ([none, some (some (S.length + 1)), some (some (S.length + 2)), some (some (S.length + 3)), some (some (S.length + 4)), some (some (S.length + 5)), some (some (S.length + 6)), some (some (S.length + 7)), some (some (S.length + 8)), some (some (S.length + 9)), some none, some none, some none, some none, some none, none, some none]) none rfl rfl rfl rfl ?_
  refine sm_go 2 (s' := (78, ([lR S.length], ([sI 16, sR S.length], (S ++ (.inl (7, [none, some (some (S.length + 1)), some (some (S.length + 2)), some (some (S.length + 3)), some (some (S.length + 4)), some (some (S.length + 5)), some (some (S.length + 6)), some (some (S.length + 7)), some (some (S.length + 8)), some (some (S.length + 9)), some none, some none, some none, some none, some none, none, some none]) :: [.inr (0, (6, [])), .inr (0, (6, [])), .inr (0, (6, [])), .inr (0, (6, [])), .inr (0, (6, [])), .inr (0, (30, [])), .inr (0, (30, [])), .inr (0, (4, [])), .inr (0, (16, []))]), (zG G S.length 9, ((n0 + 9), (k0 + 110)))))))) ?_ rfl
  refine sm_newI (S.length + 10) 16 (n0 + 10) (k0 + 126) rfl (by decide) (by decide) rfl rfl rfl ?_
  refine sm_putref ([none, some (some (S.length + 1)), some (some (S.length + 2)), some (some (S.length + 3)), some (some (S.length + 4)), some (some (S.length + 5)), some (some (S.length + 6)), some (some (S.length + 7)), some (some (S.length + 8)), some (some (S.length + 9)), some (some (S.length + 10)), some none, some none, some none, some none, none, some none]) none rfl rfl rfl rfl ?_
  refine sm_go 2 (s' := (85, ([lR S.length], ([sI 4, sR S.length], (S ++ (.inl (7, [none, some (some (S.length + 1)), some (some (S.length + 2)), some (some (S.length + 3)), some (some (S.length + 4)), some (some (S.length + 5)), some (some (S.length + 6)), some (some (S.length + 7)), some (some (S.length + 8)), some (some (S.length + 9)), some (some (S.length + 10)), some none, some none, some none, some none, none, some none]) :: [.inr (0, (6, [])), .inr (0, (6, [])), .inr (0, (6, [])), .inr (0, (6, [])), .inr (0, (6, [])), .inr (0, (30, [])), .inr (0, (30, [])), .inr (0, (4, [])), .inr (0, (16, [])), .inr (0, (16, []))]), (zG G S.length 10, ((n0 + 10), (k0 + 126)))))))) ?_ rfl
  refine sm_newI (S.length + 11) 4 (n0 + 11) (k0 + 130) rfl (by decide) (by decide) rfl rfl rfl ?_
  refine sm_putref ([none, some (some (S.length + 1)), some (some (S.length + 2)), some (some (S.length + 3)), some (some (S.length + 4)), some (some (S.length + 5)), some (some (S.length + 6)), some (some (S.length + 7)), some (some (S.length + 8)), some (some (S.length + 9)), some (some (S.length + 10)), some (some (S.length + 11)), some none, some none, some none, none, some none]) none rfl rfl rfl rfl ?_
  refine sm_go 2 (s' := (92, ([lR S.length], ([sI 4, sR S.length], (S ++ (.inl (7, [none, some (some (S.length + 1)), some (some (S.length + 2)), some (some (S.length + 3)), some (some (S.length + 4)), some (some (S.length + 5)), some (some (S.length + 6)), some (some (S.length + 7)), some (some (S.length + 8)), some (some (S.length + 9)), some (some (S.length + 10)), some (some (S.length + 11)), some none, some none, some none, none, some none]) :: [.inr (0, (6, [])), .inr (0, (6, [])), .inr (0, (6, [])), .inr (0, (6, [])), .inr (0, (6, [])), .inr (0, (30, [])), .inr (0, (30, [])), .inr (0, (4, [])), .inr (0, (16, [])), .inr (0, (16, [])), .inr (0, (4, []))]), (zG G S.length 11, ((n0 + 11), (k0 + 130)))))))) ?_ rfl
  refine sm_newI (S.length + 12) 4 (n0 + 12) (k0 + 134) rfl (by decide) (by decide) rfl rfl rfl ?_
  refine sm_putref ([none, some (some (S.length + 1)), some (some (S.length + 2)), some (some (S.length + 3)), some (some (S.length + 4)), some (some (S.length + 5)), some (some (S.length + 6)), some (some (S.length + 7)), some (some (S.length + 8)), some (some (S.length + 9)), some (some (S.length + 10)), some (some (S.length + 11)), some (some (S.length + 12)), some none, some none, none, some none]) none rfl rfl rfl rfl ?_
  refine sm_go 2 (s' := (100, ([lR S.length], ([sI 16, sR S.length], (S ++ (.inl (7, [none, some (some (S.length + 1)), some (some (S.length + 2)), some (some (S.length + 3)), some (some (S.length + 4)), some (some (S.length + 5)), some (some (S.length + 6)), some (some (S.length + 7)), some (some (S.length + 8)), some (some (S.length + 9)), some (some (S.length + 10)), some (some (S.length + 11)), some (some (S.length + 12)), some none, some none, none, some none]) :: [.inr (0, (6, [])), .inr (0, (6, [])), .inr (0, (6, [])), .inr (0, (6, [])), .inr (0, (6, [])), .inr (0, (30, [])), .inr (0, (30, [])), .inr (0, (4, [])), .inr (0, (16, [])), .inr (0, (16, [])), .inr (0, (4, [])), .inr (0, (4, []))]), (zG G S.length 12, ((n0 + 12), (k0 + 134)))))))) ?_ rfl
  refine sm_newI (S.length + 13) 16 (n0 + 13) (k0 + 150) rfl (by decide) (by decide) rfl rfl rfl ?_
  refine sm_putref ([none, some (some (S.length + 1)), some (some (S.length + 2)), some (some (S.length + 3)), some (some (S.length + 4)), some (some (S.length + 5)), some (some (S.length + 6)), some (some (S.length + 7)), some (some (S.length + 8)), some (some (S.length + 9)), some (some (S.length + 10)), some (some (S.length + 11)), some (some (S.length + 12)), some (some (S.length + 13)), some none, none, some none]) none rfl rfl rfl rfl ?_
  refine sm_go 2 (s' := (108, ([lR S.length], ([sI 6, sR S.length], (S ++ (.inl (7, [none, some (some (S.length + 1)), some (some (S.length + 2)), some (some (S.length + 3)), some (some (S.length + 4)), some (some (S.length + 5)), some (some (S.length + 6)), some (some (S.length + 7)), some (some (S.length + 8)), some (some (S.length + 9)), some (some (S.length + 10)), some (some (S.length + 11)), some (some (S.length + 12)), some (some (S.length + 13)), some none, none, some none]) :: [.inr (0, (6, [])), .inr (0, (6, [])), .inr (0, (6, [])), .inr (0, (6, [])), .inr (0, (6, [])), .inr (0, (30, [])), .inr (0, (30, [])), .inr (0, (4, [])), .inr (0, (16, [])), .inr (0, (16, [])), .inr (0, (4, [])), .inr (0, (4, [])), .inr (0, (16, []))]), (zG G S.length 13, ((n0 + 13), (k0 + 150)))))))) ?_ rfl
  refine sm_newI (S.length + 14) 6 (n0 + 14) (k0 + 156) rfl (by decide) (by decide) rfl rfl rfl ?_
  refine sm_putref ([none, some (some (S.length + 1)), some (some (S.length + 2)), some (some (S.length + 3)), some (some (S.length + 4)), some (some (S.length + 5)), some (some (S.length + 6)), some (some (S.length + 7)), some (some (S.length + 8)), some (some (S.length + 9)), some (some (S.length + 10)), some (some (S.length + 11)), some (some (S.length + 12)), some (some (S.length + 13)), some (some (S.length + 14)), none, some none]) none rfl rfl rfl rfl ?_
  refine sm_go 2 (s' := (116, ([lR S.length], ([sI 30, sR S.length], (S ++ (.inl (7, [none, some (some (S.length + 1)), some (some (S.length + 2)), some (some (S.length + 3)), some (some (S.length + 4)), some (some (S.length + 5)), some (some (S.length + 6)), some (some (S.length + 7)), some (some (S.length + 8)), some (some (S.length + 9)), some (some (S.length + 10)), some (some (S.length + 11)), some (some (S.length + 12)), some (some (S.length + 13)), some (some (S.length + 14)), none, some none]) :: [.inr (0, (6, [])), .inr (0, (6, [])), .inr (0, (6, [])), .inr (0, (6, [])), .inr (0, (6, [])), .inr (0, (30, [])), .inr (0, (30, [])), .inr (0, (4, [])), .inr (0, (16, [])), .inr (0, (16, [])), .inr (0, (4, [])), .inr (0, (4, [])), .inr (0, (16, [])), .inr (0, (6, []))]), (zG G S.length 14, ((n0 + 14), (k0 + 156)))))))) ?_ rfl
  refine sm_newI (S.length + 15) 30 (n0 + 15) (k0 + 186) rfl (by decide) (by decide) rfl rfl rfl ?_
  refine sm_putref ([none, some (some (S.length + 1)), some (some (S.length + 2)), some (some (S.length + 3)), some (some (S.length + 4)), some (some (S.length + 5)), some (some (S.length + 6)), some (some (S.length + 7)), some (some (S.length + 8)), some (some (S.length + 9)), some (some (S.length + 10)), some (some (S.length + 11)), some (some (S.length + 12)), some (some (S.length + 13)), some (some (S.length + 14)), none, some (some (S.length + 15))]) none rfl rfl rfl rfl ?_
  exact sm_retU (x := ()) rfl rfl
noncomputable def shB (S : List mSh) (q : Nat) : Bool := @decide (mShop S q) (Classical.propDecidable _)
theorem shB_ok {S : List mSh} {q : Nat} (h : shB S q = true) : mShop S q := @of_decide_eq_true (mShop S q) (Classical.propDecidable _) h
theorem shB_mk {S : List mSh} {q : Nat} (h : mShop S q) : shB S q = true := @decide_eq_true (mShop S q) (Classical.propDecidable _) h
noncomputable def P_rem2 (q : Nat) (W : mW) : Option ((Unit ⊕ Nat) × mW) :=
  bif shB (mSH W.1 W.2.1) q then
  (P_X7_copyFrom q 1 W.2.2.1).bind fun G2 =>
  (pst G2 0 13 (iRem (G2 0 13 + 1) 8)).bind fun G3 =>
  (pst G3 0 14 (iMin (G3 0 14 + 1) 8)).bind fun G4 =>
  some (.inl (), (W.1, (W.2.1, (G4, W.2.2.2)))) else none
noncomputable def P_X10_remember (W : mW) : Option ((Unit ⊕ Nat) × mW) :=
  (rld W.1 8 (W.2.2.1 0 13)).bind fun o => match o with
  | some q => P_rem2 q W
  | none => P_rem2 (W.2.1.length + 76) (W.1.set (mIx (W.2.2.1 0 13)) (some (W.2.1.length + 76)), (W.2.1 ++ shCells (W.2.1.length + 76), (zG W.2.2.1 (W.2.1.length + 76) 15, (W.2.2.2.1 + 16, W.2.2.2.2 + 203))))
noncomputable def P_X10_undo (W : mW) : Option ((Int ⊕ Nat) × mW) :=
  bif ieq (W.2.2.1 0 14) 0 then some (.inl (-1), W) else
  (pst W.2.2.1 0 13 (iRem (((W.2.2.1 0 13) + 8) - 1) 8)).bind fun G1 =>
  (pst G1 0 14 (G1 0 14 - 1)).bind fun G2 =>
  (rld W.1 8 (G2 0 13)).bind fun o => match o with
  | some q => bif shB (mSH W.1 W.2.1) q then (P_X7_copyFrom 1 q G2).bind fun G3 => (P_X8_replay 17 G3).bind fun G4 => some (.inl (G4 0 14), (W.1, (W.2.1, (G4, W.2.2.2)))) else none
  | none => (P_X8_replay 17 G2).bind fun G4 => some (.inl (G4 0 14), (W.1, (W.2.1, (G4, W.2.2.2))))
theorem mShop_1 (r : List (Option Nat)) (tl : List mSh) : mShop (mSH r tl) 1 := ⟨rfl, rfl, rfl, rfl, rfl, rfl, rfl, rfl, rfl, rfl, rfl, rfl, rfl, rfl, rfl, rfl⟩
theorem T_rem2 (scr : mScr) (d : Nat) (q : Nat) (W : mW) : Sim scr (d + 2) mc_X10_remember 0 [] e2U (32, ([lR 0, lR q], ([], mkM W))) (P_rem2 q W) := by
  unfold P_rem2
  cases hd : shB (mSH W.1 W.2.1) q with
  | false => exact sm_none
  | true =>
    have hq := shB_ok hd
    simp only [cond_true]
    refine sm_go 3 (s' := (37, ([lR 0, lR q], ([sR 1, sR q], mkM W)))) ?_ rfl
    refine sm_callG (rest := []) (T_X7_copyFrom scr d W.1 W.2.1 W.2.2.2 W.2.2.1 q hq 1 (mShop_1 _ _)) rfl (Or.inl rfl) rfl rfl rfl rfl (fun _ => rfl) (fun G2 => (40, ([lR 0, lR q], ([], (mSH W.1 W.2.1, (G2, W.2.2.2)))))) (fun _ => rfl) fun G2 => ?_
    refine sm_go 7 (s' := (50, ([lR 0, lR q], ([sI (iRem (G2 0 13 + 1) 8), sR 0], (mSH W.1 W.2.1, (G2, W.2.2.2)))))) ?_ rfl
    refine sm_pst rfl rfl rfl fun G3 => ?_
    refine sm_go 7 (s' := (65, ([lR 0, lR q], ([sI (iMin (G3 0 14 + 1) 8), sR 0], (mSH W.1 W.2.1, (G3, W.2.2.2)))))) ?_ rfl
    refine sm_pst rfl rfl rfl fun G4 => ?_
    exact sm_retU rfl rfl
theorem T_X10_remember (scr : mScr) (d : Nat) (W : mW) : SimC scr (d + 3) 131 [sR 0] (mkM W) e2U (P_X10_remember W) := by
  refine sm_callX (cs := mc_X10_remember) (maxL := 2) (rk := 0) (o := 10) (hs := []) (d := d + 2) [lR 0, none] rfl rfl rfl rfl ?_
  unfold P_X10_remember
  refine sm_go 4 (s' := (8, ([lR 0, none], ([sI (W.2.2.1 0 13), sR 35], (mSH W.1 W.2.1, (W.2.2.1, W.2.2.2)))))) ?_ rfl
  refine sm_aald rfl rfl (fun q hi => ?_) (fun hi => ?_)
  · refine sm_go 3 (s' := (32, ([lR 0, lR q], ([], mkM W)))) ?_ rfl
    exact T_rem2 scr d q W
  · refine sm_go 3 (s' := (14, ([lR 0, lNu], ([], (mSH W.1 W.2.1, (W.2.2.1, (W.2.2.2.1, W.2.2.2.2))))))) ?_ rfl
    refine sm_go 2 (s' := (18, ([lR 0, lNu], ([sR (mSH W.1 W.2.1).length, sR (mSH W.1 W.2.1).length], (mSH W.1 W.2.1 ++ [.inl (7, [none, some none, some none, some none, some none, some none, some none, some none, some none, some none, some none, some none, some none, some none, some none, none, some none])], (zG W.2.2.1 (mSH W.1 W.2.1).length 0, (W.2.2.2.1 + 1, W.2.2.2.2 + 17))))))) ?_ rfl
    refine sm_callG (f := fun _ : Unit => P_rem2 (W.2.1.length + 76) (W.1.set (mIx (W.2.2.1 0 13)) (some (W.2.1.length + 76)), (W.2.1 ++ shCells (W.2.1.length + 76), (zG W.2.2.1 (W.2.1.length + 76) 15, (W.2.2.2.1 + 16, W.2.2.2.2 + 203))))) (rest := [sR (mSH W.1 W.2.1).length]) (T_X7_init scr (d + 1) (mSH W.1 W.2.1) W.2.2.1 (W.2.2.2.1 + 1) (W.2.2.2.2 + 17)) rfl (Or.inr (Or.inr rfl)) rfl rfl rfl rfl (fun _ => rfl) (fun _ => (21, ([lR 0, lNu], ([sR (mSH W.1 W.2.1).length], (mSH W.1 W.2.1 ++ shCells (mSH W.1 W.2.1).length, (zG W.2.2.1 (mSH W.1 W.2.1).length 15, (W.2.2.2.1 + 1 + 15, W.2.2.2.2 + 17 + 186))))))) (fun _ => rfl) fun _ => ?_
    refine sm_go 6 (s' := (31, ([lR 0, lR (mSH W.1 W.2.1).length], ([sR (mSH W.1 W.2.1).length, sI (zG W.2.2.1 (mSH W.1 W.2.1).length 15 0 13), sR 35], (mSH W.1 W.2.1 ++ shCells (mSH W.1 W.2.1).length, (zG W.2.2.1 (mSH W.1 W.2.1).length 15, (W.2.2.2.1 + 1 + 15, W.2.2.2.2 + 17 + 186))))))) ?_ rfl
    have hz : zG W.2.2.1 (mSH W.1 W.2.1).length 15 0 13 = W.2.2.1 0 13 := rfl
    rw [hz]
    refine sm_aast (S' := mSH (W.1.set (mIx (W.2.2.1 0 13)) (some (W.2.1.length + 76))) (W.2.1 ++ shCells (W.2.1.length + 76))) (n := 8) (rs := W.1) (x := (7, [none, some (some ((mSH W.1 W.2.1).length + 1)), some (some ((mSH W.1 W.2.1).length + 2)), some (some ((mSH W.1 W.2.1).length + 3)), some (some ((mSH W.1 W.2.1).length + 4)), some (some ((mSH W.1 W.2.1).length + 5)), some (some ((mSH W.1 W.2.1).length + 6)), some (some ((mSH W.1 W.2.1).length + 7)), some (some ((mSH W.1 W.2.1).length + 8)), some (some ((mSH W.1 W.2.1).length + 9)), some (some ((mSH W.1 W.2.1).length + 10)), some (some ((mSH W.1 W.2.1).length + 11)), some (some ((mSH W.1 W.2.1).length + 12)), some (some ((mSH W.1 W.2.1).length + 13)), some (some ((mSH W.1 W.2.1).length + 14)), none, some (some ((mSH W.1 W.2.1).length + 15))])) rfl ?_ rfl hi rfl rfl ?_
    · rw [List.getElem?_append_right (Nat.le_refl _), Nat.sub_self]
      rfl
    · exact T_rem2 scr d (W.2.1.length + 76) (W.1.set (mIx (W.2.2.1 0 13)) (some (W.2.1.length + 76)), (W.2.1 ++ shCells (W.2.1.length + 76), (zG W.2.2.1 (W.2.1.length + 76) 15, (W.2.2.2.1 + 16, W.2.2.2.2 + 203))))
theorem T_und2 (scr : mScr) (d : Nat) (o : Option mV) (W : mW) (G2 : mG) : Sim scr (d + 6) mc_X10_undo 0 [] e2I (57, ([lR 0, o], ([], (mSH W.1 W.2.1, (G2, W.2.2.2))))) ((P_X8_replay 17 G2).bind fun G4 => some (.inl (G4 0 14), (W.1, (W.2.1, (G4, W.2.2.2))))) := by
  refine sm_go 2 (s' := (61, ([lR 0, o], ([sR 17], (mSH W.1 W.2.1, (G2, W.2.2.2)))))) ?_ rfl
  refine sm_callG (rest := []) (T_X8_replay_17 scr d W.1 W.2.1 W.2.2.2 G2) rfl (Or.inl rfl) rfl rfl rfl rfl (fun _ => rfl) (fun G2 => (64, ([lR 0, o], ([], (mSH W.1 W.2.1, (G2, W.2.2.2)))))) (fun _ => rfl) fun G4 => ?_
  refine sm_go 2 (s' := (68, ([lR 0, o], ([sI (G4 0 14)], (mSH W.1 W.2.1, (G4, W.2.2.2)))))) ?_ rfl
  exact sm_retI rfl rfl rfl
theorem T_X10_undo (scr : mScr) (d : Nat) (W : mW) : SimC scr (d + 7) 88 [sR 0] (mkM W) e2I (P_X10_undo W) := by
  refine sm_callX (cs := mc_X10_undo) (maxL := 2) (rk := 0) (o := 10) (hs := []) (d := d + 6) [lR 0, none] rfl rfl rfl rfl ?_
  unfold P_X10_undo
  refine sm_go 2 (s' := (4, ([lR 0, none], ([sI (W.2.2.1 0 14)], (mSH W.1 W.2.1, (W.2.2.1, W.2.2.2)))))) ?_ rfl
  refine sm_if1n (t := ieq (W.2.2.1 0 14) 0) (pt := 9) rfl rfl rfl (fun _ => ?_) (fun _ => ?_)
  · refine sm_go 1 (s' := (8, ([lR 0, none], ([sI (-1)], (mSH W.1 W.2.1, (W.2.2.1, W.2.2.2)))))) ?_ rfl
    exact sm_retI rfl rfl rfl
  · refine sm_go 9 (s' := (22, ([lR 0, none], ([sI (iRem (((W.2.2.1 0 13) + 8) - 1) 8), sR 0], (mSH W.1 W.2.1, (W.2.2.1, W.2.2.2)))))) ?_ rfl
    refine sm_pst rfl rfl rfl fun G1 => ?_
    refine sm_go 5 (s' := (32, ([lR 0, none], ([sI (G1 0 14 - 1), sR 0], (mSH W.1 W.2.1, (G1, W.2.2.2)))))) ?_ rfl
    refine sm_pst rfl rfl rfl fun G2 => ?_
    refine sm_go 4 (s' := (43, ([lR 0, none], ([sI (G2 0 13), sR 35], (mSH W.1 W.2.1, (G2, W.2.2.2)))))) ?_ rfl
    refine sm_aald rfl rfl (fun q hi => ?_) (fun hi => ?_)
    · show Sim _ _ _ _ _ _ _ (bif shB (mSH W.1 W.2.1) q then _ else _)
      cases hd : shB (mSH W.1 W.2.1) q with
      | false => exact sm_none
      | true =>
        have hq := shB_ok hd
        simp only [cond_true]
        refine sm_go 3 (s' := (49, ([lR 0, lR q], ([], (mSH W.1 W.2.1, (G2, W.2.2.2)))))) ?_ rfl
        refine sm_go 3 (s' := (54, ([lR 0, lR q], ([sR q, sR 1], (mSH W.1 W.2.1, (G2, W.2.2.2)))))) ?_ rfl
        refine sm_callG (rest := []) (T_X7_copyFrom scr (d + 4) W.1 W.2.1 W.2.2.2 G2 1 (mShop_1 _ _) q hq) rfl (Or.inl rfl) rfl rfl rfl rfl (fun _ => rfl) (fun G2 => (57, ([lR 0, lR q], ([], (mSH W.1 W.2.1, (G2, W.2.2.2)))))) (fun _ => rfl) fun G3 => ?_
        exact T_und2 scr d _ W G3
    · refine sm_go 3 (s' := (57, ([lR 0, lNu], ([], (mSH W.1 W.2.1, (G2, W.2.2.2)))))) ?_ rfl
      exact T_und2 scr d _ W G2
