/-! ===== the start: both constructors, run by the kernel ===== -/
def okR (v : mV) : Bool := match v with
  | .inr (.inr (.inr (.ref _))) => false
  | _ => true
def scr0 : mScr := (0, (0, fun _ => 0))
def frc {α R : Type} : List α → (List α → R) → R
  | [], k => k []
  | h :: t, k => frc t (fun t' => k (h :: t'))
theorem frc_eq {α R : Type} : ∀ (l : List α) (k : List α → R), frc l k = k l
  | [], _ => rfl
  | h :: t, k => frc_eq t (fun t' => k (h :: t'))
noncomputable def nExec (call : Nat → List mV → mM → Option (mO × mM)) (cs : List (List mI)) (rk : Nat) (hs : List (Nat × (Nat × (Nat × Nat)))) : Nat → mS → Option (mO × mM)
  | 0, _ => none
  | k + 1, s => match mFetch cs s.1 with
    | none => none
    | some e => bif s.2.2.1.all okR then (match mStep scr0 call rk hs e s with
      | none => none
      | some (.inl s') => frc s'.2.2.2.1 (fun l => nExec call cs rk hs k (s'.1, (s'.2.1, (s'.2.2.1, (l, s'.2.2.2.2)))))
      | some (.inr r) => some r) else none
noncomputable def nCall (K : Nat) : Nat → Nat → List mV → mM → Option (mO × mM)
  | 0, _, _, _ => none
  | d + 1, y, args, M => match mProg[y]? with
    | none => none
    | some q => bif Nat.ble 12 q.2.2.2.1 || mRecv q.2.2.2.1 args M then (bif Nat.ble (mArgs args).length q.2.1 then
        nExec (nCall K d) q.1 q.2.2.1 q.2.2.2.2 K (0, (mLoc q.2.1 args, ([], M))) else none) else none
theorem okR_no {q : Nat} {r : List mV} (h : (Sum.inr (Sum.inr (Sum.inr (Value.ref q))) :: r : List mV).all okR = true) : False := by
  simp [okR] at h
theorem mMem_ia (scr : mScr) {c k b : Nat} {st : List mV} {M : mM} (h : st.all okR = true) : mMem scr0 .iaload c k b st M = mMem scr .iaload c k b st M := by
  match st, h with
  | [], _ => rfl
  | [.inl _], _ => rfl
  | [.inr _], _ => rfl
  | .inl i :: .inr (.inr (.inl a)) :: r, _ => rfl
  | .inl i :: .inr (.inr (.inr (.ref q))) :: r, h =>
    simp [okR] at h
  | .inl i :: .inl _ :: r, _ => rfl
  | .inl i :: .inr (.inl _) :: r, _ => rfl
  | .inl i :: .inr (.inr (.inr .null)) :: r, _ => rfl
  | .inl i :: .inr (.inr (.inr (.retAddr _))) :: r, _ => rfl
  | .inl i :: .inr (.inr (.inr (.int _))) :: r, _ => rfl
  | .inl i :: .inr (.inr (.inr (.long _))) :: r, _ => rfl
  | .inl i :: .inr (.inr (.inr (.float _))) :: r, _ => rfl
  | .inl i :: .inr (.inr (.inr (.double _))) :: r, _ => rfl
  | .inr _ :: _ :: r, _ => rfl
theorem mMem_al (scr : mScr) {c k b : Nat} {st : List mV} {M : mM} (h : st.all okR = true) : mMem scr0 .arraylength c k b st M = mMem scr .arraylength c k b st M := by
  match st, h with
  | [], _ => rfl
  | .inl _ :: r, _ => rfl
  | .inr (.inl _) :: r, _ => rfl
  | .inr (.inr (.inl a)) :: r, _ => rfl
  | .inr (.inr (.inr (.ref q))) :: r, h => exact absurd h (fun h => okR_no h)
  | .inr (.inr (.inr .null)) :: r, _ => rfl
  | .inr (.inr (.inr (.retAddr _))) :: r, _ => rfl
  | .inr (.inr (.inr (.int _))) :: r, _ => rfl
  | .inr (.inr (.inr (.long _))) :: r, _ => rfl
  | .inr (.inr (.inr (.float _))) :: r, _ => rfl
  | .inr (.inr (.inr (.double _))) :: r, _ => rfl
theorem mStep_scr (scr : mScr) {call : Nat → List mV → mM → Option (mO × mM)} {rk : Nat} {hs : mHs} {e : mI} {s : mS} {x : mS ⊕ (mO × mM)} (h : s.2.2.1.all okR = true) (h1 : mStep scr0 call rk hs e s = some x) : mStep scr call rk hs e s = some x := by
  obtain ⟨pc, ins, r⟩ := e
  cases ins
  case iaload =>
    have e := mMem_ia scr (c := r.2.1) (k := r.2.2.1) (b := r.2.2.2) (M := s.2.2.2) h
    exact (congrArg (fun o : Option (List mV × mM) => (match o with
      | some q => some (.inl (pc + r.1, (s.2.1, (q.1, q.2))))
      | none => none : Option (mS ⊕ (mO × mM)))) e).symm.trans h1
  case arraylength =>
    have e := mMem_al scr (c := r.2.1) (k := r.2.2.1) (b := r.2.2.2) (M := s.2.2.2) h
    exact (congrArg (fun o : Option (List mV × mM) => (match o with
      | some q => some (.inl (pc + r.1, (s.2.1, (q.1, q.2))))
      | none => none : Option (mS ⊕ (mO × mM)))) e).symm.trans h1
  all_goals exact h1
theorem nExec_sub (scr : mScr) {c1 c2 : Nat → List mV → mM → Option (mO × mM)} (h : mSub c1 c2) {cs : List (List mI)} {rk : Nat} {hs : mHs} : ∀ (k : Nat) (s : mS) (x : mO × mM), nExec c1 cs rk hs k s = some x → mExec scr c2 cs rk hs k s = some x
  | 0, _, _, h1 => nomatch h1
  | k + 1, s, x, h1 => by
    simp only [nExec, frc_eq, Bool.cond_eq_ite] at h1
    simp only [mExec]
    split at h1
    · cases h1
    · next e he =>
      split at h1
      · next hok =>
        split at h1
        · cases h1
        · next s' hs' =>
          simp only [he, mStep_sub h (mStep_scr scr hok hs')]
          exact nExec_sub scr h k _ x h1
        · next r hs' =>
          simp only [he, mStep_sub h (mStep_scr scr hok hs')]
          exact h1
      · cases h1
theorem nCall_sub (scr : mScr) (K : Nat) : ∀ d : Nat, mSub (nCall K d) (mCall scr K d)
  | 0 => fun _ _ _ _ h => nomatch h
  | d + 1 => fun y as M x h => by
    simp only [nCall, mCall, Bool.cond_eq_ite] at h ⊢
    split at h
    · cases h
    · next q hq =>
      split at h
      · next h2 =>
        split at h
        · next h3 =>
          simp only [hq]
          rw [if_pos h2, if_pos h3]
          exact nExec_sub scr (nCall_sub scr K d) K _ _ h
        · cases h
      · cases h
def stS (n : Nat) : List mSh := (mSH (rOf 0) []).take n
def stA : mM := ([.inl (10, mFL.getD 10 [])], (upG (fun _ _ => 0) 0 (fun _ => 0), (0 + 1, 0 + (mFL.getD 10 []).length)))
def stB (M : mM) : mM := (M.1 ++ [.inl (11, mFL.getD 11 [])], (upG M.2.1 M.1.length (fun _ => 0), (M.2.2.1 + 1, M.2.2.2 + (mFL.getD 11 []).length)))
def stW : wS := fun a i => match a with
  | 1 => bif Nat.beq i 0 then 3 else 0
  | 3 => bif Nat.beq i 0 then 12 else bif Nat.beq i 1 then 9 else bif Nat.beq i 2 then 10 else 0
  | 4 => bif Nat.beq i 0 then 1 else bif Nat.beq i 1 then 1 else bif Nat.beq i 2 then 1 else 0
  | 5 => bif Nat.beq i 1 then 1 else bif Nat.beq i 2 then 2 else 0
  | 6 => bif Nat.beq i 0 then 2 else bif Nat.beq i 1 then 2 else bif Nat.beq i 2 then 2 else 0
  | 7 => bif Nat.beq i 1 then 1 else bif Nat.beq i 5 then 1 else bif Nat.beq i 11 then 2 else 0
  | 8 => bif Nat.beq i 0 then 3 else bif Nat.beq i 1 then 4 else bif Nat.beq i 5 then 2 else bif Nat.beq i 6 then 5 else bif Nat.beq i 10 then 4 else bif Nat.beq i 11 then 1 else 0
  | _ => 0
def stF : Nat → Int := fun i => bif Nat.beq i 0 then 3 else bif Nat.beq i 62 then 12 else bif Nat.beq i 63 then 1 else bif Nat.beq i 65 then 2 else bif Nat.beq i 67 then 3 else bif Nat.beq i 68 then 1 else bif Nat.beq i 69 then 4 else bif Nat.beq i 77 then 9 else bif Nat.beq i 78 then 1 else bif Nat.beq i 79 then 1 else bif Nat.beq i 80 then 2 else bif Nat.beq i 81 then 1 else bif Nat.beq i 82 then 2 else bif Nat.beq i 84 then 5 else bif Nat.beq i 92 then 10 else bif Nat.beq i 93 then 1 else bif Nat.beq i 94 then 2 else bif Nat.beq i 95 then 2 else bif Nat.beq i 97 then 4 else bif Nat.beq i 98 then 2 else bif Nat.beq i 99 then 1 else 0
noncomputable def stT (G : mG) : Bool := (List.range 17).all (fun a => (List.range 30).all (fun i => decide (a = 0 ∨ G a i = stW a i))) &&
  ((List.range 282).all (fun k => decide (G 57 k = stF k)) && (decide (G 0 13 = 0) && (decide (G 0 14 = 0) && (decide (G 56 2 = 0) && (decide (G 17 1 = 0) &&
  ((List.range 6).all (fun j => decide (G 19 j = 0)) && (List.range 4).all (fun m => decide (G 20 m = 0))))))))
/-- an end without a value, with these shapes and counts -/
def stE (S : List mSh) : Option (mO × mM) → Option (mG × (Nat × Nat))
  | some (.inl none, M) => bif decide (M.1 = S) then some M.2 else none
  | _ => none
theorem stE_ok {S : List mSh} {o : Option (mO × mM)} {z : mG × (Nat × Nat)} (h : stE S o = some z) : o = some (.inl none, (S, z)) := by
  unfold stE at h
  split at h
  · next M =>
    cases hd : decide (M.1 = S) with
    | true =>
      rw [hd] at h
      have h1 := of_decide_eq_true hd
      have h2 : M.2 = z := Option.some.inj h
      rw [← h1, ← h2]
    | false =>
      rw [hd] at h
      exact nomatch h
  · exact nomatch h
noncomputable def stR : Bool := match stE (stS 56) (nCall 400 40 74 [sR 0] stA) with
  | none => false
  | some z => Nat.ble z.2.1 900 && (Nat.ble z.2.2 90000 && (match stE (stS 74) (nCall 400 40 136 [sR 56] (stB (stS 56, z))) with
    | none => false
    | some z' => Nat.ble z'.2.1 900 && (Nat.ble z'.2.2 90000 && stT z'.1)))
set_option maxRecDepth 1000000 in
set_option maxHeartbeats 4000000 in
theorem stR_ok : stR = true := by decide +kernel
theorem st_runs : ∃ z z' : mG × (Nat × Nat), nCall 400 40 74 [sR 0] stA = some (.inl none, (stS 56, z)) ∧ nCall 400 40 136 [sR 56] (stB (stS 56, z)) = some (.inl none, (stS 74, z')) ∧ z'.2.1 ≤ 900 ∧ z'.2.2 ≤ 90000 ∧ stT z'.1 = true := by
  have h := stR_ok
  unfold stR at h
  split at h
  · exact nomatch h
  · next z hz =>
    simp only [Bool.and_eq_true] at h
    obtain ⟨-, -, h⟩ := h
    split at h
    · exact nomatch h
    · next z' hz' =>
      simp only [Bool.and_eq_true] at h
      exact ⟨z, z', stE_ok hz, stE_ok hz', Nat.le_of_ble_eq_true h.1, Nat.le_of_ble_eq_true h.2.1, h.2.2⟩
