/-! ===== programs of the small machine, told as functions: Sim s p: from s the machine ends as p says, where p says anything ===== -/
abbrev lI (z : Int) : Option mV := some (.inl z)
abbrev lL (z : Int) : Option mV := some (.inr (.inl z))
abbrev lR (a : Nat) : Option mV := some (.inr (.inr (.inl a)))
abbrev lD (x : UInt64) : Option mV := some (.inr (.inr (.inr (.double x))))
abbrev lF (x : UInt32) : Option mV := some (.inr (.inr (.inr (.float x))))
abbrev lNu : Option mV := some (.inr (.inr (.inr .null)))
abbrev lO : Option mV := some (.inr (.inr (.inr (.retAddr 0))))
abbrev sI (z : Int) : mV := .inl z
abbrev sL (z : Int) : mV := .inr (.inl z)
abbrev sR (a : Nat) : mV := .inr (.inr (.inl a))
abbrev sD (x : UInt64) : mV := .inr (.inr (.inr (.double x)))
abbrev sF (x : UInt32) : mV := .inr (.inr (.inr (.float x)))
abbrev sN : mV := .inr (.inr (.inr .null))
abbrev sO : mV := .inr (.inr (.inr (.retAddr 0)))
abbrev sX (a : Nat) : mV := .inr (.inr (.inr (.ref a)))
abbrev lX (a : Nat) : Option mV := some (.inr (.inr (.inr (.ref a))))
abbrev mHs : Type := List (Nat × (Nat × (Nat × Nat)))
def mRun (scr : mScr) (d : Nat) (cs : List (List mI)) (rk : Nat) (hs : mHs) (s : mS) (y : mO × mM) : Prop := ∃ K, mExec scr (mCall scr K d) cs rk hs K s = some y
def Sim {X : Type} (scr : mScr) (d : Nat) (cs : List (List mI)) (rk : Nat) (hs : mHs) (enc : X → mO × mM) (s : mS) (p : Option X) : Prop := ∀ x, p = some x → mRun scr d cs rk hs s (enc x)
def SimC {X : Type} (scr : mScr) (d y : Nat) (as : List mV) (M : mM) (enc : X → mO × mM) (p : Option X) : Prop := ∀ x, p = some x → ∃ K, mCall scr K d y as M = some (enc x)
def mSub (c1 c2 : Nat → List mV → mM → Option (mO × mM)) : Prop := ∀ y as M x, c1 y as M = some x → c2 y as M = some x
theorem mCallI_sub {c1 c2 : Nat → List mV → mM → Option (mO × mM)} (h : mSub c1 c2) {hs : mHs} {y n kd pc : Nat} {ls : mL} {st : List mV} {M : mM} {x : mS ⊕ (mO × mM)} (h1 : mCallI c1 hs y n kd pc ls st M = some x) : mCallI c2 hs y n kd pc ls st M = some x := by
  unfold mCallI at h1 ⊢
  split
  · exact h1
  · exact h1
  · exact h1
  · exact h1
  · simp only [Bool.cond_eq_ite] at h1 ⊢
    split at h1
    · next h2 =>
      rw [if_pos h2]
      split at h1
      · next x0 hx =>
        rw [h _ _ _ _ hx]
        exact h1
      · cases h1
    · cases h1
theorem mStep_sub {scr : mScr} {c1 c2 : Nat → List mV → mM → Option (mO × mM)} (h : mSub c1 c2) {rk : Nat} {hs : mHs} {e : mI} {s : mS} {x : mS ⊕ (mO × mM)} (h1 : mStep scr c1 rk hs e s = some x) : mStep scr c2 rk hs e s = some x := by
  obtain ⟨pc, ins, r⟩ := e
  cases ins <;> first
    | exact h1
    | exact mCallI_sub h h1
theorem mExec_sub {scr : mScr} {c1 c2 : Nat → List mV → mM → Option (mO × mM)} (h : mSub c1 c2) {cs : List (List mI)} {rk : Nat} {hs : mHs} : ∀ (k k' : Nat) (s : mS) (x : mO × mM), k ≤ k' → mExec scr c1 cs rk hs k s = some x → mExec scr c2 cs rk hs k' s = some x
  | 0, _, _, _, _, h1 => nomatch h1
  | k + 1, 0, _, _, hk, _ => absurd hk (Nat.not_succ_le_zero k)
  | k + 1, k' + 1, s, x, hk, h1 => by
    simp only [mExec] at h1 ⊢
    split at h1
    · cases h1
    · next e he =>
      split at h1
      · cases h1
      · next s' hs' =>
        rw [mStep_sub h hs']
        exact mExec_sub h k k' s' x (Nat.le_of_succ_le_succ hk) h1
      · next r hs' =>
        rw [mStep_sub h hs']
        exact h1
theorem mCall_sub (scr : mScr) {K K' : Nat} (hK : K ≤ K') : ∀ d : Nat, mSub (mCall scr K d) (mCall scr K' d)
  | 0 => fun _ _ _ _ h => nomatch h
  | d + 1 => fun y as M x h => by
    simp only [mCall, Bool.cond_eq_ite] at h ⊢
    split at h
    · cases h
    · next q hq =>
      split at h
      · next h2 =>
        rw [if_pos h2]
        split at h
        · next h3 =>
          rw [if_pos h3]
          exact mExec_sub (mCall_sub scr hK d) K K' _ _ hK h
        · cases h
      · cases h
def mDum : Nat → List mV → mM → Option (mO × mM) := fun _ _ _ => none
theorem mDum_sub (c : Nat → List mV → mM → Option (mO × mM)) : mSub mDum c := fun _ _ _ _ h => nomatch h
noncomputable def mSteps (scr : mScr) (cs : List (List mI)) (rk : Nat) (hs : mHs) : Nat → mS → Option mS
  | 0, s => some s
  | n + 1, s => match mFetch cs s.1 with
    | none => none
    | some e => match mStep scr mDum rk hs e s with
      | some (.inl s') => mSteps scr cs rk hs n s'
      | _ => none
section SM
variable {X Y : Type} {scr : mScr} {d : Nat} {cs : List (List mI)} {rk : Nat} {hs : mHs} {enc : X → mO × mM} {s s' : mS} {p : Option X}
theorem sm_step {e : mI} (hf : mFetch cs s.1 = some e) (h : mStep scr mDum rk hs e s = some (.inl s')) (k : Sim scr d cs rk hs enc s' p) : Sim scr d cs rk hs enc s p := by
  intro x hx
  obtain ⟨K, hK⟩ := k x hx
  refine ⟨K + 1, ?_⟩
  have h1 := mExec_sub (mCall_sub scr (Nat.le_succ K) d) K K _ _ (Nat.le_refl K) hK
  simp only [mExec, hf, mStep_sub (mDum_sub _) h]
  exact h1
theorem sm_run : ∀ (n : Nat) {s s' : mS}, mSteps scr cs rk hs n s = some s' → Sim scr d cs rk hs enc s' p → Sim scr d cs rk hs enc s p
  | 0, s, s', h, k => by
    cases h
    exact k
  | n + 1, s, s', h, k => by
    simp only [mSteps] at h
    split at h
    · cases h
    · next e he =>
      split at h
      · next s2 h2 => exact sm_step he h2 (sm_run n h k)
      · cases h
/-- the end: a value's return -/
theorem sm_ret {x : X} {e : mI} (hf : mFetch cs s.1 = some e) (h : mStep scr mDum rk hs e s = some (.inr (enc x))) : Sim scr d cs rk hs enc s (some x) := by
  intro x' hx
  cases hx
  refine ⟨1, ?_⟩
  simp only [mExec, hf, mStep_sub (mDum_sub _) h]
theorem sm_none : Sim scr d cs rk hs enc s none := fun _ h => nomatch h
/-- a call, and what goes on behind it -/
theorem sm_call {y n kd i : Nat} {ins : Instr} {as rest : List mV} {st : List mV} {ls : mL} {M : mM} {pc : Nat} {encY : Y → mO × mM} {q : Option Y} {f : Y → Option X} (hc : SimC scr d y as M encY q) (hf : mFetch cs pc = some (pc, (ins, (3, (y, (n, kd)))))) (hi : ins = .invokevirtual i ∨ ins = .invokestatic i ∨ ins = .invokespecial i) (hkd : kd < 4 ∨ kd = 8) (hst : st = as.reverse ++ rest) (hn : as.length = n) (hr : Nat.ble (mWd rest) 8 = true)
    (k : ∀ z, (kd < 2 ∨ (encY z).1.isLeft = true) → Sim scr d cs rk hs enc (pc, (ls, (st, M))) (f z) ∨ ∃ s', mBack hs pc ls rest (encY z) = some (.inl s') ∧ Sim scr d cs rk hs enc s' (f z)) (hl : ∀ z, kd < 2 ∨ (encY z).1.isLeft = true) : Sim scr d cs rk hs enc (pc, (ls, (st, M))) (q.bind f) := by
  intro x hx
  cases q with
  | none => exact nomatch hx
  | some z =>
    have hx : f z = some x := hx
    rcases k z (hl z) with h0 | ⟨s', h1, h2⟩
    · exact h0 x hx
    · obtain ⟨K1, hK1⟩ := hc z rfl
      obtain ⟨K2, hK2⟩ := h2 x hx
      refine ⟨K1 + K2 + 1, ?_⟩
      have h3 := mCall_sub scr (show K1 ≤ K1 + K2 + 1 by omega) d _ _ _ _ hK1
      have h4 := mExec_sub (mCall_sub scr (show K2 ≤ K1 + K2 + 1 by omega) d) K2 (K1 + K2) _ _ (by omega) hK2
      have h5 : mStep scr (mCall scr (K1 + K2 + 1) d) rk hs (pc, (ins, (3, (y, (n, kd))))) (pc, (ls, (st, M))) = some (.inl s') := by
        have h6 : mCallI (mCall scr (K1 + K2 + 1) d) hs y n kd pc ls st M = some (.inl s') := by
          have hlen : st.length = n + rest.length := by rw [hst]; simp [hn]
          have htk : (st.take n).reverse = as := by
            rw [hst, ← hn]
            rw [List.take_left' (by simp)]
            simp
          have hdr : st.drop n = rest := by
            rw [hst, ← hn]
            rw [List.drop_left' (by simp)]
          have hgen : mCallI (mCall scr (K1 + K2 + 1) d) hs y n kd pc ls st M = (bif Nat.ble n st.length && Nat.ble (mWd (st.drop n)) 8 then (match mCall scr (K1 + K2 + 1) d y (st.take n).reverse M with
            | some x => bif Nat.ble kd 1 || x.1.isLeft then mBack hs pc ls (st.drop n) x else none
            | none => none) else none) := by
            unfold mCallI
            split
            · omega
            · omega
            · omega
            · omega
            · rfl
          rw [hgen, htk, hdr, h3]
          have e1 : Nat.ble n st.length = true := Nat.ble_eq.mpr (by omega)
          rw [e1, hr]
          have e2 : (Nat.ble kd 1 || (encY z).1.isLeft) = true := by
            rw [Bool.or_eq_true]
            rcases hl z with h7 | h7
            · exact Or.inl (Nat.ble_eq.mpr (by omega))
            · exact Or.inr h7
          simp only [Bool.and_self, cond_true, e2]
          exact h1
        unfold mStep
        rcases hi with rfl | rfl | rfl <;> exact h6
      simp only [mExec, hf, h5]
      exact h4
theorem sm_callE {y : Nat} {as : List mV} {M : mM} {encY : Y → mO × mM} {q : Option Y} {q0 : mMeth} (hq : mProg[y]? = some q0) (hr : (Nat.ble 12 q0.2.2.2.1 || mRecv q0.2.2.2.1 as M) = true) (hlen : Nat.ble (mArgs as).length q0.2.1 = true) (h : Sim scr d q0.1 q0.2.2.1 q0.2.2.2.2 encY (0, (mLoc q0.2.1 as, ([], M))) q) : SimC scr (d + 1) y as M encY q := by
  intro x hx
  obtain ⟨K, hK⟩ := h x hx
  refine ⟨K, ?_⟩
  simp only [mCall, hq, hr, hlen, cond_true]
  exact hK
end SM
