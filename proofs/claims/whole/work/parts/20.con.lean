/-! ===== the contracts of all methods; the law's body from its entry ===== -/
theorem mEnts {y : Nat} {q : mMeth} (h1 : y < 278) (hq : mProg[y]? = some q) (ha : mAll (mMt y).2.1 (q.2.2.2.1 % 100) ((mMt y).1.name == "<init>") q.2.1 q.1 = true) : ∀ ch ∈ q.1, ∀ x ∈ ch, mEnt (mMt y).2.1 (q.2.2.2.1 % 100) ((mMt y).1.name == "<init>") q.2.1 x = true ∧ mEx2 (mMt y).2.2.1 (q.2.2.2.1 % 100) x = true := by
  intro ch hch x hx
  have h2 := mck2_ok y h1
  unfold mOne2 at h2
  rw [hq] at h2
  exact ⟨List.all_eq_true.mp (List.all_eq_true.mp ha ch hch) x hx, List.all_eq_true.mp (List.all_eq_true.mp h2 ch hch) x hx⟩
set_option maxHeartbeats 4000000 in
theorem mAllCon (l : Launch) (hl : l.stackTraces = false) (D : va_G) (B : Nat) (scr : mScr) (K : Nat) : ∀ (d y : Nat) (as : List mV) (M : mM) (r : mO) (M' : mM), mCall scr K d y as M = some (r, M') → y < 277 → y ≠ 238 → y ≠ 239 → mCon l D B scr d y as M r M' := by
  intro d
  induction d with
  | zero => intro y as M r M' h; exact nomatch h
  | succ d ih =>
    intro y as M r M' h hy1 hy2 hy3 ws xs hxs
    have hle : mLe M M' := mCall_mono scr K (d + 1) _ _ _ _ h
    obtain ⟨q, hq, hcl, hrk, hml12, hstt, hhs, hE3, ho112, hall⟩ := mHead_ok (Nat.lt_succ_of_lt hy1) hy2 hy3
    obtain ⟨c1, c2, c3, c4, c5, c6, -, -⟩ := mOk_ok y hy1 hy2 hy3
    have hents := mEnts (Nat.lt_succ_of_lt hy1) hq hall
    have hmaxL : mMaxL y = q.2.1 := by
      unfold mMaxL
      rw [List.getD_eq_getElem?_getD, hq]
      rfl
    unfold mCall at h
    rw [hq] at h
    simp only [Bool.cond_eq_ite] at h
    split at h
    · split at h
      · next hlen =>
        have hlen := Nat.le_of_ble_eq_true hlen
        have hlocl : (mLoc q.2.1 as).length = q.2.1 := by
          unfold mLoc
          simp
          omega
        have body : ∀ (p : Program) (e : Env) (s : State) (m : MethodId) (args : Array Value) (below : List Frame) (meth : Method) (c : Code) (s₁ : State), BodyLoose p l (mY y) (headSpec (mWs y) (mRm (d + 1) (M'.2.2.1 - M.2.2.1) (M'.2.2.2 - M.2.2.2))) (mMt y).2.1 (mMaxL y) (mMt y).2.2.1 e s m args below meth c s₁ → c.maxLocals = mMaxL y → ((q.2.2.2.2 = [] ∧ ∀ x ∈ c.exceptionTable.toList, False) ∨ (q.2.2.2.1 % 100 = 12 ∧ (∀ h ∈ q.2.2.2.2, h.2.2.2 < 3) ∧ c.exceptionTable.toList = tableOf (q.2.2.2.2.map (fun h => (h.1, h.2.1, h.2.2.1, mCt h.2.2.2))))) → mPc D B scr ws M xs args s →
            W p l e (mRm (d + 1) (M'.2.2.1 - M.2.2.1) (M'.2.2.2 - M.2.2.2)) s m args below meth c s.heap [] 0 0 (vx_MQ below (mQc D B ws r M') (mXc D B ws r M') args s (M'.2.2.1 - M.2.2.1) (M'.2.2.2 - M.2.2.2) (mA B)) (entryFrame m args (mMaxL y)) := by
          intro p e s m args below meth c s₁ Bd hml hT hP
          obtain ⟨rfl, ⟨tys, hW⟩, hE⟩ := hP
          have hts := atoms_spec (ws := mWs y) Bd.pre
          have hown : s.vm.findClass (mOwn (q.2.2.2.1 % 100)) = some m.cls := by
            rw [← hcl]
            exact findClass_of_methodNamed Bd.named
          have hini : ((mMt y).1.name == "<init>") = true → meth.name = "<init>" := fun h => by
            rw [(name_of_methodNamed Bd.named Bd.method).1]
            exact beq_iff_eq.mp h
          have Bb : mBody p l e (mRm (d + 1) (M'.2.2.1 - M.2.2.1) (M'.2.2.2 - M.2.2.2)) s m meth c xs.toArray D B scr d (q.2.2.2.1 % 100) q.2.1 q.2.2.1 ((mMt y).1.name == "<init>") (mMt y).2.2.1 (mMt y).2.1 q.1 q.2.2.2.2 :=
            ⟨⟨Bd.exec, Bd.bytes, hml.trans hmaxL, hown, fun w hw => hts w (List.mem_cons_of_mem _ hw), Bd.notSynchronized, hini, Bd.returns, hl⟩, hE, ⟨by simp only [mRm]; omega, by simp only [mRm]; omega⟩, hents, hrk, hT⟩
          rw [lg_entry_eq]
          have hg := mT_exec (below := below) (M' := M') (r := r) (ws0 := ws) (M0 := M) (K := K) ih Bb (Nat.le_refl _) (Nat.le_refl _) K 0 (mLoc q.2.1 as) [] M h ws tys s.heap [] _ [] (mLe.rf M) (mExt.rf ws) hW va_S.rf (mLoc_entry hxs hlen) hlocl trivial
          unfold mGoal at hg
          rw [Nat.sub_self, Nat.sub_self] at hg
          rw [hmaxL]
          exact hg
        by_cases hh : (mMt y).2.2.2.2.2 = []
        · have e1 : mWs y = Cond.code (mY y) (mMt y).2.1 (mMaxL y) (mMt y).2.2.1 :: TG := by
            unfold mWs
            rw [if_pos hh]
          have hs0 : q.2.2.2.2 = [] := by
            rw [hh] at hhs
            exact List.map_eq_nil_iff.mp hhs
          exact vx_ofW (cc := (mMt y).2.1) (maxL := mMaxL y) (ret := (mMt y).2.2.1) c6 e1 (fun p e s m args below meth c s₁ Bd hml hT hP => body p e s m args below meth c s₁ Bd hml (Or.inl ⟨hs0, hT⟩) hP)
        · have e1 : mWs y = Cond.codeWith (mY y) (mMt y).2.1 (mMaxL y) (mMt y).2.2.1 (mMt y).2.2.2.2.2 :: TG := by
            unfold mWs
            rw [if_neg hh]
          refine vx_ofWH (cc := (mMt y).2.1) (maxL := mMaxL y) (ret := (mMt y).2.2.1) (hh := (mMt y).2.2.2.2.2) c6 e1 (fun p e s m args below meth c s₁ Bd hml hP => body p e s m args below meth c s₁ Bd hml (Or.inr ⟨?_, hE3, ?_⟩) hP)
          · rcases ho112 with h9 | h9
            · rw [h9] at hhs
              exact absurd hhs.symm hh
            · rw [h9]
          · rw [hhs]
            refine vx_table (x := mY y) (y := mY y) (bytes := (mMt y).2.1) (maxL' := mMaxL y) (ret' := (mMt y).2.2.1) Bd ?_
            have hts := atoms_spec (ws := mWs y) Bd.pre
            exact hts _ (by rw [e1]; exact List.mem_cons_self)
      · exact nomatch h
    · exact nomatch h
theorem mInstW (c : Nat) (hc : c < vwCl.length) : Cond.instantiable (vwCl[c]).1 (vwCl[c]).2.2 ∈ TG := by
  match c, hc with
  | 0, _ => exact TG_1 (i := 183) rfl rfl
  | 1, _ => exact TG_2 (i := 68) rfl rfl
  | 2, _ => exact TG_1 (i := 237) rfl rfl
  | 3, _ => exact TG_2 (i := 19) rfl rfl
  | 4, _ => exact TG_2 (i := 89) rfl rfl
  | 5, _ => exact TG_2 (i := 13) rfl rfl
  | 6, _ => exact TG_2 (i := 44) rfl rfl
  | 7, _ => exact TG_1 (i := 32) rfl rfl
  | 8, _ => exact TG_1 (i := 135) rfl rfl
  | 9, _ => exact TG_1 (i := 208) rfl rfl
  | 10, _ => exact TG_1 (i := 24) rfl rfl
  | 11, _ => exact TG_5 (i := 202) rfl rfl
  | n + 12, h => exact absurd h (by have : vwCl.length = 12 := rfl; omega)
/-- the classes' numbers and slots, out of the words -/
theorem mKn {s : State} {args : Array Value} (hts : ∀ w ∈ TG, w.before args s = true) : ∃ D : va_G, va_K D vwCl [] s := by
  have h0 : ∀ c : Nat, ∃ z : ClassId × (Nat → Nat), ∀ q : vw_C, vwCl[c]? = some q → u_Kn s q.1 q.2.1 q.2.2 z.1 z.2 := by
    intro c
    by_cases hc : c < vwCl.length
    · obtain ⟨g1, -, -, -⟩ := mCl_ok _ (List.getElem_mem hc)
      have hi : ∃ n, (Cond.instantiable (vwCl[c]).1 n).before args s = true := ⟨_, hts _ (mInstW c hc)⟩
      obtain ⟨n, hn⟩ := hi
      obtain ⟨cC, iS, h1⟩ := u_known hts g1 hn
      refine ⟨(cC, iS), fun q hq => ?_⟩
      have : q = vwCl[c] := Option.some.inj (hq.symm.trans (List.getElem?_eq_getElem hc))
      rw [this]
      exact h1
    · exact ⟨(0, fun _ => 0), fun q hq => absurd (List.getElem?_eq_some_iff.mp hq).1 hc⟩
  obtain ⟨f, hf⟩ := Classical.axiomOfChoice h0
  exact ⟨(fun c => (f c).1, fun c => (f c).2), fun c q hq => hf c q hq, fun k q hq => nomatch hq⟩
def mRunOk : Prop := ∀ (scr : mScr), scr.2.1 ≤ 2560 → (∀ j, w32 (scr.2.2 j) = scr.2.2 j) → ∃ (K : Nat) (M' : mM), mExec scr (mCall scr K 40) mc_L_law 1 [] K (0, (mLoc 9 [.inr (.inr (.inr (.ref scr.1)))], ([], ([], (fun _ _ => 0, (0, 0)))))) = some (.inl (some (.inl 1)), M') ∧ M'.2.2.1 ≤ 601024 ∧ M'.2.2.2 ≤ 7293033
