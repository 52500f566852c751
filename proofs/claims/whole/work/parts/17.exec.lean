/-! ===== a run of the small machine is a run of the big one ===== -/
def mLe (M M' : mM) : Prop := M.2.2.1 ≤ M'.2.2.1 ∧ M.2.2.2 ≤ M'.2.2.2
theorem mLe.rf (M : mM) : mLe M M := ⟨Nat.le_refl _, Nat.le_refl _⟩
theorem mLe.tr {A B C : mM} (h : mLe A B) (h2 : mLe B C) : mLe A C := ⟨Nat.le_trans h.1 h2.1, Nat.le_trans h.2 h2.2⟩
set_option maxHeartbeats 4000000 in
theorem mMem_mono {scr : mScr} {ins : Instr} {c k b : Nat} {st st' : List mV} {M M' : mM} (h : mMem scr ins c k b st M = some (st', M')) : mLe M M' := by
  cases ins <;> first
    | (cases h; done)
    | (simp only [mMem, Bool.cond_eq_ite] at h
       repeat' split at h
       all_goals first
         | (cases h; done)
         | (cases h; exact ⟨Nat.le_refl _, Nat.le_refl _⟩)
         | (cases h; exact ⟨Nat.le_add_right _ _, Nat.le_add_right _ _⟩))
def mMono (call : Nat → List mV → mM → Option (mO × mM)) : Prop := ∀ (y : Nat) (as : List mV) (M : mM) (x : mO × mM), call y as M = some x → mLe M x.2
def mOutM (M : mM) (x : mS ⊕ (mO × mM)) : Prop := match x with
  | .inl s => mLe M s.2.2.2
  | .inr r => mLe M r.2
theorem mBack_mono {hs : List (Nat × (Nat × (Nat × Nat)))} {pc : Nat} {ls : mL} {rest : List mV} {x : mO × mM} {y : mS ⊕ (mO × mM)} (h : mBack hs pc ls rest x = some y) {M : mM} (h1 : mLe M x.2) : mOutM M y := by
  unfold mBack at h
  repeat' split at h
  all_goals first
    | (cases h; done)
    | (cases h; exact h1)
theorem mCallI_mono {call : Nat → List mV → mM → Option (mO × mM)} (hc : mMono call) {hs : List (Nat × (Nat × (Nat × Nat)))} {y n kd pc : Nat} {ls : mL} {st : List mV} {M : mM} {x : mS ⊕ (mO × mM)} (h : mCallI call hs y n kd pc ls st M = some x) : mOutM M x := by
  unfold mCallI at h
  simp only [Bool.cond_eq_ite] at h
  repeat' split at h
  all_goals first
    | (cases h; done)
    | (cases h; exact mLe.rf M)
    | skip
  all_goals (next hx _ => exact mBack_mono h (hc _ _ _ _ hx))
theorem mStep_mono {scr : mScr} {call : Nat → List mV → mM → Option (mO × mM)} (hc : mMono call) {rk : Nat} {hs : List (Nat × (Nat × (Nat × Nat)))} {e : mI} {s : mS} {x : mS ⊕ (mO × mM)} (h : mStep scr call rk hs e s = some x) : mOutM s.2.2.2 x := by
  unfold mStep at h
  simp only [Bool.cond_eq_ite] at h
  repeat' split at h
  all_goals first
    | (cases h; done)
    | (cases h; exact mLe.rf _)
    | (cases h; exact ⟨Nat.le_add_right _ _, Nat.le_add_right _ _⟩)
    | exact mCallI_mono hc h
    | (next hx => cases h; exact mMem_mono hx)
theorem mExec_mono {scr : mScr} {call : Nat → List mV → mM → Option (mO × mM)} (hc : mMono call) {cs : List (List mI)} {rk : Nat} {hs : List (Nat × (Nat × (Nat × Nat)))} : ∀ (k : Nat) (s : mS) (x : mO × mM), mExec scr call cs rk hs k s = some x → mLe s.2.2.2 x.2
  | 0, _, _, h => nomatch h
  | k + 1, s, x, h => by
    simp only [mExec] at h
    split at h
    · exact nomatch h
    · split at h
      · exact nomatch h
      · next hx => exact mLe.tr (mStep_mono hc hx) (mExec_mono hc k _ _ h)
      · next hx =>
        cases h
        exact mStep_mono hc hx
theorem mCall_mono (scr : mScr) (K : Nat) : ∀ d : Nat, mMono (mCall scr K d)
  | 0 => fun _ _ _ _ h => nomatch h
  | d + 1 => fun y as M x h => by
    simp only [mCall, Bool.cond_eq_ite] at h
    repeat' split at h
    all_goals first
      | (cases h; done)
      | exact mExec_mono (mCall_mono scr K d) K _ _ h
theorem mFetch_mem {cs : List (List mI)} {pc : Nat} {e : mI} (h : mFetch cs pc = some e) : e.1 = pc ∧ ∃ ch ∈ cs, e ∈ ch := by
  unfold mFetch at h
  have h1 := List.find?_some h
  have h2 := List.mem_of_find?_eq_some h
  refine ⟨Nat.eq_of_beq_eq_true h1, ?_⟩
  have h3 : pc / 64 < cs.length := by
    by_cases h4 : pc / 64 < cs.length
    · exact h4
    · rw [List.getD_eq_getElem?_getD, List.getElem?_eq_none (Nat.not_lt.mp h4)] at h2
      exact nomatch h2
  rw [List.getD_eq_getElem?_getD, List.getElem?_eq_getElem h3] at h2
  exact ⟨cs[pc / 64], List.getElem_mem h3, h2⟩
theorem mRecv_ok {scr : mScr} {K d y : Nat} {as : List mV} {M : mM} {x : mO × mM} (h : mCall scr K d y as M = some x) (h1 : y < 277) (h2 : y ≠ 238) (h3 : y ≠ 239) (hst : (mMt y).2.2.2.2.1 = false) : ∃ (a : Nat) (q : Nat × List (Option (Option Nat))) (as2 : List mV), as = .inr (.inr (.inl a)) :: as2 ∧ M.1[a]? = some (.inl q) ∧ mOwn q.1 = (mY y).cls ∧ q.1 < 12 := by
  cases d with
  | zero => exact nomatch h
  | succ d =>
    obtain ⟨q, hq, hq2⟩ := mInst_ok (Nat.lt_succ_of_lt h1) hst
    obtain ⟨q', hq', hcl, -⟩ := mHead_ok (Nat.lt_succ_of_lt h1) h2 h3
    have e1 : q' = q := Option.some.inj (hq'.symm.trans hq)
    subst e1
    unfold mCall at h
    rw [hq] at h
    have h4 : Nat.ble 12 q'.2.2.2.1 = false := by
      cases hb : Nat.ble 12 q'.2.2.2.1 with
      | false => rfl
      | true => exact absurd (Nat.le_of_ble_eq_true hb) (by omega)
    simp only [h4, Bool.false_or] at h
    cases hr : mRecv q'.2.2.2.1 as M with
    | false => rw [hr] at h; exact nomatch h
    | true =>
      unfold mRecv at hr
      split at hr
      · next a as2 =>
        split at hr
        · next o ho =>
          have h5 := Nat.eq_of_beq_eq_true hr
          refine ⟨a, o, as2, rfl, ho, ?_, by rw [h5]; exact hq2⟩
          rw [h5, show mY y = (mMt y).1 from rfl, hcl, Nat.mod_eq_of_lt (by omega)]
        · exact nomatch hr
      · exact nomatch hr
section ME
variable {p : Program} {l : Launch} {e : Env} {R : Room} {s : State} {m : MethodId} {args : Array Value} {below : List Frame} {meth : Method} {c : Code} {H : Heap} {locs : List Loc} {cells slots : Nat} {Q : State → Prop}
variable {cc : ByteArray} {pc : Nat} {ls : Array Slot} {ws : va_W} {stA stA' : List mV} {st rest : List Value} {D : va_G} {B : Nat} {M M' : mM} {tys : List (ClassId × FieldType)} {scr : mScr} {r : mO}
/-- what a body's walk stands on -/
def mBody (p : Program) (l : Launch) (e : Env) (R : Room) (s : State) (m : MethodId) (meth : Method) (c : Code) (args : Array Value) (D : va_G) (B : Nat) (scr : mScr) (d o nL rk : Nat) (ini : Bool) (ret : Option FieldType) (cc : ByteArray) (cs : List (List mI)) (hs : List (Nat × (Nat × (Nat × Nat)))) : Prop :=
  (p.tables.exec = Jvm.exec ∧ c.code = cc ∧ c.maxLocals = nL ∧ s.vm.findClass (mOwn o) = some m.cls ∧ (∀ w ∈ TG, w.before args s = true) ∧ meth.locks = false ∧ (ini = true → meth.name = "<init>") ∧ meth.sig.returnType = ret ∧ l.stackTraces = false) ∧
  mEnv D B scr s ∧ (d + 9 ≤ R.frames ∧ 40 * (d + 1) + 200 ≤ R.locals) ∧ (∀ ch ∈ cs, ∀ x ∈ ch, mEnt cc o ini nL x = true ∧ mEx2 ret o x = true) ∧ ((rk = 0) = (ret ≠ some .boolean)) ∧
  ((hs = [] ∧ ∀ x ∈ c.exceptionTable.toList, False) ∨ (o = 12 ∧ (∀ h ∈ hs, h.2.2.2 < 3) ∧ c.exceptionTable.toList = tableOf (hs.map (fun h => (h.1, h.2.1, h.2.2.1, mCt h.2.2.2)))))
theorem mFound {hs : List (Nat × (Nat × (Nat × Nat)))} {pc E : Nat} {h0 : Nat} (h : mCatch hs pc E = some h0) : ∃ (a b : List (Nat × (Nat × (Nat × Nat)))) (x : Nat × (Nat × (Nat × Nat))), hs = a ++ x :: b ∧ x.2.2.1 = h0 ∧ x.1 ≤ pc ∧ pc < x.2.1 ∧ x.2.2.2 = E ∧ ∀ y ∈ a, ¬ (y.1 ≤ pc ∧ pc < y.2.1 ∧ y.2.2.2 = E) := by
  unfold mCatch at h
  cases hf : hs.find? (fun h => Nat.ble h.1 pc && Nat.blt pc h.2.1 && Nat.beq h.2.2.2 E) with
  | none => rw [hf] at h; exact nomatch h
  | some x =>
    rw [hf] at h
    cases h
    obtain ⟨h1, a, b, h2, h3⟩ := List.find?_eq_some_iff_append.mp hf
    simp only [Bool.and_eq_true] at h1
    refine ⟨a, b, x, h2, rfl, Nat.le_of_ble_eq_true h1.1.1, ?_, Nat.eq_of_beq_eq_true h1.2, fun y hy hh => ?_⟩
    · have := h1.1.2
      simpa [Nat.blt_eq] using this
    · have h4 := h3 y hy
      have h5 : (Nat.ble y.1 pc && Nat.blt pc y.2.1 && Nat.beq y.2.2.2 E) = true := by
        simp only [Bool.and_eq_true]
        exact ⟨⟨Nat.ble_eq.mpr hh.1, by simpa [Nat.blt_eq] using hh.2.1⟩, by rw [hh.2.2]; exact Nat.beq_refl E⟩
      rw [h5] at h4
      exact nomatch h4
theorem mT_catch {d o nL rk : Nat} {ini : Bool} {ret : Option FieldType} {cs : List (List mI)} {hs : List (Nat × (Nat × (Nat × Nat)))} (Bd : mBody p l e R s m meth c args D B scr d o nL rk ini ret cc cs hs) {E h0 : Nat} (hE : E < 3) (h : mCatch hs pc E = some h0) {q : Addr} {ce : Cell} (hce : H[q]? = some ce) (hv : ce.vm = .none) (hcl : s.vm.findClass (mExn E) = some ce.cls) (K : W p l e R s m args below meth c H locs cells slots Q (F0 m h0 ls [.ref q])) : vx_W p l e R s m args below meth c H locs cells slots Q (F0 m pc ls rest) q := by
  obtain ⟨⟨hx, hb, hml, hown, hts, -⟩, hEnv, -, -, -, hT⟩ := Bd
  obtain ⟨a, b, x, h1, rfl, h3, h4, h5, h6⟩ := mFound h
  rcases hT with ⟨hT1, -⟩ | ⟨ho, hE3, hT2⟩
  · rw [hT1] at h1
    exact absurd h1.symm (by simp)
  · subst ho
    subst h1
    have hsp : c.exceptionTable.toList = tableOf (a.map (fun h => (h.1, h.2.1, h.2.2.1, mCt h.2.2.2))) ++ (⟨x.1, x.2.1, x.2.2.1, mCt x.2.2.2⟩ : ExceptionTableEntry) :: tableOf (b.map (fun h => (h.1, h.2.1, h.2.2.1, mCt h.2.2.2))) := by
      rw [hT2]
      simp [tableOf]
    subst h5
    refine vx_catch hown _ _ _ hsp (fun z hz => ?_) ?_ (mCt_ne _) (hts _ (mW_ct hE)) (va_Nw.use (mBad_on _ (mW_cast hE)) (hEnv.2.2.2.2.2.1 _ (mW_cast hE))) hce hv hcl K
    · simp only [tableOf, List.map_map, List.mem_map] at hz
      obtain ⟨y, hy, rfl⟩ := hz
      have h7 := h6 y hy
      by_cases h8 : y.1 ≤ pc ∧ pc < y.2.1
      · have h9 : y.2.2.2 ≠ x.2.2.2 := fun h10 => h7 ⟨h8.1, h8.2, h10⟩
        have h10 := hE3 y (List.mem_append_left _ hy)
        exact Or.inr ⟨mCt_ne _, mExn y.2.2.2, hts _ (mW_ct h10), hEnv.2.2.2.2.2.2 _ _ hE h10 (Ne.symm h9)⟩
      · refine Or.inl ?_
        show (decide (y.1 ≤ pc) && decide (pc < y.2.1)) = false
        rw [← Bool.not_eq_true]
        simp only [Bool.and_eq_true, decide_eq_true_eq]
        exact h8
    · show (decide (x.1 ≤ pc) && decide (pc < x.2.1)) = true
      simp only [Bool.and_eq_true, decide_eq_true_eq]
      exact ⟨h3, h4⟩
/-- the invariant of a body's walk -/
theorem va_P_kept {cl : List vw_C} {H1 : Heap} (h : va_P D cl ws H) (hk : ∀ q : Nat, q < H.size → H1[q]? = H[q]?) : va_P D cl ws H1 := fun k q hq => (h k q hq).kept (hk q.1 (h k q hq).lt)
end ME
