/-! ===== the walk of a body, and the contracts of all methods ===== -/
set_option maxHeartbeats 4000000 in
theorem mPure_len {ins : Instr} {c : Nat} {lA : mL} {st : List mV} {q : mL × List mV} (h : mPure ins c lA st = some q) : q.1.length = lA.length := by
  cases ins <;> first
    | (cases h; done)
    | (obtain ⟨st', h1, rfl⟩ := mWith_some h; rfl)
    | (obtain ⟨z, r, rfl, h1, rfl⟩ := mStI_some h; exact mSt_len _ _ _)
    | (obtain ⟨z, r, rfl, h1, rfl⟩ := mStF_some h; exact mSt_len _ _ _)
    | (obtain ⟨z, r, rfl, h1, rfl⟩ := mStL_some h; exact mSt2_len _ _ _ h1)
    | (obtain ⟨z, r, rfl, h1, rfl⟩ := mStD_some h; exact mSt2_len _ _ _ h1)
    | (obtain ⟨v, w, r, rfl, h1, rfl, -⟩ := mStA_some h; exact mSt_len _ _ _)
    | (cases h; rfl)
    | (simp only [mPure, Bool.cond_eq_ite] at h
       repeat' split at h
       all_goals first
         | (cases h; done)
         | (cases h; rfl)
         | (cases h; exact mSt_len _ _ _))
section MX
variable {p : Program} {l : Launch} {e : Env} {R : Room} {s : State} {m : MethodId} {args : Array Value} {below : List Frame} {meth : Method} {c : Code} {H : Heap} {locs : List Loc} {cells slots : Nat} {Q : State → Prop}
variable {cc : ByteArray} {pc : Nat} {ls : Array Slot} {ws : va_W} {lA : mL} {stA stA' : List mV} {st rest : List Value} {D : va_G} {B : Nat} {M M' : mM} {tys : List (ClassId × FieldType)} {scr : mScr} {r : mO}
/-- 'new E("text"); athrow' -/
theorem mT_throw {d o nL rk len i1 i2 i3 ik : Nat} {ini : Bool} {ret : Option FieldType} {cs : List (List mI)} (Bd : mBody p l e R s m meth c args D B scr d o nL rk ini ret cc cs []) (hc : mEnt cc o ini nL (pc, (.new ik, (len, (i1, (i2, i3))))) = true) (hc2 : mEx2 ret o (pc, (.new ik, (len, (i1, (i2, i3))))) = true) (hi : 1000 ≤ i1)
    {M0 : mM} {ws0 : va_W} (hM0 : mLe M0 M) (hext : mExt ws0 ws) (W0 : mWld D B M ws tys s H) (hS : va_S (mA B) s.heap H locs) (hls : ls.size = nL) (hst : (st.map fun v => v.category).sum ≤ 8) (hM' : M' = (M.1, (M.2.1, (M.2.2.1 + 1, M.2.2.2 + 6)))) (hRc : M'.2.2.1 - M0.2.2.1 ≤ R.cells) (hRs : M'.2.2.2 - M0.2.2.2 ≤ R.slots) :
    W p l e R s m args below meth c H locs (M.2.2.1 - M0.2.2.1) (M.2.2.2 - M0.2.2.2) (vx_MQ below (mQc D B ws0 (.inr (i1 - 1000)) M') (mXc D B ws0 (.inr (i1 - 1000)) M') args s (M'.2.2.1 - M0.2.2.1) (M'.2.2.2 - M0.2.2.2) (mA B)) (F0 m pc ls st) := by
  obtain ⟨⟨hx, hb, hml, hown, hts, hlk, -, -, hl⟩, hE, ⟨hR1, hR2⟩, -, -, hT⟩ := Bd
  have hT0 : ∀ x ∈ c.exceptionTable.toList, False := by
    rcases hT with h | ⟨-, -, h⟩
    · exact h.2
    · rw [h]
      intro x hx
      exact nomatch hx
  obtain ⟨hd, hlen, -, -, hthr⟩ := mEnt_dec hc
  have hn : len = 3 := Nat.eq_of_beq_eq_true hlen
  subst hn
  have ho : o = 10 := by
    have h9 : (!(Nat.ble 1000 i1) || Nat.beq o 10) = true := hc2
    rw [Nat.ble_eq.mpr hi] at h9
    exact Nat.eq_of_beq_eq_true h9
  subst ho
  have hthr2 : (match i3 % 2 with
    | 0 => decide ((ik, i2, i3 / 2, 0, i1 - 1000) ∈ mPoolX) && decide (decode cc (pc + 3) = .ok (.dup, 1)) && decide (decode cc (pc + 4) = .ok (.ldc i2, 2)) && decide (decode cc (pc + 6) = .ok (.invokespecial (i3 / 2), 3)) && decide (decode cc (pc + 9) = .ok (.athrow, 1))
    | _ => decide ((ik, i2, i3 / 2, 1, i1 - 1000) ∈ mPoolX) && decide (decode cc (pc + 3) = .ok (.dup, 1)) && decide (decode cc (pc + 4) = .ok (.ldc_w i2, 3)) && decide (decode cc (pc + 7) = .ok (.invokespecial (i3 / 2), 3)) && decide (decode cc (pc + 10) = .ok (.athrow, 1))) = true := by
    have h9 : (!(Nat.ble 1000 i1) || _) = true := hthr
    rw [Nat.ble_eq.mpr hi] at h9
    exact h9
  have key : ∀ wd, (ik, i2, i3 / 2, wd, i1 - 1000) ∈ mPoolX → mWX (ik, i2, i3 / 2, wd, i1 - 1000) := fun wd h => mX_ok _ h
  have hats : ∀ wd, mWX (ik, i2, i3 / 2, wd, i1 - 1000) → ∀ w ∈ vx_atS "JobWorkshop" (i3 / 2) (mExn (i1 - 1000)) mUp, w.before args s = true := by
    intro wd hw w hw2
    rcases mXw_ok w (hw.2.2.2.1 w hw2) with h8 | h8
    · exact hts w h8
    · exact va_Nw.use (mBad_on w h8) (hE.2.2.2.2.2.1 w h8)
  have hup : ∀ n ∈ mUp, Bundle.fit n = true := by decide +kernel
  have hm1 : M.2.2.1 - M0.2.2.1 + 1 = M'.2.2.1 - M0.2.2.1 := by
    have := hM0.1
    rw [hM']
    show M.2.2.1 - M0.2.2.1 + 1 = M.2.2.1 + 1 - M0.2.2.1
    omega
  have hm2 : M.2.2.2 - M0.2.2.2 + 6 = M'.2.2.2 - M0.2.2.2 := by
    have := hM0.2
    rw [hM']
    show M.2.2.2 - M0.2.2.2 + 6 = M.2.2.2 + 6 - M0.2.2.2
    omega
  have hown : s.vm.findClass "JobWorkshop" = some m.cls := hown
  have hxc : i1 - 1000 < 3 → ∀ t : State, s.vm.Alike t.vm → H.size ≤ t.heap.size → (∀ q : Nat, q < H.size → t.heap[q]? = H[q]?) → mXc D B ws0 (.inr (i1 - 1000)) M' (mExn (i1 - 1000)) s t := by
    intro h3 t hal hz hk
    refine ⟨i1 - 1000, ws, tys, rfl, rfl, h3, hext, ?_, Nat.le_trans hS.1 hz, fun q q1 q2 => by rw [hk q (Nat.lt_of_lt_of_le q1 hS.1)]; exact hS.2.1 q q1 q2⟩
    refine ⟨va_K.moved hal W0.1, va_P_kept W0.2.1 hk, W0.2.2.1, ?_⟩
    rw [hM']
    exact W0.2.2.2
  have hRf : mUp.length + 3 < R.frames := by
    have : mUp.length = 2 := rfl
    omega
  have hRl : (st.map fun v => v.category).sum + (13 * (mUp.length + 1) + 43) ≤ R.locals := by
    have : mUp.length = 2 := rfl
    omega
  split at hthr2
  · simp only [Bool.and_eq_true, decide_eq_true_eq] at hthr2
    obtain ⟨⟨⟨⟨hp, d3⟩, d4⟩, d6⟩, d9⟩ := hthr2
    have hw := key 0 hp
    obtain ⟨tx, htx⟩ := hw.1
    obtain ⟨sa, hsa⟩ := hE.2.2.2.2.1 _ htx
    exact vx_throwS hx hb hl hown hw.2.2.2.2.2.1 hup (hts _ hw.2.1) (hts _ hw.2.2.1) hsa (hats 0 hw) hw.2.2.2.2.1 hE.2.2.2.1.1 hE.2.2.2.1.2 hS (hls.trans hml.symm) hd d3 d4 d6 d9 (fun x hx => (hT0 x hx).elim) hRf hRl (by omega) (by omega) hlk (hxc hw.2.2.2.2.2.2) hS.2.2 (by omega) (by omega)
  · simp only [Bool.and_eq_true, decide_eq_true_eq] at hthr2
    obtain ⟨⟨⟨⟨hp, d3⟩, d4⟩, d6⟩, d9⟩ := hthr2
    have hw := key 1 hp
    obtain ⟨tx, htx⟩ := hw.1
    obtain ⟨sa, hsa⟩ := hE.2.2.2.2.1 _ htx
    exact vx_throwSW hx hb hl hown hw.2.2.2.2.2.1 hup (hts _ hw.2.1) (hts _ hw.2.2.1) hsa (hats 1 hw) hw.2.2.2.2.1 hE.2.2.2.1.1 hE.2.2.2.1.2 hS (hls.trans hml.symm) hd d3 d4 d6 d9 (fun x hx => (hT0 x hx).elim) hRf hRl (by omega) (by omega) hlk (hxc hw.2.2.2.2.2.2) hS.2.2 (by omega) (by omega)
/-- 'new C' -/
theorem mT_new {o nL len i1 i2 i3 ik : Nat} {ini : Bool} (hx : p.tables.exec = Jvm.exec) (hb : c.code = cc) (hown : s.vm.findClass (mOwn o) = some m.cls) (hts : ∀ w ∈ TG, w.before args s = true) (hc : mEnt cc o ini nL (pc, (.new ik, (len, (i1, (i2, i3))))) = true) (hi : ¬ 1000 ≤ i1)
    (W0 : mWld D B M ws tys s H) (hS : va_S (mA B) s.heap H locs) (hE : mEnv D B scr s) {fl : List (Option (Option Nat))} (hfl : mFL[i1]? = some fl) (hs : strel ws stA st) (hrc : cells + 1 ≤ R.cells) (hrs : slots + fl.length ≤ R.slots)
    (K : ∀ (ws' : va_W) (H' : Heap) (st' : List Value), mExt ws ws' → mWld D B (M.1 ++ [.inl (i1, fl)], (upG M.2.1 M.1.length (fun _ => 0), (M.2.2.1 + 1, M.2.2.2 + fl.length))) ws' tys s H' → va_S (mA B) s.heap H' locs → strel ws' (.inr (.inr (.inl M.1.length)) :: stA) st' → W p l e R s m args below meth c H' locs (cells + 1) (slots + fl.length) Q (F0 m (pc + 3) ls st')) : W p l e R s m args below meth c H locs cells slots Q (F0 m pc ls st) := by
  obtain ⟨hd, hlen, hsd, -, -⟩ := mEnt_dec hc
  have hn : len = 3 := Nat.eq_of_beq_eq_true hlen
  subst hn
  have hpc : (ik, i1) ∈ mPoolC o := by
    have h9 : (Nat.ble 1000 i1 || decide ((ik, i1) ∈ mPoolC o)) = true := hsd
    rw [Bool.or_eq_true] at h9
    rcases h9 with h8 | h8
    · exact absurd (Nat.le_of_ble_eq_true h8) hi
    · exact of_decide_eq_true h8
  obtain ⟨⟨C, T, N⟩, f1, f2, f3, f4⟩ := mC_ok o _ hpc
  have f1 : vwCl[i1]? = some (C, T, N) := f1
  obtain ⟨g1, ⟨ty0, g2⟩, g3, g4⟩ := mCl_ok _ (List.mem_of_getElem? f1)
  obtain ⟨h1, h2⟩ := mFL_ok hfl f1
  have h1 : fl.length = N := h1
  rw [h1] at hrs K
  obtain ⟨hK, hP, hD, hR⟩ := id W0
  have hA : ∀ q, s.heap.size ≤ q → mA B q := fun q h => Nat.le_trans hE.1.1 h
  refine va_new (c0 := c) (fs := (List.range N).map (fun j => defaultValue (ty0 j))) hx hb hts g1 ty0 g2 hown (hts _ f2) (hts _ f3) (hts _ f4) hK hP hD hS hA f1 (fun j hj => ?_) hrc hrs hd (fun q H1 hP1 hD1 hS1 => ?_)
  · simp [vp_V, List.getD, hj]
  · refine K _ H1 _ (mExt.app ws _) ⟨hK, hP1, hD1, ?_⟩ hS1 ⟨⟨_, mTop hR.1, rfl⟩, hs.mono (mExt.app ws _)⟩
    refine mRel.push hR (mTyp.rf tys) ⟨_, rfl, by simp [h1], fun k f hf => ?_⟩
    have hf : fl[k]? = some f := hf
    have hk : k < N := by rw [← h1]; exact (List.getElem?_eq_some_iff.mp hf).1
    obtain ⟨ty, t1, t2⟩ := h2 k hk
    have t3 : ty0 k = ty := Option.some.inj ((g2 k hk).symm.trans t1)
    refine ⟨defaultValue (ty0 k), by simp [hk], ?_⟩
    rw [t3]
    rcases t2 with ⟨u1, u2⟩ | ⟨u1, u2⟩
    · have hfn : f = none := Option.some.inj (hf.symm.trans u1)
      subst hfn
      rw [u2]
      show _ = _
      rw [upG_eq]
      rfl
    · have hfn : f = some none := Option.some.inj (hf.symm.trans u1)
      subst hfn
      rw [u2]
      rfl
theorem mCpy (f g : Nat → Int) (sp dp n : Nat) : va_cpy (fun j => Int32.ofInt (f j)) (fun j => Int32.ofInt (g j)) sp dp n = fun j => Int32.ofInt (cpyF f g sp dp n j) := by
  funext j
  unfold va_cpy cpyF
  split <;> rfl
theorem mNon {z : Int} (h : 0 ≤ w32 z) : ¬ Int32.ofInt z < 0 ∧ (Int32.ofInt z).toNatClampNeg = mIx z ∧ (mIx z : Int) = w32 z := by
  have z0 : (0 : Int32) = Int32.ofInt 0 := rfl
  refine ⟨?_, rfl, by unfold mIx; omega⟩
  rw [z0, oi_lt]
  have : w32 0 = 0 := rfl
  omega
theorem mCop {q0 q1 : Nat × va_E} (hq : True) : True := trivial
/-- the calls that are no calls of the program's own methods: Object's constructor, Math.max and min, System.arraycopy -/
theorem mT_prim {o nL idx y kd n : Nat} {call : Nat → List mV → mM → Option (mO × mM)} {hs : List (Nat × (Nat × (Nat × Nat)))} {x : mS ⊕ (mO × mM)} (hx : p.tables.exec = Jvm.exec) (hb : c.code = cc) (hml : c.maxLocals = nL) (hls : ls.size = nL) (hown : s.vm.findClass (mOwn o) = some m.cls) (hts : ∀ w ∈ TG, w.before args s = true)
    (hkd : ((kd = 5 ∨ kd = 6 ∨ kd = 7) ∧ decode cc pc = .ok (.invokestatic idx, 3)) ∨ (kd = 4 ∧ decode cc pc = .ok (.invokespecial idx, 3))) (hP : (idx, y, kd) ∈ mPoolM o) (hR : 1 ≤ R.frames ∧ 240 ≤ R.locals) (hrc : cells ≤ R.cells) (hrs : slots ≤ R.slots)
    (W0 : mWld D B M ws tys s H) (hS : va_S (mA B) s.heap H locs) (h : mCallI call hs y n kd pc lA stA M = some x) (hst : strel ws stA st)
    (K : ∀ (M1 : mM) (ws' : va_W) (H' : Heap) (locs' : List Loc) (stA' : List mV) (st' : List Value), x = .inl (pc + 3, (lA, (stA', M1))) → M1.2.2 = M.2.2 → mExt ws ws' → mWld D B M1 ws' tys s H' → va_S (mA B) s.heap H' locs' → strel ws' stA' st' → W p l e R s m args below meth c H' locs' cells slots Q (F0 m (pc + 3) ls st')) : W p l e R s m args below meth c H locs cells slots Q (F0 m pc ls st) := by
  obtain ⟨hM3, hMn, -⟩ := mM_ok o _ hP
  obtain ⟨hK, hPw, hD, hRl⟩ := id W0
  rcases hkd with ⟨hk, hd⟩ | ⟨rfl, hd⟩
  · rcases hk with rfl | rfl | rfl
    · simp only [mCallI] at h
      split at h
      · next b a r =>
        obtain ⟨h1, hM⟩ := mBlt h
        have h1 := Nat.le_of_ble_eq_true h1
        obtain ⟨x1, r1, rfl, h2, hs2⟩ := hst.cons
        obtain ⟨x2, r2, rfl, h3, hs3⟩ := hs2.cons
        have h2 : x1 = .int (Int32.ofInt b) := h2
        have h3 : x2 = .int (Int32.ofInt a) := h3
        subst h2; subst h3
        have hcat := hs3.cats
        refine va_mmax hx hb (hml.trans hls.symm) hown (hts _ (hMn (show (5 : Nat) ≠ 3 by decide))) (hts _ mW_max.1) (hts _ mW_max.2.1) (hts _ mW_max.2.2) hR.1 (by omega) hrc hrs hd ?_
        refine K M ws H locs _ _ hM.symm rfl (mExt.rf ws) W0 hS ⟨?_, hs3⟩
        show _ = _
        unfold iMax
        by_cases h4 : w32 a < w32 b
        · rw [if_pos h4, if_pos ((oi_lt a b).mpr h4)]
        · rw [if_neg h4, if_neg (fun h5 => h4 ((oi_lt a b).mp h5))]
      · exact nomatch h
    · simp only [mCallI] at h
      split at h
      · next b a r =>
        obtain ⟨h1, hM⟩ := mBlt h
        have h1 := Nat.le_of_ble_eq_true h1
        obtain ⟨x1, r1, rfl, h2, hs2⟩ := hst.cons
        obtain ⟨x2, r2, rfl, h3, hs3⟩ := hs2.cons
        have h2 : x1 = .int (Int32.ofInt b) := h2
        have h3 : x2 = .int (Int32.ofInt a) := h3
        subst h2; subst h3
        have hcat := hs3.cats
        refine va_mmin hx hb (hml.trans hls.symm) hown (hts _ (hMn (show (6 : Nat) ≠ 3 by decide))) (hts _ mW_min.1) (hts _ mW_min.2.1) (hts _ mW_min.2.2) hR.1 (by omega) hrc hrs hd ?_
        refine K M ws H locs _ _ hM.symm rfl (mExt.rf ws) W0 hS ⟨?_, hs3⟩
        show _ = _
        unfold iMin
        by_cases h4 : w32 b < w32 a
        · rw [if_pos h4, if_pos ((oi_lt b a).mpr h4)]
        · rw [if_neg h4, if_neg (fun h5 => h4 ((oi_lt b a).mp h5))]
      · exact nomatch h
    · simp only [mCallI] at h
      split at h
      · next n dp a1 sp a0 r =>
        split at h
        · next n0 rs0 n1 rs1 hq0 hq1 =>
          obtain ⟨h1, hM⟩ := mBlt h
          rw [Bool.and_eq_true] at h1
          obtain ⟨h1, h9⟩ := h1
          have h1 := Nat.le_of_ble_eq_true h1
          obtain ⟨b1, b2, b3, b4, b5⟩ := of_decide_eq_true h9
          obtain ⟨x1, r1, rfl, h2, hs2⟩ := hst.cons
          obtain ⟨x2, r2, rfl, h3, hs3⟩ := hs2.cons
          obtain ⟨x3, r3, rfl, h4, hs4⟩ := hs3.cons
          obtain ⟨x4, r4, rfl, h5, hs5⟩ := hs4.cons
          obtain ⟨x5, r5, rfl, h6, hs6⟩ := hs5.cons
          have h2 : x1 = .int (Int32.ofInt n) := h2
          have h3 : x2 = .int (Int32.ofInt dp) := h3
          have h5 : x4 = .int (Int32.ofInt sp) := h5
          subst h2; subst h3; subst h5
          obtain ⟨ad1, e1, o1, cA1, t1, u1, v1⟩ := mArr hRl hq1
          subst v1
          obtain ⟨w1, hw1, rfl⟩ := id h4
          have hw2 : w1 = (ad1, _) := Option.some.inj (hw1.symm.trans o1)
          subst hw2
          obtain ⟨ad0, e0, o0, cA0, t0, u0, v0⟩ := mArr hRl hq0
          subst v0
          obtain ⟨w0, hw0, rfl⟩ := id h6
          have hw3 : w0 = (ad0, _) := Option.some.inj (hw0.symm.trans o0)
          subst hw3
          have hcat := hs6.cats
          obtain ⟨m1, m2, m3⟩ := mNon b1
          obtain ⟨m4, m5, m6⟩ := mNon b2
          obtain ⟨m7, m8, m9⟩ := mNon b3
          have hnat : nativeFrameWords "java/lang/System" "arraycopy" 5 + 11 ≤ 100 := by decide +kernel
          refine va_copyi hx hb (hml.trans hls.symm) hown (hts _ (hMn (show (7 : Nat) ≠ 3 by decide))) (hts _ mW_cpy.1) (hts _ mW_cpy.2.1) (hts _ mW_cpy.2.2) hK hPw hD hS a0 a1 t0 t1 (ty := .int) o0 o1 u0 u1 rfl m1 m4 m7 (by rw [m2, m8]; omega) (by rw [m5, m8]; omega) (fun i hi => rfl) hR.1 (by omega) hd (fun H1 locs1 hP1 hD1 hS1 => ?_)
          refine K _ _ H1 locs1 _ _ hM.symm rfl (mExt.set o1 _) ⟨hK, hP1, hD1, ?_⟩ hS1 (hs6.mono (mExt.set o1 _))
          refine mRel.setG hRl o1 hq1 (fun b hb => upG_ne hb) ⟨cA1, t1, u1, ?_⟩
          rw [m2, m5, m8, mCpy, upG_eq]
        · exact nomatch h
      · exact nomatch h
  · simp only [mCallI] at h
    split at h
    · next a r =>
      obtain ⟨h1, hM⟩ := mBlt h
      have h1 := Nat.le_of_ble_eq_true h1
      obtain ⟨x1, r1, rfl, h2, hs2⟩ := hst.cons
      obtain ⟨w, hw, rfl⟩ := id h2
      have hcat := hs2.cats
      refine W.objInit hx hb hown (hts _ (hMn (show (4 : Nat) ≠ 3 by decide))) (hts _ mW_obj.1) (hts _ mW_obj.2) rfl (hls.trans hml.symm) rfl hd hR.1 (by show 2 * 0 + _ + 12 ≤ _; omega) ?_
      exact K M ws H locs _ _ hM.symm rfl (mExt.rf ws) W0 hS hs2
    · exact nomatch h
end MX
