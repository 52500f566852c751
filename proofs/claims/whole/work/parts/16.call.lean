/-! ===== contracts of the small machine's calls; calls, returns, throws ===== -/
abbrev mA (B : Nat) : Nat → Prop := fun q => B ≤ q
def mRet (ws : va_W) (v : Option mV) (x : Option Value) : Prop := match v, x with
  | none, none => True
  | some v, some x => vrel ws v x
  | _, _ => False
def mQc (D : va_G) (B : Nat) (ws0 : va_W) (r : mO) (M' : mM) : Array Value → State → Outcome → State → Prop := fun _ st o t => ∃ (v : Option mV) (x : Option Value) (ws' : va_W) (tys' : List (ClassId × FieldType)), r = .inl v ∧ o = .returned x ∧ mRet ws' v x ∧ mExt ws0 ws' ∧ mWld D B M' ws' tys' t t.heap ∧ va_F (mA B) st t
def mXc (D : va_G) (B : Nat) (ws0 : va_W) (r : mO) (M' : mM) : String → State → State → Prop := fun E st t => ∃ (k : Nat) (ws' : va_W) (tys' : List (ClassId × FieldType)), r = .inr k ∧ E = mExn k ∧ k < 3 ∧ mExt ws0 ws' ∧ mWld D B M' ws' tys' t t.heap ∧ va_F (mA B) st t
def mPc (D : va_G) (B : Nat) (scr : mScr) (ws : va_W) (M : mM) (xs : List Value) : Array Value → State → Prop := fun v U => v = xs.toArray ∧ (∃ tys, mWld D B M ws tys U U.heap) ∧ mEnv D B scr U
theorem mBad_warm {s U : State} (hW : s.WarmedH U.vm) : ∀ w ∈ mBad, va_Nw w s → va_Nw w U := by
  unfold mBad
  simp only [List.forall_mem_cons]
  refine ⟨va_Nw.warmM hW, va_Nw.warmM hW, va_Nw.warmC hW, va_Nw.warmD hW, va_Nw.warmD hW, va_Nw.warmD hW, va_Nw.warmD hW, va_Nw.warmD hW, va_Nw.warmD hW, va_Nw.warmC hW, va_Nw.warmC hW, fun _ h => nomatch h⟩
theorem mEnv.go {D : va_G} {B : Nat} {scr : mScr} {s U : State} {locs : List Loc} (h : mEnv D B scr s) (hW : s.WarmedH U.vm) (hS : va_S (mA B) s.heap U.heap locs) : mEnv D B scr U := by
  obtain ⟨⟨h1, h2⟩, h3, h4, ⟨h5, h6⟩, h7, h8, h9⟩ := h
  have ha := hW.alike
  have hk : ∀ a : Nat, a < s.heap.size → ¬ mA B a → U.heap[a]? = s.heap[a]? := fun a q1 q2 => hS.2.1 a q1 q2
  refine ⟨⟨Nat.le_trans h1 hS.1, h2⟩, (h3.moved ha).kept (hk _ (by omega) (by simp only [mA]; omega)), h4.moved ha, ⟨(h5.moved ha).kept hk, (h6.moved ha).kept hk⟩, fun x hx => ?_, fun w hw => mBad_warm hW w hw (h8 w hw), fun E1 E2 q1 q2 q3 => (h9 E1 E2 q1 q2 q3).moved ha⟩
  obtain ⟨sa, h10⟩ := h7 x hx
  exact ⟨sa, h10.warm hW⟩
theorem mPc_blind (D : va_G) (B : Nat) (scr : mScr) (ws : va_W) (M : mM) (xs : List Value) : FrameBlind (mPc D B scr ws M xs) := by
  intro a U g mk ⟨h1, ⟨tys, h2⟩, h3⟩
  have hv : (U.calling g mk a).vm = U.vm := rfl
  have hW : U.WarmedH (U.calling g mk a).vm := by rw [hv]; exact State.WarmedH.refl U
  refine ⟨h1, ⟨tys, ?_⟩, h3.go (locs := []) hW va_S.rf⟩
  exact ⟨va_K.moved hW.alike h2.1, h2.2⟩
theorem mWld.moved {D : va_G} {B : Nat} {M : mM} {ws : va_W} {tys : List (ClassId × FieldType)} {u U : State} {H : Heap} (hvm : u.vm.Alike U.vm) (h : mWld D B M ws tys u H) : mWld D B M ws tys U H := ⟨va_K.moved hvm h.1, h.2⟩
def mRm (d mc ms : Nat) : Room := { frames := d + 8, cells := mc, slots := ms, locals := 40 * d + 200 }
noncomputable def mMaxL (y : Nat) : Nat := (mProg.getD y ([], (0, (0, (0, []))))).2.1
noncomputable def mWs (y : Nat) : List Cond := (if (mMt y).2.2.2.2.2 = [] then Cond.code (mY y) (mMt y).2.1 (mMaxL y) (mMt y).2.2.1 else Cond.codeWith (mY y) (mMt y).2.1 (mMaxL y) (mMt y).2.2.1 (mMt y).2.2.2.2.2) :: TG
def mCon (l : Launch) (D : va_G) (B : Nat) (scr : mScr) (d y : Nat) (as : List mV) (M : mM) (r : mO) (M' : mM) : Prop := ∀ (ws : va_W) (xs : List Value), strel ws as xs → vx_Met l (mY y) (mWs y) (mRm d (M'.2.2.1 - M.2.2.1) (M'.2.2.2 - M.2.2.2)) (mPc D B scr ws M xs) (mQc D B ws r M') (mXc D B ws r M') (M'.2.2.1 - M.2.2.1) (M'.2.2.2 - M.2.2.2) (mA B)
theorem goodTG {ws : List Cond} (h : ∀ w ∈ ws, w ∈ TG) : GoodIn TG ws := fun w hw => TG_good w (h w hw)
/-- what returns for sure -/
theorem mMet_of {l : Launch} {y : MethodName} {ws : List Cond} {rm : Room} {Pc : Array Value → State → Prop} {D : va_G} {B : Nat} {w0 : va_W} {v : Option mV} {M' : mM} {mc ms : Nat} (h : vx_Met l y ws rm Pc (mQc D B w0 (.inl v) M') (mXc D B w0 (.inl v) M') mc ms (mA B)) : Met l y ws rm Pc (mQc D B w0 (.inl v) M') mc ms (mA B) := by
  intro p e ha hc hk s m args below hf happ hP hK
  obtain ⟨n, o, h1, h2, h3, h4⟩ := h p e ha hc hk s m args below hf happ hP hK
  refine ⟨n, o, h1, h2, h3, ?_⟩
  rcases h4 with h5 | ⟨q, rfl, E, ce, L, ⟨k, ws', tys', hr, -⟩, -⟩
  · exact h5
  · exact nomatch hr
section MC
variable {p : Program} {l : Launch} {e : Env} {R : Room} {s : State} {m : MethodId} {args : Array Value} {below : List Frame} {meth : Method} {c : Code} {H : Heap} {locs : List Loc} {cells slots : Nat} {Q : State → Prop}
variable {cc : ByteArray} {pc : Nat} {ls : Array Slot} {ws : va_W} {stA stA' : List mV} {st rest : List Value} {D : va_G} {B : Nat} {M M' : mM} {tys : List (ClassId × FieldType)} {scr : mScr} {r : mO}
theorem mT_ran {mc ms : Nat} {a : Array Value} {st0 : List Value} (hr : vx_Run p l e R s m args below meth c H locs cells slots mc ms (F0 m pc ls st0) rest (mQc D B ws r M' a) (mXc D B ws r M') (mA B)) (hS : va_S (mA B) s.heap H locs)
    (kr : ∀ (v : Option mV) (x : Option Value) (ws' : va_W) (tys' : List (ClassId × FieldType)) (H1 : Heap) (locs1 : List Loc), r = .inl v → mRet ws' v x → mExt ws ws' → mWld D B M' ws' tys' s H1 → va_S (mA B) s.heap H1 locs1 → W p l e R s m args below meth c H1 locs1 (cells + mc) (slots + ms) Q (F0 m (pc + 3) ls (x.toList ++ rest)))
    (kx : ∀ (k : Nat) (ws' : va_W) (tys' : List (ClassId × FieldType)) (H1 : Heap) (locs1 : List Loc) (q : Addr) (ce : Cell), r = .inr k → k < 3 → mExt ws ws' → mWld D B M' ws' tys' s H1 → va_S (mA B) s.heap H1 locs1 → H1[q]? = some ce → ce.vm = .none → s.vm.findClass (mExn k) = some ce.cls → vx_W p l e R s m args below meth c H1 locs1 (cells + mc) (slots + ms) Q (F0 m pc ls rest) q) : W p l e R s m args below meth c H locs cells slots Q (F0 m pc ls st0) := by
  intro T hT X
  rcases hr T hT X with ⟨v, st₀, t, T', L, h0, X', hL, e1, e2, ⟨vA, x, ws', tys', g1, g2, g3, g4, g5, hF⟩, stp⟩ | ⟨q, st₀, t, T', L, E, ce, h0, X', hL, e1, e2, ⟨k, ws', tys', g1, g2, g3, g4, g5, hF⟩, hce, hcv, hcl, stp⟩
  · cases g2
    obtain ⟨k1, k2, k3⟩ := vx_keep h0 e1 hS (fun q _ h => h) (fun q h => h) hL hF
    have g6 : mWld D B M' ws' tys' s T'.heap := by
      rw [e1]
      refine mWld.moved ?_ g5
      rw [← e2]
      exact X'.warmed.alike.symm
    obtain ⟨t2, a1, b1⟩ := kr vA v ws' tys' T'.heap (locs ++ L) g1 g3 g4 g6 k3 T' rfl X'
    exact ⟨t2, stp t2 a1, b1⟩
  · subst g2
    obtain ⟨k1, k2, k3⟩ := vx_keep h0 e1 hS (fun q _ h => h) (fun q h => h) hL hF
    have g6 : mWld D B M' ws' tys' s T'.heap := by
      rw [e1]
      refine mWld.moved ?_ g5
      rw [← e2]
      exact X'.warmed.alike.symm
    obtain ⟨t2, a1, b1⟩ := kx k ws' tys' T'.heap (locs ++ L) q ce g1 g3 g4 g6 k3 (by rw [e1]; exact hce) hcv hcl T' rfl X'
    exact ⟨t2, stp.trans a1, b1⟩
theorem va_of_run {mc ms : Nat} {g : JFrame} {Qa : State → Outcome → State → Prop} {XC : String → State → State → Prop} {free : Addr → Prop} (h : va_Run p l e R s m args below meth c H locs cells slots mc ms g rest Qa free) : vx_Run p l e R s m args below meth c H locs cells slots mc ms g rest Qa XC free := fun T hT X => Or.inl (h T hT X)
/-- the words of a call, and its room -/
theorem mRoom_ok {d mc ms y : Nat} (hR : d + 9 ≤ R.frames ∧ 40 * (d + 1) + 200 ≤ R.locals) (hml : mMaxL y ≤ 12) : (mRm d mc ms).frames + 1 ≤ R.frames ∧ 8 + (mMaxL y + 11) + (mRm d mc ms).locals ≤ R.locals := by
  simp only [mRm]
  omega
theorem mT_callGo (hx : p.tables.exec = Jvm.exec) (hb : c.code = cc) {nL o d y idx kd : Nat} {ini : Bool} {n : Nat} (hml : c.maxLocals = nL) (hls : ls.size = nL) (hown : s.vm.findClass (mOwn o) = some m.cls) (hts : ∀ w ∈ TG, w.before args s = true)
    (W0 : mWld D B M ws tys s H) (hS : va_S (mA B) s.heap H locs) (hE : mEnv D B scr s)
    (hP : (idx, y, kd) ∈ mPoolM o) (hkd : (kd = 0 ∧ decode cc pc = .ok (.invokevirtual idx, 3) ∧ (mMt y).2.2.2.2.1 = false ∧ (mY y).name ≠ "<init>" ∧ (mMt y).2.2.2.2.2 = []) ∨ (kd = 1 ∧ decode cc pc = .ok (.invokestatic idx, 3) ∧ (mMt y).2.2.2.2.1 = true ∧ (mMt y).2.2.2.2.2 = []) ∨ (kd = 8 ∧ decode cc pc = .ok (.invokestatic idx, 3) ∧ (mMt y).2.2.2.2.1 = true ∧ (mMt y).2.2.2.2.2 ≠ []) ∨ ((kd = 2 ∨ kd = 3) ∧ decode cc pc = .ok (.invokespecial idx, 3) ∧ (mMt y).2.2.2.2.1 = false ∧ (mY y).name = "<init>" ∧ (mMt y).2.2.2.2.2 = [] ∧ ∃ v, r = .inl v))
    (hR : d + 9 ≤ R.frames ∧ 40 * (d + 1) + 200 ≤ R.locals) (hmlY : mMaxL y ≤ 12) (hlenA : stA.length = (mMt y).2.2.2.1)
    (hcon : mCon l D B scr d y stA M r M') (hrecv : kd = 0 → ∃ (a : Nat) (q : Nat × List (Option (Option Nat))) (as2 : List mV), stA = .inr (.inr (.inl a)) :: as2 ∧ M.1[a]? = some (.inl q) ∧ mOwn q.1 = (mY y).cls ∧ q.1 < 12) (hrc2 : (kd = 2 ∨ kd = 3) → ∃ (a : Nat) (as2 : List mV), stA = .inr (.inr (.inl a)) :: as2)
    {xs : List Value} (hxs : strel ws stA xs) (hst : st = xs.reverse ++ rest) (hrest : (rest.map fun v => v.category).sum ≤ 8) (hrc : cells + (M'.2.2.1 - M.2.2.1) ≤ R.cells) (hrs : slots + (M'.2.2.2 - M.2.2.2) ≤ R.slots) :
    vx_Run p l e R s m args below meth c H locs cells slots (M'.2.2.1 - M.2.2.1) (M'.2.2.2 - M.2.2.2) (F0 m pc ls st) rest (mQc D B ws r M' xs.toArray) (mXc D B ws r M') (mA B) := by
  obtain ⟨hM3, hMn, hy1, hy2, hy3⟩ := mM_ok o _ hP
  have hok := mOk_ok y hy1 hy2 hy3
  obtain ⟨c1, c2, c3, c4, c5, c6, ⟨c7, c8, c9⟩, c10⟩ := hok
  have hv := hcon ws xs hxs
  have hPc : ∀ U : State, U.heap = H → s.WarmedH U.vm → mPc D B scr ws M xs xs.toArray U := by
    intro U hU hW
    refine ⟨rfl, ⟨tys, ?_⟩, hE.go (locs := locs) hW (by rw [hU]; exact hS)⟩
    rw [hU]
    exact mWld.moved hW.alike W0
  have hlx : xs.length = (mMt y).2.2.2.1 := by rw [← hxs.len, hlenA]
  have hWs : ∀ {L : List (Nat × Nat × Nat × Nat)}, (mMt y).2.2.2.2.2 = [] → mWs y = Cond.code (mY y) (mMt y).2.1 (mMaxL y) (mMt y).2.2.1 :: TG := by
    intro L h
    unfold mWs
    rw [if_pos h]
  have hS4 : CallFix p m c cc nL s args TG (mOwn o) := ⟨hx, hb, hml, hown, hts⟩
  have hroom := mRoom_ok (mc := M'.2.2.1 - M.2.2.1) (ms := M'.2.2.2 - M.2.2.2) hR hmlY
  rcases hkd with ⟨rfl, hdg, hst1, hnm, hhh⟩ | ⟨rfl, hdg, hst1, hhh⟩ | ⟨rfl, hdg, hst1, hhh⟩ | ⟨hk23, hdg, hst1, hnm, hhh, v0, rfl⟩
  · obtain ⟨a, q, as2, rfl, hq1, hq2, hq3⟩ := hrecv rfl
    obtain ⟨x0, xs2, rfl, hx0, hxs2⟩ := hxs.cons
    obtain ⟨ad, fs, o1, o2, o3⟩ := mObj W0.2.2.2 hq1
    obtain ⟨w, hw, rfl⟩ := id hx0
    have hw2 : w = (ad, .inr (q.1, fs)) := Option.some.inj (hw.symm.trans o1)
    subst hw2
    have e1 := hWs (L := []) hhh
    rw [e1] at hv
    obtain ⟨c5a, c5b⟩ := c5 hst1
    have hcls : ∃ qq : vw_C, vwCl[q.1]? = some qq ∧ qq.1 = (mY y).cls := by
      have hl : q.1 < vwCl.length := hq3
      refine ⟨vwCl[q.1], List.getElem?_eq_getElem hl, ?_⟩
      rw [← hq2]
      exact (mOwn_cl (C := (vwCl[q.1]).1) (T := (vwCl[q.1]).2.1) (N := (vwCl[q.1]).2.2) (List.getElem?_eq_getElem hl)).symm
    obtain ⟨qq, hqq, hqc⟩ := hcls
    have hrec := va_recv W0.1 W0.2.1 hqq o1
    rw [hqc] at hrec
    refine vx_runV (C := (mY y).cls) (As := xs2) (rest := rest) hS4 hv (cwV xs2.length hts (goodTG (fun w hw => ?_)) rfl rfl rfl ⟨rfl, c7, c8, ?_⟩ hroom) ⟨mPc_blind _ _ _ _ _ _, hrec, hPc⟩ rfl rfl hls (by rw [hst]; simp) (by simpa using hrest) hdg ⟨hrc, hrs⟩
    · simp only [wsV, List.cons_append, List.nil_append, List.mem_cons] at hw
      rcases hw with rfl | rfl | rfl | rfl | rfl | hw
      · exact hMn (show (0 : Nat) ≠ 3 by decide)
      · exact c5a
      · exact c5b hnm
      · exact c3
      · exact c1 hhh
      · exact hw
    · have c9 : (parseMethodDescriptor (mY y).desc).map (fun d => d.parameters.length) = some (if (mMt y).2.2.2.2.1 then (mMt y).2.2.2.1 else (mMt y).2.2.2.1 - 1) := c9
      rw [c9, hst1, ← hlx]
      rfl
  · have e1 := hWs (L := []) hhh
    rw [e1] at hv
    have c9 : (parseMethodDescriptor (mY y).desc).map (fun d => d.parameters.length) = some (if (mMt y).2.2.2.2.1 then (mMt y).2.2.2.1 else (mMt y).2.2.2.1 - 1) := c9
    refine vx_runS (As := xs) (rest := rest) hS4 hv (va_cwS xs.length hts (goodTG (fun w hw => ?_)) rfl rfl rfl ⟨c7, c8, ?_⟩ hroom) ⟨mPc_blind _ _ _ _ _ _, hPc⟩ rfl rfl hls hst (by simpa using hrest) hdg ⟨hrc, hrs⟩
    · simp only [va_wsS, List.cons_append, List.nil_append, List.mem_cons] at hw
      rcases hw with rfl | rfl | rfl | rfl | hw
      · exact hMn (show (1 : Nat) ≠ 3 by decide)
      · exact c4 hst1
      · exact c3
      · exact c1 hhh
      · exact hw
    · rw [c9, hst1, ← hlx]
      rfl
  · have e1 : mWs y = Cond.codeWith (mY y) (mMt y).2.1 (mMaxL y) (mMt y).2.2.1 (mMt y).2.2.2.2.2 :: TG := by
      unfold mWs
      rw [if_neg hhh]
    rw [e1] at hv
    have c9 : (parseMethodDescriptor (mY y).desc).map (fun d => d.parameters.length) = some (if (mMt y).2.2.2.2.1 then (mMt y).2.2.2.1 else (mMt y).2.2.2.1 - 1) := c9
    refine vx_runSX (As := xs) (rest := rest) hS4 hv (vx_cwSW xs.length hts (goodTG (fun w hw => ?_)) rfl rfl rfl ⟨c7, c8, ?_⟩ hroom) ⟨mPc_blind _ _ _ _ _ _, hPc⟩ rfl rfl hls hst (by simpa using hrest) hdg ⟨hrc, hrs⟩
    · simp only [va_wsS, List.cons_append, List.nil_append, List.mem_cons] at hw
      rcases hw with rfl | rfl | rfl | rfl | hw
      · exact hMn (show (8 : Nat) ≠ 3 by decide)
      · exact c4 hst1
      · exact c3
      · exact (c2 hhh).1
      · exact hw
    · rw [c9, hst1, ← hlx]
      rfl
  · obtain ⟨a, as2, rfl⟩ := hrc2 hk23
    obtain ⟨x0, xs2, rfl, hx0, hxs2⟩ := hxs.cons
    obtain ⟨w, hw, rfl⟩ := id hx0
    have e1 := hWs (L := []) hhh
    rw [e1, c10 hnm] at hv
    have hv := mMet_of hv
    obtain ⟨c5a, c5b⟩ := c5 hst1
    have c9 : (parseMethodDescriptor (mY y).desc).map (fun d => d.parameters.length) = some (if (mMt y).2.2.2.2.1 then (mMt y).2.2.2.1 else (mMt y).2.2.2.1 - 1) := c9
    have c1b : Cond.code (mY y) (mMt y).2.1 (mMaxL y) none ∈ TG := by
      have := c1 hhh
      rw [c10 hnm] at this
      exact this
    have hG : GoodIn TG (Cond.code (mY y) (mMt y).2.1 (mMaxL y) none :: TG) := goodTG (fun w hw => (List.mem_cons.mp hw).elim (fun h => by rw [h]; exact c1b) id)
    rcases hk23 with rfl | rfl
    · refine va_of_run (va_runI (As := xs2) (rest := rest) hS4 hv (cwI xs2.length hts hG rfl rfl rfl (hts _ c3) (hts _ (hMn (show (2 : Nat) ≠ 3 by decide))) (hts _ c5a) hnm ⟨c7, c8, ?_⟩ hroom) ⟨mPc_blind _ _ _ _ _ _, hPc⟩ rfl rfl hls (by rw [hst]; simp) (by simpa using hrest) hdg ⟨hrc, hrs⟩)
      rw [c9, hst1, ← hlx]
      rfl
    · have hbad := hM3 rfl
      have hnw : va_Nw (.methodLinkNest (mOwn o) idx (mY y) "JobWorkshop") s := hE.2.2.2.2.2.1 _ hbad
      refine va_of_run (va_runIN (As := xs2) (rest := rest) hS4 hv ⟨va_cnB xs2.length hts hG rfl rfl rfl hnw (hts _ c3) ⟨c7, c8, ?_⟩ hroom, hnm, hts _ c5a⟩ ⟨mPc_blind _ _ _ _ _ _, hPc⟩ rfl rfl hls (by rw [hst]; simp) (by simpa using hrest) hdg ⟨hrc, hrs⟩)
      rw [c9, hst1, ← hlx]
      rfl
end MC
