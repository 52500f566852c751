/-! ===== the walk of a body ===== -/
section MZ
variable {p : Program} {l : Launch} {e : Env} {R : Room} {s : State} {m : MethodId} {args : Array Value} {below : List Frame} {meth : Method} {c : Code}
variable {cc : ByteArray} {D : va_G} {B : Nat} {M' : mM} {scr : mScr} {r : mO}
abbrev mGoal (p : Program) (l : Launch) (e : Env) (R : Room) (s : State) (m : MethodId) (args : Array Value) (below : List Frame) (meth : Method) (c : Code) (D : va_G) (B : Nat) (ws0 : va_W) (M0 M M' : mM) (r : mO) (H : Heap) (locs : List Loc) (g : JFrame) : Prop :=
  W p l e R s m args below meth c H locs (M.2.2.1 - M0.2.2.1) (M.2.2.2 - M0.2.2.2) (vx_MQ below (mQc D B ws0 r M') (mXc D B ws0 r M') args s (M'.2.2.1 - M0.2.2.1) (M'.2.2.2 - M0.2.2.2) (mA B)) g
def mFin (p : Program) (l : Launch) (e : Env) (R : Room) (s : State) (m : MethodId) (args : Array Value) (below : List Frame) (meth : Method) (c : Code) (D : va_G) (B : Nat) (ws0 : va_W) (M0 M' : mM) (r : mO) (nL : Nat) (x : mS ⊕ (mO × mM)) : Prop := match x with
    | .inl s' => mLe s'.2.2.2 M' ∧ (∀ (ws' : va_W) (tys' : List (ClassId × FieldType)) (H' : Heap) (locs' : List Loc) (ls' : Array Slot) (st' : List Value), mExt ws0 ws' → mWld D B s'.2.2.2 ws' tys' s H' → va_S (mA B) s.heap H' locs' → mLocR ws' s'.2.1 ls' → s'.2.1.length = nL → strel ws' s'.2.2.1 st' → mGoal p l e R s m args below meth c D B ws0 M0 s'.2.2.2 M' r H' locs' (F0 m s'.1 ls' st'))
    | .inr q => q = (r, M')
theorem mT_callI {K d o nL rk idx y n kd pc : Nat} {ini : Bool} {ret : Option FieldType} {cs : List (List mI)} {hs : List (Nat × (Nat × (Nat × Nat)))} {x : mS ⊕ (mO × mM)} {lA : mL} {stA : List mV} {M M0 : mM} {ws0 ws : va_W} {tys : List (ClassId × FieldType)} {H : Heap} {locs : List Loc} {ls : Array Slot} {st : List Value}
    (hI : ∀ (y : Nat) (as : List mV) (M : mM) (r : mO) (M' : mM), mCall scr K d y as M = some (r, M') → y < 277 → y ≠ 238 → y ≠ 239 → mCon l D B scr d y as M r M')
    (Bd : mBody p l e R s m meth c args D B scr d o nL rk ini ret cc cs hs) (hRc : M'.2.2.1 - M0.2.2.1 ≤ R.cells) (hRs : M'.2.2.2 - M0.2.2.2 ≤ R.slots)
    (hP : (idx, y, kd) ∈ mPoolM o)
    (hkd : (kd = 0 ∧ decode cc pc = .ok (.invokevirtual idx, 3) ∧ (mMt y).2.2.2.2.1 = false ∧ (mY y).name ≠ "<init>" ∧ (mMt y).2.2.2.2.2 = [] ∧ n = (mMt y).2.2.2.1 ∧ 0 < n) ∨ (kd = 1 ∧ decode cc pc = .ok (.invokestatic idx, 3) ∧ (mMt y).2.2.2.2.1 = true ∧ (mMt y).2.2.2.2.2 = [] ∧ n = (mMt y).2.2.2.1) ∨ (kd = 8 ∧ decode cc pc = .ok (.invokestatic idx, 3) ∧ (mMt y).2.2.2.2.1 = true ∧ (mMt y).2.2.2.2.2 ≠ [] ∧ n = (mMt y).2.2.2.1) ∨ ((kd = 2 ∨ kd = 3) ∧ decode cc pc = .ok (.invokespecial idx, 3) ∧ (mMt y).2.2.2.2.1 = false ∧ (mY y).name = "<init>" ∧ (mMt y).2.2.2.2.2 = [] ∧ n = (mMt y).2.2.2.1 ∧ 0 < n) ∨ ((kd = 5 ∨ kd = 6 ∨ kd = 7) ∧ decode cc pc = .ok (.invokestatic idx, 3)) ∨ (kd = 4 ∧ decode cc pc = .ok (.invokespecial idx, 3)))
    (h : mCallI (mCall scr K d) hs y n kd pc lA stA M = some x) (hM0 : mLe M0 M) (hext : mExt ws0 ws) (W0 : mWld D B M ws tys s H) (hS : va_S (mA B) s.heap H locs) (hl : mLocR ws lA ls) (hln : lA.length = nL) (hst : strel ws stA st) (hxM : mOutM M' x ∨ True)
    (hfin : mFin p l e R s m args below meth c D B ws0 M0 M' r nL x) : mGoal p l e R s m args below meth c D B ws0 M0 M M' r H locs (F0 m pc ls st) := by
  obtain ⟨⟨hx, hb, hml, hown, hts, hlk, -, -, -⟩, hE, ⟨hR1, hR2⟩, -, -, hT⟩ := id Bd
  have hlsz : ls.size = nL := hl.1.trans hln
  have hmono := mCallI_mono (mCall_mono scr K d) h
  have hle : mLe M M' := by
    cases x with
    | inl s' => exact mLe.tr hmono hfin.1
    | inr q =>
      have : mLe M q.2 := hmono
      rw [hfin] at this
      exact this
  obtain ⟨hle1, hle2⟩ := id hle
  obtain ⟨hm1, hm2⟩ := id hM0
  by_cases hprim : kd = 4 ∨ kd = 5 ∨ kd = 6 ∨ kd = 7
  · have hkd2 : ((kd = 5 ∨ kd = 6 ∨ kd = 7) ∧ decode cc pc = .ok (.invokestatic idx, 3)) ∨ (kd = 4 ∧ decode cc pc = .ok (.invokespecial idx, 3)) := by
      rcases hkd with h1 | h1 | h1 | h1 | h1 | h1
      · omega
      · omega
      · omega
      · omega
      · exact Or.inl h1
      · exact Or.inr h1
    refine mT_prim hx hb hml hlsz hown hts hkd2 hP ⟨by omega, by omega⟩ (by omega) (by omega) W0 hS h hst (fun M1 ws' H' locs' stA' st' hx2 hM1 he hW hS' hst' => ?_)
    subst hx2
    have hf := hfin.2 ws' tys H' locs' ls st' (hext.tr he) hW hS' (hl.mono he) hln hst'
    have hf : mGoal p l e R s m args below meth c D B ws0 M0 M1 M' r H' locs' (F0 m (pc + 3) ls st') := hf
    unfold mGoal at hf
    rw [hM1] at hf
    exact hf
  · have hgen : mCallI (mCall scr K d) hs y n kd pc lA stA M = (bif Nat.ble n stA.length && Nat.ble (mWd (stA.drop n)) 8 then (match mCall scr K d y (stA.take n).reverse M with
        | some x => bif Nat.ble kd 1 || x.1.isLeft then mBack hs pc lA (stA.drop n) x else none
        | none => none) else none) := by
      unfold mCallI
      split
      · exact absurd (Or.inl rfl) hprim
      · exact absurd (Or.inr (Or.inl rfl)) hprim
      · exact absurd (Or.inr (Or.inr (Or.inl rfl))) hprim
      · exact absurd (Or.inr (Or.inr (Or.inr rfl))) hprim
      · rfl
    rw [hgen] at h
    simp only [Bool.cond_eq_ite] at h
    split at h
    · next hlen =>
      rw [Bool.and_eq_true] at hlen
      have hlen1 := Nat.le_of_ble_eq_true hlen.1
      have hlen2 := Nat.le_of_ble_eq_true hlen.2
      split at h
      · next x1 hcall =>
        split at h
        · next hleft =>
          obtain ⟨r1, M1⟩ := x1
          obtain ⟨-, -, hy1, hy2, hy3⟩ := mM_ok o _ hP
          have hcon := hI y _ M r1 M1 hcall hy1 hy2 hy3
          have hM1 : mLe M M1 := mCall_mono scr K d _ _ _ _ hcall
          have hM1' : mLe M1 M' := by
            cases x with
            | inl s' => exact mLe.tr (mBack_mono h (M := M1) (mLe.rf M1)) hfin.1
            | inr q =>
              have h7 : mLe M1 q.2 := mBack_mono h (M := M1) (mLe.rf M1)
              rw [hfin] at h7
              exact h7
          obtain ⟨hn1, hn2⟩ := id hM1
          obtain ⟨hn3, hn4⟩ := id hM1'
          have e1 : M.2.2.1 - M0.2.2.1 + (M1.2.2.1 - M.2.2.1) = M1.2.2.1 - M0.2.2.1 := by omega
          have e2 : M.2.2.2 - M0.2.2.2 + (M1.2.2.2 - M.2.2.2) = M1.2.2.2 - M0.2.2.2 := by omega
          have hcR : M.2.2.1 - M0.2.2.1 + (M1.2.2.1 - M.2.2.1) ≤ R.cells := by omega
          have hsR : M.2.2.2 - M0.2.2.2 + (M1.2.2.2 - M.2.2.2) ≤ R.slots := by omega
          have hmlY : mMaxL y ≤ 12 := mMaxL_ok hy1 hy2 hy3
          have hxs := (hst.take n).rev
          have hrst := hst.drop n
          have hcat := hrst.cats
          have hrec : kd = 0 → ∃ (a : Nat) (q : Nat × List (Option (Option Nat))) (as2 : List mV), (stA.take n).reverse = .inr (.inr (.inl a)) :: as2 ∧ M.1[a]? = some (.inl q) ∧ mOwn q.1 = (mY y).cls ∧ q.1 < 12 := fun hk => by
            have hst0 : (mMt y).2.2.2.2.1 = false := by
              rcases hkd with h1 | h1 | h1 | h1 | h1 | h1
              · exact h1.2.2.1
              all_goals omega
            exact mRecv_ok hcall hy1 hy2 hy3 hst0
          have hkd3 : (kd = 0 ∧ decode cc pc = .ok (.invokevirtual idx, 3) ∧ (mMt y).2.2.2.2.1 = false ∧ (mY y).name ≠ "<init>" ∧ (mMt y).2.2.2.2.2 = []) ∨ (kd = 1 ∧ decode cc pc = .ok (.invokestatic idx, 3) ∧ (mMt y).2.2.2.2.1 = true ∧ (mMt y).2.2.2.2.2 = []) ∨ (kd = 8 ∧ decode cc pc = .ok (.invokestatic idx, 3) ∧ (mMt y).2.2.2.2.1 = true ∧ (mMt y).2.2.2.2.2 ≠ []) ∨ ((kd = 2 ∨ kd = 3) ∧ decode cc pc = .ok (.invokespecial idx, 3) ∧ (mMt y).2.2.2.2.1 = false ∧ (mY y).name = "<init>" ∧ (mMt y).2.2.2.2.2 = [] ∧ ∃ v, r1 = .inl v) := by
            rcases hkd with h1 | h1 | h1 | h1 | h1 | h1
            · exact Or.inl ⟨h1.1, h1.2.1, h1.2.2.1, h1.2.2.2.1, h1.2.2.2.2.1⟩
            · exact Or.inr (Or.inl ⟨h1.1, h1.2.1, h1.2.2.1, h1.2.2.2.1⟩)
            · exact Or.inr (Or.inr (Or.inl ⟨h1.1, h1.2.1, h1.2.2.1, h1.2.2.2.1⟩))
            · refine Or.inr (Or.inr (Or.inr ⟨h1.1, h1.2.1, h1.2.2.1, h1.2.2.2.1, h1.2.2.2.2.1, ?_⟩))
              rw [Bool.or_eq_true] at hleft
              rcases hleft with h8 | h8
              · have := Nat.le_of_ble_eq_true h8
                omega
              · cases r1 with
                | inl v => exact ⟨v, rfl⟩
                | inr k => exact nomatch h8
            · exact absurd (Or.inr h1.1) hprim
            · exact absurd (Or.inl h1.1) hprim
          have hnn : n = (mMt y).2.2.2.1 := by
            rcases hkd with h1 | h1 | h1 | h1 | h1 | h1
            · exact h1.2.2.2.2.2.1
            · exact h1.2.2.2.2
            · exact h1.2.2.2.2
            · exact h1.2.2.2.2.2.1
            · omega
            · omega
          have hrc2 : (kd = 2 ∨ kd = 3) → ∃ (a : Nat) (as2 : List mV), (stA.take n).reverse = .inr (.inr (.inl a)) :: as2 := fun hk => by
            have hst0 : (mMt y).2.2.2.2.1 = false := by
              rcases hkd with h1 | h1 | h1 | h1 | h1 | h1
              · omega
              · omega
              · omega
              · exact h1.2.2.1
              · omega
              · omega
            obtain ⟨a, q, as2, h5, -⟩ := mRecv_ok hcall hy1 hy2 hy3 hst0
            exact ⟨a, as2, h5⟩
          have hrun := mT_callGo (r := r1) (M' := M1) (l := l) (d := d) (st := st) (rest := st.drop n) (cells := M.2.2.1 - M0.2.2.1) (slots := M.2.2.2 - M0.2.2.2) (ini := ini) (n := n) (meth := meth) (below := below) (p := p) (e := e) hx hb hml hlsz hown hts W0 hS hE hP hkd3 ⟨hR1, hR2⟩ hmlY (by rw [List.length_reverse, List.length_take, ← hnn]; omega) hcon hrec hrc2 hxs (by rw [List.reverse_reverse, List.take_append_drop]) (by omega) hcR hsR
          refine mT_ran hrun hS (fun v xv ws' tys' H1 locs1 hr hret he hW hS' => ?_) (fun k ws' tys' H1 locs1 q ce hr hk he hW hS' hce hcv hcl => ?_)
          · subst hr
            rw [e1, e2]
            match v, xv, hret, h with
            | none, none, _, h =>
              cases h
              exact hfin.2 ws' tys' H1 locs1 ls _ (hext.tr he) hW hS' (hl.mono he) hln (hrst.mono he)
            | some v, some xv, hret, h =>
              cases h
              exact hfin.2 ws' tys' H1 locs1 ls _ (hext.tr he) hW hS' (hl.mono he) hln ⟨hret, hrst.mono he⟩
          · subst hr
            rw [e1, e2]
            simp only [mBack] at h
            split at h
            · next h0 hh0 =>
              cases h
              refine mT_catch Bd hk hh0 hce hcv hcl ?_
              exact hfin.2 ws' tys' H1 locs1 ls _ (hext.tr he) hW hS' (hl.mono he) hln ⟨⟨q, rfl⟩, trivial⟩
            · split at h
              · cases h
                have hfin : ((Sum.inr k : mO), M1) = (r, M') := hfin
                cases hfin
                have hT0 : ∀ x ∈ c.exceptionTable.toList, False := by
                  rcases hT with h9 | ⟨-, -, h9⟩
                  · exact h9.2
                  · rw [h9]
                    intro x hx
                    exact nomatch hx
                refine vx_out (fun x hx => (hT0 x hx).elim) hlk hce hcv hcl (fun t ht hal => ?_) hS'.2.2 (Nat.le_refl _) (Nat.le_refl _)
                exact ⟨k, ws', tys', rfl, rfl, hk, hext.tr he, by rw [ht]; exact mWld.moved hal hW, hS'.F ht⟩
              · exact nomatch h
        · exact nomatch h
      · exact nomatch h
    · exact nomatch h
theorem mT_exec {K d o nL rk : Nat} {ini : Bool} {ret : Option FieldType} {cs : List (List mI)} {hs : List (Nat × (Nat × (Nat × Nat)))} {M0 : mM} {ws0 : va_W}
    (hI : ∀ (y : Nat) (as : List mV) (M : mM) (r : mO) (M' : mM), mCall scr K d y as M = some (r, M') → y < 277 → y ≠ 238 → y ≠ 239 → mCon l D B scr d y as M r M')
    (Bd : mBody p l e R s m meth c args D B scr d o nL rk ini ret cc cs hs) (hRc : M'.2.2.1 - M0.2.2.1 ≤ R.cells) (hRs : M'.2.2.2 - M0.2.2.2 ≤ R.slots) :
    ∀ (k pc : Nat) (lA : mL) (stA : List mV) (M : mM), mExec scr (mCall scr K d) cs rk hs k (pc, (lA, (stA, M))) = some (r, M') →
      ∀ (ws : va_W) (tys : List (ClassId × FieldType)) (H : Heap) (locs : List Loc) (ls : Array Slot) (st : List Value), mLe M0 M → mExt ws0 ws → mWld D B M ws tys s H → va_S (mA B) s.heap H locs → mLocR ws lA ls → lA.length = nL → strel ws stA st → mGoal p l e R s m args below meth c D B ws0 M0 M M' r H locs (F0 m pc ls st) := by
  intro k
  induction k with
  | zero => intro pc lA stA M h; exact nomatch h
  | succ k ih =>
    intro pc lA stA M h ws tys H locs ls st hM0 hext W0 hS hl hln hst
    obtain ⟨⟨hx, hb, hml, hown, hts, hlk, hini, hret, hl0⟩, hE, ⟨hR1, hR2⟩, hcs, hrk, hT⟩ := id Bd
    have hlsz : ls.size = nL := hl.1.trans hln
    have hle : mLe M M' := mExec_mono (mCall_mono scr K d) _ _ _ h
    obtain ⟨hle1, hle2⟩ := id hle
    obtain ⟨hm1, hm2⟩ := id hM0
    simp only [mExec] at h
    split at h
    · exact nomatch h
    · next en hfe =>
      obtain ⟨hpc, ch, hch, hen⟩ := mFetch_mem hfe
      obtain ⟨pc', ins, len, i1, i2, i3⟩ := en
      have hpc : pc' = pc := hpc
      subst hpc
      obtain ⟨hent, hex2⟩ := hcs ch hch _ hen
      have hd := (mEnt_dec hent).1
      have hlen := (mEnt_dec hent).2.1
      have hside := (mEnt_dec hent).2.2.1
      have hcalls := (mEnt_dec hent).2.2.2.1
      -- the step and what follows it
      have hstep : ∃ x, mStep scr (mCall scr K d) rk hs (pc', ins, len, i1, i2, i3) (pc', lA, stA, M) = some x ∧ mFin p l e R s m args below meth c D B ws0 M0 M' r nL x := by
        cases hst0 : mStep scr (mCall scr K d) rk hs (pc', ins, len, i1, i2, i3) (pc', lA, stA, M) with
        | none => rw [hst0] at h; exact nomatch h
        | some x =>
          rw [hst0] at h
          refine ⟨x, rfl, ?_⟩
          have hmn := mStep_mono (mCall_mono scr K d) hst0
          cases x with
          | inl s' =>
            obtain ⟨pc1, l1, st1, M1⟩ := s'
            have h : mExec scr (mCall scr K d) cs rk hs k (pc1, l1, st1, M1) = some (r, M') := h
            refine ⟨mExec_mono (mCall_mono scr K d) _ _ _ h, fun ws' tys' H' locs' ls' st' a1 a2 a3 a4 a5 a6 => ?_⟩
            exact ih pc1 l1 st1 M1 h ws' tys' H' locs' ls' st' (mLe.tr hM0 hmn) a1 a2 a3 a4 a5 a6
          | inr q =>
            exact Option.some.inj h
      clear h ih
      obtain ⟨x, h, hfin⟩ := hstep
      unfold mStep at h
      dsimp only at h
      split at h
      · -- ireturn
        split at h
        · next z =>
          obtain ⟨h1, h2⟩ := mBlt h
          subst h2
          have hfin : ((Sum.inl (some (Sum.inl z)) : mO), M) = (r, M') := hfin
          cases hfin
          obtain ⟨y1, r1, rfl, g1, g2⟩ := hst.cons
          have g3 := g2.nil
          subst g3
          have g1 : y1 = .int (Int32.ofInt z) := g1
          subst g1
          have hn : len = 1 := Nat.eq_of_beq_eq_true hlen
          subst hn
          have hr2 : ret = some .int ∨ ret = some .boolean := by
            have h9 : (decide (ret = some .int) || decide (ret = some .boolean)) = true := hex2
            simpa using h9
          have key : ∃ ty, meth.sig.returnType = some ty ∧ narrow ty (.int (Int32.ofInt z)) = .int (Int32.ofInt z) := by
            rcases hr2 with h3 | h3
            · exact ⟨.int, by rw [hret, h3], rfl⟩
            · refine ⟨.boolean, by rw [hret, h3], ?_⟩
              rw [Bool.or_eq_true] at h1
              rcases h1 with h4 | h4
              · have h5 := Nat.eq_of_beq_eq_true h4
                have h6 : ret ≠ some .boolean := hrk ▸ h5
                exact absurd h3 h6
              · exact (m01_ok h4).1
          obtain ⟨ty, k1, k2⟩ := key
          exact vx_ret (W.zret hx hb k1 k2 (fun t ht hW => ⟨some (.inl z), some (.int (Int32.ofInt z)), ws, tys, rfl, rfl, rfl, hext, by rw [ht]; exact mWld.moved hW.alike W0, hS.F ht⟩) hS.2.2 hd hlk)
        · exact nomatch h
      · -- lreturn
        split at h
        · next z =>
          cases h
          have hfin : ((Sum.inl (some (Sum.inr (Sum.inl z))) : mO), M) = (r, M') := hfin
          cases hfin
          obtain ⟨y1, r1, rfl, g1, g2⟩ := hst.cons
          have g3 := g2.nil
          subst g3
          have g1 : y1 = .long (Int64.ofInt z) := g1
          subst g1
          have hn : len = 1 := Nat.eq_of_beq_eq_true hlen
          subst hn
          have hr2 : ret = some .long := of_decide_eq_true hex2
          exact vx_ret (W.lret hx hb (by rw [hret, hr2]) (fun t ht hW => ⟨some (.inr (.inl z)), some (.long (Int64.ofInt z)), ws, tys, rfl, rfl, rfl, hext, by rw [ht]; exact mWld.moved hW.alike W0, hS.F ht⟩) hS.2.2 hd hlk)
        · exact nomatch h
      · -- dreturn
        split at h
        · next z =>
          cases h
          have hfin : ((Sum.inl (some (Sum.inr (Sum.inr (Sum.inr (.double z))))) : mO), M) = (r, M') := hfin
          cases hfin
          obtain ⟨y1, r1, rfl, g1, g2⟩ := hst.cons
          have g3 := g2.nil
          subst g3
          have g1 : y1 = .double z := g1
          subst g1
          have hn : len = 1 := Nat.eq_of_beq_eq_true hlen
          subst hn
          have hr2 : ret = some .double := of_decide_eq_true hex2
          exact vx_ret (W.dret hx hb (by rw [hret, hr2]) (fun t ht hW => ⟨some (.inr (.inr (.inr (.double z)))), some (.double z), ws, tys, rfl, rfl, rfl, hext, by rw [ht]; exact mWld.moved hW.alike W0, hS.F ht⟩) hS.2.2 hd hlk)
        · exact nomatch h
      · -- freturn
        split at h
        · next z =>
          cases h
          have hfin : ((Sum.inl (some (Sum.inr (Sum.inr (Sum.inr (.float z))))) : mO), M) = (r, M') := hfin
          cases hfin
          obtain ⟨y1, r1, rfl, g1, g2⟩ := hst.cons
          have g3 := g2.nil
          subst g3
          have g1 : y1 = .float z := g1
          subst g1
          have hn : len = 1 := Nat.eq_of_beq_eq_true hlen
          subst hn
          have hr2 : ret = some .float := of_decide_eq_true hex2
          exact vx_ret (W.fret hx hb (by rw [hret, hr2]) (fun t ht hW => ⟨some (.inr (.inr (.inr (.float z)))), some (.float z), ws, tys, rfl, rfl, rfl, hext, by rw [ht]; exact mWld.moved hW.alike W0, hS.F ht⟩) hS.2.2 hd hlk)
        · exact nomatch h
      · -- return
        split at h
        ·
          cases h
          have hfin : ((Sum.inl none : mO), M) = (r, M') := hfin
          cases hfin
          have g3 := hst.nil
          subst g3
          have hn : len = 1 := Nat.eq_of_beq_eq_true hlen
          subst hn
          have hr2 : ret = none := of_decide_eq_true hex2
          exact vx_ret (W.vret hx hb (by rw [hret, hr2]) (fun t ht hW => ⟨none, none, ws, tys, rfl, rfl, trivial, hext, by rw [ht]; exact mWld.moved hW.alike W0, hS.F ht⟩) hS.2.2 hd hlk)
        · exact nomatch h
      · -- new
        next ik =>
        cases hi : Nat.ble 1000 i1 with
        | true =>
          rw [hi] at h
          simp only [cond_true] at h
          obtain ⟨h1, h2⟩ := mBlt h
          subst h2
          rw [Bool.and_eq_true] at h1
          have hs0 : hs = [] := List.isEmpty_iff.mp h1.2
          subst hs0
          have h3 := Nat.le_of_ble_eq_true h1.1
          have hcat := hst.cats
          have hfin : ((Sum.inr (i1 - 1000) : mO), ((M.1, (M.2.1, (M.2.2.1 + 1, M.2.2.2 + 6))) : mM)) = (r, M') := hfin
          cases hfin
          exact mT_throw Bd hent hex2 (Nat.le_of_ble_eq_true hi) hM0 hext W0 hS hlsz (by omega) rfl hRc hRs
        | false =>
          rw [hi] at h
          simp only [cond_false] at h
          split at h
          · next fl hfl =>
            cases h
            have hn : len = 3 := Nat.eq_of_beq_eq_true hlen
            have hmx := hfin.1
            obtain ⟨hq1, hq2⟩ := hmx
            have hq1 : M.2.2.1 + 1 ≤ M'.2.2.1 := hq1
            have hq2 : M.2.2.2 + fl.length ≤ M'.2.2.2 := hq2
            refine mT_new hx hb hown hts hent (fun h9 => by rw [Nat.ble_eq.mpr h9] at hi; exact nomatch hi) W0 hS hE hfl hst (by omega) (by omega) (fun ws' H' st' b1 b2 b3 b4 => ?_)
            have e1 : M.2.2.1 - M0.2.2.1 + 1 = M.2.2.1 + 1 - M0.2.2.1 := by omega
            have e2 : M.2.2.2 - M0.2.2.2 + fl.length = M.2.2.2 + fl.length - M0.2.2.2 := by omega
            rw [e1, e2]
            exact hfin.2 ws' tys H' locs ls st' (hext.tr b1) b2 b3 (hl.mono b1) hln b4
          · exact nomatch h
      · -- invokevirtual
        next idx =>
        have hs2 : (idx, i1, i3) ∈ mPoolM o ∧ i3 = 0 := by
          have h9 : (decide ((idx, i1, i3) ∈ mPoolM o) && Nat.beq i3 0) = true := hside
          rw [Bool.and_eq_true] at h9
          exact ⟨of_decide_eq_true h9.1, Nat.eq_of_beq_eq_true h9.2⟩
        have hn : len = 3 := Nat.eq_of_beq_eq_true hlen
        subst hn
        have hc2 : (((((Nat.beq i2 (mMt i1).2.2.2.1 && !(mMt i1).2.2.2.2.1) && !((mMt i1).1.name == "<init>")) && (mMt i1).2.2.2.2.2.isEmpty)) && Nat.blt 0 i2) = true := hcalls
        simp only [Bool.and_eq_true, Bool.not_eq_true', beq_eq_false_iff_ne, List.isEmpty_iff] at hc2
        obtain ⟨⟨⟨⟨c1, c2⟩, c3⟩, c4⟩, c5⟩ := hc2
        exact mT_callI hI Bd hRc hRs hs2.1 (Or.inl ⟨hs2.2, hd, c2, c3, c4, Nat.eq_of_beq_eq_true c1, by simpa [Nat.blt_eq] using c5⟩) h hM0 hext W0 hS hl hln hst (Or.inr trivial) hfin
      · -- invokestatic
        next idx =>
        have hs2 : (idx, i1, i3) ∈ mPoolM o ∧ (i3 = 1 ∨ i3 = 5 ∨ i3 = 6 ∨ i3 = 7 ∨ i3 = 8) := by
          have h9 : (decide ((idx, i1, i3) ∈ mPoolM o) && (Nat.beq i3 1 || Nat.beq i3 5 || Nat.beq i3 6 || Nat.beq i3 7 || Nat.beq i3 8)) = true := hside
          simp only [Bool.and_eq_true, Bool.or_eq_true] at h9
          refine ⟨of_decide_eq_true h9.1, ?_⟩
          rcases h9.2 with (((h8 | h8) | h8) | h8) | h8
          · exact Or.inl (Nat.eq_of_beq_eq_true h8)
          · exact Or.inr (Or.inl (Nat.eq_of_beq_eq_true h8))
          · exact Or.inr (Or.inr (Or.inl (Nat.eq_of_beq_eq_true h8)))
          · exact Or.inr (Or.inr (Or.inr (Or.inl (Nat.eq_of_beq_eq_true h8))))
          · exact Or.inr (Or.inr (Or.inr (Or.inr (Nat.eq_of_beq_eq_true h8))))
        have hn : len = 3 := Nat.eq_of_beq_eq_true hlen
        subst hn
        have hc2 : (Nat.ble 5 i3 && Nat.ble i3 7 || (Nat.beq i2 (mMt i1).2.2.2.1 && (mMt i1).2.2.2.2.1 && (Nat.beq i3 8 == !(mMt i1).2.2.2.2.2.isEmpty))) = true := hcalls
        refine mT_callI hI Bd hRc hRs hs2.1 ?_ h hM0 hext W0 hS hl hln hst (Or.inr trivial) hfin
        by_cases h57 : i3 = 5 ∨ i3 = 6 ∨ i3 = 7
        · exact Or.inr (Or.inr (Or.inr (Or.inr (Or.inl ⟨h57, hd⟩))))
        · have h18 : i3 = 1 ∨ i3 = 8 := by
            rcases hs2.2 with h8 | h8 | h8 | h8 | h8
            · exact Or.inl h8
            · exact absurd (Or.inl h8) h57
            · exact absurd (Or.inr (Or.inl h8)) h57
            · exact absurd (Or.inr (Or.inr h8)) h57
            · exact Or.inr h8
          rw [Bool.or_eq_true] at hc2
          rcases hc2 with h8 | h8
          · rw [Bool.and_eq_true] at h8
            have q1 := Nat.le_of_ble_eq_true h8.1
            have q2 := Nat.le_of_ble_eq_true h8.2
            omega
          · simp only [Bool.and_eq_true, beq_iff_eq] at h8
            obtain ⟨⟨c1, c2⟩, c3⟩ := h8
            rcases h18 with h7 | h7
            · refine Or.inr (Or.inl ⟨h7, hd, c2, ?_, Nat.eq_of_beq_eq_true c1⟩)
              rw [h7] at c3
              have c3 : false = !(mMt i1).2.2.2.2.2.isEmpty := c3
              cases he : (mMt i1).2.2.2.2.2 with
              | nil => rfl
              | cons a b => rw [he] at c3; exact nomatch c3
            · refine Or.inr (Or.inr (Or.inl ⟨h7, hd, c2, ?_, Nat.eq_of_beq_eq_true c1⟩))
              rw [h7] at c3
              have c3 : true = !(mMt i1).2.2.2.2.2.isEmpty := c3
              intro he
              rw [he] at c3
              exact nomatch c3
      · -- invokespecial
        next idx =>
        have hs2 : (idx, i1, i3) ∈ mPoolM o ∧ (i3 = 2 ∨ i3 = 3 ∨ i3 = 4) := by
          have h9 : (decide ((idx, i1, i3) ∈ mPoolM o) && (Nat.beq i3 2 || Nat.beq i3 3 || Nat.beq i3 4)) = true := hside
          simp only [Bool.and_eq_true, Bool.or_eq_true] at h9
          refine ⟨of_decide_eq_true h9.1, ?_⟩
          rcases h9.2 with (h8 | h8) | h8
          · exact Or.inl (Nat.eq_of_beq_eq_true h8)
          · exact Or.inr (Or.inl (Nat.eq_of_beq_eq_true h8))
          · exact Or.inr (Or.inr (Nat.eq_of_beq_eq_true h8))
        have hn : len = 3 := Nat.eq_of_beq_eq_true hlen
        subst hn
        have hc2 : (Nat.beq i3 4 || (((((Nat.beq i2 (mMt i1).2.2.2.1 && !(mMt i1).2.2.2.2.1) && ((mMt i1).1.name == "<init>")) && (mMt i1).2.2.2.2.2.isEmpty)) && Nat.blt 0 i2)) = true := hcalls
        refine mT_callI hI Bd hRc hRs hs2.1 ?_ h hM0 hext W0 hS hl hln hst (Or.inr trivial) hfin
        by_cases h4 : i3 = 4
        · exact Or.inr (Or.inr (Or.inr (Or.inr (Or.inr ⟨h4, hd⟩))))
        · rw [Bool.or_eq_true] at hc2
          rcases hc2 with h8 | h8
          · exact absurd (Nat.eq_of_beq_eq_true h8) h4
          · simp only [Bool.and_eq_true, Bool.not_eq_true', beq_iff_eq, List.isEmpty_iff] at h8
            obtain ⟨⟨⟨⟨c1, c2⟩, c3⟩, c4⟩, c5⟩ := h8
            exact Or.inr (Or.inr (Or.inr (Or.inl ⟨by omega, hd, c2, c3, c4, Nat.eq_of_beq_eq_true c1, by simpa [Nat.blt_eq] using c5⟩)))
      · -- all others
        split at h
        · next q hq =>
          cases h
          refine mT_pure hx hb hown hts hent hq hl hst (fun ls' st' a1 a2 => ?_)
          exact hfin.2 ws tys H locs ls' st' hext W0 hS a1 ((mPure_len hq).trans hln) a2
        · split at h
          · next q hq =>
            cases h
            exact mT_jump hx hb hent hq hst (fun st' a1 => hfin.2 ws tys H locs ls st' hext W0 hS hl hln a1)
          · split at h
            · next q hq =>
              cases h
              have hmm := mMem_mono hq
              obtain ⟨hmm1, hmm2⟩ := hmm
              obtain ⟨hq1, hq2⟩ := hfin.1
              have hq1 : q.2.2.2.1 ≤ M'.2.2.1 := hq1
              have hq2 : q.2.2.2.2 ≤ M'.2.2.2 := hq2
              refine mT_mem hx hb hown hts hini hent W0 hS hE hq hst (by omega) (by omega) (fun ws' tys' H' locs' st' a1 a2 a3 a4 => ?_)
              have e1 : M.2.2.1 - M0.2.2.1 + (q.2.2.2.1 - M.2.2.1) = q.2.2.2.1 - M0.2.2.1 := by omega
              have e2 : M.2.2.2 - M0.2.2.2 + (q.2.2.2.2 - M.2.2.2) = q.2.2.2.2 - M0.2.2.2 := by omega
              rw [e1, e2]
              exact hfin.2 ws' tys' H' locs' ls st' (hext.tr a1) a2 a3 (hl.mono a1) hln a4
            · exact nomatch h
end MZ
