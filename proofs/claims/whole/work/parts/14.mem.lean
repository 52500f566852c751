/-! ===== cells: what a shape and its numbers say of a cell; the instructions on cells ===== -/
def mCel (ws : va_W) (tys : List (ClassId × FieldType)) (G : mG) (a : Nat) (sh : mSh) (e : va_E) : Prop := match sh with
  | .inl o => ∃ fs : List Value, e = .inr (o.1, fs) ∧ fs.length = o.2.length ∧ ∀ (k : Nat) (f : Option (Option Nat)), o.2[k]? = some f → ∃ x, fs[k]? = some x ∧ vrel ws (mFld G a k f) x
  | .inr (0, (n, _)) => ∃ (cA : ClassId) (t : Nat), tys[t]? = some (cA, .int) ∧ e = .inl (cA, (n, .inl (fun j => Int32.ofInt (G a j))))
  | .inr (1, (n, _)) => ∃ (cA : ClassId) (t : Nat), tys[t]? = some (cA, .long) ∧ e = .inl (cA, (n, .inr (.inl (fun j => Int64.ofInt (G a j)))))
  | .inr (2, (n, _)) => ∃ (cA : ClassId) (t : Nat), tys[t]? = some (cA, .double) ∧ e = .inl (cA, (n, .inr (.inr (.inr (.inl (fun j => UInt64.ofNat (G a j).toNat))))))
  | .inr (3, (n, rs)) => rs.length = n ∧ ∃ (cA : ClassId) (t : Nat) (f : Nat → Option Nat), tys[t]? = some (cA, .object "JobWorkshop$Shop") ∧ e = .inl (cA, (n, .inr (.inr (.inr (.inr f))))) ∧ ∀ (j : Nat) (r : Option Nat), rs[j]? = some r → (match r with
    | none => f j = none
    | some q => ∃ p : Nat × va_E, ws[q]? = some p ∧ f j = some p.1)
  | _ => False
def mTyp (tys tys' : List (ClassId × FieldType)) : Prop := ∀ (t : Nat) (q : ClassId × FieldType), tys[t]? = some q → tys'[t]? = some q
theorem mTyp.rf (tys : List (ClassId × FieldType)) : mTyp tys tys := fun _ _ h => h
theorem mTyp.app (tys t2 : List (ClassId × FieldType)) : mTyp tys (tys ++ t2) := fun _ _ h => by rw [List.getElem?_append_left (List.getElem?_eq_some_iff.mp h).1]; exact h
theorem mCel.mono {ws ws' : va_W} {tys tys' : List (ClassId × FieldType)} {G G' : mG} {a : Nat} {sh : mSh} {e : va_E} (hw : mExt ws ws') (ht : mTyp tys tys') (hG : G' a = G a) (h : mCel ws tys G a sh e) : mCel ws' tys' G' a sh e := by
  match sh, h with
  | .inl o, ⟨fs, h1, h2, h3⟩ =>
    refine ⟨fs, h1, h2, fun k f hf => ?_⟩
    obtain ⟨x, h4, h5⟩ := h3 k f hf
    refine ⟨x, h4, ?_⟩
    have e1 : mFld G' a k f = mFld G a k f := by
      match f with
      | none => simp [mFld, hG]
      | some none => rfl
      | some (some q) => rfl
    rw [e1]
    exact h5.mono hw
  | .inr (0, (n, _)), ⟨cA, t, h1, h2⟩ => exact ⟨cA, t, ht _ _ h1, by rw [h2, hG]⟩
  | .inr (1, (n, _)), ⟨cA, t, h1, h2⟩ => exact ⟨cA, t, ht _ _ h1, by rw [h2, hG]⟩
  | .inr (2, (n, _)), ⟨cA, t, h1, h2⟩ => exact ⟨cA, t, ht _ _ h1, by rw [h2, hG]⟩
  | .inr (3, (n, rs)), ⟨h0, cA, t, f, h1, h2, h3⟩ =>
    refine ⟨h0, cA, t, f, ht _ _ h1, h2, fun j r hr => ?_⟩
    have h4 := h3 j r hr
    match r, h4 with
    | none, h4 => exact h4
    | some q, ⟨p, h5, h6⟩ =>
      obtain ⟨e2, h7⟩ := hw q p h5
      exact ⟨_, h7, h6⟩
  | .inr (k + 4, _), h => exact h.elim
def mRel (M : mM) (ws : va_W) (tys : List (ClassId × FieldType)) : Prop := M.1.length = ws.length ∧ ∀ (a : Nat) (sh : mSh), M.1[a]? = some sh → ∃ p : Nat × va_E, ws[a]? = some p ∧ mCel ws tys M.2.1 a sh p.2
theorem mRel.set {M : mM} {ws : va_W} {tys : List (ClassId × FieldType)} {a ad : Nat} {e0 e : va_E} {sh' : mSh} {G' : mG} {nk : Nat × Nat} (h : mRel M ws tys) (ha : ws[a]? = some (ad, e0)) (hG : ∀ b, b ≠ a → G' b = M.2.1 b) (hc : mCel (ws.set a (ad, e)) tys G' a sh' e) : mRel (M.1.set a sh', (G', nk)) (ws.set a (ad, e)) tys := by
  refine ⟨by simp [h.1], fun b sh hb => ?_⟩
  have ha2 := (List.getElem?_eq_some_iff.mp ha).1
  by_cases hba : b = a
  · subst hba
    have hb : (M.1.set b sh')[b]? = some sh := hb
    rw [List.getElem?_set_self (by rw [h.1]; exact ha2)] at hb
    cases hb
    exact ⟨(ad, e), List.getElem?_set_self ha2, hc⟩
  · have hb : (M.1.set a sh')[b]? = some sh := hb
    rw [List.getElem?_set_ne (Ne.symm hba)] at hb
    obtain ⟨p, h1, h2⟩ := h.2 b sh hb
    refine ⟨p, by rw [List.getElem?_set_ne (Ne.symm hba)]; exact h1, ?_⟩
    exact h2.mono (mExt.set ha e) (mTyp.rf tys) (hG b hba)
theorem mRel.setG {M : mM} {ws : va_W} {tys : List (ClassId × FieldType)} {a ad : Nat} {e0 e : va_E} {sh : mSh} {G' : mG} {nk : Nat × Nat} (h : mRel M ws tys) (ha : ws[a]? = some (ad, e0)) (hsh : M.1[a]? = some sh) (hG : ∀ b, b ≠ a → G' b = M.2.1 b) (hc : mCel (ws.set a (ad, e)) tys G' a sh e) : mRel (M.1, (G', nk)) (ws.set a (ad, e)) tys := by
  have h1 := mRel.set (nk := nk) h ha hG hc
  have e1 : M.1.set a sh = M.1 := by
    obtain ⟨hl, h2⟩ := List.getElem?_eq_some_iff.mp hsh
    subst h2
    exact List.set_getElem_self hl
  rw [e1] at h1
  exact h1
theorem upG_ne {G : mG} {a b : Nat} {f : Nat → Int} (h : b ≠ a) : upG G a f b = G b := by
  unfold upG
  have : Nat.beq b a = false := by
    cases hb : Nat.beq b a with
    | false => rfl
    | true => exact absurd (Nat.eq_of_beq_eq_true hb) h
  rw [this]
  rfl
theorem upG_eq {G : mG} {a : Nat} {f : Nat → Int} : upG G a f a = f := by
  unfold upG
  rw [Nat.beq_refl]
  rfl
theorem up1_ne {f : Nat → Int} {i j : Nat} {x : Int} (h : j ≠ i) : up1 f i x j = f j := by
  unfold up1
  have : Nat.beq j i = false := by
    cases hb : Nat.beq j i with
    | false => rfl
    | true => exact absurd (Nat.eq_of_beq_eq_true hb) h
  rw [this]
  rfl
theorem up1_eq {f : Nat → Int} {i : Nat} {x : Int} : up1 f i x i = x := by
  unfold up1
  rw [Nat.beq_refl]
  rfl
theorem mRel.push {M : mM} {ws : va_W} {tys tys' : List (ClassId × FieldType)} {q : Nat} {e : va_E} {sh : mSh} {f : Nat → Int} {nk : Nat × Nat} (h : mRel M ws tys) (ht : mTyp tys tys') (hc : mCel (ws ++ [(q, e)]) tys' (upG M.2.1 M.1.length f) M.1.length sh e) : mRel (M.1 ++ [sh], (upG M.2.1 M.1.length f, nk)) (ws ++ [(q, e)]) tys' := by
  refine ⟨by simp [h.1], fun b sh2 hb => ?_⟩
  have hb : (M.1 ++ [sh])[b]? = some sh2 := hb
  by_cases hbl : b < M.1.length
  · rw [List.getElem?_append_left hbl] at hb
    obtain ⟨p, h1, h2⟩ := h.2 b sh2 hb
    refine ⟨p, by rw [List.getElem?_append_left (by rw [← h.1]; exact hbl)]; exact h1, ?_⟩
    exact h2.mono (mExt.app ws _) ht (upG_ne (by omega))
  · rw [List.getElem?_append_right (Nat.not_lt.mp hbl)] at hb
    have h3 := (List.getElem?_eq_some_iff.mp hb).1
    have h4 : b = M.1.length := by simp at h3; omega
    subst h4
    simp at hb
    subst hb
    exact ⟨(q, e), by rw [h.1]; simp, hc⟩
def mWld (D : va_G) (B : Nat) (M : mM) (ws : va_W) (tys : List (ClassId × FieldType)) (U : State) (H : Heap) : Prop := va_K D vwCl tys U ∧ va_P D vwCl ws H ∧ va_D (fun q => B ≤ q) ws ∧ mRel M ws tys
theorem mIn_ok {i : Int} {n : Nat} (h : mIn i n = true) : vp_in (Int32.ofInt i) n ∧ (Int32.ofInt i).toNatClampNeg = mIx i := by
  have h1 : 0 ≤ w32 i ∧ w32 i < (n : Int) := of_decide_eq_true h
  refine ⟨vp_in_iff.mpr h1, rfl⟩
theorem m01_ok {z : Int} (h : m01 z = true) : narrow .boolean (.int (Int32.ofInt z)) = .int (Int32.ofInt z) ∧ fits .boolean (.int (Int32.ofInt z)) = true := by
  have h1 : z = 0 ∨ z = 1 := of_decide_eq_true h
  rcases h1 with rfl | rfl <;> exact ⟨rfl, rfl⟩
theorem mFits_ref {ty : FieldType} (h : refKind ty = true) (a : Nat) : narrow ty (.ref a) = .ref a ∧ fits ty (.ref a) = true := by
  cases ty <;> first | exact ⟨rfl, rfl⟩ | exact nomatch h
theorem mUpd (G : mG) (a i : Nat) (x : Int) : (fun j => Int32.ofInt (up2 G a i x a j)) = upd (fun j => Int32.ofInt (G a j)) i (Int32.ofInt x) := by
  funext j
  unfold up2
  rw [upG_eq]
  by_cases h : j = i
  · subst h
    rw [up1_eq]
    simp [upd]
  · rw [up1_ne h]
    simp [upd, h]
theorem mUpdL (G : mG) (a i : Nat) (x : Int) : (fun j => Int64.ofInt (up2 G a i x a j)) = vp_updL (fun j => Int64.ofInt (G a j)) i (Int64.ofInt x) := by
  funext j
  unfold up2
  rw [upG_eq]
  by_cases h : j = i
  · subst h
    rw [up1_eq]
    simp [vp_updL]
  · rw [up1_ne h]
    simp [vp_updL, h]
theorem mUpdD (G : mG) (a i : Nat) (x : UInt64) : (fun j => UInt64.ofNat (up2 G a i (x.toNat : Int) a j).toNat) = vf_upd (fun j => UInt64.ofNat (G a j).toNat) i x := by
  funext j
  unfold up2
  rw [upG_eq]
  by_cases h : j = i
  · subst h
    rw [up1_eq]
    simp [vf_upd]
  · rw [up1_ne h]
    simp [vf_upd, h]
theorem mWarr : Cond.arrayClass .int ∈ TG ∧ Cond.arrayClass .long ∈ TG ∧ Cond.arrayClass .double ∈ TG := ⟨TG_1 (i := 133) rfl rfl, TG_2 (i := 101) rfl rfl, TG_7 (i := 193) rfl rfl⟩
def mEnv (D : va_G) (B : Nat) (scr : mScr) (U : State) : Prop :=
  (B ≤ U.heap.size ∧ scr.1 < B) ∧ va_X scr.1 scr.2.1 (fun j => Int32.ofInt (scr.2.2 j)) U U.heap ∧ va_AO "JobWorkshop$Shop" U ∧
  (vx_Zq Bundle.tN "UNASSIGNED_STACK" Bundle.steD (fun q => B ≤ q) U U.heap ∧ vx_Zq Bundle.tN "SUPPRESSED_SENTINEL" Bundle.listD (fun q => B ≤ q) U U.heap) ∧
  (∀ x ∈ mStrs, ∃ sa : Nat, vk_R "JobWorkshop" x.1 x.2 sa U) ∧ (∀ w ∈ mBad, va_Nw w U) ∧ (∀ E1 E2 : Nat, E1 < 3 → E2 < 3 → E1 ≠ E2 → va_Nc (mExn E1) (mExn E2) U)
theorem mOwn_cl {c : Nat} {C : String} {T : u_T} {N : Nat} (h : vwCl[c]? = some (C, T, N)) : mOwn c = C := by
  match c, h with
  | 0, h => exact congrArg (fun z : Option vw_C => (z.getD ("", TX0, 0)).1) h
  | 1, h => exact congrArg (fun z : Option vw_C => (z.getD ("", TX0, 0)).1) h
  | 2, h => exact congrArg (fun z : Option vw_C => (z.getD ("", TX0, 0)).1) h
  | 3, h => exact congrArg (fun z : Option vw_C => (z.getD ("", TX0, 0)).1) h
  | 4, h => exact congrArg (fun z : Option vw_C => (z.getD ("", TX0, 0)).1) h
  | 5, h => exact congrArg (fun z : Option vw_C => (z.getD ("", TX0, 0)).1) h
  | 6, h => exact congrArg (fun z : Option vw_C => (z.getD ("", TX0, 0)).1) h
  | 7, h => exact congrArg (fun z : Option vw_C => (z.getD ("", TX0, 0)).1) h
  | 8, h => exact congrArg (fun z : Option vw_C => (z.getD ("", TX0, 0)).1) h
  | 9, h => exact congrArg (fun z : Option vw_C => (z.getD ("", TX0, 0)).1) h
  | 10, h => exact congrArg (fun z : Option vw_C => (z.getD ("", TX0, 0)).1) h
  | 11, h => exact congrArg (fun z : Option vw_C => (z.getD ("", TX0, 0)).1) h
  | k + 12, h => exact nomatch h
theorem mTop {ws : va_W} {x : Nat × va_E} {n : Nat} (h : n = ws.length) : (ws ++ [x])[n]? = some x := by
  rw [h]
  simp
section MM
variable {p : Program} {l : Launch} {e : Env} {R : Room} {s : State} {m : MethodId} {args : Array Value} {below : List Frame} {meth : Method} {c : Code} {H : Heap} {locs : List Loc} {cells slots : Nat} {Q : State → Prop}
variable {cc : ByteArray} {pc : Nat} {ls : Array Slot} {ws : va_W} {stA stA' : List mV} {st : List Value} {D : va_G} {B : Nat} {M M' : mM} {tys : List (ClassId × FieldType)} {scr : mScr}
theorem mGetO {c k b : Nat} {r : List mV} {L : List mSh} {a : Nat} {X : (Nat × List (Option (Option Nat))) → Option (List mV × mM)} {y : List mV × mM} (h : (match L[a]? with
      | some (.inl q) => bif Nat.beq q.1 c then X q else none
      | _ => none) = some y) : ∃ q, L[a]? = some (.inl q) ∧ q.1 = c ∧ X q = some y := by
  split at h
  · next q hq =>
    cases hb : Nat.beq q.1 c with
    | true => rw [hb] at h; exact ⟨q, hq, Nat.eq_of_beq_eq_true hb, h⟩
    | false => rw [hb] at h; exact nomatch h
  · exact nomatch h
theorem mObj (W0 : mRel M ws tys) {a : Nat} {q : Nat × List (Option (Option Nat))} (h : M.1[a]? = some (.inl q)) : ∃ (ad : Nat) (fs : List Value), ws[a]? = some (ad, .inr (q.1, fs)) ∧ fs.length = q.2.length ∧ ∀ (k : Nat) (f : Option (Option Nat)), q.2[k]? = some f → ∃ x, fs[k]? = some x ∧ vrel ws (mFld M.2.1 a k f) x := by
  obtain ⟨⟨ad, e0⟩, h1, fs, h2, h3, h4⟩ := W0.2 a _ h
  have h2 : e0 = .inr (q.1, fs) := h2
  subst h2
  exact ⟨ad, fs, h1, h3, h4⟩
theorem mArr {k n : Nat} {rs : List (Option Nat)} (W0 : mRel M ws tys) {a : Nat} (h : M.1[a]? = some (.inr (k, (n, rs)))) : ∃ (ad : Nat) (e0 : va_E), ws[a]? = some (ad, e0) ∧ mCel ws tys M.2.1 a (.inr (k, (n, rs))) e0 := by
  obtain ⟨⟨ad, e0⟩, h1, h2⟩ := W0.2 a _ h
  exact ⟨ad, e0, h1, h2⟩
theorem mClsOf {c k b i o : Nat} (h : (i, c, k, b) ∈ mPoolF o) : ∃ q : vw_C, vwCl[c]? = some q ∧ k < q.2.2 ∧ Cond.fieldLink (mOwn o) i (q.2.1 k).1 (q.2.1 k).2.1 (q.2.1 k).2.2.1 ∈ TG ∧ mClOk q ∧ (b = 0 → (q.2.1 k).2.2.1 = "I" ∧ (q.2.1 k).2.2.2 = false) ∧ (b = 1 → (q.2.1 k).2.2.1 = "Z" ∧ (q.2.1 k).2.2.2 = false) ∧ (b = 2 → (q.2.1 k).2.2.2 = true ∧ ∃ ty, parseFieldDescriptor (q.2.1 k).2.2.1 = some ty ∧ refKind ty = true) := by
  obtain ⟨q, h1, h2, h3, h4, h5, h6⟩ := mF_ok o _ h
  exact ⟨q, h1, h2, h3, mCl_ok q (List.mem_of_getElem? h1), h4, h5, h6⟩
set_option maxHeartbeats 8000000 in
theorem mT_mem (hx : p.tables.exec = Jvm.exec) (hb : c.code = cc) {o nL len i1 i2 i3 : Nat} {ini : Bool} {ins : Instr} (hown : s.vm.findClass (mOwn o) = some m.cls) (hts : ∀ w ∈ TG, w.before args s = true) (hini : ini = true → meth.name = "<init>") (hc : mEnt cc o ini nL (pc, (ins, (len, (i1, (i2, i3))))) = true)
    (W0 : mWld D B M ws tys s H) (hS : va_S (fun q => B ≤ q) s.heap H locs) (hE : mEnv D B scr s) (h : mMem scr ins i1 i2 i3 stA M = some (stA', M')) (hs : strel ws stA st) (hrc : cells + (M'.2.2.1 - M.2.2.1) ≤ R.cells) (hrs : slots + (M'.2.2.2 - M.2.2.2) ≤ R.slots)
    (K : ∀ (ws' : va_W) (tys' : List (ClassId × FieldType)) (H' : Heap) (locs' : List Loc) (st' : List Value), mExt ws ws' → mWld D B M' ws' tys' s H' → va_S (fun q => B ≤ q) s.heap H' locs' → strel ws' stA' st' → W p l e R s m args below meth c H' locs' (cells + (M'.2.2.1 - M.2.2.1)) (slots + (M'.2.2.2 - M.2.2.2)) Q (F0 m (pc + len) ls st')) : W p l e R s m args below meth c H locs cells slots Q (F0 m pc ls st) := by
  obtain ⟨hd, hlen, hsd, -, -⟩ := mEnt_dec hc
  obtain ⟨hK, hP, hD, hR⟩ := id W0
  obtain ⟨⟨hB, hsB⟩, hX, hAO, -, -, -, -⟩ := hE
  have hA : ∀ q, s.heap.size ≤ q → B ≤ q := fun q h => Nat.le_trans hB h
  have hbA : ¬ B ≤ scr.1 := by omega
  have hbl : scr.1 < s.heap.size := by omega
  have K0 : M' = M → ∀ (st' : List Value), strel ws stA' st' → W p l e R s m args below meth c H locs cells slots Q (F0 m (pc + len) ls st') := by
    intro hM st' h1
    have h2 := K ws tys H locs st' (mExt.rf ws) (by rw [hM]; exact W0) hS h1
    rw [hM, Nat.sub_self, Nat.sub_self, Nat.add_zero, Nat.add_zero] at h2
    exact h2
  have K1 : M'.2.2 = M.2.2 → ∀ (ws' : va_W) (H' : Heap) (locs' : List Loc) (st' : List Value), mExt ws ws' → mWld D B M' ws' tys s H' → va_S (fun q => B ≤ q) s.heap H' locs' → strel ws' stA' st' → W p l e R s m args below meth c H' locs' cells slots Q (F0 m (pc + len) ls st') := by
    intro hM ws' H' locs' st' h1 h2 h3 h4
    have h5 := K ws' tys H' locs' st' h1 h2 h3 h4
    rw [hM, Nat.sub_self, Nat.sub_self, Nat.add_zero, Nat.add_zero] at h5
    exact h5
  cases ins with
  | getfield i =>
    have hn : len = 3 := Nat.eq_of_beq_eq_true hlen
    subst hn
    have hF : (i, i1, i2, i3) ∈ mPoolF o := of_decide_eq_true hsd
    obtain ⟨⟨C, T, N⟩, f1, f2, f3, ⟨f4, -, -, -⟩, -⟩ := mClsOf hF
    simp only [mMem] at h
    split at h
    · next a r =>
      obtain ⟨q, g1, g2, g3⟩ := mGetO (c := i1) (k := 0) (b := 0) (r := []) h
      subst g2
      split at g3
      · next f hf =>
        cases g3
        obtain ⟨x, r1, rfl, h2, hs2⟩ := hs.cons
        obtain ⟨ad, fs, o1, o2, o3⟩ := mObj hR g1
        obtain ⟨w, hw, rfl⟩ := id h2
        have hw2 : w = (ad, .inr (q.1, fs)) := Option.some.inj (hw.symm.trans o1)
        subst hw2
        obtain ⟨y, y1, y2⟩ := o3 i2 f hf
        exact va_get hx hb hts f4 hown hK hP a o1 f1 i2 f2 (hts _ f3) (fun _ h => h) y1 hd (K0 rfl _ ⟨y2, hs2⟩)
      · exact nomatch g3
    · exact nomatch h
  | putfield i =>
    have hn : len = 3 := Nat.eq_of_beq_eq_true hlen
    subst hn
    have hsd2 : (i, i1, i2, i3) ∈ mPoolF o ∧ (i3 = 2 → ini = true ∧ o = i1) := by
      have h9 : (decide ((i, i1, i2, i3) ∈ mPoolF o) && (!(Nat.beq i3 2) || (ini && Nat.beq o i1))) = true := hsd
      rw [Bool.and_eq_true, Bool.or_eq_true, Bool.and_eq_true] at h9
      refine ⟨of_decide_eq_true h9.1, fun h8 => ?_⟩
      subst h8
      rcases h9.2 with h7 | h7
      · exact nomatch h7
      · exact ⟨h7.1, Nat.eq_of_beq_eq_true h7.2⟩
    obtain ⟨⟨C, T, N⟩, f1, f2, f3, ⟨f4, ⟨ty0, f5⟩, f6, f7⟩, b0, b1, b2⟩ := mClsOf hsd2.1
    simp only [mMem] at h
    split at h
    · next z a r =>
      obtain ⟨q, g1, g2, g3⟩ := mGetO (c := i1) (k := 0) (b := 0) (r := []) h
      subst g2
      split at g3
      · next hf =>
        obtain ⟨hb2, hM⟩ := mBlt g3
        cases hM
        obtain ⟨x, r1, rfl, h2, hs2⟩ := hs.cons
        obtain ⟨x2, r2, rfl, h3, hs3⟩ := hs2.cons
        have h2 : x = .int (Int32.ofInt z) := h2
        subst h2
        obtain ⟨ad, fs, o1, o2, o3⟩ := mObj hR g1
        obtain ⟨w, hw, rfl⟩ := id h3
        have hw2 : w = (ad, .inr (q.1, fs)) := Option.some.inj (hw.symm.trans o1)
        subst hw2
        have hk : i2 < fs.length := by rw [o2]; exact (List.getElem?_eq_some_iff.mp hf).1
        have hkey : ∃ ty, parseFieldDescriptor (T i2).2.2.1 = some ty ∧ narrow ty (.int (Int32.ofInt z)) = .int (Int32.ofInt z) ∧ fits ty (.int (Int32.ofInt z)) = true ∧ (T i2).2.2.2 = false := by
          rw [Bool.or_eq_true, Bool.and_eq_true] at hb2
          rcases hb2 with h8 | ⟨h8, h9⟩
          · have h8 := b0 (Nat.eq_of_beq_eq_true h8)
            exact ⟨.int, by rw [h8.1]; rfl, rfl, rfl, h8.2⟩
          · have h8 := b1 (Nat.eq_of_beq_eq_true h8)
            exact ⟨.boolean, by rw [h8.1]; rfl, (m01_ok h9).1, (m01_ok h9).2, h8.2⟩
        obtain ⟨ty, t1, t2, t3, t4⟩ := hkey
        refine va_put hx hb hts f4 ty0 f5 f6 hown hK hP hD hS a o1 f1 i2 f2 (hts _ f3) (fun _ h => h) t4 t1 t2 t3 hk hd (fun H1 locs1 hP1 hD1 hS1 => ?_)
        refine K1 rfl _ H1 locs1 _ (mExt.set o1 _) ⟨hK, hP1, hD1, ?_⟩ hS1 (hs3.mono (mExt.set o1 _))
        refine mRel.setG hR o1 g1 (fun b hb => upG_ne hb) ⟨fs.set i2 (.int (Int32.ofInt z)), rfl, by simp [o2], fun k f hkf => ?_⟩
        by_cases hk2 : k = i2
        · subst hk2
          have hf2 : f = none := Option.some.inj (hkf.symm.trans hf)
          subst hf2
          refine ⟨_, List.getElem?_set_self hk, ?_⟩
          show _ = _
          unfold up2
          rw [upG_eq, up1_eq]
        · obtain ⟨y, y1, y2⟩ := o3 k f hkf
          refine ⟨y, by rw [List.getElem?_set_ne (Ne.symm hk2)]; exact y1, ?_⟩
          have e1 : mFld (up2 M.2.1 a i2 z) a k f = mFld M.2.1 a k f := by
            match f with
            | none =>
              show Sum.inl (up2 M.2.1 a i2 z a k) = Sum.inl (M.2.1 a k)
              unfold up2
              rw [upG_eq, up1_ne hk2]
            | some none => rfl
            | some (some q) => rfl
          rw [e1]
          exact y2.mono (mExt.set o1 _)
      · exact nomatch g3
    · next v a r =>
      obtain ⟨q, g1, g2, g3⟩ := mGetO (c := i1) (k := 0) (b := 0) (r := []) h
      subst g2
      split at g3
      · next f0 hf =>
        obtain ⟨hb2, hM⟩ := mBlt g3
        cases hM
        have hb2 := Nat.eq_of_beq_eq_true hb2
        obtain ⟨x, r1, rfl, h2, hs2⟩ := hs.cons
        obtain ⟨x2, r2, rfl, h3, hs3⟩ := hs2.cons
        obtain ⟨w2, hw3, rfl⟩ := id h2
        obtain ⟨ad, fs, o1, o2, o3⟩ := mObj hR g1
        obtain ⟨w, hw, rfl⟩ := id h3
        have hw2 : w = (ad, .inr (q.1, fs)) := Option.some.inj (hw.symm.trans o1)
        subst hw2
        have hk : i2 < fs.length := by rw [o2]; exact (List.getElem?_eq_some_iff.mp hf).1
        obtain ⟨t4, ty, t1, t2⟩ := b2 hb2
        obtain ⟨hi2, ho⟩ := hsd2.2 hb2
        have hdecl : (T i2).1 = mOwn o := by
          rw [f7 i2 f2, ho]
          exact (mOwn_cl f1).symm
        refine va_putF hx hb hts f4 ty0 f5 f6 hown hK hP hD hS a o1 f1 i2 f2 (hts _ f3) (fun _ h => h) t4 (hini hi2) hdecl t1 (mFits_ref t2 _).1 (mFits_ref t2 _).2 hk hd (fun H1 locs1 hP1 hD1 hS1 => ?_)
        refine K1 rfl _ H1 locs1 _ (mExt.set o1 _) ⟨hK, hP1, hD1, ?_⟩ hS1 (hs3.mono (mExt.set o1 _))
        refine mRel.set (G' := M.2.1) (nk := M.2.2) hR o1 (fun b hb => rfl) ⟨fs.set i2 (.ref w2.1), rfl, by simp [o2], fun k f hkf => ?_⟩
        have hkf : (q.2.set i2 (some (some v)))[k]? = some f := hkf
        by_cases hk2 : k = i2
        · subst hk2
          rw [List.getElem?_set_self (by rw [← o2]; exact hk)] at hkf
          cases hkf
          exact ⟨_, List.getElem?_set_self hk, vrel.mono (mExt.set o1 _) (v := .inr (.inr (.inl v))) h2⟩
        · rw [List.getElem?_set_ne (Ne.symm hk2)] at hkf
          obtain ⟨y, y1, y2⟩ := o3 k f hkf
          exact ⟨y, by rw [List.getElem?_set_ne (Ne.symm hk2)]; exact y1, y2.mono (mExt.set o1 _)⟩
      · exact nomatch g3
    · exact nomatch h
  | iaload =>
    have hn : len = 1 := Nat.eq_of_beq_eq_true hlen
    subst hn
    simp only [mMem] at h
    split at h
    · next i a r =>
      split at h
      · next n rs hq =>
        obtain ⟨h1, hM⟩ := mBlt h
        cases hM
        obtain ⟨x, r1, rfl, h2, hs2⟩ := hs.cons
        obtain ⟨x2, r2, rfl, h3, hs3⟩ := hs2.cons
        have h2 : x = .int (Int32.ofInt i) := h2
        subst h2
        obtain ⟨ad, e0, o1, cA, t, t1, t2⟩ := mArr hR hq
        subst t2
        obtain ⟨w, hw, rfl⟩ := id h3
        have hw2 : w = (ad, _) := Option.some.inj (hw.symm.trans o1)
        subst hw2
        refine va_iald hx hb hK hP a t o1 t1 (mIn_ok h1).1 hd (K0 rfl _ ⟨?_, hs3⟩)
        show _ = _
        rw [(mIn_ok h1).2]
      · exact nomatch h
    · next i b r =>
      obtain ⟨h1, hM⟩ := mBlt h
      cases hM
      rw [Bool.and_eq_true] at h1
      have hq := Nat.eq_of_beq_eq_true h1.1
      subst hq
      obtain ⟨x, r1, rfl, h2, hs2⟩ := hs.cons
      obtain ⟨x2, r2, rfl, h3, hs3⟩ := hs2.cons
      have h2 : x = .int (Int32.ofInt i) := h2
      subst h2
      have h3 : x2 = .ref scr.1 := h3
      subst h3
      refine va_sld hx hb hX hbl hbA hS (mIn_ok h1.2).1 hd (K0 rfl _ ⟨?_, hs3⟩)
      show _ = _
      rw [(mIn_ok h1.2).2]
    · exact nomatch h
  | laload =>
    have hn : len = 1 := Nat.eq_of_beq_eq_true hlen
    subst hn
    simp only [mMem] at h
    split at h
    · next i a r =>
      split at h
      · next n rs hq =>
        obtain ⟨h1, hM⟩ := mBlt h
        cases hM
        obtain ⟨x, r1, rfl, h2, hs2⟩ := hs.cons
        obtain ⟨x2, r2, rfl, h3, hs3⟩ := hs2.cons
        have h2 : x = .int (Int32.ofInt i) := h2
        subst h2
        obtain ⟨ad, e0, o1, cA, t, t1, t2⟩ := mArr hR hq
        subst t2
        obtain ⟨w, hw, rfl⟩ := id h3
        have hw2 : w = (ad, _) := Option.some.inj (hw.symm.trans o1)
        subst hw2
        refine va_lald hx hb hK hP a t o1 t1 (mIn_ok h1).1 hd (K0 rfl _ ⟨?_, hs3⟩)
        show _ = _
        rw [(mIn_ok h1).2]
      · exact nomatch h
    · exact nomatch h
  | daload =>
    have hn : len = 1 := Nat.eq_of_beq_eq_true hlen
    subst hn
    simp only [mMem] at h
    split at h
    · next i a r =>
      split at h
      · next n rs hq =>
        obtain ⟨h1, hM⟩ := mBlt h
        cases hM
        obtain ⟨x, r1, rfl, h2, hs2⟩ := hs.cons
        obtain ⟨x2, r2, rfl, h3, hs3⟩ := hs2.cons
        have h2 : x = .int (Int32.ofInt i) := h2
        subst h2
        obtain ⟨ad, e0, o1, cA, t, t1, t2⟩ := mArr hR hq
        subst t2
        obtain ⟨w, hw, rfl⟩ := id h3
        have hw2 : w = (ad, _) := Option.some.inj (hw.symm.trans o1)
        subst hw2
        refine va_dald hx hb hK hP a t o1 t1 (mIn_ok h1).1 hd (K0 rfl _ ⟨?_, hs3⟩)
        show _ = _
        rw [(mIn_ok h1).2]
      · exact nomatch h
    · exact nomatch h
  | aaload =>
    have hn : len = 1 := Nat.eq_of_beq_eq_true hlen
    subst hn
    simp only [mMem] at h
    split at h
    · next i a r =>
      split at h
      · next n rs hq =>
        cases h1 : mIn i n with
        | false => rw [h1] at h; exact nomatch h
        | true =>
          rw [h1] at h
          simp only [cond_true] at h
          obtain ⟨x, r1, rfl, h2, hs2⟩ := hs.cons
          obtain ⟨x2, r2, rfl, h3, hs3⟩ := hs2.cons
          have h2 : x = .int (Int32.ofInt i) := h2
          subst h2
          obtain ⟨ad, e0, o1, t0, cA, t, f, t1, t2, t3⟩ := mArr hR hq
          subst t2
          obtain ⟨w, hw, rfl⟩ := id h3
          have hw2 : w = (ad, _) := Option.some.inj (hw.symm.trans o1)
          subst hw2
          split at h
          · next q hq2 =>
            cases h
            obtain ⟨p, p1, p2⟩ := t3 _ _ hq2
            refine va_aldq hx hb hK hP a t o1 t1 (mIn_ok h1).1 hd (K0 rfl _ ⟨⟨p, p1, ?_⟩, hs3⟩)
            rw [(mIn_ok h1).2, p2]
            rfl
          · next hq2 =>
            cases h
            have p2 := t3 _ _ hq2
            refine va_aldq hx hb hK hP a t o1 t1 (mIn_ok h1).1 hd (K0 rfl _ ⟨?_, hs3⟩)
            show _ = _
            rw [(mIn_ok h1).2, p2]
            rfl
          · exact nomatch h
      · exact nomatch h
    · exact nomatch h
  | iastore =>
    have hn : len = 1 := Nat.eq_of_beq_eq_true hlen
    subst hn
    simp only [mMem] at h
    split at h
    · next v i a r =>
      split at h
      · next n rs hq =>
        obtain ⟨h1, hM⟩ := mBlt h
        cases hM
        obtain ⟨x0, r0, rfl, h0, hs1⟩ := hs.cons
        obtain ⟨x, r1, rfl, h2, hs2⟩ := hs1.cons
        obtain ⟨x2, r2, rfl, h3, hs3⟩ := hs2.cons
        have h0 : x0 = .int (Int32.ofInt v) := h0
        have h2 : x = .int (Int32.ofInt i) := h2
        subst h0; subst h2
        obtain ⟨ad, e0, o1, cA, t, t1, t2⟩ := mArr hR hq
        subst t2
        obtain ⟨w, hw, rfl⟩ := id h3
        have hw2 : w = (ad, _) := Option.some.inj (hw.symm.trans o1)
        subst hw2
        refine va_iast hx hb hK hP hD hS a t o1 t1 (mIn_ok h1).1 hd (fun H1 locs1 hP1 hD1 hS1 => ?_)
        refine K1 rfl _ H1 locs1 _ (mExt.set o1 _) ⟨hK, hP1, hD1, ?_⟩ hS1 (hs3.mono (mExt.set o1 _))
        refine mRel.setG hR o1 hq (fun b hb => upG_ne hb) ⟨cA, t, t1, ?_⟩
        rw [mUpd, (mIn_ok h1).2]
      · exact nomatch h
    · exact nomatch h
  | lastore =>
    have hn : len = 1 := Nat.eq_of_beq_eq_true hlen
    subst hn
    simp only [mMem] at h
    split at h
    · next v i a r =>
      split at h
      · next n rs hq =>
        obtain ⟨h1, hM⟩ := mBlt h
        cases hM
        obtain ⟨x0, r0, rfl, h0, hs1⟩ := hs.cons
        obtain ⟨x, r1, rfl, h2, hs2⟩ := hs1.cons
        obtain ⟨x2, r2, rfl, h3, hs3⟩ := hs2.cons
        have h0 : x0 = .long (Int64.ofInt v) := h0
        have h2 : x = .int (Int32.ofInt i) := h2
        subst h0; subst h2
        obtain ⟨ad, e0, o1, cA, t, t1, t2⟩ := mArr hR hq
        subst t2
        obtain ⟨w, hw, rfl⟩ := id h3
        have hw2 : w = (ad, _) := Option.some.inj (hw.symm.trans o1)
        subst hw2
        refine va_last hx hb hK hP hD hS a t o1 t1 (mIn_ok h1).1 hd (fun H1 locs1 hP1 hD1 hS1 => ?_)
        refine K1 rfl _ H1 locs1 _ (mExt.set o1 _) ⟨hK, hP1, hD1, ?_⟩ hS1 (hs3.mono (mExt.set o1 _))
        refine mRel.setG hR o1 hq (fun b hb => upG_ne hb) ⟨cA, t, t1, ?_⟩
        rw [mUpdL, (mIn_ok h1).2]
      · exact nomatch h
    · exact nomatch h
  | dastore =>
    have hn : len = 1 := Nat.eq_of_beq_eq_true hlen
    subst hn
    simp only [mMem] at h
    split at h
    · next v i a r =>
      split at h
      · next n rs hq =>
        obtain ⟨h1, hM⟩ := mBlt h
        cases hM
        obtain ⟨x0, r0, rfl, h0, hs1⟩ := hs.cons
        obtain ⟨x, r1, rfl, h2, hs2⟩ := hs1.cons
        obtain ⟨x2, r2, rfl, h3, hs3⟩ := hs2.cons
        have h0 : x0 = .double v := h0
        have h2 : x = .int (Int32.ofInt i) := h2
        subst h0; subst h2
        obtain ⟨ad, e0, o1, cA, t, t1, t2⟩ := mArr hR hq
        subst t2
        obtain ⟨w, hw, rfl⟩ := id h3
        have hw2 : w = (ad, _) := Option.some.inj (hw.symm.trans o1)
        subst hw2
        refine va_dast hx hb hK hP hD hS a t o1 t1 (mIn_ok h1).1 hd (fun H1 locs1 hP1 hD1 hS1 => ?_)
        refine K1 rfl _ H1 locs1 _ (mExt.set o1 _) ⟨hK, hP1, hD1, ?_⟩ hS1 (hs3.mono (mExt.set o1 _))
        refine mRel.setG hR o1 hq (fun b hb => upG_ne hb) ⟨cA, t, t1, ?_⟩
        rw [mUpdD, (mIn_ok h1).2]
      · exact nomatch h
    · exact nomatch h
  | aastore =>
    have hn : len = 1 := Nat.eq_of_beq_eq_true hlen
    subst hn
    have hi1 : i1 = 7 := Nat.eq_of_beq_eq_true hsd
    subst hi1
    simp only [mMem] at h
    split at h
    · next v i a r =>
      split at h
      · next n rs qq hq hq2 =>
        obtain ⟨h1, hM⟩ := mBlt h
        cases hM
        rw [Bool.and_eq_true] at h1
        obtain ⟨h1, h1b⟩ := h1
        have h1b := Nat.eq_of_beq_eq_true h1b
        obtain ⟨x0, r0, rfl, h0, hs1⟩ := hs.cons
        obtain ⟨x, r1, rfl, h2, hs2⟩ := hs1.cons
        obtain ⟨x2, r2, rfl, h3, hs3⟩ := hs2.cons
        have h2 : x = .int (Int32.ofInt i) := h2
        subst h2
        obtain ⟨ad, e0, o1, t0, cA, t, f, t1, t2, t3⟩ := mArr hR hq
        subst t2
        obtain ⟨w, hw, rfl⟩ := id h3
        have hw2 : w = (ad, _) := Option.some.inj (hw.symm.trans o1)
        subst hw2
        obtain ⟨adv, fsv, v1, v2, v3⟩ := mObj hR hq2
        obtain ⟨w, hw3, rfl⟩ := id h0
        have hw4 : w = (adv, _) := Option.some.inj (hw3.symm.trans v1)
        subst hw4
        refine va_astq hx hb hK hP hD hS a t v 7 (r := (RX7, TX7, 17)) o1 t1 (by rw [← h1b]; exact v1) rfl (mIn_ok h1).1 hd (fun H1 locs1 hP1 hD1 hS1 => ?_)
        refine K1 rfl _ H1 locs1 _ (mExt.set o1 _) ⟨hK, hP1, hD1, ?_⟩ hS1 (hs3.mono (mExt.set o1 _))
        refine mRel.set (G' := M.2.1) (nk := M.2.2) hR o1 (fun b hb => rfl) ⟨by simp [t0], cA, t, _, t1, rfl, fun j r hr => ?_⟩
        rw [(mIn_ok h1).2]
        by_cases hj : j = mIx i
        · subst hj
          rw [List.getElem?_set_self (by
            have h5 : 0 ≤ w32 i ∧ w32 i < (n : Int) := of_decide_eq_true h1
            rw [t0]
            unfold mIx
            omega)] at hr
          cases hr
          obtain ⟨e5, h5⟩ := mExt.set o1 (.inl (cA, (n, .inr (.inr (.inr (.inr (va_up f (mIx i) (some adv)))))))) v _ v1
          exact ⟨_, h5, by simp [va_up]⟩
        · rw [List.getElem?_set_ne (Ne.symm hj)] at hr
          have h6 := t3 j r hr
          match r, h6 with
          | none, h6 => simpa [va_up, hj] using h6
          | some q, ⟨p, h7, h8⟩ =>
            obtain ⟨e5, h5⟩ := mExt.set o1 (.inl (cA, (n, .inr (.inr (.inr (.inr (va_up f (mIx i) (some adv)))))))) q p h7
            exact ⟨_, h5, by simpa [va_up, hj] using h8⟩
      · exact nomatch h
    · exact nomatch h
  | arraylength =>
    have hn : len = 1 := Nat.eq_of_beq_eq_true hlen
    subst hn
    simp only [mMem] at h
    split at h
    · next a r =>
      split at h
      · next kd n rs hq =>
        cases h
        obtain ⟨x2, r2, rfl, h3, hs3⟩ := hs.cons
        obtain ⟨ad, e0, o1, hcl⟩ := mArr hR hq
        obtain ⟨w, hw, rfl⟩ := id h3
        have hw2 : w = (ad, _) := Option.some.inj (hw.symm.trans o1)
        subst hw2
        match kd, hcl with
        | 0, ⟨cA, t, t1, t2⟩ =>
          subst t2
          exact va_alen hx hb hK hP a t o1 t1 (oi_nat n).symm hd (K0 rfl _ ⟨rfl, hs3⟩)
        | 1, ⟨cA, t, t1, t2⟩ =>
          subst t2
          exact va_alen hx hb hK hP a t o1 t1 (oi_nat n).symm hd (K0 rfl _ ⟨rfl, hs3⟩)
        | 2, ⟨cA, t, t1, t2⟩ =>
          subst t2
          exact va_alen hx hb hK hP a t o1 t1 (oi_nat n).symm hd (K0 rfl _ ⟨rfl, hs3⟩)
        | 3, ⟨_, cA, t, f, t1, t2, _⟩ =>
          subst t2
          exact va_alen hx hb hK hP a t o1 t1 (oi_nat n).symm hd (K0 rfl _ ⟨rfl, hs3⟩)
        | _ + 4, hcl => exact hcl.elim
      · exact nomatch h
    · next b r =>
      obtain ⟨h1, hM⟩ := mBlt h
      cases hM
      have hq := Nat.eq_of_beq_eq_true h1
      subst hq
      obtain ⟨x2, r2, rfl, h3, hs3⟩ := hs.cons
      have h3 : x2 = .ref scr.1 := h3
      subst h3
      refine va_slen hx hb hX hbl hbA hS hd (K0 rfl _ ⟨?_, hs3⟩)
      show _ = _
      rw [oi_nat]
    · exact nomatch h
  | newarray ty =>
    have hn : len = 2 := Nat.eq_of_beq_eq_true hlen
    subst hn
    simp only [mMem] at h
    split at h
    · next z r =>
      cases h1 : mIn z 8192 with
      | false => rw [h1] at h; exact nomatch h
      | true =>
        rw [h1] at h
        simp only [cond_true] at h
        have h5 : 0 ≤ w32 z ∧ w32 z < ((8192 : Nat) : Int) := of_decide_eq_true h1
        have h6 : ¬ Int32.ofInt z < 0 := by
          have z0 : (0 : Int32) = Int32.ofInt 0 := rfl
          rw [z0, oi_lt]
          have : w32 0 = 0 := rfl
          omega
        have h7 : mIx z ≤ 8192 := by unfold mIx; omega
        obtain ⟨x, r1, rfl, h2, hs2⟩ := hs.cons
        have h2 : x = .int (Int32.ofInt z) := h2
        subst h2
        split at h
        · cases h
          have e1 : M.2.2.1 + 1 - M.2.2.1 = 1 := by omega
          have e2 : M.2.2.2 + mIx z - M.2.2.2 = mIx z := by omega
          have hrc : cells + (M.2.2.1 + 1 - M.2.2.1) ≤ R.cells := hrc
          have hrs : slots + (M.2.2.2 + mIx z - M.2.2.2) ≤ R.slots := hrs
          rw [e1] at hrc
          rw [e2] at hrs
          refine va_newa (atype := .int) (ty := .int) (N' := mIx z) (a0 := (mIx z, .inl (fun _ => 0))) hx hb (hts _ mWarr.1) rfl hK hP hD hS hA (fun cA => rfl) h6 rfl (by show mIx z * 4 ≤ _; omega) hrc hrs hd (fun q cA H1 hK1 hP1 hD1 hS1 => ?_)
          have K2 := K (ws ++ [(q, .inl (cA, (mIx z, .inl (fun _ => 0))))]) (tys ++ [(cA, .int)]) H1 locs (.ref q :: r1) (mExt.app ws _) ⟨hK1, hP1, hD1, ?_⟩ hS1 ⟨⟨(q, _), mTop hR.1, rfl⟩, hs2.mono (mExt.app ws _)⟩
          · have K2 : W p l e R s m args below meth c H1 locs (cells + (M.2.2.1 + 1 - M.2.2.1)) (slots + (M.2.2.2 + mIx z - M.2.2.2)) Q (F0 m (pc + 2) ls (.ref q :: r1)) := K2
            rw [e1, e2] at K2
            exact K2
          · refine mRel.push hR (mTyp.app tys _) ⟨cA, tys.length, by simp, ?_⟩
            rw [upG_eq]
            rfl
        · cases h
          have e1 : M.2.2.1 + 1 - M.2.2.1 = 1 := by omega
          have e2 : M.2.2.2 + mIx z - M.2.2.2 = mIx z := by omega
          have hrc : cells + (M.2.2.1 + 1 - M.2.2.1) ≤ R.cells := hrc
          have hrs : slots + (M.2.2.2 + mIx z - M.2.2.2) ≤ R.slots := hrs
          rw [e1] at hrc
          rw [e2] at hrs
          refine va_newa (atype := .long) (ty := .long) (N' := mIx z) (a0 := (mIx z, .inr (.inl (fun _ => 0)))) hx hb (hts _ mWarr.2.1) rfl hK hP hD hS hA (fun cA => rfl) h6 rfl (by show mIx z * 8 ≤ _; omega) hrc hrs hd (fun q cA H1 hK1 hP1 hD1 hS1 => ?_)
          have K2 := K (ws ++ [(q, .inl (cA, (mIx z, .inr (.inl (fun _ => 0)))))]) (tys ++ [(cA, .long)]) H1 locs (.ref q :: r1) (mExt.app ws _) ⟨hK1, hP1, hD1, ?_⟩ hS1 ⟨⟨(q, _), mTop hR.1, rfl⟩, hs2.mono (mExt.app ws _)⟩
          · have K2 : W p l e R s m args below meth c H1 locs (cells + (M.2.2.1 + 1 - M.2.2.1)) (slots + (M.2.2.2 + mIx z - M.2.2.2)) Q (F0 m (pc + 2) ls (.ref q :: r1)) := K2
            rw [e1, e2] at K2
            exact K2
          · refine mRel.push hR (mTyp.app tys _) ⟨cA, tys.length, by simp, ?_⟩
            rw [upG_eq]
            rfl
        · cases h
          have e1 : M.2.2.1 + 1 - M.2.2.1 = 1 := by omega
          have e2 : M.2.2.2 + mIx z - M.2.2.2 = mIx z := by omega
          have hrc : cells + (M.2.2.1 + 1 - M.2.2.1) ≤ R.cells := hrc
          have hrs : slots + (M.2.2.2 + mIx z - M.2.2.2) ≤ R.slots := hrs
          rw [e1] at hrc
          rw [e2] at hrs
          refine va_newa (atype := .double) (ty := .double) (N' := mIx z) (a0 := (mIx z, .inr (.inr (.inr (.inl (fun _ => 0)))))) hx hb (hts _ mWarr.2.2) rfl hK hP hD hS hA (fun cA => rfl) h6 rfl (by show mIx z * 8 ≤ _; omega) hrc hrs hd (fun q cA H1 hK1 hP1 hD1 hS1 => ?_)
          have K2 := K (ws ++ [(q, .inl (cA, (mIx z, .inr (.inr (.inr (.inl (fun _ => 0)))))))]) (tys ++ [(cA, .double)]) H1 locs (.ref q :: r1) (mExt.app ws _) ⟨hK1, hP1, hD1, ?_⟩ hS1 ⟨⟨(q, _), mTop hR.1, rfl⟩, hs2.mono (mExt.app ws _)⟩
          · have K2 : W p l e R s m args below meth c H1 locs (cells + (M.2.2.1 + 1 - M.2.2.1)) (slots + (M.2.2.2 + mIx z - M.2.2.2)) Q (F0 m (pc + 2) ls (.ref q :: r1)) := K2
            rw [e1, e2] at K2
            exact K2
          · refine mRel.push hR (mTyp.app tys _) ⟨cA, tys.length, by simp, ?_⟩
            rw [upG_eq]
            rfl
        · exact nomatch h
    · exact nomatch h
  | anewarray i =>
    have hn : len = 3 := Nat.eq_of_beq_eq_true hlen
    subst hn
    have hsd2 : i1 = 7 ∧ (i, i1) ∈ mPoolC o := by
      have h9 : (Nat.beq i1 7 && decide ((i, i1) ∈ mPoolC o)) = true := hsd
      rw [Bool.and_eq_true] at h9
      exact ⟨Nat.eq_of_beq_eq_true h9.1, of_decide_eq_true h9.2⟩
    obtain ⟨hi1, hpc⟩ := hsd2
    subst hi1
    obtain ⟨⟨C, T, N⟩, f1, f2, f3, f4⟩ := mC_ok o _ hpc
    have f1 : some (RX7, TX7, 17) = some (C, T, N) := f1
    cases f1
    simp only [mMem] at h
    split at h
    · next z r =>
      obtain ⟨h1, hM⟩ := mBlt h
      cases hM
      have h5 : 0 ≤ w32 z ∧ w32 z < ((8192 : Nat) : Int) := of_decide_eq_true h1
      have h6 : ¬ Int32.ofInt z < 0 := by
        have z0 : (0 : Int32) = Int32.ofInt 0 := rfl
        rw [z0, oi_lt]
        have : w32 0 = 0 := rfl
        omega
      have h7 : mIx z ≤ 8192 := by unfold mIx; omega
      obtain ⟨x, r1, rfl, h2, hs2⟩ := hs.cons
      have h2 : x = .int (Int32.ofInt z) := h2
      subst h2
      have e1 : M.2.2.1 + 1 - M.2.2.1 = 1 := by omega
      have e2 : M.2.2.2 + mIx z - M.2.2.2 = mIx z := by omega
      have hrc : cells + (M.2.2.1 + 1 - M.2.2.1) ≤ R.cells := hrc
      have hrs : slots + (M.2.2.2 + mIx z - M.2.2.2) ≤ R.slots := hrs
      rw [e1] at hrc
      rw [e2] at hrs
      refine va_newq hx hb hown (hts _ f2) hAO hK hP hD hS hA h6 rfl (by show mIx z * 4 ≤ _; omega) hrc hrs hd (fun q cA H1 hK1 hP1 hD1 hS1 => ?_)
      have K2 := K (ws ++ [(q, .inl (cA, (mIx z, .inr (.inr (.inr (.inr (fun _ => none)))))))]) (tys ++ [(cA, .object "JobWorkshop$Shop")]) H1 locs (.ref q :: r1) (mExt.app ws _) ⟨hK1, hP1, hD1, ?_⟩ hS1 ⟨⟨(q, _), mTop hR.1, rfl⟩, hs2.mono (mExt.app ws _)⟩
      · have K2 : W p l e R s m args below meth c H1 locs (cells + (M.2.2.1 + 1 - M.2.2.1)) (slots + (M.2.2.2 + mIx z - M.2.2.2)) Q (F0 m (pc + 3) ls (.ref q :: r1)) := K2
        rw [e1, e2] at K2
        exact K2
      · refine mRel.push hR (mTyp.app tys _) ⟨by simp, cA, tys.length, fun _ => none, by simp, rfl, fun j r hr => ?_⟩
        have h8 := List.eq_of_mem_replicate (List.mem_of_getElem? hr)
        subst h8
        rfl
    · exact nomatch h
  | _ => exact nomatch h
end MM
