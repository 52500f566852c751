/-! ===== one step on locals, stack and pc alone: the case of each instruction ===== -/
theorem mEnt_dec {cc : ByteArray} {o nL pc len i1 i2 i3 : Nat} {ini : Bool} {ins : Instr} (h : mEnt cc o ini nL (pc, (ins, (len, (i1, (i2, i3))))) = true) : decode cc pc = .ok (ins, len) ∧ mLen ins len = true ∧ mSide o ini nL (pc, (ins, (len, (i1, (i2, i3))))) = true ∧ mCalls (pc, (ins, (len, (i1, (i2, i3))))) = true ∧ mThr cc (pc, (ins, (len, (i1, (i2, i3))))) = true := by
  unfold mEnt mDec at h
  simp only [Bool.and_eq_true, decide_eq_true_eq] at h
  exact ⟨h.1.1, h.1.2, h.2.1, h.2.2.1, h.2.2.2⟩
theorem oi_l (a : Int) : (Int32.ofInt a).toInt64 = Int64.ofInt (w32 a) := by
  unfold w32
  generalize Int32.ofInt a = x
  simp
theorem n64_ok {r : UInt64} (h : n64 r = true) : vf_n64 r := by
  unfold n64 at h
  have h2 := of_decide_eq_true h
  exact h2
theorem n32_ok {r : UInt32} (h : n32 r = true) : vf_n32 r := by
  unfold n32 at h
  have h2 := of_decide_eq_true h
  exact h2
section MT
variable {p : Program} {l : Launch} {e : Env} {R : Room} {s : State} {m : MethodId} {args : Array Value} {below : List Frame} {meth : Method} {c : Code} {H : Heap} {locs : List Loc} {cells slots : Nat} {Q : State → Prop}
variable {cc : ByteArray} {pc : Nat} {ls : Array Slot} {ws : va_W} {lA : mL} {stA : List mV} {st : List Value} {q : mL × List mV}
set_option maxHeartbeats 4000000 in
theorem mT_pure (hx : p.tables.exec = Jvm.exec) (hb : c.code = cc) {o nL len i1 i2 i3 : Nat} {ini : Bool} {ins : Instr} (hown : s.vm.findClass (mOwn o) = some m.cls) (hts : ∀ w ∈ TG, w.before args s = true) (hc : mEnt cc o ini nL (pc, (ins, (len, (i1, (i2, i3))))) = true)
    (h : mPure ins i1 lA stA = some q) (hl : mLocR ws lA ls) (hs : strel ws stA st) (K : ∀ ls' st', mLocR ws q.1 ls' → strel ws q.2 st' → W p l e R s m args below meth c H locs cells slots Q (F0 m (pc + len) ls' st')) : W p l e R s m args below meth c H locs cells slots Q (F0 m pc ls st) := by
  obtain ⟨hd, hlen, hsd, -, -⟩ := mEnt_dec hc
  cases ins with
  | iconst n =>
    have hn : len = 1 := Nat.eq_of_beq_eq_true hlen
    subst hn
    cases h
    exact lv_iconst hx hb hd rfl (K ls _ hl ⟨rfl, hs⟩)
  | bipush n =>
    have hn : len = 2 := Nat.eq_of_beq_eq_true hlen
    subst hn
    cases h
    have h8 := of_decide_eq_true hsd
    exact lv_bipush hx hb hd (oi_8 h8) (K ls _ hl ⟨rfl, hs⟩)
  | sipush n =>
    have hn : len = 3 := Nat.eq_of_beq_eq_true hlen
    subst hn
    cases h
    have h8 := of_decide_eq_true hsd
    exact lv_sipush hx hb hd (oi_16 h8) (K ls _ hl ⟨rfl, hs⟩)
  | ldc i =>
    have hn : len = 2 := Nat.eq_of_beq_eq_true hlen
    subst hn
    cases h
    have h8 : (i, i1) ∈ mPoolK o := of_decide_eq_true hsd
    exact lv_ldc hx hb hown (hts _ (mK_ok o _ h8)) hd (K ls _ hl ⟨rfl, hs⟩)
  | ldc_w i =>
    have hn : len = 3 := Nat.eq_of_beq_eq_true hlen
    subst hn
    cases h
    have h8 : (i, i1) ∈ mPoolK o := of_decide_eq_true hsd
    exact lv_ldcw hx hb hown (hts _ (mK_ok o _ h8)) hd (K ls _ hl ⟨rfl, hs⟩)
  | ldc2_w i =>
    have hn : len = 3 := Nat.eq_of_beq_eq_true hlen
    subst hn
    cases h
    have h8 : (i, i1) ∈ mPoolL o := of_decide_eq_true hsd
    exact lv_ldc2 hx hb hown (hts _ (mL_ok o _ h8)) hd (K ls _ hl ⟨rfl, hs⟩)
  | lconst n =>
    have hn : len = 1 := Nat.eq_of_beq_eq_true hlen
    subst hn
    cases h
    exact lv_lconst hx hb hd rfl (K ls _ hl ⟨congrArg Value.long (oi_natL n).symm, hs⟩)
  | fconst n =>
    have hn : len = 1 := Nat.eq_of_beq_eq_true hlen
    subst hn
    cases h
    have h8 : n = 0 := of_decide_eq_true hsd
    subst h8
    exact lv_fconst0 hx hb hd (K ls _ hl ⟨rfl, hs⟩)
  | dconst n =>
    have hn : len = 1 := Nat.eq_of_beq_eq_true hlen
    subst hn
    cases h
    have h8 : n = 0 := of_decide_eq_true hsd
    subst h8
    exact lv_dconst0 hx hb hd (K ls _ hl ⟨rfl, hs⟩)
  | aconst_null =>
    have hn : len = 1 := Nat.eq_of_beq_eq_true hlen
    subst hn
    cases h
    exact lv_null hx hb hd (K ls _ hl ⟨rfl, hs⟩)
  | iload_n k =>
    have hn : len = 1 := Nat.eq_of_beq_eq_true hlen
    subst hn
    exact mT_ldI (i := k) (n := 1) (fun x h1 k1 => lv_iload_n hx hb hd rfl h1 k1) h hl hs K
  | iload i =>
    have hn : len = 2 := Nat.eq_of_beq_eq_true hlen
    subst hn
    exact mT_ldI (i := i) (n := 2) (fun x h1 k1 => lv_iload hx hb hd h1 k1) h hl hs K
  | lload_n k =>
    have hn : len = 1 := Nat.eq_of_beq_eq_true hlen
    subst hn
    exact mT_ldL (i := k) (n := 1) (fun x h1 k1 => lv_lload_n hx hb hd rfl h1 k1) h hl hs K
  | lload i =>
    have hn : len = 2 := Nat.eq_of_beq_eq_true hlen
    subst hn
    exact mT_ldL (i := i) (n := 2) (fun x h1 k1 => lv_lload hx hb hd h1 k1) h hl hs K
  | aload_n k =>
    have hn : len = 1 := Nat.eq_of_beq_eq_true hlen
    subst hn
    exact mT_ldA (i := k) (n := 1) (fun x h1 k1 => lv_aload_n hx hb hd rfl h1 k1) (fun h1 k1 => lv_aload_nN hx hb hd rfl h1 k1) h hl hs K
  | aload i =>
    have hn : len = 2 := Nat.eq_of_beq_eq_true hlen
    subst hn
    exact mT_ldA (i := i) (n := 2) (fun x h1 k1 => lv_aload hx hb hd h1 k1) (fun h1 k1 => lv_aloadN hx hb hd h1 k1) h hl hs K
  | fload i =>
    have hn : len = 2 := Nat.eq_of_beq_eq_true hlen
    subst hn
    exact mT_ldF (i := i) (n := 2) (fun x h1 k1 => lv_fload hx hb hd h1 k1) h hl hs K
  | dload i =>
    have hn : len = 2 := Nat.eq_of_beq_eq_true hlen
    subst hn
    exact mT_ldD (i := i) (n := 2) (fun x h1 k1 => lv_dload hx hb hd h1 k1) h hl hs K
  | istore_n k =>
    have hn : len = 1 := Nat.eq_of_beq_eq_true hlen
    subst hn
    exact mT_stI (i := k) (n := 1) (fun x r h1 k1 => lv_istore_n hx hb hd rfl (lvFull_has hl.2.1) h1 rfl k1) h hl hs K
  | istore i =>
    have hn : len = 2 := Nat.eq_of_beq_eq_true hlen
    subst hn
    exact mT_stI (i := i) (n := 2) (fun x r h1 k1 => lv_istore hx hb hd (lvFull_has hl.2.1) h1 rfl k1) h hl hs K
  | lstore i =>
    have hn : len = 2 := Nat.eq_of_beq_eq_true hlen
    subst hn
    exact mT_stL (i := i) (n := 2) (fun x r h1 k1 => lv_lstore hx hb hd (lvFull_has hl.2.1) h1 rfl k1) h hl hs K
  | astore_n k =>
    have hn : len = 1 := Nat.eq_of_beq_eq_true hlen
    subst hn
    exact mT_stA (i := k) (n := 1) (fun x r h1 k1 => lv_astore_n hx hb hd rfl (lvFull_has hl.2.1) h1 rfl k1) (fun r h1 k1 => lv_astore_nN hx hb hd rfl (lvFull_has hl.2.1) h1 rfl k1) h hl hs K
  | astore i =>
    have hn : len = 2 := Nat.eq_of_beq_eq_true hlen
    subst hn
    exact mT_stA (i := i) (n := 2) (fun x r h1 k1 => lv_astore hx hb hd (lvFull_has hl.2.1) h1 rfl k1) (fun r h1 k1 => lv_astoreN hx hb hd (lvFull_has hl.2.1) h1 rfl k1) h hl hs K
  | fstore i =>
    have hn : len = 2 := Nat.eq_of_beq_eq_true hlen
    subst hn
    exact mT_stF (i := i) (n := 2) (fun x r h1 k1 => lv_fstore hx hb hd (lvFull_has hl.2.1) h1 rfl k1) h hl hs K
  | dstore i =>
    have hn : len = 2 := Nat.eq_of_beq_eq_true hlen
    subst hn
    exact mT_stD (i := i) (n := 2) (fun x r h1 k1 => lv_dstore hx hb hd (lvFull_has hl.2.1) h1 rfl k1) h hl hs K
  | iinc i n =>
    have hn : len = 3 := Nat.eq_of_beq_eq_true hlen
    subst hn
    simp only [mPure] at h
    split at h
    · next z hz =>
      cases h
      obtain ⟨x, h3, h4⟩ := hl.2.2 i _ hz
      have h5 : x = .int (Int32.ofInt z) := h3
      subst h5
      obtain ⟨k, hk⟩ := List.getElem?_of_mem (lvFull_mem.mpr h4)
      exact lv_iinc hx hb hd (lvFull_has hl.2.1) hk (Int32.ofInt_add z n).symm (Array.getElem?_eq_some_iff.mp h4).1 rfl (fun ls' h6 => K ls' _ (hl.st1 (v := .inl (z + n)) rfl h6) hs)
    · exact nomatch h
  | iadd =>
    have hn : len = 1 := Nat.eq_of_beq_eq_true hlen
    subst hn
    exact mT_bin (fun a b => Int32.ofInt_add a b) (fun x y r k1 => lv_iadd hx hb hd k1) h hl hs K
  | isub =>
    have hn : len = 1 := Nat.eq_of_beq_eq_true hlen
    subst hn
    exact mT_bin (fun a b => Int32.ofInt_sub a b) (fun x y r k1 => lv_isub hx hb hd k1) h hl hs K
  | imul =>
    have hn : len = 1 := Nat.eq_of_beq_eq_true hlen
    subst hn
    exact mT_bin (fun a b => Int32.ofInt_mul a b) (fun x y r k1 => lv_imul hx hb hd k1) h hl hs K
  | iand =>
    have hn : len = 1 := Nat.eq_of_beq_eq_true hlen
    subst hn
    exact mT_bin (fun a b => Int32.ofInt_toInt _) (fun x y r k1 => lv_iand hx hb hd k1) h hl hs K
  | ior =>
    have hn : len = 1 := Nat.eq_of_beq_eq_true hlen
    subst hn
    exact mT_bin (fun a b => Int32.ofInt_toInt _) (fun x y r k1 => lv_ior hx hb hd k1) h hl hs K
  | ixor =>
    have hn : len = 1 := Nat.eq_of_beq_eq_true hlen
    subst hn
    exact mT_bin (fun a b => Int32.ofInt_toInt _) (fun x y r k1 => lv_ixor hx hb hd k1) h hl hs K
  | ishl =>
    have hn : len = 1 := Nat.eq_of_beq_eq_true hlen
    subst hn
    exact mT_bin (fun a b => Int32.ofInt_toInt _) (fun x y r k1 => lv_ishl hx hb hd k1) h hl hs K
  | ishr =>
    have hn : len = 1 := Nat.eq_of_beq_eq_true hlen
    subst hn
    exact mT_bin (fun a b => Int32.ofInt_toInt _) (fun x y r k1 => lv_ishr hx hb hd k1) h hl hs K
  | iushr =>
    have hn : len = 1 := Nat.eq_of_beq_eq_true hlen
    subst hn
    exact mT_bin (g := fun x y => (x.toUInt32 >>> (y.toUInt32 &&& Int32.toUInt32 31)).toInt32) (fun a b => Int32.ofInt_toInt _) (fun x y r k1 => lv_iushr hx hb hd rfl k1) h hl hs K
  | idiv =>
    have hn : len = 1 := Nat.eq_of_beq_eq_true hlen
    subst hn
    exact mT_binD oi_div (fun x y r h0 k1 => lv_idiv hx hb hd h0 k1) h hl hs K
  | irem =>
    have hn : len = 1 := Nat.eq_of_beq_eq_true hlen
    subst hn
    exact mT_binD (g := fun x y => x - x / y * y) oi_rem (fun x y r h0 k1 => lv_irem hx hb hd h0 k1) h hl hs K
  | ineg =>
    have hn : len = 1 := Nat.eq_of_beq_eq_true hlen
    subst hn
    simp only [mPure] at h
    split at h
    · next a r =>
      cases h
      obtain ⟨x, r1, rfl, h2, hs2⟩ := hs.cons
      have h3 : x = .int (Int32.ofInt a) := h2
      subst h3
      exact lv_ineg hx hb hd (K ls _ hl ⟨congrArg Value.int (Int32.ofInt_neg a).symm, hs2⟩)
    · exact nomatch h
  | ladd =>
    have hn : len = 1 := Nat.eq_of_beq_eq_true hlen
    subst hn
    exact mT_binL (fun a b => Int64.ofInt_add a b) (fun x y r k1 => lv_ladd hx hb hd k1) h hl hs K
  | lmul =>
    have hn : len = 1 := Nat.eq_of_beq_eq_true hlen
    subst hn
    exact mT_binL (fun a b => Int64.ofInt_mul a b) (fun x y r k1 => lv_lmul hx hb hd k1) h hl hs K
  | land =>
    have hn : len = 1 := Nat.eq_of_beq_eq_true hlen
    subst hn
    exact mT_binL (fun a b => Int64.ofInt_toInt _) (fun x y r k1 => lv_land hx hb hd k1) h hl hs K
  | lor =>
    have hn : len = 1 := Nat.eq_of_beq_eq_true hlen
    subst hn
    exact mT_binL (fun a b => Int64.ofInt_toInt _) (fun x y r k1 => lv_lor hx hb hd k1) h hl hs K
  | ldiv =>
    have hn : len = 1 := Nat.eq_of_beq_eq_true hlen
    subst hn
    exact mT_binLD oi_divL (fun x y r h0 k1 => lv_ldiv hx hb hd h0 k1) h hl hs K
  | lrem =>
    have hn : len = 1 := Nat.eq_of_beq_eq_true hlen
    subst hn
    exact mT_binLD (g := fun x y => x - x / y * y) oi_remL (fun x y r h0 k1 => lv_lrem hx hb hd h0 k1) h hl hs K
  | lshl =>
    have hn : len = 1 := Nat.eq_of_beq_eq_true hlen
    subst hn
    simp only [mPure] at h
    split at h
    · next b a r =>
      cases h
      obtain ⟨x, r1, rfl, h2, hs2⟩ := hs.cons
      obtain ⟨y, r2, rfl, h4, hs3⟩ := hs2.cons
      have h3 : x = .int (Int32.ofInt b) := h2
      have h5 : y = .long (Int64.ofInt a) := h4
      subst h3; subst h5
      exact lv_lshl hx hb hd rfl (K ls _ hl ⟨congrArg Value.long (Int64.ofInt_toInt _).symm, hs3⟩)
    · exact nomatch h
  | lcmp =>
    have hn : len = 1 := Nat.eq_of_beq_eq_true hlen
    subst hn
    simp only [mPure] at h
    split at h
    · next b a r =>
      cases h
      obtain ⟨x, r1, rfl, h2, hs2⟩ := hs.cons
      obtain ⟨y, r2, rfl, h4, hs3⟩ := hs2.cons
      have h3 : x = .long (Int64.ofInt b) := h2
      have h5 : y = .long (Int64.ofInt a) := h4
      subst h3; subst h5
      exact W.lcmp hx hb hd (K ls _ hl ⟨congrArg Value.int (oi_cmp a b).symm, hs3⟩)
    · exact nomatch h
  | i2l =>
    have hn : len = 1 := Nat.eq_of_beq_eq_true hlen
    subst hn
    simp only [mPure] at h
    split at h
    · next a r =>
      cases h
      obtain ⟨x, r1, rfl, h2, hs2⟩ := hs.cons
      have h3 : x = .int (Int32.ofInt a) := h2
      subst h3
      exact lv_i2l hx hb hd (oi_l a) (K ls _ hl ⟨rfl, hs2⟩)
    · exact nomatch h
  | l2i =>
    have hn : len = 1 := Nat.eq_of_beq_eq_true hlen
    subst hn
    simp only [mPure] at h
    split at h
    · next a r =>
      cases h
      obtain ⟨x, r1, rfl, h2, hs2⟩ := hs.cons
      have h3 : x = .long (Int64.ofInt a) := h2
      subst h3
      exact lv_l2i hx hb hd (by simp) (K ls _ hl ⟨rfl, hs2⟩)
    · exact nomatch h
  | i2d =>
    have hn : len = 1 := Nat.eq_of_beq_eq_true hlen
    subst hn
    simp only [mPure] at h
    split at h
    · next a r =>
      cases h
      obtain ⟨x, r1, rfl, h2, hs2⟩ := hs.cons
      have h3 : x = .int (Int32.ofInt a) := h2
      subst h3
      exact lv_i2d hx hb hd (K ls _ hl ⟨rfl, hs2⟩)
    · exact nomatch h
  | i2f =>
    have hn : len = 1 := Nat.eq_of_beq_eq_true hlen
    subst hn
    simp only [mPure] at h
    split at h
    · next a r =>
      cases h
      obtain ⟨x, r1, rfl, h2, hs2⟩ := hs.cons
      have h3 : x = .int (Int32.ofInt a) := h2
      subst h3
      exact lv_i2f hx hb hd (K ls _ hl ⟨rfl, hs2⟩)
    · exact nomatch h
  | f2d =>
    have hn : len = 1 := Nat.eq_of_beq_eq_true hlen
    subst hn
    simp only [mPure] at h
    split at h
    · next a r =>
      obtain ⟨h9, rfl⟩ := mBlt h
      obtain ⟨x, r1, rfl, h2, hs2⟩ := hs.cons
      have h3 : x = .float a := h2
      subst h3
      exact lv_f2d hx hb hd (n64_ok h9) (K ls _ hl ⟨rfl, hs2⟩)
    · exact nomatch h
  | ddiv =>
    have hn : len = 1 := Nat.eq_of_beq_eq_true hlen
    subst hn
    simp only [mPure] at h
    split at h
    · next b a r =>
      obtain ⟨h9, rfl⟩ := mBlt h
      obtain ⟨x, r1, rfl, h2, hs2⟩ := hs.cons
      obtain ⟨y, r2, rfl, h4, hs3⟩ := hs2.cons
      have h3 : x = .double b := h2
      have h5 : y = .double a := h4
      subst h3; subst h5
      exact lv_ddiv hx hb hd (n64_ok h9) (K ls _ hl ⟨rfl, hs3⟩)
    · exact nomatch h
  | fdiv =>
    have hn : len = 1 := Nat.eq_of_beq_eq_true hlen
    subst hn
    simp only [mPure] at h
    split at h
    · next b a r =>
      obtain ⟨h9, rfl⟩ := mBlt h
      obtain ⟨x, r1, rfl, h2, hs2⟩ := hs.cons
      obtain ⟨y, r2, rfl, h4, hs3⟩ := hs2.cons
      have h3 : x = .float b := h2
      have h5 : y = .float a := h4
      subst h3; subst h5
      exact lv_fdiv hx hb hd (n32_ok h9) (K ls _ hl ⟨rfl, hs3⟩)
    · exact nomatch h
  | dcmp op =>
    have hn : len = 1 := Nat.eq_of_beq_eq_true hlen
    subst hn
    simp only [mPure] at h
    split at h
    · next b a r =>
      cases h
      obtain ⟨x, r1, rfl, h2, hs2⟩ := hs.cons
      obtain ⟨y, r2, rfl, h4, hs3⟩ := hs2.cons
      have h3 : x = .double b := h2
      have h5 : y = .double a := h4
      subst h3; subst h5
      exact lv_dcmp hx hb hd (K ls _ hl ⟨congrArg Value.int (Int32.ofInt_toInt _).symm, hs3⟩)
    · exact nomatch h
  | fcmp op =>
    have hn : len = 1 := Nat.eq_of_beq_eq_true hlen
    subst hn
    simp only [mPure] at h
    split at h
    · next b a r =>
      cases h
      obtain ⟨x, r1, rfl, h2, hs2⟩ := hs.cons
      obtain ⟨y, r2, rfl, h4, hs3⟩ := hs2.cons
      have h3 : x = .float b := h2
      have h5 : y = .float a := h4
      subst h3; subst h5
      exact lv_fcmp hx hb hd (K ls _ hl ⟨congrArg Value.int (Int32.ofInt_toInt _).symm, hs3⟩)
    · exact nomatch h
  | dup =>
    have hn : len = 1 := Nat.eq_of_beq_eq_true hlen
    subst hn
    simp only [mPure] at h
    split at h
    · next v r =>
      split at h
      · next hv =>
        cases h
        obtain ⟨x, r1, rfl, h2, hs2⟩ := hs.cons
        exact lv_dup hx hb hd (h2.cat.trans hv) (K ls _ hl ⟨h2, h2, hs2⟩)
      · exact nomatch h
    · exact nomatch h
  | pop =>
    have hn : len = 1 := Nat.eq_of_beq_eq_true hlen
    subst hn
    simp only [mPure] at h
    split at h
    · next v r =>
      split at h
      · next hv =>
        cases h
        obtain ⟨x, r1, rfl, h2, hs2⟩ := hs.cons
        exact lv_pop hx hb hd (h2.cat.trans hv) (K ls _ hl hs2)
      · exact nomatch h
    · exact nomatch h
  | dup2 =>
    have hn : len = 1 := Nat.eq_of_beq_eq_true hlen
    subst hn
    simp only [mPure] at h
    split at h
    · next v w r =>
      split at h
      · next hv hw =>
        cases h
        obtain ⟨x, r1, rfl, h2, hs2⟩ := hs.cons
        obtain ⟨y, r2, rfl, h4, hs3⟩ := hs2.cons
        exact lv_dup2_11 hx hb hd (h2.cat.trans hv) (h4.cat.trans hw) (K ls _ hl ⟨h2, h4, h2, h4, hs3⟩)
      · exact nomatch h
    · exact nomatch h
  | _ => exact nomatch h
theorem mTgt_ok {pc : Nat} {off : Int} (h : mOff pc off = true) : (pc : Int) + off = ((mTgt pc off : Nat) : Int) := by
  have h1 : 0 ≤ (pc : Int) + off := of_decide_eq_true h
  unfold mTgt
  omega
theorem mT_br {b : Bool} {t : Nat} {r : List Value} {P : Prop} (hP : b = true ↔ P) (K : W p l e R s m args below meth c H locs cells slots Q (F0 m (bif b then t else pc + 3) ls r)) (rule : (P → W p l e R s m args below meth c H locs cells slots Q (F0 m t ls r)) → (¬ P → W p l e R s m args below meth c H locs cells slots Q (F0 m (pc + 3) ls r)) → W p l e R s m args below meth c H locs cells slots Q (F0 m pc ls st)) : W p l e R s m args below meth c H locs cells slots Q (F0 m pc ls st) := by
  cases b with
  | true => exact rule (fun _ => K) (fun h => absurd (hP.mp rfl) h)
  | false => exact rule (fun h => absurd (hP.mpr h) (by decide)) (fun _ => K)
set_option maxHeartbeats 4000000 in
theorem mT_jump (hx : p.tables.exec = Jvm.exec) (hb : c.code = cc) {o nL len i1 i2 i3 : Nat} {ini : Bool} {ins : Instr} {q : Nat × List mV} (hc : mEnt cc o ini nL (pc, (ins, (len, (i1, (i2, i3))))) = true)
    (h : mJump ins pc stA = some q) (hs : strel ws stA st) (K : ∀ st', strel ws q.2 st' → W p l e R s m args below meth c H locs cells slots Q (F0 m q.1 ls st')) : W p l e R s m args below meth c H locs cells slots Q (F0 m pc ls st) := by
  obtain ⟨hd, hlen, hsd, -, -⟩ := mEnt_dec hc
  cases ins with
  | goto off =>
    have hn : len = 3 := Nat.eq_of_beq_eq_true hlen
    subst hn
    cases h
    exact lv_goto hx hb hd (mTgt_ok hsd) (K st hs)
  | if_icmp cd off =>
    have hn : len = 3 := Nat.eq_of_beq_eq_true hlen
    subst hn
    simp only [mJump] at h
    split at h
    · next b a r =>
      cases h
      obtain ⟨x, r1, rfl, h2, hs2⟩ := hs.cons
      obtain ⟨y, r2, rfl, h4, hs3⟩ := hs2.cons
      have h3 : x = .int (Int32.ofInt b) := h2
      have h5 : y = .int (Int32.ofInt a) := h4
      subst h3; subst h5
      have K1 := K _ hs3
      cases cd with
      | eq => exact mT_br (P := Int32.ofInt a = Int32.ofInt b) (by rw [oi_eq]; simp [mCmp, ieq]) K1 (fun kt kf => lv_icmp_eq hx hb hd (mTgt_ok hsd) kt kf)
      | ne => exact mT_br (P := Int32.ofInt a ≠ Int32.ofInt b) (by rw [ne_eq, oi_eq]; simp [mCmp, ieq]) K1 (fun kt kf => lv_icmp_ne hx hb hd (mTgt_ok hsd) kt (fun h => kf (fun n => n h)))
      | lt => exact mT_br (P := Int32.ofInt a < Int32.ofInt b) (by rw [oi_lt]; simp [mCmp, ilt]) K1 (fun kt kf => lv_icmp_lt hx hb hd (mTgt_ok hsd) kt kf)
      | ge => exact mT_br (P := Int32.ofInt b ≤ Int32.ofInt a) (by rw [oi_le]; simp [mCmp, ilt]) K1 (fun kt kf => lv_icmp_ge hx hb hd (mTgt_ok hsd) kt kf)
      | gt => exact mT_br (P := Int32.ofInt b < Int32.ofInt a) (by rw [oi_lt]; simp [mCmp, ilt]) K1 (fun kt kf => lv_icmp_gt hx hb hd (mTgt_ok hsd) kt kf)
      | le => exact mT_br (P := Int32.ofInt a ≤ Int32.ofInt b) (by rw [oi_le]; simp [mCmp, ilt]) K1 (fun kt kf => lv_icmp_le hx hb hd (mTgt_ok hsd) kt kf)
    · exact nomatch h
  | ifCond cd off =>
    have hn : len = 3 := Nat.eq_of_beq_eq_true hlen
    subst hn
    simp only [mJump] at h
    split at h
    · next a r =>
      cases h
      obtain ⟨x, r1, rfl, h2, hs2⟩ := hs.cons
      have h3 : x = .int (Int32.ofInt a) := h2
      subst h3
      have K1 := K _ hs2
      have z0 : (0 : Int32) = Int32.ofInt 0 := rfl
      cases cd with
      | eq => exact mT_br (P := Int32.ofInt a = 0) (by rw [z0, oi_eq]; simp [mCmp, ieq]) K1 (fun kt kf => lv_if_eq hx hb hd (mTgt_ok hsd) kt kf)
      | ne => exact mT_br (P := Int32.ofInt a ≠ 0) (by rw [z0, ne_eq, oi_eq]; simp [mCmp, ieq]) K1 (fun kt kf => lv_if_ne hx hb hd (mTgt_ok hsd) kt (fun h => kf (fun n => n h)))
      | lt => exact mT_br (P := Int32.ofInt a < 0) (by rw [z0, oi_lt]; simp [mCmp, ilt]) K1 (fun kt kf => lv_if_lt hx hb hd (mTgt_ok hsd) kt kf)
      | ge => exact mT_br (P := 0 ≤ Int32.ofInt a) (by rw [z0, oi_le]; simp [mCmp, ilt]) K1 (fun kt kf => lv_if_ge hx hb hd (mTgt_ok hsd) kt kf)
      | gt => exact mT_br (P := 0 < Int32.ofInt a) (by rw [z0, oi_lt]; simp [mCmp, ilt]) K1 (fun kt kf => lv_if_gt hx hb hd (mTgt_ok hsd) kt kf)
      | le => exact mT_br (P := Int32.ofInt a ≤ 0) (by rw [z0, oi_le]; simp [mCmp, ilt]) K1 (fun kt kf => lv_if_le hx hb hd (mTgt_ok hsd) kt kf)
    · exact nomatch h
  | ifnull off =>
    have hn : len = 3 := Nat.eq_of_beq_eq_true hlen
    subst hn
    simp only [mJump] at h
    split at h
    · next a r =>
      cases h
      obtain ⟨x, r1, rfl, h2, hs2⟩ := hs.cons
      obtain ⟨w, -, rfl⟩ := id h2
      exact lv_ifnull hx hb hd (K _ hs2)
    · next r =>
      cases h
      obtain ⟨x, r1, rfl, h2, hs2⟩ := hs.cons
      have h3 : x = .null := h2
      subst h3
      exact lv_ifnullN hx hb hd (mTgt_ok hsd) (K _ hs2)
    · exact nomatch h
  | ifnonnull off =>
    have hn : len = 3 := Nat.eq_of_beq_eq_true hlen
    subst hn
    simp only [mJump] at h
    split at h
    · next a r =>
      cases h
      obtain ⟨x, r1, rfl, h2, hs2⟩ := hs.cons
      obtain ⟨w, -, rfl⟩ := id h2
      exact lv_ifnonnull hx hb hd (mTgt_ok hsd) (K _ hs2)
    · next r =>
      cases h
      obtain ⟨x, r1, rfl, h2, hs2⟩ := hs.cons
      have h3 : x = .null := h2
      subst h3
      exact lv_ifnonnullN hx hb hd (K _ hs2)
    · exact nomatch h
  | tableswitch d lo hi offs =>
    have hsd2 : mOff pc d = true ∧ offs.toList.all (fun off => mOff pc off) = true := by
      have h9 : (mOff pc d && offs.toList.all (fun off => mOff pc off)) = true := hsd
      simpa using h9
    simp only [mJump] at h
    split at h
    · next a r =>
      obtain ⟨x, r1, rfl, h2, hs2⟩ := hs.cons
      have h3 : x = .int (Int32.ofInt a) := h2
      subst h3
      by_cases h4 : w32 a < lo ∨ hi < w32 a
      · rw [decide_eq_true h4] at h
        cases h
        exact lv_tableOut hx hb hd h4 (mTgt_ok hsd2.1) (K _ hs2)
      · rw [decide_eq_false h4] at h
        simp only [cond_false] at h
        split at h
        · next off ho =>
          cases h
          have ho2 : offs[(w32 a - lo).toNat]? = some off := by rw [← Array.getElem?_toList]; exact ho
          exact lv_tableIn hx hb hd (fun h5 => h4 (Or.inl h5)) (fun h5 => h4 (Or.inr h5)) ho2 (mTgt_ok (List.all_eq_true.mp hsd2.2 off (List.mem_of_getElem? ho))) (K _ hs2)
        · exact nomatch h
    · exact nomatch h
  | _ => exact nomatch h
end MT
