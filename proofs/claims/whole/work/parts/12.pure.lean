/-! ===== the small machine's steps on locals, stack and pc alone, on the big machine ===== -/
theorem mWith_some {lA : mL} {x : Option (List mV)} {q : mL × List mV} (h : mWith lA x = some q) : ∃ st, x = some st ∧ q = (lA, st) := by
  cases x with
  | none => exact nomatch h
  | some st => cases h; exact ⟨st, rfl, rfl⟩
theorem mBin_some {f : Int → Int → Int} {st st' : List mV} (h : mBin f st = some st') : ∃ a b r, st = .inl b :: .inl a :: r ∧ st' = .inl (f a b) :: r := by
  unfold mBin at h
  split at h
  · cases h; exact ⟨_, _, _, rfl, rfl⟩
  · exact nomatch h
theorem mBinL_some {f : Int → Int → Int} {st st' : List mV} (h : mBinL f st = some st') : ∃ a b r, st = .inr (.inl b) :: .inr (.inl a) :: r ∧ st' = .inr (.inl (f a b)) :: r := by
  unfold mBinL at h
  split at h
  · cases h; exact ⟨_, _, _, rfl, rfl⟩
  · exact nomatch h
theorem mBinD_some {f : Int → Int → Int} {st st' : List mV} (h : mBinD f st = some st') : ∃ a b r, st = .inl b :: .inl a :: r ∧ st' = .inl (f a b) :: r ∧ ieq b 0 = false := by
  unfold mBinD at h
  split at h
  · next b a r =>
    cases hb : ieq b 0 with
    | true => rw [hb] at h; exact nomatch h
    | false => rw [hb] at h; cases h; exact ⟨_, _, _, rfl, rfl, hb⟩
  · exact nomatch h
theorem mBinLD_some {f : Int → Int → Int} {st st' : List mV} (h : mBinLD f st = some st') : ∃ a b r, st = .inr (.inl b) :: .inr (.inl a) :: r ∧ st' = .inr (.inl (f a b)) :: r ∧ ¬ w64 b = 0 := by
  unfold mBinLD at h
  split at h
  · next b a r =>
    by_cases hb : w64 b = 0
    · rw [decide_eq_true hb] at h; exact nomatch h
    · rw [decide_eq_false hb] at h; cases h; exact ⟨_, _, _, rfl, rfl, hb⟩
  · exact nomatch h
theorem mLdI_some {lA : mL} {i : Nat} {st st' : List mV} (h : mLdI lA i st = some st') : ∃ z, lA[i]? = some (some (.inl z)) ∧ st' = .inl z :: st := by
  unfold mLdI at h
  split at h
  · next z hz => cases h; exact ⟨_, hz, rfl⟩
  · exact nomatch h
theorem mLdL_some {lA : mL} {i : Nat} {st st' : List mV} (h : mLdL lA i st = some st') : ∃ z, lA[i]? = some (some (.inr (.inl z))) ∧ st' = .inr (.inl z) :: st := by
  unfold mLdL at h
  split at h
  · next z hz => cases h; exact ⟨_, hz, rfl⟩
  · exact nomatch h
theorem mLdF_some {lA : mL} {i : Nat} {st st' : List mV} (h : mLdF lA i st = some st') : ∃ z, lA[i]? = some (some (.inr (.inr (.inr (.float z))))) ∧ st' = .inr (.inr (.inr (.float z))) :: st := by
  unfold mLdF at h
  split at h
  · next z hz => cases h; exact ⟨_, hz, rfl⟩
  · exact nomatch h
theorem mLdD_some {lA : mL} {i : Nat} {st st' : List mV} (h : mLdD lA i st = some st') : ∃ z, lA[i]? = some (some (.inr (.inr (.inr (.double z))))) ∧ st' = .inr (.inr (.inr (.double z))) :: st := by
  unfold mLdD at h
  split at h
  · next z hz => cases h; exact ⟨_, hz, rfl⟩
  · exact nomatch h
theorem mLdA_some {lA : mL} {i : Nat} {st st' : List mV} (h : mLdA lA i st = some st') : ∃ v, lA[i]? = some (some v) ∧ st' = v :: st ∧ ((∃ a, v = .inr (.inr (.inl a))) ∨ v = .inr (.inr (.inr .null)) ∨ ∃ b, v = .inr (.inr (.inr (.ref b)))) := by
  unfold mLdA at h
  split at h
  · next a hz => cases h; exact ⟨_, hz, rfl, Or.inl ⟨_, rfl⟩⟩
  · next hz => cases h; exact ⟨_, hz, rfl, Or.inr (Or.inl rfl)⟩
  · next b hz => cases h; exact ⟨_, hz, rfl, Or.inr (Or.inr ⟨_, rfl⟩)⟩
  · exact nomatch h
theorem mBlt {b : Bool} {α : Type} {x y : α} (h : (bif b then some x else none) = some y) : b = true ∧ x = y := by
  cases b with
  | true => cases h; exact ⟨rfl, rfl⟩
  | false => exact nomatch h
theorem mStI_some {lA : mL} {i : Nat} {st : List mV} {q : mL × List mV} (h : mStI lA i st = some q) : ∃ z r, st = .inl z :: r ∧ i < lA.length ∧ q = (mSt lA i (.inl z), r) := by
  unfold mStI at h
  split at h
  · obtain ⟨h1, rfl⟩ := mBlt h
    exact ⟨_, _, rfl, by simpa [Nat.blt_eq] using h1, rfl⟩
  · exact nomatch h
theorem mStL_some {lA : mL} {i : Nat} {st : List mV} {q : mL × List mV} (h : mStL lA i st = some q) : ∃ z r, st = .inr (.inl z) :: r ∧ i + 1 < lA.length ∧ q = (mSt2 lA i (.inr (.inl z)), r) := by
  unfold mStL at h
  split at h
  · obtain ⟨h1, rfl⟩ := mBlt h
    exact ⟨_, _, rfl, by simpa [Nat.blt_eq] using h1, rfl⟩
  · exact nomatch h
theorem mStF_some {lA : mL} {i : Nat} {st : List mV} {q : mL × List mV} (h : mStF lA i st = some q) : ∃ z r, st = .inr (.inr (.inr (.float z))) :: r ∧ i < lA.length ∧ q = (mSt lA i (.inr (.inr (.inr (.float z)))), r) := by
  unfold mStF at h
  split at h
  · obtain ⟨h1, rfl⟩ := mBlt h
    exact ⟨_, _, rfl, by simpa [Nat.blt_eq] using h1, rfl⟩
  · exact nomatch h
theorem mStD_some {lA : mL} {i : Nat} {st : List mV} {q : mL × List mV} (h : mStD lA i st = some q) : ∃ z r, st = .inr (.inr (.inr (.double z))) :: r ∧ i + 1 < lA.length ∧ q = (mSt2 lA i (.inr (.inr (.inr (.double z)))), r) := by
  unfold mStD at h
  split at h
  · obtain ⟨h1, rfl⟩ := mBlt h
    exact ⟨_, _, rfl, by simpa [Nat.blt_eq] using h1, rfl⟩
  · exact nomatch h
theorem mStA_some {lA : mL} {i : Nat} {st : List mV} {q : mL × List mV} (h : mStA lA i st = some q) : ∃ v w r, st = v :: r ∧ i < lA.length ∧ q = (mSt lA i w, r) ∧ ((∃ a, v = .inr (.inr (.inl a)) ∧ w = v) ∨ (v = .inr (.inr (.inr .null)) ∧ w = v) ∨ ∃ k, v = .inr (.inr (.inr (.retAddr k))) ∧ w = .inr (.inr (.inr (.retAddr 0)))) := by
  unfold mStA at h
  split at h
  · obtain ⟨h1, rfl⟩ := mBlt h
    exact ⟨_, _, _, rfl, by simpa [Nat.blt_eq] using h1, rfl, Or.inl ⟨_, rfl, rfl⟩⟩
  · obtain ⟨h1, rfl⟩ := mBlt h
    exact ⟨_, _, _, rfl, by simpa [Nat.blt_eq] using h1, rfl, Or.inr (Or.inl ⟨rfl, rfl⟩)⟩
  · obtain ⟨h1, rfl⟩ := mBlt h
    exact ⟨_, _, _, rfl, by simpa [Nat.blt_eq] using h1, rfl, Or.inr (Or.inr ⟨_, rfl, rfl⟩)⟩
  · exact nomatch h
-- numbers
theorem oi_w32 (z : Int) : Int32.ofInt (w32 z) = Int32.ofInt z := Int32.ofInt_toInt _
theorem oi_w64 (z : Int) : Int64.ofInt (w64 z) = Int64.ofInt z := Int64.ofInt_toInt _
theorem oi_lt (a b : Int) : Int32.ofInt a < Int32.ofInt b ↔ w32 a < w32 b := Int32.lt_iff_toInt_lt
theorem oi_le (a b : Int) : Int32.ofInt a ≤ Int32.ofInt b ↔ w32 a ≤ w32 b := Int32.le_iff_toInt_le
theorem oi_eq (a b : Int) : Int32.ofInt a = Int32.ofInt b ↔ w32 a = w32 b := Int32.toInt_inj.symm
theorem oi_div (a b : Int) : Int32.ofInt (iDiv a b) = Int32.ofInt a / Int32.ofInt b := by
  apply Int32.toInt_inj.mp
  rw [Int32.toInt_div, Int32.toInt_ofInt]
  rfl
theorem oi_divL (a b : Int) : Int64.ofInt (lDiv a b) = Int64.ofInt a / Int64.ofInt b := by
  apply Int64.toInt_inj.mp
  rw [Int64.toInt_div, Int64.toInt_ofInt]
  rfl
theorem oi_rem (a b : Int) : Int32.ofInt (iRem a b) = Int32.ofInt a - Int32.ofInt a / Int32.ofInt b * Int32.ofInt b := by
  unfold iRem
  rw [Int.tmod_def, Int32.ofInt_sub, Int32.ofInt_mul, oi_w32, oi_w32, Int32.mul_comm, ← oi_div]
  rfl
theorem oi_remL (a b : Int) : Int64.ofInt (lRem a b) = Int64.ofInt a - Int64.ofInt a / Int64.ofInt b * Int64.ofInt b := by
  unfold lRem
  rw [Int.tmod_def, Int64.ofInt_sub, Int64.ofInt_mul, oi_w64, oi_w64, Int64.mul_comm, ← oi_divL]
  rfl
theorem oi_ne0 {b : Int} (h : ieq b 0 = false) : ¬ Int32.ofInt b = 0 := by
  unfold ieq at h
  intro h2
  have h3 : ¬ w32 b = w32 0 := of_decide_eq_false h
  exact h3 ((oi_eq b 0).mp h2)
theorem oi_ne0L {b : Int} (h : ¬ w64 b = 0) : ¬ Int64.ofInt b = 0 := by
  intro h2
  apply h
  unfold w64
  rw [h2]
  rfl
theorem oi_cmp (a b : Int) : Int32.ofInt (lcmpI a b) = lg_cmp (Int64.ofInt a) (Int64.ofInt b) := by
  unfold lcmpI lg_cmp
  have e1 : (Int64.ofInt a > Int64.ofInt b) ↔ w64 b < w64 a := Int64.lt_iff_toInt_lt
  have e2 : (Int64.ofInt a = Int64.ofInt b) ↔ w64 a = w64 b := Int64.toInt_inj.symm
  by_cases h1 : w64 a < w64 b
  · rw [if_pos h1, if_neg (fun h => absurd (e1.mp h) (by omega)), if_neg (fun h => absurd (e2.mp h) (by omega))]
    rfl
  · rw [if_neg h1]
    by_cases h2 : w64 a = w64 b
    · rw [if_pos h2, if_neg (fun h => absurd (e1.mp h) (by omega)), if_pos (e2.mpr h2)]
      rfl
    · rw [if_neg h2, if_pos (e1.mpr (by omega))]
      rfl
theorem oi_nat (n : Nat) : Int32.ofInt (n : Int) = Int32.ofNat n := by
  apply Int32.toBitVec_inj.mp
  simp [Int32.ofInt, Int32.ofNat]
theorem oi_natL (n : Nat) : Int64.ofInt (n : Int) = Int64.ofNat n := by
  apply Int64.toBitVec_inj.mp
  simp [Int64.ofInt, Int64.ofNat]
theorem oi_8 {n : Int} (h : -128 ≤ n ∧ n < 128) : (Int8.ofInt n).toInt32 = Int32.ofInt n := by
  apply Int32.toInt_inj.mp
  rw [Int8.toInt_toInt32, Int8.toInt_ofInt, Int32.toInt_ofInt]
  simp only [Int8.size, Int32.size]
  rw [Int.bmod_eq_of_le (by omega) (by omega), Int.bmod_eq_of_le (by omega) (by omega)]
theorem oi_16 {n : Int} (h : -32768 ≤ n ∧ n < 32768) : (Int16.ofInt n).toInt32 = Int32.ofInt n := by
  apply Int32.toInt_inj.mp
  rw [Int16.toInt_toInt32, Int16.toInt_ofInt, Int32.toInt_ofInt]
  simp only [Int16.size, Int32.size]
  rw [Int.bmod_eq_of_le (by omega) (by omega), Int.bmod_eq_of_le (by omega) (by omega)]
section MT
variable {p : Program} {l : Launch} {e : Env} {R : Room} {s : State} {m : MethodId} {args : Array Value} {below : List Frame} {meth : Method} {c : Code} {H : Heap} {locs : List Loc} {cells slots : Nat} {Q : State → Prop}
variable {cc : ByteArray} {pc : Nat} {ls : Array Slot} {ws : va_W} {lA : mL} {stA : List mV} {st : List Value} {q : mL × List mV}
theorem mT_bin {f : Int → Int → Int} {g : Int32 → Int32 → Int32} (hfg : ∀ a b, Int32.ofInt (f a b) = g (Int32.ofInt a) (Int32.ofInt b)) (rule : ∀ (x y : Int32) (rest : List Value), W p l e R s m args below meth c H locs cells slots Q (F0 m (pc + 1) ls (.int (g x y) :: rest)) → W p l e R s m args below meth c H locs cells slots Q (F0 m pc ls (.int y :: .int x :: rest)))
    (h : mWith lA (mBin f stA) = some q) (hl : mLocR ws lA ls) (hs : strel ws stA st) (K : ∀ ls' st', mLocR ws q.1 ls' → strel ws q.2 st' → W p l e R s m args below meth c H locs cells slots Q (F0 m (pc + 1) ls' st')) : W p l e R s m args below meth c H locs cells slots Q (F0 m pc ls st) := by
  obtain ⟨st', h1, rfl⟩ := mWith_some h
  obtain ⟨a, b, r, rfl, rfl⟩ := mBin_some h1
  obtain ⟨x, r1, rfl, h2, hs2⟩ := hs.cons
  obtain ⟨y, r2, rfl, h3, hs3⟩ := hs2.cons
  have h2 : x = .int (Int32.ofInt b) := h2
  have h3 : y = .int (Int32.ofInt a) := h3
  subst h2; subst h3
  exact rule _ _ _ (K ls _ hl ⟨congrArg Value.int (hfg a b).symm, hs3⟩)
theorem mT_binD {f : Int → Int → Int} {g : Int32 → Int32 → Int32} (hfg : ∀ a b, Int32.ofInt (f a b) = g (Int32.ofInt a) (Int32.ofInt b)) (rule : ∀ (x y : Int32) (rest : List Value), ¬ y = 0 → W p l e R s m args below meth c H locs cells slots Q (F0 m (pc + 1) ls (.int (g x y) :: rest)) → W p l e R s m args below meth c H locs cells slots Q (F0 m pc ls (.int y :: .int x :: rest)))
    (h : mWith lA (mBinD f stA) = some q) (hl : mLocR ws lA ls) (hs : strel ws stA st) (K : ∀ ls' st', mLocR ws q.1 ls' → strel ws q.2 st' → W p l e R s m args below meth c H locs cells slots Q (F0 m (pc + 1) ls' st')) : W p l e R s m args below meth c H locs cells slots Q (F0 m pc ls st) := by
  obtain ⟨st', h1, rfl⟩ := mWith_some h
  obtain ⟨a, b, r, rfl, rfl, h0⟩ := mBinD_some h1
  obtain ⟨x, r1, rfl, h2, hs2⟩ := hs.cons
  obtain ⟨y, r2, rfl, h3, hs3⟩ := hs2.cons
  have h2 : x = .int (Int32.ofInt b) := h2
  have h3 : y = .int (Int32.ofInt a) := h3
  subst h2; subst h3
  exact rule _ _ _ (oi_ne0 h0) (K ls _ hl ⟨congrArg Value.int (hfg a b).symm, hs3⟩)
theorem mT_binL {f : Int → Int → Int} {g : Int64 → Int64 → Int64} (hfg : ∀ a b, Int64.ofInt (f a b) = g (Int64.ofInt a) (Int64.ofInt b)) (rule : ∀ (x y : Int64) (rest : List Value), W p l e R s m args below meth c H locs cells slots Q (F0 m (pc + 1) ls (.long (g x y) :: rest)) → W p l e R s m args below meth c H locs cells slots Q (F0 m pc ls (.long y :: .long x :: rest)))
    (h : mWith lA (mBinL f stA) = some q) (hl : mLocR ws lA ls) (hs : strel ws stA st) (K : ∀ ls' st', mLocR ws q.1 ls' → strel ws q.2 st' → W p l e R s m args below meth c H locs cells slots Q (F0 m (pc + 1) ls' st')) : W p l e R s m args below meth c H locs cells slots Q (F0 m pc ls st) := by
  obtain ⟨st', h1, rfl⟩ := mWith_some h
  obtain ⟨a, b, r, rfl, rfl⟩ := mBinL_some h1
  obtain ⟨x, r1, rfl, h2, hs2⟩ := hs.cons
  obtain ⟨y, r2, rfl, h3, hs3⟩ := hs2.cons
  have h2 : x = .long (Int64.ofInt b) := h2
  have h3 : y = .long (Int64.ofInt a) := h3
  subst h2; subst h3
  exact rule _ _ _ (K ls _ hl ⟨congrArg Value.long (hfg a b).symm, hs3⟩)
theorem mT_binLD {f : Int → Int → Int} {g : Int64 → Int64 → Int64} (hfg : ∀ a b, Int64.ofInt (f a b) = g (Int64.ofInt a) (Int64.ofInt b)) (rule : ∀ (x y : Int64) (rest : List Value), ¬ y = 0 → W p l e R s m args below meth c H locs cells slots Q (F0 m (pc + 1) ls (.long (g x y) :: rest)) → W p l e R s m args below meth c H locs cells slots Q (F0 m pc ls (.long y :: .long x :: rest)))
    (h : mWith lA (mBinLD f stA) = some q) (hl : mLocR ws lA ls) (hs : strel ws stA st) (K : ∀ ls' st', mLocR ws q.1 ls' → strel ws q.2 st' → W p l e R s m args below meth c H locs cells slots Q (F0 m (pc + 1) ls' st')) : W p l e R s m args below meth c H locs cells slots Q (F0 m pc ls st) := by
  obtain ⟨st', h1, rfl⟩ := mWith_some h
  obtain ⟨a, b, r, rfl, rfl, h0⟩ := mBinLD_some h1
  obtain ⟨x, r1, rfl, h2, hs2⟩ := hs.cons
  obtain ⟨y, r2, rfl, h3, hs3⟩ := hs2.cons
  have h2 : x = .long (Int64.ofInt b) := h2
  have h3 : y = .long (Int64.ofInt a) := h3
  subst h2; subst h3
  exact rule _ _ _ (oi_ne0L h0) (K ls _ hl ⟨congrArg Value.long (hfg a b).symm, hs3⟩)
theorem mT_ldI {i n : Nat} (rule : ∀ (x : Int32), ls[i]? = some (.val (.int x)) → W p l e R s m args below meth c H locs cells slots Q (F0 m (pc + n) ls (.int x :: st)) → W p l e R s m args below meth c H locs cells slots Q (F0 m pc ls st))
    (h : mWith lA (mLdI lA i stA) = some q) (hl : mLocR ws lA ls) (hs : strel ws stA st) (K : ∀ ls' st', mLocR ws q.1 ls' → strel ws q.2 st' → W p l e R s m args below meth c H locs cells slots Q (F0 m (pc + n) ls' st')) : W p l e R s m args below meth c H locs cells slots Q (F0 m pc ls st) := by
  obtain ⟨st', h1, rfl⟩ := mWith_some h
  obtain ⟨z, h2, rfl⟩ := mLdI_some h1
  obtain ⟨x, h3, h4⟩ := hl.2.2 i _ h2
  have h5 : x = .int (Int32.ofInt z) := h3
  subst h5
  exact rule _ h4 (K ls _ hl ⟨rfl, hs⟩)
theorem mT_ldL {i n : Nat} (rule : ∀ (x : Int64), ls[i]? = some (.val (.long x)) → W p l e R s m args below meth c H locs cells slots Q (F0 m (pc + n) ls (.long x :: st)) → W p l e R s m args below meth c H locs cells slots Q (F0 m pc ls st))
    (h : mWith lA (mLdL lA i stA) = some q) (hl : mLocR ws lA ls) (hs : strel ws stA st) (K : ∀ ls' st', mLocR ws q.1 ls' → strel ws q.2 st' → W p l e R s m args below meth c H locs cells slots Q (F0 m (pc + n) ls' st')) : W p l e R s m args below meth c H locs cells slots Q (F0 m pc ls st) := by
  obtain ⟨st', h1, rfl⟩ := mWith_some h
  obtain ⟨z, h2, rfl⟩ := mLdL_some h1
  obtain ⟨x, h3, h4⟩ := hl.2.2 i _ h2
  have h5 : x = .long (Int64.ofInt z) := h3
  subst h5
  exact rule _ h4 (K ls _ hl ⟨rfl, hs⟩)
theorem mT_ldF {i n : Nat} (rule : ∀ (x : UInt32), ls[i]? = some (.val (.float x)) → W p l e R s m args below meth c H locs cells slots Q (F0 m (pc + n) ls (.float x :: st)) → W p l e R s m args below meth c H locs cells slots Q (F0 m pc ls st))
    (h : mWith lA (mLdF lA i stA) = some q) (hl : mLocR ws lA ls) (hs : strel ws stA st) (K : ∀ ls' st', mLocR ws q.1 ls' → strel ws q.2 st' → W p l e R s m args below meth c H locs cells slots Q (F0 m (pc + n) ls' st')) : W p l e R s m args below meth c H locs cells slots Q (F0 m pc ls st) := by
  obtain ⟨st', h1, rfl⟩ := mWith_some h
  obtain ⟨z, h2, rfl⟩ := mLdF_some h1
  obtain ⟨x, h3, h4⟩ := hl.2.2 i _ h2
  have h5 : x = .float z := h3
  subst h5
  exact rule _ h4 (K ls _ hl ⟨rfl, hs⟩)
theorem mT_ldD {i n : Nat} (rule : ∀ (x : UInt64), ls[i]? = some (.val (.double x)) → W p l e R s m args below meth c H locs cells slots Q (F0 m (pc + n) ls (.double x :: st)) → W p l e R s m args below meth c H locs cells slots Q (F0 m pc ls st))
    (h : mWith lA (mLdD lA i stA) = some q) (hl : mLocR ws lA ls) (hs : strel ws stA st) (K : ∀ ls' st', mLocR ws q.1 ls' → strel ws q.2 st' → W p l e R s m args below meth c H locs cells slots Q (F0 m (pc + n) ls' st')) : W p l e R s m args below meth c H locs cells slots Q (F0 m pc ls st) := by
  obtain ⟨st', h1, rfl⟩ := mWith_some h
  obtain ⟨z, h2, rfl⟩ := mLdD_some h1
  obtain ⟨x, h3, h4⟩ := hl.2.2 i _ h2
  have h5 : x = .double z := h3
  subst h5
  exact rule _ h4 (K ls _ hl ⟨rfl, hs⟩)
theorem mT_ldA {i n : Nat} (rule : ∀ (x : Nat), ls[i]? = some (.val (.ref x)) → W p l e R s m args below meth c H locs cells slots Q (F0 m (pc + n) ls (.ref x :: st)) → W p l e R s m args below meth c H locs cells slots Q (F0 m pc ls st)) (rulN : ls[i]? = some (.val .null) → W p l e R s m args below meth c H locs cells slots Q (F0 m (pc + n) ls (.null :: st)) → W p l e R s m args below meth c H locs cells slots Q (F0 m pc ls st))
    (h : mWith lA (mLdA lA i stA) = some q) (hl : mLocR ws lA ls) (hs : strel ws stA st) (K : ∀ ls' st', mLocR ws q.1 ls' → strel ws q.2 st' → W p l e R s m args below meth c H locs cells slots Q (F0 m (pc + n) ls' st')) : W p l e R s m args below meth c H locs cells slots Q (F0 m pc ls st) := by
  obtain ⟨st', h1, rfl⟩ := mWith_some h
  obtain ⟨v, h2, rfl, hv⟩ := mLdA_some h1
  obtain ⟨x, h3, h4⟩ := hl.2.2 i _ h2
  rcases hv with ⟨a, rfl⟩ | rfl | ⟨b, rfl⟩
  · obtain ⟨w, h5, rfl⟩ := id h3
    exact rule _ h4 (K ls _ hl ⟨h3, hs⟩)
  · have h5 : x = .null := h3
    subst h5
    exact rulN h4 (K ls _ hl ⟨rfl, hs⟩)
  · have h5 : x = .ref b := h3
    subst h5
    exact rule _ h4 (K ls _ hl ⟨rfl, hs⟩)
theorem mT_stI {i n : Nat} (rule : ∀ (x : Int32) (rest : List Value), i < ls.size → (∀ ls', lv_has ls' ls.size ((i, Value.int x) :: (lvFull ls).filter (fun q => !(q.1 == i) && !(q.1 + 1 == i && q.2.category == 2))) → W p l e R s m args below meth c H locs cells slots Q (F0 m (pc + n) ls' rest)) → W p l e R s m args below meth c H locs cells slots Q (F0 m pc ls (.int x :: rest)))
    (h : mStI lA i stA = some q) (hl : mLocR ws lA ls) (hs : strel ws stA st) (K : ∀ ls' st', mLocR ws q.1 ls' → strel ws q.2 st' → W p l e R s m args below meth c H locs cells slots Q (F0 m (pc + n) ls' st')) : W p l e R s m args below meth c H locs cells slots Q (F0 m pc ls st) := by
  obtain ⟨z, r, rfl, h1, rfl⟩ := mStI_some h
  obtain ⟨x, r1, rfl, h2, hs2⟩ := hs.cons
  have h3 : x = .int (Int32.ofInt z) := h2
  subst h3
  exact rule _ _ (by rw [hl.1]; exact h1) (fun ls' h4 => K ls' _ (hl.st1 h2 h4) hs2)
theorem mT_stF {i n : Nat} (rule : ∀ (x : UInt32) (rest : List Value), i < ls.size → (∀ ls', lv_has ls' ls.size ((i, Value.float x) :: (lvFull ls).filter (fun q => !(q.1 == i) && !(q.1 + 1 == i && q.2.category == 2))) → W p l e R s m args below meth c H locs cells slots Q (F0 m (pc + n) ls' rest)) → W p l e R s m args below meth c H locs cells slots Q (F0 m pc ls (.float x :: rest)))
    (h : mStF lA i stA = some q) (hl : mLocR ws lA ls) (hs : strel ws stA st) (K : ∀ ls' st', mLocR ws q.1 ls' → strel ws q.2 st' → W p l e R s m args below meth c H locs cells slots Q (F0 m (pc + n) ls' st')) : W p l e R s m args below meth c H locs cells slots Q (F0 m pc ls st) := by
  obtain ⟨z, r, rfl, h1, rfl⟩ := mStF_some h
  obtain ⟨x, r1, rfl, h2, hs2⟩ := hs.cons
  have h3 : x = .float z := h2
  subst h3
  exact rule _ _ (by rw [hl.1]; exact h1) (fun ls' h4 => K ls' _ (hl.st1 h2 h4) hs2)
theorem mT_stL {i n : Nat} (rule : ∀ (x : Int64) (rest : List Value), i + 1 < ls.size → (∀ ls', lv_has ls' ls.size ((i, Value.long x) :: (lvFull ls).filter (fun q => !(q.1 == i) && (!(q.1 == i + 1) && !(q.1 + 1 == i && q.2.category == 2)))) → W p l e R s m args below meth c H locs cells slots Q (F0 m (pc + n) ls' rest)) → W p l e R s m args below meth c H locs cells slots Q (F0 m pc ls (.long x :: rest)))
    (h : mStL lA i stA = some q) (hl : mLocR ws lA ls) (hs : strel ws stA st) (K : ∀ ls' st', mLocR ws q.1 ls' → strel ws q.2 st' → W p l e R s m args below meth c H locs cells slots Q (F0 m (pc + n) ls' st')) : W p l e R s m args below meth c H locs cells slots Q (F0 m pc ls st) := by
  obtain ⟨z, r, rfl, h1, rfl⟩ := mStL_some h
  obtain ⟨x, r1, rfl, h2, hs2⟩ := hs.cons
  have h3 : x = .long (Int64.ofInt z) := h2
  subst h3
  exact rule _ _ (by rw [hl.1]; exact h1) (fun ls' h4 => K ls' _ (hl.st2 h1 h2 h4) hs2)
theorem mT_stD {i n : Nat} (rule : ∀ (x : UInt64) (rest : List Value), i + 1 < ls.size → (∀ ls', lv_has ls' ls.size ((i, Value.double x) :: (lvFull ls).filter (fun q => !(q.1 == i) && (!(q.1 == i + 1) && !(q.1 + 1 == i && q.2.category == 2)))) → W p l e R s m args below meth c H locs cells slots Q (F0 m (pc + n) ls' rest)) → W p l e R s m args below meth c H locs cells slots Q (F0 m pc ls (.double x :: rest)))
    (h : mStD lA i stA = some q) (hl : mLocR ws lA ls) (hs : strel ws stA st) (K : ∀ ls' st', mLocR ws q.1 ls' → strel ws q.2 st' → W p l e R s m args below meth c H locs cells slots Q (F0 m (pc + n) ls' st')) : W p l e R s m args below meth c H locs cells slots Q (F0 m pc ls st) := by
  obtain ⟨z, r, rfl, h1, rfl⟩ := mStD_some h
  obtain ⟨x, r1, rfl, h2, hs2⟩ := hs.cons
  have h3 : x = .double z := h2
  subst h3
  exact rule _ _ (by rw [hl.1]; exact h1) (fun ls' h4 => K ls' _ (hl.st2 h1 h2 h4) hs2)
theorem mT_stA {i n : Nat} (rule : ∀ (x : Nat) (rest : List Value), i < ls.size → (∀ ls', lv_has ls' ls.size ((i, Value.ref x) :: (lvFull ls).filter (fun q => !(q.1 == i) && !(q.1 + 1 == i && q.2.category == 2))) → W p l e R s m args below meth c H locs cells slots Q (F0 m (pc + n) ls' rest)) → W p l e R s m args below meth c H locs cells slots Q (F0 m pc ls (.ref x :: rest)))
    (rulN : ∀ (rest : List Value), i < ls.size → (∀ ls', lv_has ls' ls.size ((i, Value.null) :: (lvFull ls).filter (fun q => !(q.1 == i) && !(q.1 + 1 == i && q.2.category == 2))) → W p l e R s m args below meth c H locs cells slots Q (F0 m (pc + n) ls' rest)) → W p l e R s m args below meth c H locs cells slots Q (F0 m pc ls (.null :: rest)))
    (h : mStA lA i stA = some q) (hl : mLocR ws lA ls) (hs : strel ws stA st) (K : ∀ ls' st', mLocR ws q.1 ls' → strel ws q.2 st' → W p l e R s m args below meth c H locs cells slots Q (F0 m (pc + n) ls' st')) : W p l e R s m args below meth c H locs cells slots Q (F0 m pc ls st) := by
  obtain ⟨v, w, r, rfl, h1, rfl, hv⟩ := mStA_some h
  obtain ⟨x, r1, rfl, h2, hs2⟩ := hs.cons
  rcases hv with ⟨a, rfl, rfl⟩ | ⟨rfl, rfl⟩ | ⟨k, rfl, rfl⟩
  · obtain ⟨w, h5, rfl⟩ := id h2
    exact rule _ _ (by rw [hl.1]; exact h1) (fun ls' h4 => K ls' _ (hl.st1 h2 h4) hs2)
  · have h3 : x = .null := h2
    subst h3
    exact rulN _ (by rw [hl.1]; exact h1) (fun ls' h4 => K ls' _ (hl.st1 h2 h4) hs2)
  · obtain ⟨w, rfl⟩ := id h2
    exact rule _ _ (by rw [hl.1]; exact h1) (fun ls' h4 => K ls' _ (hl.st1 (v := .inr (.inr (.inr (.retAddr 0)))) h2 h4) hs2)
end MT
