/-! ===== doubles and floats: quotients of whole numbers are numbers ===== -/
/-- data that a format can hold -/
def fGd (f : FP.Core.Fmt) : FP.Core.Datum → Prop
  | .nan => False
  | .inf _ => True
  | .fin _ c q => c < 2 ^ f.p ∧ f.qmin ≤ q ∧ q ≤ f.qmax
/-- the two formats -/
def fFm (f : FP.Core.Fmt) : Prop := f = FP.Core.b32 ∨ f = FP.Core.b64
theorem fFm_c {f : FP.Core.Fmt} (h : fFm f) : (f.qmin ≤ 0 ∧ f.qmin < f.qmax) ∧ f.tails < 2 ^ f.p ∧ 0 < f.tails ∧ f.qmax - f.qmin + 3 = (f.exps : Int) ∧ 2 ^ f.p = 2 * f.tails := by
  rcases h with rfl | rfl <;> decide +kernel
theorem f_bound {f : FP.Core.Fmt} {s : Bool} {c : Nat} {q : Int} (hc : c < 2 ^ f.p) (hq : f.qmin ≤ q) : fGd f (FP.Core.bound f s c q) := by
  unfold FP.Core.bound
  by_cases h : q ≤ f.qmax
  · rw [if_pos h]
    exact ⟨hc, hq, h⟩
  · rw [if_neg h]
    exact trivial
theorem f_settle {f : FP.Core.Fmt} (hf : fFm f) {s : Bool} {c : Nat} {q : Int} (hq : f.qmin ≤ q) : fGd f (FP.Core.settle f s c q) := by
  unfold FP.Core.settle
  by_cases h : c < 2 ^ f.p
  · rw [if_pos h]
    exact f_bound h hq
  · rw [if_neg h]
    exact f_bound (fFm_c hf).2.1 (by omega)
theorem f_ratio {f : FP.Core.Fmt} (hf : fFm f) {s : Bool} {a b : Nat} {e : Int} : fGd f (FP.Core.roundRatio f s a b e) := by
  have hc := fFm_c hf
  unfold FP.Core.roundRatio
  by_cases h : a = 0
  · rw [if_pos h]
    exact ⟨Nat.pow_pos (by omega), Int.le_refl _, by omega⟩
  · rw [if_neg h]
    unfold FP.Core.roundAt
    refine f_settle hf ?_
    unfold FP.Core.quantum
    omega
theorem f_round {f : FP.Core.Fmt} (hf : fFm f) {d : FP.Core.Datum} (h : d ≠ .nan) : fGd f (FP.Core.round f d) := by
  match d, h with
  | .nan, h => exact absurd rfl h
  | .inf s, _ => exact trivial
  | .fin s c q, _ => exact f_ratio hf
/-- no number -/
def fNan (d : FP.Core.Datum) : Prop := d = .nan
theorem f_quot {f : FP.Core.Fmt} (hf : fFm f) {x y : FP.Core.Datum} (hx : x ≠ .nan) {s : Bool} {c : Nat} {q : Int} (hy : y = .fin s c q) (hc : c ≠ 0) : fGd f (FP.Core.quotient f x y) := by
  subst hy
  match x, hx with
  | .nan, h => exact absurd rfl h
  | .inf t, _ => exact trivial
  | .fin t d r, _ =>
    show fGd f (if c = 0 then _ else _)
    rw [if_neg hc]
    exact f_ratio hf
theorem f_asm {f : FP.Core.Fmt} {s : Bool} {e t : Nat} (he : e < f.exps) (ht : t < f.tails) : FP.Core.fieldT f (FP.Core.assemble f s e t) = t ∧ FP.Core.fieldE f (FP.Core.assemble f s e t) = e ∧ FP.Core.assemble f s e t < 2 * f.exps * f.tails := by
  have h0 : 0 < f.tails := by omega
  have hdiv : FP.Core.assemble f s e t / f.tails = s.toNat * f.exps + e := by
    unfold FP.Core.assemble
    rw [Nat.add_comm, Nat.add_mul_div_right _ _ h0, Nat.div_eq_of_lt ht, Nat.zero_add]
  refine ⟨?_, ?_, ?_⟩
  · unfold FP.Core.fieldT FP.Core.assemble
    rw [Nat.add_comm, Nat.add_mul_mod_self_right, Nat.mod_eq_of_lt ht]
  · unfold FP.Core.fieldE
    rw [hdiv, Nat.add_comm, Nat.add_mul_mod_self_right, Nat.mod_eq_of_lt he]
  · rw [← Nat.div_lt_iff_lt_mul h0, hdiv]
    cases s
    · show 0 * f.exps + e < 2 * f.exps
      omega
    · show 1 * f.exps + e < 2 * f.exps
      omega
/-- an encoding of what a format holds is a number again, and fits the bits -/
theorem f_enc {f : FP.Core.Fmt} (hf : fFm f) {d : FP.Core.Datum} (h : fGd f d) : (FP.Core.fieldE f (FP.Core.encode f d) < f.exps - 1 ∨ (FP.Core.fieldE f (FP.Core.encode f d) = f.exps - 1 ∧ FP.Core.fieldT f (FP.Core.encode f d) = 0)) ∧ FP.Core.encode f d < 2 * f.exps * f.tails := by
  obtain ⟨c1, c2, c3, c4, c5⟩ := fFm_c hf
  match d, h with
  | .nan, h => exact h.elim
  | .inf s, _ =>
    have := f_asm (f := f) (s := s) (e := f.exps - 1) (t := 0) (by omega) (by omega)
    exact ⟨Or.inr ⟨this.2.1, this.1⟩, this.2.2⟩
  | .fin s c q, ⟨h1, h2, h3⟩ =>
    have e : FP.Core.encode f (.fin s c q) = if c < f.tails then FP.Core.assemble f s 0 c else FP.Core.assemble f s ((q - f.qmin).toNat + 1) (c - f.tails) := rfl
    rw [e]
    by_cases g : c < f.tails
    · have := f_asm (f := f) (s := s) (e := 0) (t := c) (by omega) g
      rw [if_pos g]
      exact ⟨Or.inl (by rw [this.2.1]; omega), this.2.2⟩
    · have := f_asm (f := f) (s := s) (e := (q - f.qmin).toNat + 1) (t := c - f.tails) (by omega) (by omega)
      rw [if_neg g]
      exact ⟨Or.inl (by rw [this.2.1]; omega), this.2.2⟩
theorem f_dec {f : FP.Core.Fmt} {n : Nat} (h : FP.Core.fieldE f n < f.exps - 1 ∨ (FP.Core.fieldE f n = f.exps - 1 ∧ FP.Core.fieldT f n = 0)) : FP.Core.decode f n ≠ .nan := by
  unfold FP.Core.decode
  rcases h with h | ⟨h1, h2⟩
  · rw [if_neg (by omega)]
    split
    · exact fun e => FP.Core.Datum.noConfusion e
    · exact fun e => FP.Core.Datum.noConfusion e
  · rw [if_pos h1, if_pos h2]
    exact fun e => FP.Core.Datum.noConfusion e
theorem f_of64 {n : Nat} (h : FP.Core.fieldE FP.Core.b64 n < FP.Core.b64.exps - 1 ∨ (FP.Core.fieldE FP.Core.b64 n = FP.Core.b64.exps - 1 ∧ FP.Core.fieldT FP.Core.b64 n = 0)) (hn : n < 2 * FP.Core.b64.exps * FP.Core.b64.tails) : n64 (UInt64.ofNat n) = true ∧ (UInt64.ofNat n).toNat = n := by
  have e1 : FP.Core.b64.exps = 2048 := by decide +kernel
  have e2 : FP.Core.b64.tails = 4503599627370496 := by decide +kernel
  unfold FP.Core.fieldE FP.Core.fieldT at h
  rw [e1, e2] at h hn
  have hn : n < 18446744073709551616 := by omega
  have ht : (UInt64.ofNat n).toNat = n := by
    rw [UInt64.toNat_ofNat', Nat.mod_eq_of_lt hn]
  refine ⟨?_, ht⟩
  unfold n64
  refine decide_eq_true ?_
  rw [UInt64.le_iff_toNat_le, UInt64.toNat_and, ht]
  have e3 : (0x7fffffffffffffff : UInt64).toNat = 2 ^ 63 - 1 := by decide +kernel
  have e4 : (0x7ff0000000000000 : UInt64).toNat = 9218868437227405312 := by decide +kernel
  rw [e3, e4, Nat.and_two_pow_sub_one_eq_mod]
  omega
theorem f_of32 {n : Nat} (h : FP.Core.fieldE FP.Core.b32 n < FP.Core.b32.exps - 1 ∨ (FP.Core.fieldE FP.Core.b32 n = FP.Core.b32.exps - 1 ∧ FP.Core.fieldT FP.Core.b32 n = 0)) (hn : n < 2 * FP.Core.b32.exps * FP.Core.b32.tails) : n32 (UInt32.ofNat n) = true ∧ (UInt32.ofNat n).toNat = n := by
  have e1 : FP.Core.b32.exps = 256 := by decide +kernel
  have e2 : FP.Core.b32.tails = 8388608 := by decide +kernel
  unfold FP.Core.fieldE FP.Core.fieldT at h
  rw [e1, e2] at h hn
  have hn : n < 4294967296 := by omega
  have ht : (UInt32.ofNat n).toNat = n := by
    rw [UInt32.toNat_ofNat', Nat.mod_eq_of_lt hn]
  refine ⟨?_, ht⟩
  unfold n32
  refine decide_eq_true ?_
  rw [UInt32.le_iff_toNat_le, UInt32.toNat_and, ht]
  have e3 : (0x7fffffff : UInt32).toNat = 2 ^ 31 - 1 := by decide +kernel
  have e4 : (0x7f800000 : UInt32).toNat = 2139095040 := by decide +kernel
  rw [e3, e4, Nat.and_two_pow_sub_one_eq_mod]
  omega
theorem f_eq {d : FP.Core.Datum} (h : d ≠ .nan) : FP.Core.order d d = some .eq := by
  have hi : ∀ a : Int, compare a a = .eq := fun a => by simp
  match d, h with
  | .nan, h => exact absurd rfl h
  | .inf s, _ => exact congrArg some (hi _)
  | .fin s c q, _ => exact congrArg some (hi _)
/-- a whole number, as a double or a float -/
theorem f_int {f : FP.Core.Fmt} (hf : fFm f) (a : Int) : fGd f (FP.Core.round f (FP.Core.ofInt a)) := f_round hf (fun e => FP.Core.Datum.noConfusion e)
