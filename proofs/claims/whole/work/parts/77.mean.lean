/-! ===== meanEnd, use ===== -/
/-- a number that is not zero -/
def fNz : FP.Core.Datum → Bool
  | .fin _ c _ => !(c == 0)
  | _ => false
theorem fNz_ex {d : FP.Core.Datum} (h : fNz d = true) : ∃ s c q, d = .fin s c q ∧ c ≠ 0 := by
  match d, h with
  | .fin s c q, h =>
    refine ⟨s, c, q, rfl, fun e => ?_⟩
    subst e
    have h2 : (!((0 : Nat) == 0)) = true := h
    exact absurd h2 (by decide)
theorem i2d_ok (a : Int32) : FP.Core.decode FP.Core.b64 (FP.i2d a).toNat ≠ .nan := by
  have h := f_enc (Or.inr rfl) (f_int (f := FP.Core.b64) (Or.inr rfl) a.toInt)
  have h2 := f_of64 h.1 h.2
  show FP.Core.decode FP.Core.b64 (UInt64.ofNat (FP.Core.encode FP.Core.b64 (FP.Core.round FP.Core.b64 (FP.Core.ofInt a.toInt)))).toNat ≠ .nan
  rw [h2.2]
  exact f_dec h.1
theorem i2f_ok (a : Int32) : FP.Core.decode FP.Core.b32 (FP.i2f a).toNat ≠ .nan := by
  have h := f_enc (Or.inl rfl) (f_int (f := FP.Core.b32) (Or.inl rfl) a.toInt)
  have h2 := f_of32 h.1 h.2
  show FP.Core.decode FP.Core.b32 (UInt32.ofNat (FP.Core.encode FP.Core.b32 (FP.Core.round FP.Core.b32 (FP.Core.ofInt a.toInt)))).toNat ≠ .nan
  rw [h2.2]
  exact f_dec h.1
theorem ddiv_ok {a b : Int32} (hb : fNz (FP.Core.decode FP.Core.b64 (FP.i2d b).toNat) = true) : ddv (FP.i2d a) (FP.i2d b) = some (FP.ddiv (FP.i2d a) (FP.i2d b)) ∧ FP.dcmp (FP.ddiv (FP.i2d a) (FP.i2d b)) (FP.ddiv (FP.i2d a) (FP.i2d b)) = some .eq := by
  obtain ⟨s, c, q, e, hc⟩ := fNz_ex hb
  have hq := f_quot (f := FP.Core.b64) (Or.inr rfl) (i2d_ok a) e hc
  have h := f_enc (Or.inr rfl) hq
  have h2 := f_of64 h.1 h.2
  refine ⟨?_, ?_⟩
  · unfold ddv
    rw [show n64 (FP.ddiv (FP.i2d a) (FP.i2d b)) = true from h2.1]
    rfl
  · show FP.Core.order (FP.Core.decode FP.Core.b64 (UInt64.ofNat (FP.Core.encode FP.Core.b64 (FP.Core.quotient FP.Core.b64 _ _))).toNat) (FP.Core.decode FP.Core.b64 (UInt64.ofNat (FP.Core.encode FP.Core.b64 (FP.Core.quotient FP.Core.b64 _ _))).toNat) = some .eq
    rw [h2.2]
    exact f_eq (f_dec h.1)
theorem f2d_ok {x : UInt32} (h : FP.Core.decode FP.Core.b32 x.toNat ≠ .nan) : ∃ d, ftd x = some d ∧ FP.dcmp d d = some .eq := by
  have hr := f_round (f := FP.Core.b64) (Or.inr rfl) h
  have he := f_enc (Or.inr rfl) hr
  have h2 := f_of64 he.1 he.2
  have e : FP.f2d x = UInt64.ofNat (FP.Core.encode FP.Core.b64 (FP.Core.round FP.Core.b64 (FP.Core.decode FP.Core.b32 x.toNat))) := by
    unfold FP.f2d
    rw [if_neg]
    · rfl
    · unfold FP.Core.fIsNaN FP.Core.isNaN
      rw [decide_eq_false h]
      exact Bool.false_ne_true
  refine ⟨FP.f2d x, ?_, ?_⟩
  · unfold ftd
    rw [show n64 (FP.f2d x) = true by rw [e]; exact h2.1]
    rfl
  · show FP.Core.order (FP.Core.decode FP.Core.b64 (FP.f2d x).toNat) (FP.Core.decode FP.Core.b64 (FP.f2d x).toNat) = some .eq
    rw [e, h2.2]
    exact f_eq (f_dec he.1)
theorem fdiv_ok {a b : Int32} (hb : fNz (FP.Core.decode FP.Core.b32 (FP.i2f b).toNat) = true) : fdv (FP.i2f a) (FP.i2f b) = some (FP.fdiv (FP.i2f a) (FP.i2f b)) ∧ ∃ d, ftd (FP.fdiv (FP.i2f a) (FP.i2f b)) = some d ∧ FP.dcmp d d = some .eq := by
  obtain ⟨s, c, q, e, hc⟩ := fNz_ex hb
  have hq := f_quot (f := FP.Core.b32) (Or.inl rfl) (i2f_ok a) e hc
  have h := f_enc (Or.inl rfl) hq
  have h2 := f_of32 h.1 h.2
  refine ⟨?_, f2d_ok ?_⟩
  · unfold fdv
    rw [show n32 (FP.fdiv (FP.i2f a) (FP.i2f b)) = true from h2.1]
    rfl
  · show FP.Core.decode FP.Core.b32 (UInt32.ofNat (FP.Core.encode FP.Core.b32 (FP.Core.quotient FP.Core.b32 _ _))).toNat ≠ .nan
    rw [h2.2]
    exact f_dec h.1
theorem nz_d : ∀ i : Fin 7, 1 ≤ i.1 → fNz (FP.Core.decode FP.Core.b64 (FP.i2d (Int32.ofInt (i.1 : Int))).toNat) = true := by decide +kernel
theorem nz_f : ∀ i : Fin 80, ∀ j : Fin 80, 1 ≤ 80 * i.1 + j.1 → fNz (FP.Core.decode FP.Core.b32 (FP.i2f (Int32.ofInt ((80 * i.1 + j.1 : Nat) : Int))).toNat) = true := by decide +kernel
theorem nz_f' {e : Int} (h : 1 ≤ e ∧ e < 6400) : fNz (FP.Core.decode FP.Core.b32 (FP.i2f (Int32.ofInt e)).toNat) = true := by
  obtain ⟨n, rfl⟩ := Int.eq_ofNat_of_zero_le (show 0 ≤ e by omega)
  have := nz_f ⟨n / 80, by omega⟩ ⟨n % 80, by omega⟩ (by show 1 ≤ 80 * (n / 80) + n % 80; omega)
  rw [show 80 * (n / 80) + n % 80 = n by omega] at this
  exact this
theorem dld_dst {G : mG} {a i : Nat} {x : UInt64} : UInt64.ofNat (up2 G a i (x.toNat : Int) a i).toNat = x := by
  rw [up2_eq, up1_eq, Int.toNat_natCast]
  exact UInt64.ofNat_toNat
