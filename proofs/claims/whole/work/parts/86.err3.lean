/-! ===== masks of an hour ===== -/
theorem hasb_tb {k x : Nat} : hasb k x = k.testBit x := by
  rw [Nat.testBit_eq_decide_div_mod_eq]
  unfold hasb
  by_cases h : k / 2 ^ x % 2 = 1
  · rw [h]
    rfl
  · rw [decide_eq_false h]
    simp [h]
def mkB (k m j : Nat) : Nat := k ||| (2 ^ m ||| 2 ^ (4 + j))
theorem mkB_has {k m j x : Nat} : hasb (mkB k m j) x = (hasb k x || (decide (m = x) || decide (4 + j = x))) := by
  unfold mkB
  rw [hasb_tb, hasb_tb, Nat.testBit_or, Nat.testBit_or, Nat.testBit_two_pow, Nat.testBit_two_pow]
theorem mkB_lt {k m j : Nat} (hk : k < 1024) (hm : m < 4) (hj : j < 6) : mkB k m j < 1024 := by
  unfold mkB
  have h1 : 2 ^ m < 2 ^ 10 := Nat.pow_lt_pow_right (by omega) (by omega)
  have h2 : 2 ^ (4 + j) < 2 ^ 10 := Nat.pow_lt_pow_right (by omega) (by omega)
  exact Nat.or_lt_two_pow (n := 10) hk (Nat.or_lt_two_pow h1 h2)
theorem mk_all : ∀ a : Fin 32, ∀ b : Fin 32, ∀ m : Fin 4, ∀ j : Fin 6, iOr ((32 * a.1 + b.1 : Nat) : Int) (iOr (iShl 1 (m.1 : Int)) (iShl 1 (4 + (j.1 : Int)))) = (mkB (32 * a.1 + b.1) m.1 j.1 : Int) ∧ ieq (iAnd ((32 * a.1 + b.1 : Nat) : Int) (iOr (iShl 1 (m.1 : Int)) (iShl 1 (4 + (j.1 : Int))))) 0 = (!(hasb (32 * a.1 + b.1) m.1) && !(hasb (32 * a.1 + b.1) (4 + j.1))) := by decide +kernel
theorem mk_0 : ∀ a : Fin 32, ∀ b : Fin 32, ieq (iAnd ((32 * a.1 + b.1 : Nat) : Int) 1024) 0 = true := by decide +kernel
theorem mk_or {k m j : Nat} (hk : k < 1024) (hm : m < 4) (hj : j < 6) : iOr (k : Int) (iOr (iShl 1 (m : Int)) (iShl 1 (4 + (j : Int)))) = (mkB k m j : Int) ∧ ieq (iAnd (k : Int) (iOr (iShl 1 (m : Int)) (iShl 1 (4 + (j : Int))))) 0 = (!(hasb k m) && !(hasb k (4 + j))) := by
  have h := mk_all ⟨k / 32, by omega⟩ ⟨k % 32, by omega⟩ ⟨m, hm⟩ ⟨j, hj⟩
  have e : 32 * (k / 32) + k % 32 = k := by omega
  dsimp only at h
  rw [e] at h
  exact h
theorem mk_w {k : Nat} (hk : k < 1024) : ieq (iAnd (k : Int) 1024) 0 = true := by
  have h := mk_0 ⟨k / 32, by omega⟩ ⟨k % 32, by omega⟩
  have e : 32 * (k / 32) + k % 32 = k := by omega
  dsimp only at h
  rw [e] at h
  exact h
