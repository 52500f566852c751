/-! ===== masks of an hour ===== -/
theorem hasb_tb {k x : Nat} : hasb k x = k.testBit x := by
  rw [Nat.testBit_eq_decide_div_mod_eq]
  unfold hasb
  by_cases h : k / 2 ^ x % 2 = 1
  · rw [h]
    rfl
  · rw [decide_eq_false h]
    simp [h]
def mkB (k m j : Nat) : Nat := k ||| (2 ^ m ||| 2 ^ (4 + j))
theorem mkB_has {k m j x : Nat} : hasb (mkB k m j) x = (hasb k x || (decide (m = x) || decide (4 + j = x))) := by
  unfold mkB
  rw [hasb_tb, hasb_tb, Nat.testBit_or, Nat.testBit_or, Nat.testBit_two_pow, Nat.testBit_two_pow]
theorem mkB_lt {k m j : Nat} (hk : k < 1024) (hm : m < 4) (hj : j < 6) : mkB k m j < 1024 := by
  unfold mkB
  have h1 : 2 ^ m < 2 ^ 10 := Nat.pow_lt_pow_right (by omega) (by omega)
  have h2 : 2 ^ (4 + j) < 2 ^ 10 := Nat.pow_lt_pow_right (by omega) (by omega)
  exact Nat.or_lt_two_pow (n := 10) hk (Nat.or_lt_two_pow h1 h2)
