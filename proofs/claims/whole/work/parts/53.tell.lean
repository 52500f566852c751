/-! ===== tell: a row of digits ===== -/
theorem lDiv_id {a b : Int} (h1 : 0 ≤ a) (h2 : a < 9223372036854775808) (h3 : 0 < b) (h4 : b < 9223372036854775808) : lDiv a b = a / b := by
  unfold lDiv
  rw [w64_id (by omega) h2, w64_id (by omega) h4]
  exact Int.tdiv_eq_ediv_of_nonneg h1
theorem lRem_id {a b : Int} (h1 : 0 ≤ a) (h2 : a < 9223372036854775808) (h3 : 0 < b) (h4 : b < 9223372036854775808) : lRem a b = a % b := by
  unfold lRem
  rw [w64_id (by omega) h2, w64_id (by omega) h4]
  exact Int.tmod_eq_emod_of_nonneg h1
theorem lcmp_gt {a b : Int} (h1 : -9223372036854775808 ≤ a ∧ a < 9223372036854775808) (h2 : -9223372036854775808 ≤ b ∧ b < 9223372036854775808) : ilt 0 (lcmpI a b) = decide (b < a) := by
  unfold lcmpI
  rw [w64_id h1.1 h1.2, w64_id h2.1 h2.2]
  by_cases h : a < b
  · rw [if_pos h, decide_eq_false (by omega)]
    decide
  · rw [if_neg h]
    by_cases h3 : a = b
    · rw [if_pos h3, decide_eq_false (by omega)]
      decide
    · rw [if_neg h3, decide_eq_true (by omega)]
      decide
theorem lcmp_lt {a b : Int} (h1 : -9223372036854775808 ≤ a ∧ a < 9223372036854775808) (h2 : -9223372036854775808 ≤ b ∧ b < 9223372036854775808) : ilt (lcmpI a b) 0 = decide (a < b) := by
  unfold lcmpI
  rw [w64_id h1.1 h1.2, w64_id h2.1 h2.2]
  by_cases h : a < b
  · rw [if_pos h, decide_eq_true (by omega)]
    decide
  · rw [if_neg h]
    by_cases h3 : a = b
    · rw [if_pos h3, decide_eq_false (by omega)]
      decide
    · rw [if_neg h3, decide_eq_false (by omega)]
      decide
def dg (d i : Nat) : Nat := d / 10 ^ i % 10
theorem dg_step (d i : Nat) : d / 10 ^ i / 10 = d / 10 ^ (i + 1) := by
  rw [Nat.div_div_eq_div_mul, Nat.pow_succ]
theorem nd_ex (d : Nat) : ∀ n : Nat, d < 10 ^ n → ∃ nd, nd ≤ n ∧ d / 10 ^ nd = 0 ∧ ∀ i, i < nd → 0 < d / 10 ^ i
  | 0, h => ⟨0, Nat.le_refl 0, Nat.div_eq_of_lt h, fun i hi => absurd hi (Nat.not_lt_zero _)⟩
  | n + 1, h => by
    by_cases h1 : d < 10 ^ n
    · obtain ⟨nd, a1, a2, a3⟩ := nd_ex d n h1
      exact ⟨nd, by omega, a2, a3⟩
    · refine ⟨n + 1, Nat.le_refl _, Nat.div_eq_of_lt h, fun i hi => Nat.div_pos ?_ (Nat.pow_pos (by omega))⟩
      exact Nat.le_trans (Nat.pow_le_pow_right (by omega) (by omega)) (Nat.not_lt.mp h1)
theorem ct_rev {p : Nat → Bool} : ∀ {n : Nat}, ct (fun i => p (n - 1 - i)) n = ct p n := by
  have key : ∀ n m, m ≤ n → ct p n = ct p (n - m) + ct (fun i => p (n - 1 - i)) m := by
    intro n m
    induction m with
    | zero => intro _; rfl
    | succ m ih =>
      intro hm
      have h1 := ih (by omega)
      rw [h1, ct_succ]
      have e : n - m = (n - (m + 1)) + 1 := by omega
      rw [e, ct_succ, show n - (m + 1) = n - 1 - m by omega]
      split <;> omega
  intro n
  have := key n n (Nat.le_refl n)
  rw [Nat.sub_self] at this
  have h0 : ct p 0 = 0 := rfl
  omega
/-- the row that digits tell, the highest first -/
def rDg (d nd : Nat) (i : Nat) : Nat := dg d (nd - 1 - i) - 1
section TE
variable {w : wS} {G : mG} {p1 : Int} {d nd : Nat}
/-- the digits tell a whole row -/
def DgOk (w : wS) (d nd : Nat) : Prop := (∀ i, i < nd → 1 ≤ dg d i ∧ dg d i ≤ qN w) ∧ qF w (rDg d nd) nd
theorem dg_lt (d i : Nat) : dg d i < 10 := Nat.mod_lt _ (by omega)
theorem dq_le (d i : Nat) : d / 10 ^ i ≤ d := Nat.div_le_self _ _
theorem S_putDigits (hw : Wok w) (hd : p1 = (d : Int)) (h63 : d < 9223372036854775808) (hn19 : nd ≤ 19) (hz : d / 10 ^ nd = 0) (hnz : ∀ i, i < nd → 0 < d / 10 ^ i) (hx : XS w G) : Ok (P_X10_putDigits p1 G) (fun z => (∀ b, ¬ ((26 ≤ b ∧ b ≤ 34) ∨ b = 36) → z.2 b = G b) ∧ ((z.1 = true ∧ nd = (qTot w).toNat ∧ DgOk w d nd ∧ TT 26 w D0 (rDg d nd) nd z.2) ∨ (z.1 = false ∧ ¬ (nd = (qTot w).toNat ∧ DgOk w d nd)))) := by
  have hn := hw.n
  have htot := qTot_le hw
  subst hd
  unfold P_X10_putDigits
  refine Ok.jn2 (fun x G3 => x = (nd : Int) ∧ (∀ i, i < nd → G3 36 i = (dg d i : Int)) ∧ (∀ b, b ≠ 36 → G3 b = G b)) (fun x G3 hG3 => ?_) (fun k14 hk14 => ?_)
  · obtain ⟨rfl, e1, e2⟩ := hG3
    refine Ok.condF (lcmp_lt (by omega) (by omega)) (by omega) ?_
    have hx3 : XS w G3 := fun b i hb => by
      have := hb.lo
      rw [e2 b (by omega)]
      exact hx b i hb
    refine Ok.eq (S_stepTotal hw hx3) ?_
    refine Ok.cd (ieq_id (by omega) (by omega) (by omega) (by omega)) (fun h1 => ?_) (fun h1 => ?_)
    · have hnt : nd = (qTot w).toNat := by omega
      refine Ok.bind (S_clear (w := w) D0 (rDg d nd)) (fun G6 hG6 => ?_)
      refine Ok.lp2 (fun m x G8 => ∃ i : Nat, i ≤ nd ∧ x = (nd : Int) - 1 - i ∧ m = nd - i ∧ (∀ i', i' < i → 1 ≤ dg d (nd - 1 - i') ∧ dg d (nd - 1 - i') ≤ qN w) ∧ qV w (rDg d nd) i ∧ TT 26 w D0 (rDg d nd) i G8 ∧ FrT 26 G3 G8) (fun m again x G8 hI hag => ?_) LF nd _ G6 (LF_lt (by omega)) ⟨0, by omega, by omega, rfl, fun i' hi' => absurd hi' (Nat.not_lt_zero _), fun i' hi' => absurd hi' (Nat.not_lt_zero _), hG6.1, hG6.2⟩
      obtain ⟨i, g1, rfl, g3, g4, g5, g6, g7⟩ := hI
      have fr : ∀ b, ¬ ((26 ≤ b ∧ b ≤ 34) ∨ b = 36) → G8 b = G b := fun b hb => by rw [g7 b (by omega), e2 b (by omega)]
      refine Ok.cd (ilt_id (by omega) (by omega) (by omega) (by omega)) (fun h2 => ?_) (fun h2 => ?_)
      · have hi : i = nd := by omega
        subst hi
        refine Ok.so ⟨fr, Or.inl ⟨rfl, hnt, ⟨fun i' hi' => ?_, qF_of g5 (by omega)⟩, g6⟩⟩
        have := g4 (i - 1 - i') (by omega)
        rw [show i - 1 - (i - 1 - i') = i' by omega] at this
        exact this
      · have hi : i < nd := by omega
        have hdl := dg_lt d (nd - 1 - i)
        refine Ok.ld (nd - 1 - i) (by omega) (by omega) (by omega) ?_
        have e36 : G8 36 (nd - 1 - i) = (dg d (nd - 1 - i) : Int) := by
          rw [g7 36 (by omega)]
          exact e1 _ (by omega)
        rw [e36]
        have hx8 := g7.xs (by omega) hx3
        refine Ok.eq (S_hasLeft hw hx8 g5 g6 (by omega)) ?_
        refine Ok.it (fun h3 => ?_) (fun h3 => ?_)
        · have h3 := of_decide_eq_true h3
          have ej : ((dg d (nd - 1 - i) : Int) - 1).toNat = rDg d nd i := by
            unfold rDg
            omega
          rw [ej] at h3
          have hV : qV w (rDg d nd) (i + 1) := g5.succ (by omega) h3.2.2
          have hpu := S_put (D := D0) hw (by omega) hx8 hV DB0 g6
          rw [show ((rDg d nd i : Nat) : Int) = (dg d (nd - 1 - i) : Int) - 1 by rw [← ej]; omega] at hpu
          refine Ok.bind hpu (fun G13 hG13 => ?_)
          refine hag (nd - (i + 1)) _ _ (by omega) ⟨i + 1, by omega, by omega, rfl, fun i' hi' => ?_, hV, hG13.1, g7.tr hG13.2⟩
          by_cases h4 : i' = i
          · rw [h4]
            omega
          · exact g4 i' (by omega)
        · have h3 := of_decide_eq_false h3
          refine Ok.so ⟨fr, Or.inr ⟨rfl, fun hno => h3 ?_⟩⟩
          obtain ⟨-, hdd, hF⟩ := hno
          have h5 := hdd (nd - 1 - i) (by omega)
          have h6 := (hF.1 i hi).2
          have ej : ((dg d (nd - 1 - i) : Int) - 1).toNat = rDg d nd i := by
            unfold rDg
            omega
          rw [ej]
          exact ⟨by omega, by omega, h6⟩
    · refine Ok.so ⟨fun b hb => e2 b (by omega), Or.inr ⟨rfl, fun hno => by omega⟩⟩
  · refine Ok.lp3 (fun m x y G' => ∃ i : Nat, i ≤ nd ∧ x = (i : Int) ∧ y = ((d / 10 ^ i : Nat) : Int) ∧ m = nd - i ∧ (∀ i', i' < i → G' 36 i' = (dg d i' : Int)) ∧ (∀ b, b ≠ 36 → G' b = G b)) (fun m again x y G' hI hag => ?_) LF nd 0 (d : Int) G (LF_lt (by omega)) ⟨0, by omega, rfl, by rw [Nat.pow_zero, Nat.div_one], rfl, fun i' hi' => absurd hi' (Nat.not_lt_zero _), fun _ _ => rfl⟩
    obtain ⟨i, g1, rfl, rfl, g4, g5, g6⟩ := hI
    have hle := dq_le d i
    have hst := dg_step d i
    have hdg : dg d i = d / 10 ^ i % 10 := rfl
    have hz0 : i = nd → d / 10 ^ i = 0 := fun e => by rw [e]; exact hz
    have hn0 : i < nd → 0 < d / 10 ^ i := hnz i
    generalize d / 10 ^ i = q at hle hst hdg hz0 hn0 ⊢
    refine Ok.cd (lcmp_gt (by omega) (by omega)) (fun h1 => ?_) (fun h1 => ?_)
    · have hi : i < nd := by
        refine Classical.byContradiction fun h => ?_
        have := hz0 (by omega)
        omega
      refine Ok.iteT ((ilt_id (by omega) (by omega) (by omega) (by omega)).trans (decide_eq_true (by omega))) ?_
      refine Ok.sto i rfl (by omega) (by omega) ?_
      rw [lRem_id (by omega) (by omega) (by omega) (by omega), lDiv_id (by omega) (by omega) (by omega) (by omega)]
      refine hag (nd - (i + 1)) _ _ _ (by omega) ⟨i + 1, by omega, rfl, ?_, rfl, fun i' hi' => ?_, fun b hb => ?_⟩
      · rw [← hst]
        omega
      · rw [up2_eq, up1_if]
        by_cases h2 : i' = i
        · rw [if_pos h2, h2, hdg]
          omega
        · rw [if_neg h2]
          exact g5 i' (by omega)
      · rw [up2_ne hb]
        exact g6 b hb
    · have hi : i = nd := by
        refine Classical.byContradiction fun h => ?_
        have := hn0 (by omega)
        omega
      subst hi
      exact hk14 _ _ ⟨rfl, g5, g6⟩
end TE
