/-! ===== tell: a row of digits ===== -/
theorem lDiv_id {a b : Int} (h1 : 0 ≤ a) (h2 : a < 9223372036854775808) (h3 : 0 < b) (h4 : b < 9223372036854775808) : lDiv a b = a / b := by
  unfold lDiv
  rw [w64_id (by omega) h2, w64_id (by omega) h4]
  exact Int.tdiv_eq_ediv_of_nonneg h1
theorem lRem_id {a b : Int} (h1 : 0 ≤ a) (h2 : a < 9223372036854775808) (h3 : 0 < b) (h4 : b < 9223372036854775808) : lRem a b = a % b := by
  unfold lRem
  rw [w64_id (by omega) h2, w64_id (by omega) h4]
  exact Int.tmod_eq_emod_of_nonneg h1
theorem lcmp_gt {a b : Int} (h1 : -9223372036854775808 ≤ a ∧ a < 9223372036854775808) (h2 : -9223372036854775808 ≤ b ∧ b < 9223372036854775808) : ilt 0 (lcmpI a b) = decide (b < a) := by
  unfold lcmpI
  rw [w64_id h1.1 h1.2, w64_id h2.1 h2.2]
  by_cases h : a < b
  · rw [if_pos h, decide_eq_false (by omega)]
    decide
  · rw [if_neg h]
    by_cases h3 : a = b
    · rw [if_pos h3, decide_eq_false (by omega)]
      decide
    · rw [if_neg h3, decide_eq_true (by omega)]
      decide
theorem lcmp_lt {a b : Int} (h1 : -9223372036854775808 ≤ a ∧ a < 9223372036854775808) (h2 : -9223372036854775808 ≤ b ∧ b < 9223372036854775808) : ilt (lcmpI a b) 0 = decide (a < b) := by
  unfold lcmpI
  rw [w64_id h1.1 h1.2, w64_id h2.1 h2.2]
  by_cases h : a < b
  · rw [if_pos h, decide_eq_true (by omega)]
    decide
  · rw [if_neg h]
    by_cases h3 : a = b
    · rw [if_pos h3, decide_eq_false (by omega)]
      decide
    · rw [if_neg h3, decide_eq_false (by omega)]
      decide
def dg (d i : Nat) : Nat := d / 10 ^ i % 10
theorem dg_step (d i : Nat) : d / 10 ^ i / 10 = d / 10 ^ (i + 1) := by
  rw [Nat.div_div_eq_div_mul, Nat.pow_succ]
theorem nd_ex (d : Nat) : ∀ n : Nat, d < 10 ^ n → ∃ nd, nd ≤ n ∧ d / 10 ^ nd = 0 ∧ ∀ i, i < nd → 0 < d / 10 ^ i
  | 0, h => ⟨0, Nat.le_refl 0, Nat.div_eq_of_lt h, fun i hi => absurd hi (Nat.not_lt_zero _)⟩
  | n + 1, h => by
    by_cases h1 : d < 10 ^ n
    · obtain ⟨nd, a1, a2, a3⟩ := nd_ex d n h1
      exact ⟨nd, by omega, a2, a3⟩
    · refine ⟨n + 1, Nat.le_refl _, Nat.div_eq_of_lt h, fun i hi => Nat.div_pos ?_ (Nat.pow_pos (by omega))⟩
      exact Nat.le_trans (Nat.pow_le_pow_right (by omega) (by omega)) (Nat.not_lt.mp h1)
theorem ct_rev {p : Nat → Bool} : ∀ {n : Nat}, ct (fun i => p (n - 1 - i)) n = ct p n := by
  have key : ∀ n m, m ≤ n → ct p n = ct p (n - m) + ct (fun i => p (n - 1 - i)) m := by
    intro n m
    induction m with
    | zero => intro _; rfl
    | succ m ih =>
      intro hm
      have h1 := ih (by omega)
      rw [h1, ct_succ]
      have e : n - m = (n - (m + 1)) + 1 := by omega
      rw [e, ct_succ, show n - (m + 1) = n - 1 - m by omega]
      split <;> omega
  intro n
  have := key n n (Nat.le_refl n)
  rw [Nat.sub_self] at this
  have h0 : ct p 0 = 0 := rfl
  omega
/-- the row that digits tell, the highest first -/
def rDg (d nd : Nat) (i : Nat) : Nat := dg d (nd - 1 - i) - 1
section TE
variable {w : wS} {G : mG} {p1 : Int} {d nd : Nat}
/-- the digits tell a whole row -/
def DgOk (w : wS) (d nd : Nat) : Prop := (∀ i, i < nd → 1 ≤ dg d i ∧ dg d i ≤ qN w) ∧ qF w (rDg d nd) nd
theorem dg_lt (d i : Nat) : dg d i < 10 := Nat.mod_lt _ (by omega)
theorem dq_le (d i : Nat) : d / 10 ^ i ≤ d := Nat.div_le_self _ _
theorem S_putDigits (hw : Wok w) (hd : p1 = (d : Int)) (h63 : d < 9223372036854775808) (hn19 : nd ≤ 19) (hz : d / 10 ^ nd = 0) (hnz : ∀ i, i < nd → 0 < d / 10 ^ i) (hx : XS w G) : Ok (P_X10_putDigits p1 G) (fun z => (∀ b, ¬ ((26 ≤ b ∧ b ≤ 34) ∨ b = 36) → z.2 b = G b) ∧ ((z.1 = true ∧ nd = (qTot w).toNat ∧ DgOk w d nd ∧ TT 26 w D0 (rDg d nd) nd z.2) ∨ (z.1 = false ∧ ¬ (nd = (qTot w).toNat ∧ DgOk w d nd)))) := by
  have hn := hw.n
  have htot := qTot_le hw
  subst hd
  unfold P_X10_putDigits
  refine Ok.jn2 (fun x G3 => x = (nd : Int) ∧ (∀ i, i < nd → G3 36 i = (dg d i : Int)) ∧ (∀ b, b ≠ 36 → G3 b = G b)) (fun x G3 hG3 => ?_) (fun k14 hk14 => ?_)
  · obtain ⟨rfl, e1, e2⟩ := hG3
    refine Ok.condF (lcmp_lt (by omega) (by omega)) (by omega) ?_
    have hx3 : XS w G3 := fun b i hb => by
      have := hb.lo
      rw [e2 b (by omega)]
      exact hx b i hb
    refine Ok.eq (S_stepTotal hw hx3) ?_
    refine Ok.cd (ieq_id (by omega) (by omega) (by omega) (by omega)) (fun h1 => ?_) (fun h1 => ?_)
    · have hnt : nd = (qTot w).toNat := by omega
      refine Ok.bind (S_clear (w := w) D0 (rDg d nd)) (fun G6 hG6 => ?_)
      refine Ok.lp2 (fun m x G8 => ∃ i : Nat, i ≤ nd ∧ x = (nd : Int) - 1 - i ∧ m = nd - i ∧ (∀ i', i' < i → 1 ≤ dg d (nd - 1 - i') ∧ dg d (nd - 1 - i') ≤ qN w) ∧ qV w (rDg d nd) i ∧ TT 26 w D0 (rDg d nd) i G8 ∧ FrT 26 G3 G8) (fun m again x G8 hI hag => ?_) LF nd _ G6 (LF_lt (by omega)) ⟨0, by omega, by omega, rfl, fun i' hi' => absurd hi' (Nat.not_lt_zero _), fun i' hi' => absurd hi' (Nat.not_lt_zero _), hG6.1, hG6.2⟩
      obtain ⟨i, g1, rfl, g3, g4, g5, g6, g7⟩ := hI
      have fr : ∀ b, ¬ ((26 ≤ b ∧ b ≤ 34) ∨ b = 36) → G8 b = G b := fun b hb => by rw [g7 b (by omega), e2 b (by omega)]
      refine Ok.cd (ilt_id (by omega) (by omega) (by omega) (by omega)) (fun h2 => ?_) (fun h2 => ?_)
      · have hi : i = nd := by omega
        subst hi
        refine Ok.so ⟨fr, Or.inl ⟨rfl, hnt, ⟨fun i' hi' => ?_, qF_of g5 (by omega)⟩, g6⟩⟩
        have := g4 (i - 1 - i') (by omega)
        rw [show i - 1 - (i - 1 - i') = i' by omega] at this
        exact this
      · have hi : i < nd := by omega
        have hdl := dg_lt d (nd - 1 - i)
        refine Ok.ld (nd - 1 - i) (by omega) (by omega) (by omega) ?_
        have e36 : G8 36 (nd - 1 - i) = (dg d (nd - 1 - i) : Int) := by
          rw [g7 36 (by omega)]
          exact e1 _ (by omega)
        rw [e36]
        have hx8 := g7.xs (by omega) hx3
        refine Ok.eq (S_hasLeft hw hx8 g5 g6 (by omega)) ?_
        refine Ok.it (fun h3 => ?_) (fun h3 => ?_)
        · have h3 := of_decide_eq_true h3
          have ej : ((dg d (nd - 1 - i) : Int) - 1).toNat = rDg d nd i := by
            unfold rDg
            omega
          rw [ej] at h3
          have hV : qV w (rDg d nd) (i + 1) := g5.succ (by omega) h3.2.2
          have hpu := S_put (D := D0) hw (by omega) hx8 hV DB0 g6
          rw [show ((rDg d nd i : Nat) : Int) = (dg d (nd - 1 - i) : Int) - 1 by rw [← ej]; omega] at hpu
          refine Ok.bind hpu (fun G13 hG13 => ?_)
          refine hag (nd - (i + 1)) _ _ (by omega) ⟨i + 1, by omega, by omega, rfl, fun i' hi' => ?_, hV, hG13.1, g7.tr hG13.2⟩
          by_cases h4 : i' = i
          · rw [h4]
            omega
          · exact g4 i' (by omega)
        · have h3 := of_decide_eq_false h3
          refine Ok.so ⟨fr, Or.inr ⟨rfl, fun hno => h3 ?_⟩⟩
          obtain ⟨-, hdd, hF⟩ := hno
          have h5 := hdd (nd - 1 - i) (by omega)
          have h6 := (hF.1 i hi).2
          have ej : ((dg d (nd - 1 - i) : Int) - 1).toNat = rDg d nd i := by
            unfold rDg
            omega
          rw [ej]
          exact ⟨by omega, by omega, h6⟩
    · refine Ok.so ⟨fun b hb => e2 b (by omega), Or.inr ⟨rfl, fun hno => by omega⟩⟩
  · refine Ok.lp3 (fun m x y G' => ∃ i : Nat, i ≤ nd ∧ x = (i : Int) ∧ y = ((d / 10 ^ i : Nat) : Int) ∧ m = nd - i ∧ (∀ i', i' < i → G' 36 i' = (dg d i' : Int)) ∧ (∀ b, b ≠ 36 → G' b = G b)) (fun m again x y G' hI hag => ?_) LF nd 0 (d : Int) G (LF_lt (by omega)) ⟨0, by omega, rfl, by rw [Nat.pow_zero, Nat.div_one], rfl, fun i' hi' => absurd hi' (Nat.not_lt_zero _), fun _ _ => rfl⟩
    obtain ⟨i, g1, rfl, rfl, g4, g5, g6⟩ := hI
    have hle := dq_le d i
    have hst := dg_step d i
    have hdg : dg d i = d / 10 ^ i % 10 := rfl
    have hz0 : i = nd → d / 10 ^ i = 0 := fun e => by rw [e]; exact hz
    have hn0 : i < nd → 0 < d / 10 ^ i := hnz i
    generalize d / 10 ^ i = q at hle hst hdg hz0 hn0 ⊢
    refine Ok.cd (lcmp_gt (by omega) (by omega)) (fun h1 => ?_) (fun h1 => ?_)
    · have hi : i < nd := by
        refine Classical.byContradiction fun h => ?_
        have := hz0 (by omega)
        omega
      refine Ok.iteT ((ilt_id (by omega) (by omega) (by omega) (by omega)).trans (decide_eq_true (by omega))) ?_
      refine Ok.sto i rfl (by omega) (by omega) ?_
      rw [lRem_id (by omega) (by omega) (by omega) (by omega), lDiv_id (by omega) (by omega) (by omega) (by omega)]
      refine hag (nd - (i + 1)) _ _ _ (by omega) ⟨i + 1, by omega, rfl, ?_, rfl, fun i' hi' => ?_, fun b hb => ?_⟩
      · rw [← hst]
        omega
      · rw [up2_eq, up1_if]
        by_cases h2 : i' = i
        · rw [if_pos h2, h2, hdg]
          omega
        · rw [if_neg h2]
          exact g5 i' (by omega)
      · rw [up2_ne hb]
        exact g6 b hb
    · have hi : i = nd := by
        refine Classical.byContradiction fun h => ?_
        have := hn0 (by omega)
        omega
      subst hi
      exact hk14 _ _ ⟨rfl, g5, g6⟩
end TE
/-- how often a job is told -/
def dC (d n j : Nat) : Nat := ct (fun i => decide (dg d i = j + 1)) n
theorem dC_rD {d nd : Nat} (h : ∀ i, i < nd → 1 ≤ dg d i) (j : Nat) : rD (rDg d nd) nd j = dC d nd j := by
  have e : rD (rDg d nd) nd j = ct (fun i => (fun i => decide (dg d i = j + 1)) (nd - 1 - i)) nd := by
    unfold rD rDg
    refine ct_cong (fun i hi => ?_)
    have := h (nd - 1 - i) (by omega)
    exact decide_eq_decide.mpr (by omega)
  rw [e]
  exact ct_rev (p := fun i => decide (dg d i = j + 1))
theorem DgOk_of {w : wS} {d nd : Nat} (h1 : ∀ i, i < nd → 1 ≤ dg d i ∧ dg d i ≤ qN w) (h2 : ∀ j, j < qN w → dC d nd j = qSt w j) : DgOk w d nd := by
  have hj : ∀ i, i < nd → rDg d nd i < qN w := fun i hi => by
    have := h1 (nd - 1 - i) (by omega)
    unfold rDg
    omega
  have hF : ∀ j, j < qN w → rD (rDg d nd) nd j = qSt w j := fun j hj => by
    rw [dC_rD (fun i hi => (h1 i hi).1)]
    exact h2 j hj
  refine ⟨h1, fun i hi => ⟨hj i hi, ?_⟩, hF⟩
  rw [← hF _ (hj i hi)]
  exact rX_lt hi
section MTL
variable {w : wS} {h : Nat → wS} {len d nd : Nat} {G : mG} {p1 : Int}
theorem M_row0 {G : mG} {Q : (Int × mG) → Prop} {k58 : mG → Option (Int × mG)} (hk : ∀ G4, (∀ j, j < 6 → G4 70 j = 0) → (∀ b, b ≠ 70 → G4 b = G b) → Ok (k58 G4) Q) : Ok (loop2 LF (fun again62 (x59 : Int) (G60 : mG) =>
    bif (ilt x59 6) then
    (ast G60 70 6 x59 0).bind fun G63 =>
    again62 (x59 + 1) G63
    else
    k58 G60) 0 G) Q := by
  refine Ok.forC (fun k G' => (∀ j, j < k → G' 70 j = 0) ∧ (∀ b, b ≠ 70 → G' b = G b)) 6 LF (LF_lt (by omega)) ⟨fun j hj => absurd hj (Nat.not_lt_zero _), fun _ _ => rfl⟩ (fun k hk2 again G' hI hag => ?_) (fun again G' hI => ?_)
  · refine Ok.iteT ((ilt_id (by omega) (by omega) (by omega) (by omega)).trans (decide_eq_true (by omega))) ?_
    refine Ok.sto k rfl hk2 (by omega) ?_
    refine hag _ ⟨fun j hj => ?_, fun b hb => ?_⟩
    · rw [up2_eq, up1_if]
      split
      · rfl
      · exact hI.1 j (by omega)
    · rw [up2_ne hb]
      exact hI.2 b hb
  · refine Ok.iteF ((ilt_id (by omega) (by omega) (by omega) (by omega)).trans (decide_eq_false (by omega))) (hk _ hI.1 hI.2)
theorem M_tell_neg (h64 : -9223372036854775808 ≤ p1) (hneg : p1 < 0) (hw : Wok w) (hm : MD w (G 57)) : Ok (P_X11_tell p1 G) (fun z => z.2 56 3 = 1 ∧ KQ G z.2) := by
  have hn := hw.n
  unfold P_X11_tell
  refine Ok.jn1 (fun x => x = 0) (fun x hx => ?_) (fun k64 hk64 => ?_)
  · subst hx
    refine Ok.jn1 (fun G4 => (∀ b, b ≠ 70 → G4 b = G b)) (fun G4 hG4 => ?_) (fun k58 hk58 => ?_)
    · refine Ok.jn2 (fun x G7 => x = 0 ∧ (∀ b, b ≠ 70 → G7 b = G b)) (fun x G7 hG7 => ?_) (fun k46 hk46 => ?_)
      · obtain ⟨rfl, hG7⟩ := hG7
        refine Ok.jn1 (fun x => x = 0) (fun x hx => ?_) (fun k33 hk33 => ?_)
        · subst hx
          refine Ok.fits (c1 := False) rfl b2i_T b2i_T (fun h1 => Ok.so ⟨by dsimp only; rw [up2_eq, up1_eq], (KQ.of (fun b hb => hG7 b (by omega))).tr (KQ.up (by omega))⟩) (fun h1 => h1.elim) (fun h1 => h1.elim) (fun h1 => h1.elim)
        · have hm7 : MD w (G7 57) := by
            rw [hG7 57 (by omega)]
            exact hm
          refine Ok.forA (fun _ x => x = 0) (qN w) LF (LF_lt (by omega)) rfl (fun k hk again a ha hag => ?_) (fun again a ha => ?_)
          · subst ha
            refine Ok.ld 0 rfl (by omega) (by omega) ?_
            rw [hm7.n hw]
            refine Ok.condT (ilt_nat (by omega) (by omega)) hk ?_
            refine Ok.lk ?_
            refine Ok.lk ?_
            refine Ok.condT (ieq_id (by omega) (by omega) (by omega) (by omega)) rfl ?_
            exact hag _ rfl
          · subst ha
            refine Ok.ld 0 rfl (by omega) (by omega) ?_
            rw [hm7.n hw]
            refine Ok.condF (ilt_nat (by omega) (by omega)) (Nat.lt_irrefl _) ?_
            exact hk33 _ rfl
      · refine Ok.lp3 (fun m x y G' => x = 0 ∧ y = p1 ∧ G' = G4) (fun m again x y G' hI hag => ?_) LF 0 0 p1 G4 (LF_lt (by omega)) ⟨rfl, rfl, rfl⟩
        obtain ⟨rfl, rfl, rfl⟩ := hI
        refine Ok.condF (lcmp_gt (by omega) (by omega)) (by omega) ?_
        exact hk46 _ _ ⟨rfl, hG4⟩
    · exact M_row0 (fun G4 _ h2 => hk58 _ h2)
  · refine Ok.condT (lcmp_lt (by omega) (by omega)) hneg ?_
    exact hk64 _ rfl
theorem M_tell {f : Nat → Int} (hd : p1 = (d : Int)) (h63 : d < 9223372036854775808) (hn19 : nd ≤ 19) (hz : d / 10 ^ nd = 0) (hnz : ∀ i, i < nd → 0 < d / 10 ^ i) (hp : PI w h len) (hm : MA w (G 57)) (hH : MH h len G) (hf : DgOk w d nd → ∀ i, i < (qTot w).toNat → f i = (rDg d nd i : Int)) : Ok (P_X11_tell p1 G) (fun z => (¬ DgOk w d nd → z.2 56 3 = 1 ∧ KQ G z.2) ∧ (DgOk w d nd → z.1 = qEnd w (rDg d nd) ∧ MP' (wP w f) (psh w h) (min (len + 1) 8) G z.2)) := by
  have hw := hp.1
  have hn := hw.n
  have htot := qTot_le hw
  subst hd
  unfold P_X11_tell
  refine Ok.jn1 (fun x => x = 1) (fun x hx => ?_) (fun k64 hk64 => ?_)
  · subst hx
    refine Ok.jn1 (fun G4 => (∀ j, j < 6 → G4 70 j = 0) ∧ (∀ b, b ≠ 70 → G4 b = G b)) (fun G4 hG4 => ?_) (fun k58 hk58 => ?_)
    · refine Ok.jn2 (fun x G7 => (∀ b, b ≠ 70 → G7 b = G b) ∧ ((x = 1 ∧ (∀ i, i < nd → 1 ≤ dg d i ∧ dg d i ≤ qN w) ∧ (∀ j, j < 6 → G7 70 j = (dC d nd j : Int))) ∨ (x = 0 ∧ ¬ (∀ i, i < nd → 1 ≤ dg d i ∧ dg d i ≤ qN w)))) (fun x G7 hG7 => ?_) (fun k46 hk46 => ?_)
      · obtain ⟨hfr, hx7⟩ := hG7
        have hm7 : MA w (G7 57) := by
          rw [hfr 57 (by omega)]
          exact hm
        have hH7 : MH h len G7 := MH_fr (by rw [hfr 56 (by omega)]) (hfr 58 (by omega)) hH
        refine Ok.jn1 (fun x => (x = 1 ∧ DgOk w d nd) ∨ (x = 0 ∧ ¬ DgOk w d nd)) (fun x hx => ?_) (fun k33 hk33 => ?_)
        · have hdec : Decidable (DgOk w d nd) := Classical.propDecidable _
          have hx2 : x = b2i (decide (DgOk w d nd)) := by
            rcases hx with ⟨rfl, h1⟩ | ⟨rfl, h1⟩
            · rw [decide_eq_true h1]
              rfl
            · rw [decide_eq_false h1]
              rfl
          refine Ok.fits hx2 b2i_T b2i_T (fun h1 => ?_) (fun h1 h2 => absurd trivial h2) (fun h1 h2 h3 => absurd trivial h3) (fun h1 _ _ => ?_)
          · exact Ok.so ⟨fun _ => ⟨by dsimp only; rw [up2_eq, up1_eq], (KQ.of (fun b hb => hfr b (by omega))).tr (KQ.up (by omega))⟩, fun g => absurd g h1⟩
          · refine Ok.iteT rfl ?_
            have hF := h1.2
            have hnt := qF_n hF
            have hnt2 : nd = (qTot w).toNat := by omega
            have hst0 := hw.2.2.2.2.2.2.2.2
            have hnd0 : 0 < nd := by
              refine Classical.byContradiction fun hnd => ?_
              have h0 := hF.2 0 (by omega)
              rw [show nd = 0 by omega] at h0
              have : rD (rDg d 0) 0 0 = 0 := rfl
              omega
            have hd0 : 0 < d := by
              have := hnz 0 hnd0
              rw [Nat.pow_zero, Nat.div_one] at this
              exact this
            refine M_keep0 hp hm7 hH7 (fun G' g1 g2 g3 => ?_)
            have hm' : MD w (G' 57) := by
              rw [g2 57 (by omega) (by omega)]
              exact hm7.1
            refine Ok.bind (M_startsPlan hw hm' (fun _ _ => 0) (fun _ => 0) (fun _ => 0)) (fun G5 hG5 => ?_)
            obtain ⟨t1, t2, t3⟩ := hG5
            refine Ok.bind M_clearsOrder (fun G6 hG6 => ?_)
            have fr6 : ∀ b, ¬ (59 ≤ b ∧ b ≤ 66) → G6 b = G' b := fun b hb => by rw [hG6.2 b (by omega), t2 b (by omega)]
            have z6 : ∀ j, j < 6 → G6 60 j = 0 := fun j hj => by
              rw [hG6.2 60 (by omega)]
              exact t1.1 j hj
            refine Ok.jn1 (fun x => x = ((10 ^ (nd - 1) : Nat) : Int)) (fun x hx => ?_) (fun k29 hk29 => ?_)
            · subst hx
              refine Ok.jn1 (fun G17 => OT w (rDg d nd) nd (tOd (qS w D0 (rDg d nd) nd)) (G17 66) 0 ∧ (∀ b, ¬ (59 ≤ b ∧ b ≤ 66) → G17 b = G' b)) (fun G17 hG17 => ?_) (fun k20 hk20 => ?_)
              · have hm17 : MD w (G17 57) := by
                  rw [hG17.2 57 (by omega)]
                  exact hm'
                refine Ok.bind (M_takesOrder hw hm17 hF hG17.1) (fun z8 hz8 => ?_)
                obtain ⟨c1, c2, c3, c4, c5⟩ := hz8
                refine Ok.so ⟨fun g => absurd h1 g, fun _ => ⟨?_, ?_⟩⟩
                · unfold qEnd
                  rw [← hnt2]
                  exact c1
                · have hF' : qF w (rDg d nd) (qTot w).toNat := by
                    rw [← hnt2]
                    exact hF
                  have c4' : OT w (rDg d nd) (qTot w).toNat (tOd (qS w D0 (rDg d nd) (qTot w).toNat)) (z8.2 57) 152 := by
                    rw [← hnt2]
                    exact c4
                  have hmp := MP_plan (G0 := G7) (G7 := G17) hw hF' (hf h1) hm' g1 g2 g3 (fun b hb => hG17.2 b (by omega)) c2 c3 c4' (fun b hb1 hb2 => c5 b hb1 (by omega))
                  obtain ⟨m1, m2, m3, m4⟩ := hmp
                  exact ⟨m1, m2, fun b hb => (m3 b hb).trans (hfr b (by omega)), m4⟩
              · refine Ok.lp2 (fun m x G22 => ∃ i : Nat, i ≤ nd ∧ m = nd - i ∧ (i < nd → x = ((10 ^ (nd - 1 - i) : Nat) : Int)) ∧ (i = nd → x = 0) ∧ (∀ j, j < 6 → G22 60 j = (rD (rDg d nd) i j : Int)) ∧ OT w (rDg d nd) i (tOd (qS w D0 (rDg d nd) nd)) (G22 66) 0 ∧ (∀ b, ¬ (59 ≤ b ∧ b ≤ 66) → G22 b = G' b)) (fun m again x G22 hI hag => ?_) LF nd _ G6 (LF_lt (by omega)) ⟨0, by omega, rfl, fun _ => rfl, fun h0 => by omega, z6, OT_0 hG6.1, fr6⟩
                obtain ⟨i, a1, a2, a3, a4, a5, a6, a7⟩ := hI
                by_cases hi : i < nd
                · have hxi := a3 hi
                  have hpp : 0 < 10 ^ (nd - 1 - i) := Nat.pow_pos (by omega)
                  have hple : 10 ^ (nd - 1 - i) ≤ d := by
                    have h5 := hnz (nd - 1 - i) (by omega)
                    refine Classical.byContradiction fun h6 => ?_
                    rw [Nat.div_eq_of_lt (by omega)] at h5
                    exact absurd h5 (Nat.lt_irrefl _)
                  have hpn : i + 1 < nd → (10 ^ (nd - 1 - i)) / 10 = 10 ^ (nd - 1 - (i + 1)) := fun h5 => by
                    rw [show nd - 1 - i = (nd - 1 - (i + 1)) + 1 by omega, Nat.pow_succ, Nat.mul_div_cancel _ (by omega)]
                  have hp1 : i + 1 = nd → (10 ^ (nd - 1 - i)) / 10 = 0 := fun h5 => by
                    rw [show nd - 1 - i = 0 by omega]
                  have hdgd : dg d (nd - 1 - i) = d / 10 ^ (nd - 1 - i) % 10 := rfl
                  have hdle := Nat.div_le_self d (10 ^ (nd - 1 - i))
                  have hdiv : lDiv (d : Int) x = ((d / 10 ^ (nd - 1 - i) : Nat) : Int) := by
                    rw [hxi, lDiv_id (by omega) (by omega) (by omega) (by omega), Int.natCast_ediv]
                  have hdiv2 : lDiv x 10 = ((10 ^ (nd - 1 - i) / 10 : Nat) : Int) := by
                    rw [hxi, lDiv_id (by omega) (by omega) (by omega) (by omega), Int.natCast_ediv]
                    rfl
                  generalize hP : 10 ^ (nd - 1 - i) = P at *
                  generalize hq : d / P = q at *
                  refine Ok.condT (lcmp_gt (by omega) (by omega)) (by omega) ?_
                  refine Ok.condT (lcmp_gt (by omega) (by omega)) (by omega) ?_
                  have hldv : ldv (d : Int) x = some ((q : Nat) : Int) := by
                    unfold ldv
                    rw [w64_id (by omega) (by omega), hdiv, decide_eq_false (by omega)]
                    rfl
                  refine Ok.eq hldv ?_
                  have hdl := dg_lt d (nd - 1 - i)
                  have hdv := h1.1 (nd - 1 - i) (by omega)
                  have hri : rDg d nd i = dg d (nd - 1 - i) - 1 := rfl
                  have hrem : lRem ((q : Nat) : Int) 10 - 1 = (rDg d nd i : Int) := by
                    rw [lRem_id (by omega) (by omega) (by omega) (by omega), hri]
                    omega
                  rw [hrem, hdiv2]
                  obtain ⟨hj, hl⟩ := hF.1 i hi
                  have hm22 : MD w (G22 57) := by
                    rw [a7 57 (by omega)]
                    exact hm'
                  have hcm := rC_30 hw (hF.1.le (show i + 1 ≤ nd by omega)) (rM w (rDg d nd) i)
                  have hlt : rC w (rDg d nd) i (rM w (rDg d nd) i) < rC w (rDg d nd) (i + 1) (rM w (rDg d nd) i) := ct_lt _ (Nat.lt_succ_self i) (decide_eq_true rfl)
                  have hx0 : 5 * rDg d nd i + rS (rDg d nd) i = rX (rDg d nd) i := rfl
                  have hmk : qMc w (rX (rDg d nd) i) = rM w (rDg d nd) i := rfl
                  have hpu := M_puts hw hm22 (c := rC w (rDg d nd) i (rM w (rDg d nd) i)) hj hl (a5 _ (by omega)) (by omega) (by
                    rw [hx0, hmk]
                    have := (a6 (rM w (rDg d nd) i) (rM_lt hw hF.1 hi)).1
                    rw [Nat.zero_add] at this
                    exact this)
                  rw [hx0, hmk] at hpu
                  refine Ok.bind hpu (fun G26 hG26 => ?_)
                  refine Ok.ld (rDg d nd i) rfl (by omega) (by omega) ?_
                  rw [hG26.1 60 (by omega), a5 _ (by omega)]
                  refine Ok.sto (rDg d nd i) rfl (by omega) (by omega) ?_
                  refine hag (nd - (i + 1)) _ _ (by omega) ⟨i + 1, by omega, rfl, fun h5 => by rw [hpn h5], fun h5 => by rw [hp1 h5]; rfl, fun j hj6 => ?_, ?_, fun b hb => ?_⟩
                  · rw [up2_eq, up1_if, rD_succ]
                    by_cases h7 : j = rDg d nd i
                    · rw [if_pos h7, h7, upf_eq]
                      omega
                    · rw [if_neg h7, upf_ne h7, hG26.1 60 (by omega)]
                      exact a5 j hj6
                  · rw [up2_ne (by omega), hG26.2]
                    exact OT_succ hw (hF.1.le (by omega)) a6 (qS_od hw hF.1 hi)
                  · rw [up2_ne (by omega), hG26.1 b (by omega)]
                    exact a7 b hb
                · have hxn := a4 (by omega)
                  subst hxn
                  refine Ok.condF (lcmp_gt (by omega) (by omega)) (by omega) ?_
                  have hin : i = nd := by omega
                  subst hin
                  exact hk20 _ ⟨a6, a7⟩
            · refine Ok.lp1 (fun m x => ∃ i : Nat, i < nd ∧ m = nd - i ∧ x = ((10 ^ i : Nat) : Int)) (fun m again x hI hag => ?_) LF nd 1 (LF_lt (by omega)) ⟨0, hnd0, rfl, rfl⟩
              obtain ⟨i, a1, rfl, rfl⟩ := hI
              have hple : 10 ^ i ≤ d := by
                have h5 := hnz i a1
                refine Classical.byContradiction fun h6 => ?_
                rw [Nat.div_eq_of_lt (by omega)] at h5
                exact absurd h5 (Nat.lt_irrefl _)
              have h7 : i + 1 < nd → 10 ^ i ≤ d / 10 := fun h5 => by
                have h6 := hnz (i + 1) h5
                rw [Nat.pow_succ] at h6
                rw [Nat.le_div_iff_mul_le (by omega)]
                refine Classical.byContradiction fun h8 => ?_
                rw [Nat.div_eq_of_lt (by omega)] at h6
                exact absurd h6 (Nat.lt_irrefl _)
              have h8 : i + 1 = nd → ¬ 10 ^ i ≤ d / 10 := fun h5 h6 => by
                rw [Nat.le_div_iff_mul_le (by omega), ← Nat.pow_succ, show i.succ = nd from h5] at h6
                have : 0 < d / 10 ^ nd := Nat.div_pos h6 (Nat.pow_pos (by omega))
                omega
              have h9 : ((10 ^ i : Nat) : Int) * 10 = ((10 ^ (i + 1) : Nat) : Int) := by
                rw [Nat.pow_succ]
                omega
              rw [lDiv_id (by omega) (by omega) (by omega) (by omega)]
              have hi1 : 10 ^ (nd - 1) = if i + 1 = nd then 10 ^ i else 10 ^ (nd - 1) := by
                split
                · next h5 => rw [← h5]; rfl
                · rfl
              generalize hP : 10 ^ i = P at *
              refine Ok.cd (lcmp_gt (by omega) (by omega)) (fun h5 => ?_) (fun h5 => ?_)
              · have hin : i + 1 = nd := by
                  refine Classical.byContradiction fun h6 => ?_
                  have := h7 (by omega)
                  omega
                refine hk29 _ ?_
                rw [hi1, if_pos hin]
              · have hin : i + 1 < nd := by
                  refine Classical.byContradiction fun h6 => ?_
                  have := h8 (by omega)
                  omega
                exact hag (nd - (i + 1)) _ (by omega) ⟨i + 1, hin, rfl, h9⟩
        · rcases hx7 with ⟨rfl, g1, g2⟩ | ⟨rfl, g1⟩
          · refine Ok.forA (fun k x => (x = 1 ∧ ∀ j, j < k → dC d nd j = qSt w j) ∨ (x = 0 ∧ ∃ j, j < qN w ∧ dC d nd j ≠ qSt w j)) (qN w) LF (LF_lt (by omega)) (Or.inl ⟨rfl, fun j hj => absurd hj (Nat.not_lt_zero _)⟩) (fun k hk again a ha hag => ?_) (fun again a ha => ?_)
            · refine Ok.ld 0 rfl (by omega) (by omega) ?_
              rw [hm7.1.n hw]
              refine Ok.condT (ilt_nat (by omega) (by omega)) hk ?_
              refine Ok.lk ?_
              refine Ok.lk ?_
              rcases ha with ⟨rfl, ha⟩ | ⟨rfl, ha⟩
              · refine Ok.condF (ieq_id (by omega) (by omega) (by omega) (by omega)) (by omega) ?_
                refine Ok.ld k rfl (by omega) (by omega) ?_
                rw [g2 k (by omega)]
                refine Ok.eq (M_st hw hm7.1 hk) ?_
                have h5 := (hw.st hk).2
                have h6 : dC d nd k ≤ 19 := Nat.le_trans (ct_le _ _) hn19
                refine Ok.cd (ieq_nat (by omega) (by omega)) (fun h7 => ?_) (fun h7 => ?_)
                · refine hag _ (Or.inl ⟨rfl, fun j hj => ?_⟩)
                  by_cases h8 : j = k
                  · rw [h8]
                    exact h7
                  · exact ha j (by omega)
                · exact hag _ (Or.inr ⟨rfl, k, hk, h7⟩)
              · refine Ok.condT (ieq_id (by omega) (by omega) (by omega) (by omega)) rfl ?_
                exact hag _ (Or.inr ⟨rfl, ha⟩)
            · refine Ok.ld 0 rfl (by omega) (by omega) ?_
              rw [hm7.1.n hw]
              refine Ok.condF (ilt_nat (by omega) (by omega)) (Nat.lt_irrefl _) ?_
              rcases ha with ⟨rfl, ha⟩ | ⟨rfl, j, hj, ha⟩
              · exact hk33 _ (Or.inl ⟨rfl, DgOk_of g1 ha⟩)
              · refine hk33 _ (Or.inr ⟨rfl, fun hok => ha ?_⟩)
                rw [← dC_rD (fun i hi => (g1 i hi).1)]
                exact hok.2.2 j hj
          · refine Ok.forA (fun _ x => x = 0) (qN w) LF (LF_lt (by omega)) rfl (fun k hk again a ha hag => ?_) (fun again a ha => ?_)
            · subst ha
              refine Ok.ld 0 rfl (by omega) (by omega) ?_
              rw [hm7.1.n hw]
              refine Ok.condT (ilt_nat (by omega) (by omega)) hk ?_
              refine Ok.lk ?_
              refine Ok.lk ?_
              refine Ok.condT (ieq_id (by omega) (by omega) (by omega) (by omega)) rfl ?_
              exact hag _ rfl
            · subst ha
              refine Ok.ld 0 rfl (by omega) (by omega) ?_
              rw [hm7.1.n hw]
              refine Ok.condF (ilt_nat (by omega) (by omega)) (Nat.lt_irrefl _) ?_
              exact hk33 _ (Or.inr ⟨rfl, fun hok => g1 hok.1⟩)
      · obtain ⟨hG4z, hG4f⟩ := hG4
        refine Ok.lp3 (fun m x y G' => ∃ i : Nat, i ≤ nd ∧ y = ((d / 10 ^ i : Nat) : Int) ∧ m = nd - i ∧ (∀ b, b ≠ 70 → G' b = G b) ∧ ((x = 1 ∧ (∀ i', i' < i → 1 ≤ dg d i' ∧ dg d i' ≤ qN w) ∧ (∀ j, j < 6 → G' 70 j = (dC d i j : Int))) ∨ (x = 0 ∧ ¬ (∀ i, i < nd → 1 ≤ dg d i ∧ dg d i ≤ qN w)))) (fun m again x y G' hI hag => ?_) LF nd 1 (d : Int) G4 (LF_lt (by omega)) ⟨0, by omega, by rw [Nat.pow_zero, Nat.div_one], rfl, hG4f, Or.inl ⟨rfl, fun i' hi' => absurd hi' (Nat.not_lt_zero _), hG4z⟩⟩
        obtain ⟨i, g1, rfl, rfl, g5, g6⟩ := hI
        have hle := dq_le d i
        have hst := dg_step d i
        have hdg : dg d i = d / 10 ^ i % 10 := rfl
        have hz0 : i = nd → d / 10 ^ i = 0 := fun e => by rw [e]; exact hz
        have hn0 : i < nd → 0 < d / 10 ^ i := hnz i
        generalize d / 10 ^ i = q at hle hst hdg hz0 hn0 ⊢
        refine Ok.cd (lcmp_gt (by omega) (by omega)) (fun h1 => ?_) (fun h1 => ?_)
        · have hi : i < nd := by
            refine Classical.byContradiction fun h => ?_
            have := hz0 (by omega)
            omega
          rcases g6 with ⟨rfl, a1, a2⟩ | ⟨rfl, a1⟩
          · refine Ok.condF (ieq_id (by omega) (by omega) (by omega) (by omega)) (by omega) ?_
            rw [lRem_id (by omega) (by omega) (by omega) (by omega), lDiv_id (by omega) (by omega) (by omega) (by omega)]
            have hm' : MD w (G' 57) := by
              rw [g5 57 (by omega)]
              exact hm.1
            rw [M_isJob hw hm' (by unfold I32; omega)]
            refine Ok.eq rfl ?_
            have hdl := dg_lt d i
            refine Ok.jn1 (fun G53 => (∀ b, b ≠ 70 → G53 b = G b) ∧ ((1 ≤ dg d i ∧ dg d i ≤ qN w) → ∀ j, j < 6 → G53 70 j = (dC d (i + 1) j : Int))) (fun G53 hG53 => ?_) (fun k55 hk55 => ?_)
            · refine hag (nd - (i + 1)) _ _ _ (by omega) ⟨i + 1, by omega, by rw [← hst]; omega, rfl, hG53.1, ?_⟩
              by_cases hv : 1 ≤ dg d i ∧ dg d i ≤ qN w
              · refine Or.inl ⟨?_, fun i' hi' => ?_, hG53.2 hv⟩
                · rw [decide_eq_true (by omega)]
                  rfl
                · by_cases h2 : i' = i
                  · rw [h2]
                    exact hv
                  · exact a1 i' (by omega)
              · refine Or.inr ⟨?_, fun hall => hv (hall i hi)⟩
                rw [decide_eq_false (by omega)]
                rfl
            · refine Ok.it (fun h2 => ?_) (fun h2 => ?_)
              · have h2 := of_decide_eq_true h2
                refine Ok.ld (dg d i - 1) (by omega) (by omega) (by omega) ?_
                rw [a2 _ (by omega)]
                refine Ok.sto (dg d i - 1) (by omega) (by omega) (by omega) ?_
                refine hk55 _ ⟨fun b hb => by rw [up2_ne hb]; exact g5 b hb, fun hv j hj => ?_⟩
                rw [up2_eq, up1_if]
                have hs : dC d (i + 1) j = if dg d i = j + 1 then dC d i j + 1 else dC d i j := by
                  unfold dC
                  rw [ct_succ]
                  by_cases h4 : dg d i = j + 1
                  · rw [if_pos (decide_eq_true h4), if_pos h4]
                  · rw [if_neg (by simpa using h4), if_neg h4]
                rw [hs]
                by_cases h4 : dg d i = j + 1
                · rw [if_pos (by omega), if_pos h4, show dg d i - 1 = j by omega]
                  omega
                · rw [if_neg (by omega), if_neg h4]
                  exact a2 j hj
              · have h2 := of_decide_eq_false h2
                exact hk55 _ ⟨g5, fun hv => absurd hv (by omega)⟩
          · refine Ok.condT (ieq_id (by omega) (by omega) (by omega) (by omega)) rfl ?_
            exact hk46 _ _ ⟨g5, Or.inr ⟨rfl, a1⟩⟩
        · have hi : i = nd := by
            refine Classical.byContradiction fun h => ?_
            have := hn0 (by omega)
            omega
          subst hi
          exact hk46 _ _ ⟨g5, g6⟩
    · exact M_row0 (fun G4 h1 h2 => hk58 _ ⟨h1, h2⟩)
  · refine Ok.condF (lcmp_lt (by omega) (by omega)) (by omega) ?_
    exact hk64 _ rfl
end MTL
theorem C_tell {p1 : Int} (i1 : -9223372036854775808 ≤ p1 ∧ p1 < 9223372036854775808) : CaseX (P_X10_tell p1) (fun E => if E = 1 then 1 else 0) (P_X11_tell p1) := by
  intro c W hW
  obtain ⟨w, h, len, a, np, G, n, k, rfl, hI, hn, hk⟩ := id hW
  have hp := hI.1
  have hw := hp.1
  have hx := hI.2.1
  have hm := hI.2.2.2.2.1
  have hH := hI.2.2.2.2.2
  unfold P_X10_tell
  by_cases hneg : p1 < 0
  · have hpd : Ok (P_X10_putDigits p1 G) (fun z => z = (false, G)) := by
      unfold P_X10_putDigits
      refine Ok.jn2 (fun x G3 => G3 = G) (fun x G3 hG3 => ?_) (fun k14 hk14 => ?_)
      · subst hG3
        refine Ok.condT (lcmp_lt i1 (by omega)) hneg ?_
        exact Ok.so rfl
      · refine Ok.lp3 (fun m x y G' => x = 0 ∧ y = p1 ∧ G' = G) (fun m again x y G' hI hag => ?_) LF 0 0 p1 G (LF_lt (by omega)) ⟨rfl, rfl, rfl⟩
        obtain ⟨rfl, rfl, rfl⟩ := hI
        refine Ok.condF (lcmp_gt i1 (by omega)) (by omega) ?_
        exact hk14 _ _ rfl
    refine Ok.bind hpd (fun z hz => ?_)
    subst hz
    refine Ok.iteF rfl ?_
    refine Ok.so (Or.inr ⟨1, rfl, by decide, by omega, Ok.w (M_tell_neg i1.1 hneg hw hm.1) (fun z hz => ⟨hz.1, hW.kq hz.2 (Nat.le_refl _) (Nat.le_refl _)⟩)⟩)
  · have hd : p1 = ((p1.toNat : Nat) : Int) := by omega
    obtain ⟨nd, hn19, hz, hnz⟩ := nd_ex p1.toNat 19 (by omega)
    refine Ok.bind (S_putDigits hw hd (by omega) hn19 hz hnz hx) (fun z2 hz2 => ?_)
    obtain ⟨hfr, hcase⟩ := hz2
    rcases hcase with ⟨e1, hnt, hok, hT⟩ | ⟨e1, hno⟩
    · rw [e1]
      refine Ok.iteT rfl ?_
      have hI5 := IV_trial hI (G1 := z2.2) (fun b hb => hfr b (by omega))
      have hF : qF w (rDg p1.toNat nd) (qTot w).toNat := by
        rw [← hnt]
        exact hok.2
      have hT := Eq.mp (congrArg (fun m => TT 26 w D0 (rDg p1.toNat nd) m z2.2) hnt) hT
      refine S_adopt hI5 hF hT (fun a' np' G' G6 n' k' f b1 b2 b3 b4 b5 hf hx6 hT6 f6 => ?_)
      refine Ok.so (Or.inl ⟨_, rfl, fun G7 hG7 => ?_⟩)
      have hG7' : ∀ b, 56 ≤ b ∧ b ≤ 73 → G7 b = z2.2 b := fun b hb => by
        rw [hG7 b (by omega)]
        show G6 b = z2.2 b
        rw [f6 b (by omega), b2 b (by omega) (by omega)]
      obtain ⟨hmA, hmH⟩ := M_start hI5.2.2.2.2.1 hI5.2.2.2.2.2 hG7'
      refine Ok.w (M_tell (G := G7) (f := f) hd (by omega) hn19 hz hnz hp hmA hmH (fun _ => hf)) (fun z hz => ?_)
      obtain ⟨z1, z2⟩ := hz.2 hok
      exact ⟨z2.2.2.2, by rw [z1], z2.2.2.1 74 (by omega), IW_done hI5 hn hk b1 b2 b3 b4 b5 (wP_ok hw) (wP_pok hw hF hf) hx6 hT6 f6 hG7 z2⟩
    · rw [e1]
      refine Ok.iteF rfl ?_
      have hno2 : ¬ DgOk w p1.toNat nd := fun hok => hno ⟨by have := qF_n hok.2; omega, hok⟩
      have hI5 := IV_trial hI (G1 := z2.2) (fun b hb => hfr b (by omega))
      refine Ok.so (Or.inr ⟨1, rfl, by decide, by omega, Ok.w (M_tell (G := z2.2) (f := fun _ => 0) hd (by omega) hn19 hz hnz hp hI5.2.2.2.2.1 hI5.2.2.2.2.2 (fun g => absurd g hno2)) (fun z hz => ⟨(hz.1 hno2).1, ?_⟩)⟩)
      exact hW.kq ((KQ.of (fun b hb => hfr b (by omega))).tr (hz.1 hno2).2) (Nat.le_refl _) (Nat.le_refl _)
