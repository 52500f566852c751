/-! ===== hours left, ends, aims; clearing, a row put again ===== -/
def qHf (w : wS) (j s : Nat) : Int := sm (fun i => qHr w (5 * j + (s + i))) (qSt w j - s)
theorem qHf_bd {w : wS} (hw : Wok w) {j s : Nat} (hj : j < qN w) : 0 ≤ qHf w j s ∧ qHf w j s ≤ 250 := by
  have h5 := (hw.st hj).2
  have h1 := sm_bd (f := fun i => qHr w (5 * j + (s + i))) (a := 0) (b := 50) (n := qSt w j - s) (fun i hi => by
    have := hw.hr hj (show s + i < qSt w j by omega)
    omega)
  unfold qHf
  omega
theorem qHf_step {w : wS} {j s : Nat} (h : s < qSt w j) : qHf w j s = qHr w (5 * j + s) + qHf w j (s + 1) := by
  unfold qHf
  have key : ∀ (f : Nat → Int) (n : Nat), sm f (n + 1) = f 0 + sm (fun i => f (i + 1)) n := by
    intro f n
    induction n with
    | zero => rw [sm_succ]; show sm f 0 + f 0 = f 0 + 0; show (0 : Int) + f 0 = f 0 + 0; omega
    | succ n ih => rw [sm_succ, ih, sm_succ]; omega
  have e : qSt w j - s = (qSt w j - (s + 1)) + 1 := by omega
  rw [e, key]
  show qHr w (5 * j + (s + 0)) + sm (fun i => qHr w (5 * j + (s + (i + 1)))) (qSt w j - (s + 1)) = _
  congr 1
  exact sm_cong (fun i hi => by rw [show s + (i + 1) = s + 1 + i by omega])
theorem qHf_end {w : wS} {j s : Nat} (h : qSt w j ≤ s) : qHf w j s = 0 := by
  unfold qHf
  rw [show qSt w j - s = 0 by omega]
  rfl
def qAim (a j : Nat) (e du wt v : Int) : Int := if a = 0 then max v e else if a = 1 then v + e else if a = 2 then (if j = 0 then e - du else max v (e - du)) else if a = 3 then v + (if 0 < e - du then 1 else 0) else v + wt * max (e - du) 0
def qValK (w : wS) (a : Nat) (E : Nat → Int) (k : Nat) : Int := it (fun j v => qAim a j (E j) (qDu w j) (qWt w j) v) k 0
def qVal (w : wS) (a : Nat) (E : Nat → Int) : Int := qValK w a E (qN w)
theorem qVal_cong {w : wS} {a : Nat} {E E' : Nat → Int} (h : ∀ j, j < qN w → E j = E' j) : qVal w a E = qVal w a E' := it_cong (fun k hk x => by rw [h k hk])
theorem qWtMul {wt x : Int} (h1 : 1 ≤ wt ∧ wt ≤ 9) (h2 : 0 ≤ x) : 0 ≤ wt * x ∧ wt * x ≤ 9 * x := ⟨Int.mul_nonneg (by omega) h2, Int.mul_le_mul_of_nonneg_right h1.2 h2⟩
theorem qAim_bd {w : wS} (hw : Wok w) {a j : Nat} (hj : j < qN w) {e v b : Int} (he : 0 ≤ e ∧ e ≤ 40000) (hb : 0 ≤ b) (hv : -b ≤ v ∧ v ≤ b) : -(b + 400000) ≤ qAim a j e (qDu w j) (qWt w j) v ∧ qAim a j e (qDu w j) (qWt w j) v ≤ b + 400000 := by
  have h1 := hw.du hj
  have h2 := qWtMul (hw.wt hj) (show 0 ≤ max (e - qDu w j) 0 by omega)
  unfold qAim
  split
  · omega
  · split
    · omega
    · split
      · split <;> omega
      · split
        · split <;> omega
        · omega
theorem qValK_bd {w : wS} (hw : Wok w) {a : Nat} {E : Nat → Int} (hE : ∀ j, j < qN w → 0 ≤ E j ∧ E j ≤ 40000) : ∀ {k : Nat}, k ≤ qN w → -(400000 * (k : Int)) ≤ qValK w a E k ∧ qValK w a E k ≤ 400000 * (k : Int)
  | 0, _ => by
    show -(400000 * ((0 : Nat) : Int)) ≤ 0 ∧ 0 ≤ 400000 * ((0 : Nat) : Int)
    omega
  | k + 1, hk => by
    have h1 := qValK_bd hw (a := a) hE (k := k) (by omega)
    have h2 := qAim_bd hw (a := a) (show k < qN w by omega) (hE k (by omega)) (by omega) h1
    show -(400000 * ((k + 1 : Nat) : Int)) ≤ qAim a k (E k) (qDu w k) (qWt w k) (qValK w a E k) ∧ qAim a k (E k) (qDu w k) (qWt w k) (qValK w a E k) ≤ _
    omega
/-- when a job would end by what is put and what is left -/
def tEn (w : wS) (σ : qT) (j : Nat) : Int := tRd w σ j + qHf w j (tDn σ j)
def D0 : Nat → Int := fun _ => 0
theorem DB0 : DB D0 := fun _ => ⟨Int.le_refl 0, by show (0 : Int) ≤ 20000; omega⟩
section AI
variable {w : wS} {G : mG}
theorem S_hoursFrom (hw : Wok w) (hx : XS w G) {j s : Nat} (hj : j < qN w) (hs : s ≤ 5) : P_X7_hoursFrom (j : Int) (s : Int) G = some (qHf w j s) := by
  have hn := hw.n
  have h5 := (hw.st hj).2
  refine Ok.get ?_
  unfold P_X7_hoursFrom
  by_cases h0 : s ≤ qSt w j
  · refine Ok.seq2 (fun k => sm (fun i => qHr w (5 * j + (s + i))) k) (fun k => ((s + k : Nat) : Int)) (qSt w j - s) LF (LF_lt (by omega)) (fun k hk again hag => ?_) (fun again => ?_)
    · refine Ok.ld j rfl (by omega) (by omega) ?_
      rw [hx.st hw hj]
      refine Ok.condT (ilt_nat (by omega) (by omega)) (by omega) ?_
      refine Ok.ld (5 * j + (s + k)) (by omega) (by omega) (by omega) ?_
      rw [hx.hr hw (by omega)]
      exact hag
    · refine Ok.ld j rfl (by omega) (by omega) ?_
      rw [hx.st hw hj]
      refine Ok.condF (ilt_nat (by omega) (by omega)) (by omega) ?_
      exact Ok.so rfl
  · refine Ok.seq2 (fun _ => 0) (fun k => ((s + k : Nat) : Int)) 0 LF (LF_lt (by omega)) (fun k hk again hag => absurd hk (Nat.not_lt_zero _)) (fun again => ?_)
    refine Ok.ld j rfl (by omega) (by omega) ?_
    rw [hx.st hw hj]
    refine Ok.condF (ilt_nat (by omega) (by omega)) (by omega) ?_
    rw [qHf_end (by omega)]
    exact Ok.so rfl
variable {r : Nat → Nat} {n t : Nat} {D : Nat → Int}
theorem S_hoursLeft (hw : Wok w) (hx : XS w G) (hv : qV w r n) (hD : DB D) (hT : TT t w D r n G) {j : Nat} (hj : j < qN w) : P_X8_hoursLeft t (j : Int) G = some (qHf w j (rD r n j)) := by
  have hn := hw.n
  have h1 := rD_le hv hj
  have h5 := (hw.st hj).2
  refine Ok.get ?_
  unfold P_X8_hoursLeft
  refine Ok.ld j rfl (by omega) (by omega) ?_
  rw [hT.dn (by omega)]
  refine Ok.eq (S_hoursFrom hw hx hj (by omega)) (Ok.so rfl)
theorem S_leastEndOf (hw : Wok w) (hx : XS w G) (hv : qV w r n) (hD : DB D) (hT : TT t w D r n G) {j : Nat} (hj : j < qN w) : P_X8_leastEndOf t (j : Int) G = some (tEn w (qS w D r n) j) := by
  refine Ok.get ?_
  unfold P_X8_leastEndOf tEn
  rw [qS_dn]
  refine Ok.eq (S_readyHour hw hx hv hD hT hj) ?_
  refine Ok.eq (S_hoursLeft hw hx hv hD hT hj) (Ok.so rfl)
theorem tEn_bd (hw : Wok w) (hx : XS w G) (hv : qV w r n) (hD : DB D) (hT : TT t w D r n G) {j : Nat} (hj : j < qN w) : 0 ≤ tEn w (qS w D r n) j ∧ tEn w (qS w D r n) j ≤ 40000 := by
  have h1 := tRd_bd hw hx hv hD hT hj
  have h2 := qHf_bd hw (s := tDn (qS w D r n) j) hj
  unfold tEn
  omega
theorem S_aimed (hw : Wok w) (hx : XS w G) (hv : qV w r n) (hD : DB D) (hT : TT t w D r n G) {a : Nat} (ha : a ≤ 4) : P_X8_aimed t (a : Int) G = some (qVal w a (tEn w (qS w D r n))) := by
  have hn := hw.n
  have hE := fun j (hj : j < qN w) => tEn_bd hw hx hv hD hT hj
  refine Ok.get ?_
  unfold P_X8_aimed
  refine Ok.seq2 (fun k => qValK w a (tEn w (qS w D r n)) k) (fun k => (k : Int)) (qN w) LF (LF_lt (by omega)) (fun k hk again hag => ?_) (fun again => ?_)
  · have hb := qValK_bd hw (a := a) hE (k := k) (by omega)
    have he := hE k hk
    have hdu := hw.du hk
    have hwt := hw.wt hk
    have ev : qValK w a (tEn w (qS w D r n)) (k + 1) = qAim a k (tEn w (qS w D r n) k) (qDu w k) (qWt w k) (qValK w a (tEn w (qS w D r n)) k) := rfl
    rw [hx.n hw]
    refine Ok.condT (ilt_nat (by omega) (by omega)) hk ?_
    refine Ok.eq (S_leastEndOf hw hx hv hD hT hk) ?_
    refine Ok.ld k rfl (by omega) (by omega) ?_
    have e3 : G 3 k = qDu w k := hx.at k (by simp [aok, asz] <;> omega)
    rw [e3]
    generalize tEn w (qS w D r n) k = e at *
    generalize qValK w a (tEn w (qS w D r n)) k = v at *
    refine Ok.jn1 (fun y => y = qAim a k e (qDu w k) (qWt w k) v) (fun y hy => ?_) (fun k10 hk10 => ?_)
    · subst hy
      rw [ev] at hag
      exact hag
    · have ea : w32 (a : Int) = (a : Int) := w32_id (by omega) (by omega)
      rw [ea]
      unfold qAim at hk10
      refine Ok.it (fun h => ?_) (fun h => ?_)
      · have h := of_decide_eq_true h
        rw [iMax_id (by omega) (by omega) (by omega) (by omega)]
        exact hk10 _ (by rw [if_pos (by omega)])
      · have h := of_decide_eq_false h
        rw [if_neg (by omega)] at hk10
        refine Ok.it (fun h => ?_) (fun h => ?_)
        · have h := of_decide_eq_true h
          exact hk10 _ (by rw [if_pos (by omega)])
        · have h := of_decide_eq_false h
          rw [if_neg (by omega)] at hk10
          refine Ok.it (fun h => ?_) (fun h => ?_)
          · have h := of_decide_eq_true h
            rw [if_pos (by omega)] at hk10
            refine Ok.lk ?_
            refine Ok.cd (ieq_id (by omega) (by omega) (by omega) (by omega)) (fun h2 => ?_) (fun h2 => ?_)
            · exact hk10 _ (by rw [if_pos (by omega)])
            · rw [iMax_id (by omega) (by omega) (by omega) (by omega)]
              exact hk10 _ (by rw [if_neg (by omega)])
          · have h := of_decide_eq_false h
            rw [if_neg (by omega)] at hk10
            refine Ok.it (fun h => ?_) (fun h => ?_)
            · have h := of_decide_eq_true h
              rw [if_pos (by omega)] at hk10
              refine Ok.lk ?_
              refine Ok.cd (ilt_id (by omega) (by omega) (by omega) (by omega)) (fun h2 => ?_) (fun h2 => ?_)
              · exact hk10 _ (by rw [if_pos h2])
              · exact hk10 _ (by rw [if_neg h2])
            · have h := of_decide_eq_false h
              rw [if_neg (by omega)] at hk10
              refine Ok.ld k rfl (by omega) (by omega) ?_
              have e4 : G 4 k = qWt w k := hx.at k (by simp [aok, asz] <;> omega)
              rw [e4, iMax_id (by omega) (by omega) (by omega) (by omega)]
              exact hk10 _ rfl
  · rw [hx.n hw]
    refine Ok.condF (ilt_nat (by omega) (by omega)) (Nat.lt_irrefl _) ?_
    exact Ok.so rfl
end AI
section CL
theorem S_fill {a an : Nat} {v : Int} {G : mG} (han : an ≤ 10000) : Ok (P_J7_fill_53178 a an v G) (fun G' => (∀ i, i < an → G' a i = v) ∧ (∀ b, b ≠ a → G' b = G b)) := by
  unfold P_J7_fill_53178
  refine Ok.forC (fun k G' => (∀ i, i < k → G' a i = v) ∧ (∀ b, b ≠ a → G' b = G b)) an LF (LF_lt (by omega)) ⟨fun i hi => absurd hi (Nat.not_lt_zero _), fun b _ => rfl⟩ (fun k hk again G' hI hag => ?_) (fun again G' hI => ?_)
  · refine Ok.condT (ilt_nat (by omega) (by omega)) hk ?_
    refine Ok.sto k rfl hk (by omega) ?_
    refine hag _ ⟨fun i hi => ?_, fun b hb => ?_⟩
    · simp only [up2_if]
      by_cases h : i = k
      · simp [h]
      · simp [h, hI.1 i (by omega)]
    · rw [up2_ne hb]
      exact hI.2 b hb
  · refine Ok.condF (ilt_nat (by omega) (by omega)) (Nat.lt_irrefl _) (Ok.so hI)
variable {w : wS} {G : mG} {t : Nat}
theorem S_clear (D : Nat → Int) (r : Nat → Nat) : Ok (P_X8_clear t G) (fun G' => TT t w D r 0 G' ∧ FrT t G G') := by
  unfold P_X8_clear
  refine Ok.pu ?_
  refine Ok.bind (S_fill (by omega)) (fun G2 h2 => ?_)
  refine Ok.bind (S_fill (by omega)) (fun G3 h3 => Ok.so ?_)
  refine ⟨⟨?_, fun i hi => absurd hi (Nat.not_lt_zero _), fun j hj => ?_, fun m hm => ?_, fun m k hm hk => absurd hk (Nat.not_lt_zero _), fun j s hj hs => absurd hs (Nat.not_lt_zero _)⟩, fun a ha => ?_⟩
  · rw [h3.2 t (by omega), h2.2 t (by omega), up2_eq, up1_eq]
    rfl
  · rw [h3.2 _ (by omega)]
    exact h2.1 j hj
  · exact h3.1 m hm
  · rw [h3.2 a (by omega), h2.2 a (by omega), up2_ne (by omega)]
variable {D : Nat → Int} {r : Nat → Nat}
/-- the row that the shop holds is put, a step not ahead of an hour -/
theorem S_putDelayed (hw : Wok w) (hx : XS w G) (ht : 17 ≤ t) (hv : qV w r (qTot w).toNat) (hr : ∀ i, i < (qTot w).toNat → G 16 i = (r i : Int)) {p1 p2 : Int} (h1 : -1 ≤ p1 ∧ p1 ≤ 100) (h2 : 0 ≤ p2 ∧ p2 ≤ 20000) : Ok (P_X8_putDelayed t p1 p2 G) (fun G' => TT t w (fun x => if (x : Int) = p1 then p2 else 0) r (qTot w).toNat G' ∧ FrT t G G') := by
  have htot := qTot_le hw
  have hD : DB (fun x : Nat => if (x : Int) = p1 then p2 else 0) := fun x => by
    show 0 ≤ (if (x : Int) = p1 then p2 else 0) ∧ (if (x : Int) = p1 then p2 else 0) ≤ 20000
    split <;> omega
  unfold P_X8_putDelayed
  refine Ok.bind (S_clear (w := w) (fun x : Nat => if (x : Int) = p1 then p2 else 0) r) (fun G3 hG3 => ?_)
  refine Ok.eq (S_stepTotal hw (hG3.2.xs ht hx)) ?_
  refine Ok.forC (fun k G' => TT t w (fun x => if (x : Int) = p1 then p2 else 0) r k G' ∧ FrT t G G') (qTot w).toNat LF (LF_lt (by omega)) hG3 (fun k hk again G' hI hag => ?_) (fun again G' hI => ?_)
  · have hx' := hI.2.xs ht hx
    have hn := hw.n
    obtain ⟨hj, hl⟩ := hv k hk
    have h5 := rS_lt5 hw hv hk
    refine Ok.condT (P := k < (qTot w).toNat) ?_ hk ?_
    · rw [ilt_id (by omega) (by omega) (by omega) (by omega)]
      refine decide_eq_decide.mpr ⟨fun h => by omega, fun h => by omega⟩
    refine Ok.ld k rfl (by omega) (by omega) ?_
    have e1 : G' 16 k = (r k : Int) := by
      rw [hI.2 16 (by omega)]
      exact hr k hk
    rw [e1]
    refine Ok.eq (S_nextStep hw hx' (hv.le (by omega)) hI.1 (by omega)) ?_
    refine Ok.jn1 (fun y => y = (if (rX r k : Int) = p1 then p2 else 0)) (fun y hy => ?_) (fun k14 hk14 => ?_)
    · subst hy
      refine Ok.bind (S_put (D := fun x : Nat => if (x : Int) = p1 then p2 else 0) hw ht hx' (hv.le (by omega)) hD hI.1) (fun G2 hG2 => ?_)
      exact hag _ ⟨hG2.1, hI.2.tr hG2.2⟩
    · have e2 : 5 * r k + rD r k (r k) = rX r k := rfl
      rw [e2]
      have h6 : rX r k < 100 := by
        unfold rX
        omega
      refine Ok.cd (ieq_id (by omega) (by omega) (by omega) (by omega)) (fun h => ?_) (fun h => ?_)
      · exact hk14 _ (by rw [if_pos h])
      · exact hk14 _ (by rw [if_neg h])
  · refine Ok.condF (P := (qTot w).toNat < (qTot w).toNat) ?_ (Nat.lt_irrefl _) (Ok.so hI)
    rw [ilt_id (by omega) (by omega) (by omega) (by omega)]
    refine decide_eq_decide.mpr ⟨fun h => by omega, fun h => by omega⟩
end CL
/-- the plan's row: its length, none without a plan -/
def qLn (w : wS) : Nat := if w 1 15 = 0 then 0 else (qTot w).toNat
def Pok (w : wS) : Prop := w 1 15 = 1 → qF w (qRw w) (qTot w).toNat ∧ ∀ i, i < (qTot w).toNat → w 16 i = (qRw w i : Int)
theorem Pok.v {w : wS} (hw : Wok w) (hp : Pok w) : qV w (qRw w) (qLn w) := by
  unfold qLn
  by_cases h : w 1 15 = 0
  · rw [if_pos h]
    exact fun i hi => absurd hi (Nat.not_lt_zero _)
  · rw [if_neg h]
    have := hw.2.2.2.2.2.2.2.1
    exact (hp (by omega)).1.1
theorem S_replay {w : wS} {G : mG} {t : Nat} (hw : Wok w) (hx : XS w G) (ht : 17 ≤ t) (hp : Pok w) : Ok (P_X8_replay t G) (fun G' => TT t w D0 (qRw w) (qLn w) G' ∧ FrT t G G') := by
  have hpl := hw.2.2.2.2.2.2.2.1
  unfold P_X8_replay
  refine Ok.bind (S_clear (w := w) D0 (qRw w)) (fun G1 hG1 => ?_)
  have hx1 := hG1.2.xs ht hx
  have e1 : G1 1 15 = w 1 15 := hx1.at 15 (by simp [aok, asz] <;> omega)
  rw [e1]
  unfold qLn
  refine Ok.cd (ieq_id (by omega) (by omega) (by omega) (by omega)) (fun h => ?_) (fun h => ?_)
  · rw [if_pos h]
    exact Ok.so hG1
  · rw [if_neg h]
    obtain ⟨h1, h2⟩ := hp (by omega)
    have htot := qTot_le hw
    refine Ok.bind (S_putDelayed hw hx1 ht h1.1 (fun i hi => (hx1.at i (by simp [aok, asz] <;> omega)).trans (h2 i hi)) (p1 := -1) (p2 := 0) (by omega) (by omega)) (fun G2 hG2 => Ok.so ⟨TT_cong (fun _ _ => rfl) (fun i _ => ?_) hG2.1, hG1.2.tr hG2.2⟩)
    show (if (rX (qRw w) i : Int) = -1 then (0 : Int) else 0) = 0
    split <;> rfl
