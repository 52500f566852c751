/-! ===== slack ===== -/
theorem qS_b0 {w : wS} {r : Nat → Nat} (hw : Wok w) : ∀ {n : Nat}, qV w r n → ∀ i, i < n → tBg (qS w D0 r n) (rX r i) + qHr w (rX r i) ≤ 3000 + 100 * (i + 1) := by
  intro n hv i
  induction i using Nat.strongRecOn with
  | ind i ih =>
    intro hi
    have hr := rHr hw hv hi
    have hd := rX_div hw hv hi
    have hj := (hv i hi).1
    have hrel := hw.rel hj
    have hm' : qMc w (rX r i) < 4 := rM_lt hw hv hi
    rw [qS_eqB hw hv hi]
    have e1 : qRd w (tBg (qS w D0 r n)) (rX r i) ≤ 3000 + 100 * i := by
      unfold qRd
      split
      · rw [hd.1]
        omega
      · next h0 =>
        obtain ⟨i', a1, a2, a3, a4⟩ := rX_pre hw hv hi h0
        have h1 := ih i' a1 (by omega)
        rw [a4] at h1
        omega
    unfold qHo
    have hD : D0 (rX r i) = 0 := rfl
    rw [hD]
    by_cases hk : rK w r i = 0
    · rw [if_pos hk]
      have h2 := qOpen_hi hw hm' (len := qHr w (rX r i)) (h := max (qRd w (tBg (qS w D0 r n)) (rX r i)) 0) (b := 3000 + 100 * (i : Int)) (by omega) (by omega)
      omega
    · rw [if_neg hk]
      obtain ⟨i', a1, a2, a3⟩ := rK_pre hk
      have e5 : tOd (qS w D0 r n) (rM w r i) (rK w r i - 1) = rX r i' := by
        rw [← a2, show rK w r i - 1 = rK w r i' by omega]
        exact qS_od hw hv (by omega)
      rw [e5]
      have h1 := ih i' a1 (by omega)
      have h3 := qBw_bd hw (p := rX r i') (wp := tWr (qS w D0 r n) (rX r i')) (x := rX r i) (by rw [(rX_div hw hv (show i' < n by omega)).1]; exact (hv i' (by omega)).1) (by rw [hd.1]; exact hj) hm'
      have h6 := qOpen_hi hw hm' (len := qHr w (rX r i)) (h := max (max (qRd w (tBg (qS w D0 r n)) (rX r i)) 0) (tBg (qS w D0 r n) (rX r i') + qHr w (rX r i') + qBw w (rX r i') (tWr (qS w D0 r n) (rX r i')) (rX r i))) (b := 3000 + 100 * (i : Int) + 40) (by omega) (by omega)
      omega
/-- later wishes, later begins -/
theorem qS_mono {w : wS} {r : Nat → Nat} {n : Nat} {D1 D2 : Nat → Int} (hw : Wok w) (hv : qV w r n) (hD : ∀ i, i < n → D1 (rX r i) ≤ tBg (qS w D2 r n) (rX r i)) : (∀ i, i < n → tWr (qS w D1 r n) (rX r i) = tWr (qS w D2 r n) (rX r i)) ∧ ∀ i, i < n → tBg (qS w D1 r n) (rX r i) ≤ tBg (qS w D2 r n) (rX r i) := by
  have hO : tOd (qS w D1 r n) = tOd (qS w D2 r n) := qS_odD
  have hWr : ∀ i, i < n → tWr (qS w D1 r n) (rX r i) = tWr (qS w D2 r n) (rX r i) := by
    intro i
    induction i using Nat.strongRecOn with
    | ind i ih =>
      intro hi
      rw [qS_eqW hw hv hi, qS_eqW hw hv hi, hO]
      unfold qWe
      by_cases hk : rK w r i = 0
      · rw [if_pos hk, if_pos hk]
      · rw [if_neg hk, if_neg hk]
        obtain ⟨i', a1, a2, a3⟩ := rK_pre hk
        have e5 : tOd (qS w D2 r n) (rM w r i) (rK w r i - 1) = rX r i' := by
          rw [← a2, show rK w r i - 1 = rK w r i' by omega]
          exact qS_od hw hv (by omega)
        rw [e5, ih i' a1 (by omega)]
  refine ⟨hWr, ?_⟩
  intro i
  induction i using Nat.strongRecOn with
  | ind i ih =>
    intro hi
    have hfree : qFree w (qMc w (rX r i)) (qHr w (rX r i)) (tBg (qS w D2 r n) (rX r i)) := by
      rw [qS_eqB hw hv hi]
      unfold qHo
      exact qOpen_free _ _ _ _
    have hDi := hD i hi
    have e2 := qS_eqB (D := D2) hw hv hi
    have e1 : qRd w (tBg (qS w D1 r n)) (rX r i) ≤ qRd w (tBg (qS w D2 r n)) (rX r i) := by
      unfold qRd
      by_cases h0 : rX r i % 5 = 0
      · rw [if_pos h0, if_pos h0]
        exact Int.le_refl _
      · rw [if_neg h0, if_neg h0]
        obtain ⟨i', a1, a2, a3, a4⟩ := rX_pre hw hv hi h0
        have := ih i' a1 (by omega)
        rw [a4] at this
        omega
    rw [qS_eqB (D := D1) hw hv hi]
    have hge : qRd w (tBg (qS w D2 r n)) (rX r i) ≤ tBg (qS w D2 r n) (rX r i) := by
      rw [e2]
      exact qHo_ge
    unfold qHo
    refine qOpen_least ?_ hfree
    by_cases hk : rK w r i = 0
    · rw [if_pos hk]
      omega
    · rw [if_neg hk, hO]
      obtain ⟨i', a1, a2, a3⟩ := rK_pre hk
      have e5 : tOd (qS w D2 r n) (rM w r i) (rK w r i - 1) = rX r i' := by
        rw [← a2, show rK w r i - 1 = rK w r i' by omega]
        exact qS_od hw hv (by omega)
      have h7 := ih i' a1 (by omega)
      rw [e5, hWr i' (by omega)]
      have h8 : tBg (qS w D2 r n) (rX r i') + qHr w (rX r i') + qBw w (rX r i') (tWr (qS w D2 r n) (rX r i')) (rX r i) ≤ tBg (qS w D2 r n) (rX r i) := by
        rw [e2]
        unfold qHo
        rw [if_neg hk, e5]
        exact Int.le_trans (Int.le_max_right _ _) (qOpen_le _ _ _ _)
      omega
theorem qVal0_mono {w : wS} {E1 E2 : Nat → Int} (h : ∀ j, j < qN w → E1 j ≤ E2 j) : qVal w 0 E1 ≤ qVal w 0 E2 := by
  unfold qVal
  have : ∀ k, k ≤ qN w → qValK w 0 E1 k ≤ qValK w 0 E2 k := by
    intro k
    induction k with
    | zero => exact fun _ => Int.le_refl _
    | succ k ih =>
      intro hk
      show qAim 0 k (E1 k) (qDu w k) (qWt w k) (qValK w 0 E1 k) ≤ qAim 0 k (E2 k) (qDu w k) (qWt w k) (qValK w 0 E2 k)
      have := ih (by omega)
      have := h k (by omega)
      unfold qAim
      rw [if_pos rfl, if_pos rfl]
      omega
  exact this _ (Nat.le_refl _)
theorem qVal_bd {w : wS} (hw : Wok w) {a : Nat} {E : Nat → Int} (hE : ∀ j, j < qN w → 0 ≤ E j ∧ E j ≤ 40000) : -2400000 ≤ qVal w a E ∧ qVal w a E ≤ 2400000 := by
  have h := qValK_bd hw (a := a) hE (Nat.le_refl _)
  have hn := hw.n
  unfold qVal
  omega
theorem dlT_mono {w : wS} {r : Nat → Nat} {n : Nat} {D1 D2 : Nat → Int} (hw : Wok w) (hF : qF w r n) (hD : ∀ i, i < n → D1 (rX r i) ≤ tBg (qS w D2 r n) (rX r i)) : qVal w 0 (tEn w (qS w D1 r n)) ≤ qVal w 0 (tEn w (qS w D2 r n)) := by
  refine qVal0_mono (fun j hj => ?_)
  rw [tEn_full hF hj, tEn_full hF hj]
  unfold tRd
  rw [qS_dn, qS_dn]
  by_cases h : rD r n j = 0
  · rw [if_pos h, if_pos h]
    exact Int.le_refl _
  · rw [if_neg h, if_neg h]
    obtain ⟨i, a1, a2, a3, a4⟩ := rX_of (r := r) (n := n) (j := j) (s := rD r n j - 1) (by omega)
    have := (qS_mono hw hF.1 hD).2 i a1
    rw [a4, show 5 * j + (rD r n j - 1) = 5 * j + rD r n j - 1 by omega] at this
    omega
/-- a step is delayed -/
def dlD (w : wS) (r : Nat → Nat) (n lat : Nat) (d : Int) : Nat → Int := fun x => if (x : Int) = (lat : Int) then tBg (qS w D0 r n) lat + d else 0
def dlE (w : wS) (r : Nat → Nat) (n lat : Nat) (d : Int) : Int := qVal w 0 (tEn w (qS w (dlD w r n lat d) r n))
section DL
variable {w : wS} {r : Nat → Nat} {n lat : Nat} {i0 : Nat}
theorem dlB (hw : Wok w) (hF : qF w r n) (hi0 : i0 < n) (hx0 : rX r i0 = lat) : 0 ≤ tBg (qS w D0 r n) lat ∧ tBg (qS w D0 r n) lat ≤ 6100 := by
  have h1 := qS_b0 hw hF.1 i0 hi0
  have h2 := (qS_bd hw DB0 hF.1 i0 hi0).1
  have h3 := qV_30 hw hF.1
  have h4 := rHr hw hF.1 hi0
  rw [hx0] at h1 h2 h4
  omega
theorem dlDB (hw : Wok w) (hF : qF w r n) (hi0 : i0 < n) (hx0 : rX r i0 = lat) {d : Int} (hd : 0 ≤ d ∧ d ≤ 1500) : DB (dlD w r n lat d) := fun x => by
  have := dlB hw hF hi0 hx0
  unfold dlD
  split <;> omega
theorem dlE_mono (hw : Wok w) (hF : qF w r n) (hi0 : i0 < n) (hx0 : rX r i0 = lat) {d d' : Int} (h0 : 0 ≤ d) (h : d ≤ d') : dlE w r n lat d ≤ dlE w r n lat d' := by
  refine dlT_mono hw hF (fun i hi => ?_)
  have hge : dlD w r n lat d' (rX r i) ≤ tBg (qS w (dlD w r n lat d') r n) (rX r i) := by
    rw [qS_eqB hw hF.1 hi]
    unfold qHo
    refine Int.le_trans ?_ (qOpen_le _ _ _ _)
    split <;> omega
  refine Int.le_trans ?_ hge
  unfold dlD
  split <;> omega
theorem dlE_0 (hw : Wok w) (hF : qF w r n) (hi0 : i0 < n) (hx0 : rX r i0 = lat) : dlE w r n lat 0 ≤ qVal w 0 (tEn w (qS w D0 r n)) := by
  refine dlT_mono hw hF (fun i hi => ?_)
  have h2 := (qS_bd hw DB0 hF.1 i hi).1
  unfold dlD
  split
  · next h =>
    rw [show rX r i = lat by omega]
    omega
  · omega
end DL
/-- the longest delay that keeps the end -/
def slOk (w : wS) (r : Nat → Nat) (n lat : Nat) (d : Nat) : Prop := d ≤ 1000 ∧ dlE w r n lat d ≤ qVal w 0 (tEn w (qS w D0 r n)) ∧ (d < 1000 → qVal w 0 (tEn w (qS w D0 r n)) < dlE w r n lat ((d : Int) + 1))
theorem slOk_uni {w : wS} {r : Nat → Nat} {n lat d d' : Nat} (hw : Wok w) (hF : qF w r n) {i0 : Nat} (hi0 : i0 < n) (hx0 : rX r i0 = lat) (h : slOk w r n lat d) (h' : slOk w r n lat d') : d = d' := by
  have key : ∀ a b : Nat, slOk w r n lat a → slOk w r n lat b → ¬ a < b := by
    intro a b ha hb hlt
    have h1 := ha.2.2 (by have := hb.1; omega)
    have h2 := dlE_mono hw hF hi0 hx0 (d := (a : Int) + 1) (d' := (b : Int)) (by omega) (by omega)
    have h3 := hb.2.1
    omega
  have := key d d' h h'
  have := key d' d h' h
  omega
noncomputable def vSlack (w : wS) (lat : Nat) : Nat := Classical.epsilon (slOk w (qRw w) (qTot w).toNat lat)
theorem vSlack_eq {w : wS} {lat d : Nat} (hw : Wok w) (hF : qF w (qRw w) (qTot w).toNat) {i0 : Nat} (hi0 : i0 < (qTot w).toNat) (hx0 : rX (qRw w) i0 = lat) (h : slOk w (qRw w) (qTot w).toNat lat d) : d = vSlack w lat := slOk_uni hw hF hi0 hx0 h (Classical.epsilon_spec (p := slOk w (qRw w) (qTot w).toNat lat) ⟨d, h⟩)
theorem C_slack {p1 p2 : Int} (i1 : I32 p1) (i2 : I32 p2) : CaseX (P_X10_slack p1 p2) (fun E => if E = 0 then 1 else if E = 2 then 2 else 0) (P_X11_slack p1 p2) := by
  refine CaseY_of (fun w => 0 ≤ p1 ∧ p1 < (qN w : Int) ∧ 0 ≤ p2 ∧ p2 < (qSt w p1.toNat : Int)) (fun w => w 1 15 = 1) (fun _ => True) (fun w => (vSlack w (5 * p1.toNat + p2.toNat) : Int)) (fun w h len a np G hI => ?_) (fun w h len a np G n k hI => ?_)
  · have hw := hI.1.1
    have hm := hI.2.2.2.2.1
    have hn := hw.n
    unfold P_X11_slack
    rw [M_isStep hw hm.1 i1 i2]
    refine Ok.eq rfl ?_
    refine Ok.bind (M_isPlanned hw hI.1.2.1 hm) (fun z5 hz5 => ?_)
    rw [hz5.2.1]
    refine QM.fits rfl rfl T_T (fun _ => rfl) (KF.fr hz5.1) (fun h1 h2 _ => ?_)
    refine Ok.iteT rfl ?_
    have hT := hz5.2.2 h2
    have hF := (hI.plan h2).1
    obtain ⟨j, rfl⟩ := Int.eq_ofNat_of_zero_le h1.1
    obtain ⟨s, rfl⟩ := Int.eq_ofNat_of_zero_le h1.2.2.1
    have hj : j < qN w := by omega
    rw [Int.toNat_natCast] at h1 ⊢
    have hs : s < qSt w j := by omega
    have h5 := (hw.st hj).2
    rw [Int.toNat_natCast]
    obtain ⟨i0, hi0, t2, t3, hx0⟩ := rX_of (r := qRw w) (n := (qTot w).toNat) (j := j) (s := s) (by rw [hF.2 j hj]; exact hs)
    have hm5 : MD w (z5.2 57) := by
      rw [hz5.1 57 (by omega)]
      exact hm.1
    have hm6 : MD w ((up2 z5.2 56 3 0) 57) := by
      rw [up2_ne (by omega)]
      exact hm5
    have hO6 : OT w (qRw w) (qTot w).toNat (tOd (qS w D0 (qRw w) (qTot w).toNat)) ((up2 z5.2 56 3 0) 57) 152 := by
      rw [up2_ne (by omega), hz5.1 57 (by omega)]
      exact hm.plan h2
    obtain ⟨E1, E2⟩ := MK_E hw hm5 hF hT
    refine Ok.eq (M_planEnd hw hm6 (fun i hi => (congrFun (up2_ne (by omega)) i).trans (E1 i hi)) E2) ?_
    dsimp only
    generalize up2 z5.2 56 3 0 = G6 at hm6 hO6 ⊢
    have hB := dlB hw hF hi0 hx0
    refine Ok.lp2 (fun M x G8 => ∃ q : Nat, x = (q : Int) ∧ q + M = 1000 ∧ FrM G6 G8 ∧ dlE w (qRw w) (qTot w).toNat (5 * j + s) q ≤ qVal w 0 (tEn w (qS w D0 (qRw w) (qTot w).toNat))) (fun M again x G8 hI8 hk => ?_) LF 1000 0 G6 (LF_lt (by omega)) ⟨0, rfl, by omega, FrM.rf _, dlE_0 hw hF hi0 hx0⟩
    obtain ⟨q, rfl, hqM, hf8, hq8⟩ := hI8
    refine Ok.cd (ilt_nat (b := 1000) (by omega) (by omega)) (fun g => ?_) (fun g => ?_)
    · have hm8 : MD w (G8 57) := by
        rw [hf8 57 (by omega)]
        exact hm6
      have hDq := dlDB (d := (q : Int) + 1) hw hF hi0 hx0 (by omega)
      have hO8 : OT w (qRw w) (qTot w).toNat (tOd (qS w (dlD w (qRw w) (qTot w).toNat (5 * j + s) ((q : Int) + 1)) (qRw w) (qTot w).toNat)) (G8 57) 152 := by
        rw [qS_odD (D' := D0), hf8 57 (by omega)]
        exact hO6
      have hwo := M_worksOut (lat := 5 * j + s) (by_ := (q : Int) + 1) (a := 57) (an := 282) (p := 152) (p2 := 10 * (j : Int) + (s : Int)) hw hF.1 hF.2 (So_later hw hF.1 (by omega) hi0 hx0 (by omega)) hm8 (by omega) (by omega) (by omega) (by omega) (fun i hi => ?_) (by omega) hO8
      · refine Ok.bind hwo (fun z11 hz11 => ?_)
        obtain ⟨y1, y2, y3, y4⟩ := hz11
        refine Ok.iteT y1 ?_
        have hm11 : MD w (z11.2 57) := by
          rw [y3 57 (by omega)]
          exact hm8
        have hE11 : ∀ j', j' < qN w → z11.2 61 j' = tEn w (qS w (dlD w (qRw w) (qTot w).toNat (5 * j + s) ((q : Int) + 1)) (qRw w) (qTot w).toNat) j' := fun j' hj' => by
          rw [tEn_full hF hj', ← mEn_tRd]
          exact y2.2.1 j' hj'
        have hEb : ∀ j', j' < qN w → 0 ≤ tEn w (qS w (dlD w (qRw w) (qTot w).toNat (5 * j + s) ((q : Int) + 1)) (qRw w) (qTot w).toNat) j' ∧ tEn w (qS w (dlD w (qRw w) (qTot w).toNat (5 * j + s) ((q : Int) + 1)) (qRw w) (qTot w).toNat) j' ≤ 40000 := fun j' hj' => by
          rw [tEn_full hF hj']
          have := tRd_bd0 hw hDq hF.1 hj'
          omega
        refine Ok.eq (M_planEnd hw hm11 hE11 hEb) ?_
        have b1 := qVal_bd hw (a := 0) E2
        have b2 := qVal_bd hw (a := 0) hEb
        refine Ok.cd (P := qVal w 0 (tEn w (qS w D0 (qRw w) (qTot w).toNat)) < dlE w (qRw w) (qTot w).toNat (5 * j + s) ((q : Int) + 1)) (by unfold dlE; exact ilt_id (by omega) (by omega) (by omega) (by omega)) (fun g2 => ?_) (fun g2 => ?_)
        · refine Ok.so ⟨?_, KF.fr (hf8.tr y3), congrFun ((hf8.tr y3) 56 (by omega)) 3⟩
          rw [← vSlack_eq (d := q) hw hF hi0 hx0 ⟨by omega, hq8, fun _ => g2⟩]
        · exact hk (M - 1) _ _ (by omega) ⟨q + 1, rfl, by omega, hf8.tr y3, by
            rw [show ((q + 1 : Nat) : Int) = (q : Int) + 1 from rfl]
            omega⟩
      · have h5' := rS_lt5 hw hF.1 hi
        unfold rX
        rw [cd_js h5']
        constructor
        · intro e
          omega
        · intro e
          omega
    · have hq : q = 1000 := by omega
      refine Ok.so ⟨?_, KF.fr hf8, congrFun (hf8 56 (by omega)) 3⟩
      rw [← vSlack_eq (d := q) hw hF hi0 hx0 ⟨by omega, hq8, fun g2 => by omega⟩]
  · have hw := hI.1.1
    have hx := hI.2.1
    have hn := hw.n
    unfold P_X10_slack
    refine Ok.need (needStep_eq hw hx i1 i2) (fun h1 => ?_) (fun h1 => QC.e1 0 (by omega) rfl h1)
    refine Ok.need (needPlan_eq hw hx) (fun h2 => ?_) (fun h2 => QC.e2 2 (by omega) rfl h1 h2)
    obtain ⟨hF, hr, hO, hT⟩ := hI.plan h2
    obtain ⟨j, rfl⟩ := Int.eq_ofNat_of_zero_le h1.1
    obtain ⟨s, rfl⟩ := Int.eq_ofNat_of_zero_le h1.2.2.1
    have hj : j < qN w := by omega
    have h1' := h1
    rw [Int.toNat_natCast] at h1'
    have hs : s < qSt w j := by omega
    have hs' : s < rD (qRw w) (qTot w).toNat j := by
      rw [hF.2 j hj]
      exact hs
    have h5 := (hw.st hj).2
    obtain ⟨i0, hi0, t2, t3, hx0⟩ := rX_of hs'
    have hB := dlB hw hF hi0 hx0
    refine Ok.eq (S_aimed hw hx hF.1 DB0 hT (a := 0) (by omega)) ?_
    dsimp only
    refine Ok.lp3 (fun M x y G10 => ∃ q t : Nat, x = (q : Int) ∧ y = (t : Int) ∧ q ≤ 1000 ∧ FrT 26 G G10 ∧ dlE w (qRw w) (qTot w).toNat (5 * j + s) q ≤ qVal w 0 (tEn w (qS w D0 (qRw w) (qTot w).toNat)) ∧ ∃ g : Nat, (1000 < q + g ∨ qVal w 0 (tEn w (qS w D0 (qRw w) (qTot w).toNat)) < dlE w (qRw w) (qTot w).toNat (5 * j + s) ((q + g : Nat) : Int)) ∧ ((M = 0 ∧ t = 0 ∧ g = 1) ∨ (M ≤ 10 ∧ 0 < M ∧ t = 2 ^ (M - 1) ∧ g = 2 ^ M))) (fun M again x y G10 hI10 hk => ?_) LF 10 0 512 G (LF_lt (by omega)) ⟨0, 512, rfl, rfl, by omega, FrT.rf 26 G, dlE_0 hw hF hi0 hx0, 1024, Or.inl (by omega), Or.inr ⟨by omega, by omega, rfl, rfl⟩⟩
    obtain ⟨q, t, rfl, rfl, hq, hf10, hq8, g, hg, hMt⟩ := hI10
    have hx10 := hf10.xs (by omega) hx
    have hT10 : TT 17 w D0 (qRw w) (qTot w).toNat G10 := TT_fr (fun b hb1 hb2 => hf10 b (by omega)) hT
    rcases hMt with ⟨hM, rfl, rfl⟩ | ⟨hM1, hM2, ht, hg2⟩
    · refine Ok.iteF rfl ?_
      refine Ok.so ⟨G10, hf10.kq, Or.inl ⟨h1, h2, trivial, ?_⟩⟩
      rw [Int.toNat_natCast, Int.toNat_natCast, ← vSlack_eq (d := q) hw hF hi0 hx0 ⟨hq, hq8, fun g2 => by
        rcases hg with hg | hg
        · omega
        · exact hg⟩]
    · have ht1 : 0 < t := by
        rw [ht]
        exact Nat.pow_pos (by omega)
      have ht2 : t ≤ 512 := by
        rw [ht]
        exact Nat.pow_le_pow_right (by omega) (by omega : M - 1 ≤ 9)
      have hgt : g = 2 * t := by
        rw [hg2, ht]
        conv => lhs; rw [show M = (M - 1) + 1 by omega, Nat.pow_succ]
        omega
      have hnext : ∀ (q' : Nat) (G' : mG), q' ≤ 1000 → FrT 26 G G' → dlE w (qRw w) (qTot w).toNat (5 * j + s) q' ≤ qVal w 0 (tEn w (qS w D0 (qRw w) (qTot w).toNat)) → (1000 < q' + t ∨ qVal w 0 (tEn w (qS w D0 (qRw w) (qTot w).toNat)) < dlE w (qRw w) (qTot w).toNat (5 * j + s) ((q' + t : Nat) : Int)) → Ok (again (q' : Int) (iDiv (t : Int) 2) G') _ := fun q' G' a1 a2 a3 a4 => hk (M - 1) _ _ _ (by omega) ⟨q', t / 2, rfl, by
          rw [iDiv_id (by omega) (by omega) (by omega) (by omega)]
          omega, a1, a2, a3, t, a4, by
          by_cases hM3 : M = 1
          · subst hM3
            have : t = 1 := ht
            subst this
            exact Or.inl ⟨rfl, rfl, rfl⟩
          · refine Or.inr ⟨by omega, by omega, ?_, ht⟩
            rw [ht, show M - 1 = (M - 2) + 1 by omega, Nat.pow_succ, Nat.mul_div_cancel _ (by omega), show M - 2 + 1 - 1 = M - 2 by omega]⟩
      refine Ok.condT (ilt_nat (a := 0) (by omega) (by omega)) ht1 ?_
      refine Ok.jn2 (fun y' G' => ∃ q' : Nat, y' = (q' : Int) ∧ q' ≤ 1000 ∧ FrT 26 G G' ∧ dlE w (qRw w) (qTot w).toNat (5 * j + s) q' ≤ qVal w 0 (tEn w (qS w D0 (qRw w) (qTot w).toNat)) ∧ (1000 < q' + t ∨ qVal w 0 (tEn w (qS w D0 (qRw w) (qTot w).toNat)) < dlE w (qRw w) (qTot w).toNat (5 * j + s) ((q' + t : Nat) : Int))) (fun y' G' hy => ?_) (fun k16 hk16 => ?_)
      · obtain ⟨q', rfl, a1, a2, a3, a4⟩ := hy
        exact hnext q' G' a1 a2 a3 a4
      · refine Ok.cd (P := 1000 < q + t) ((ilt_id (by omega) (by omega) (by omega) (by omega)).trans (decide_eq_decide.mpr (by omega))) (fun g1 => ?_) (fun g1 => ?_)
        · exact hk16 _ _ ⟨q, rfl, hq, hf10, hq8, Or.inl g1⟩
        · refine Ok.ld (5 * j + s) (by omega) (by omega) (by omega) ?_
          rw [hT10.bg (by omega) hs']
          have hpd := S_putDelayed (t := 26) (p1 := (j : Int) * 5 + (s : Int)) (p2 := tBg (qS w D0 (qRw w) (qTot w).toNat) (5 * j + s) + (q : Int) + (t : Int)) hw hx10 (by omega) hF.1 (fun i hi => by rw [hf10 16 (by omega)]; exact hr i hi) (by omega) (by omega)
          refine Ok.bind hpd (fun G18 hG18 => ?_)
          have eD : (fun x : Nat => if (x : Int) = (j : Int) * 5 + (s : Int) then tBg (qS w D0 (qRw w) (qTot w).toNat) (5 * j + s) + (q : Int) + (t : Int) else 0) = dlD w (qRw w) (qTot w).toNat (5 * j + s) ((q + t : Nat) : Int) := funext fun x => by
            unfold dlD
            by_cases hxx : x = 5 * j + s
            · rw [if_pos (by omega), if_pos (by omega)]
              omega
            · rw [if_neg (by omega), if_neg (by omega)]
          rw [eD] at hG18
          have hDq := dlDB (d := ((q + t : Nat) : Int)) hw hF hi0 hx0 (by omega)
          have hx18 := hG18.2.xs (by omega) hx10
          refine Ok.eq (S_aimed hw hx18 hF.1 hDq hG18.1 (a := 0) (by omega)) ?_
          have b1 := qVal_bd hw (a := 0) (E := tEn w (qS w D0 (qRw w) (qTot w).toNat)) (fun j' hj' => tEn_bd hw hx hF.1 DB0 hT hj')
          have b2 := qVal_bd hw (a := 0) (E := tEn w (qS w (dlD w (qRw w) (qTot w).toNat (5 * j + s) ((q + t : Nat) : Int)) (qRw w) (qTot w).toNat)) (fun j' hj' => tEn_bd hw hx18 hF.1 hDq hG18.1 hj')
          refine Ok.cd (P := qVal w 0 (tEn w (qS w D0 (qRw w) (qTot w).toNat)) < dlE w (qRw w) (qTot w).toNat (5 * j + s) ((q + t : Nat) : Int)) (by unfold dlE; exact ilt_id (by omega) (by omega) (by omega) (by omega)) (fun g2 => ?_) (fun g2 => ?_)
          · exact hk16 _ _ ⟨q, rfl, hq, hf10.tr hG18.2, hq8, Or.inr g2⟩
          · refine hk16 _ _ ⟨q + t, rfl, by omega, hf10.tr hG18.2, by omega, ?_⟩
            rcases hg with hg | hg
            · exact Or.inl (by omega)
            · refine Or.inr ?_
              rw [show q + t + t = q + g by omega]
              exact hg
