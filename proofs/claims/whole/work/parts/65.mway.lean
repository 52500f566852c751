/-! ===== the way, in the model ===== -/
/-- begins and orders of a whole plan -/
def WP (w : wS) (r : Nat → Nat) (n : Nat) (G : mG) : Prop := MD w (G 57) ∧ OT w r n (tOd (qS w D0 r n)) (G 57) 152 ∧ ∀ j s, j < qN w → s < qSt w j → G 59 (5 * j + s) = tBg (qS w D0 r n) (5 * j + s)
theorem WP.fr {w : wS} {r : Nat → Nat} {n : Nat} {G G' : mG} (h : WP w r n G) (h1 : G' 57 = G 57) (h2 : G' 59 = G 59) : WP w r n G' := by
  unfold WP
  rw [h1, h2]
  exact h
section MW1
variable {w : wS} {r : Nat → Nat} {n : Nat} {G : mG}
theorem WP.end (hw : Wok w) (hF : qF w r n) (hW : WP w r n G) {i : Nat} (hi : i < n) : P_X11_stepEnd (r i : Int) (rS r i : Int) G = some (tE w (qS w D0 r n) (rX r i)) := M_stepEnd (r := r) (n := n) hw hW.1 (hF.1 i hi).1 (hF.1 i hi).2 (rS_lt5 hw hF.1 hi) (hW.2.2 _ _ (hF.1 i hi).1 (hF.1 i hi).2)
theorem M_chg1 (hw : Wok w) (hF : qF w r n) (hW : WP w r n G) {m : Nat} (h4 : m < 4) {i i' : Nat} (hi : i < n) (hi' : i' < n) (he : rM w r i = m) (hc : G 62 m = (cd (rX r i') : Int)) (hc2 : G 64 m = tWr (qS w D0 r n) (rX r i')) : P_X11_isChanged (m : Int) (qHr w (rX r i)) G = some (qTl w (tWr (qS w D0 r n) (rX r i')) (rX r i)) := by
  have hm := hW.1
  have hr := rHr hw hF.1 hi
  have hlf := hw.lf h4
  have hb := (qS_bd hw DB0 hF.1 i' hi').2
  have h30 := qV_30 hw hF.1
  have h5 := rS_lt5 hw hF.1 hi'
  have hn := hw.n
  have hv := (hF.1 i' hi').1
  refine Ok.get ?_
  unfold P_X11_isChanged
  refine Ok.ld (1 + 11 * m + 9) (by omega) (by omega) (by omega) ?_
  rw [hm.lf hw h4]
  refine Ok.ld m rfl h4 (by omega) ?_
  rw [hc]
  refine Ok.lk ?_
  have hcd : cd (rX r i') < 100 := by
    unfold rX
    rw [cd_js h5]
    omega
  refine Ok.condF (P := (cd (rX r i') : Int) = -1) (ieq_id (by omega) (by omega) (by omega) (by omega)) (by omega) ?_
  unfold qTl
  rw [show qMc w (rX r i) = m from he]
  refine Ok.cd (ilt_id (by omega) (by omega) (by omega) (by omega)) (fun h1 => ?_) (fun h1 => ?_)
  · refine Ok.ld m rfl h4 (by omega) ?_
    rw [hc2]
    refine Ok.cd (ilt_id (by omega) (by omega) (by omega) (by omega)) (fun h2 => ?_) (fun h2 => ?_)
    · exact Ok.so (decide_eq_true ⟨by omega, h2⟩).symm
    · exact Ok.so (decide_eq_false (fun h => h2 h.2)).symm
  · exact Ok.so (decide_eq_false (fun h => by omega)).symm
theorem M_chg0 (hw : Wok w) (hF : qF w r n) (hW : WP w r n G) {m : Nat} (h4 : m < 4) {x : Int} (hc : G 62 m = -1) : P_X11_isChanged (m : Int) x G = some false := by
  have hm := hW.1
  refine Ok.get ?_
  unfold P_X11_isChanged
  refine Ok.ld (1 + 11 * m + 9) (by omega) (by omega) (by omega) ?_
  refine Ok.ld m rfl h4 (by omega) ?_
  rw [hc]
  refine Ok.lk ?_
  exact Ok.iteT rfl (Ok.so rfl)
theorem M_btw1 (hw : Wok w) (hF : qF w r n) (hW : WP w r n G) {m : Nat} (h4 : m < 4) {i i' : Nat} (hi : i < n) (hi' : i' < n) (he : rM w r i = m) (hc : G 62 m = (cd (rX r i') : Int)) (hc2 : G 64 m = tWr (qS w D0 r n) (rX r i')) : P_X11_between (m : Int) (r i : Int) (qHr w (rX r i)) G = some (qBw w (rX r i') (tWr (qS w D0 r n) (rX r i')) (rX r i)) := by
  have hm := hW.1
  have hn := hw.n
  have h5 := rS_lt5 hw hF.1 hi'
  have hv := (hF.1 i' hi').1
  have hvi := (hF.1 i hi).1
  have hcd : cd (rX r i') = 10 * r i' + rS r i' := by
    unfold rX
    exact cd_js h5
  refine Ok.get ?_
  unfold P_X11_between
  refine Ok.ld m rfl h4 (by omega) ?_
  rw [hc]
  refine Ok.condF (P := (cd (rX r i') : Int) = -1) (ieq_id (by omega) (by omega) (by omega) (by omega)) (by omega) ?_
  refine Ok.ld m rfl h4 (by omega) ?_
  rw [hc]
  have e1 : iDiv (cd (rX r i') : Int) 10 = (r i' : Int) := by
    rw [iDiv_id (by omega) (by omega) (by omega) (by omega)]
    omega
  rw [e1]
  refine Ok.eq (M_kd hw hm hv) ?_
  refine Ok.eq (M_kd hw hm hvi) ?_
  have k1 := hw.kd hv
  have k2 := hw.kd hvi
  refine Ok.ld (45 + (4 * qKd w (r i') + qKd w (r i))) (by omega) (by omega) (by omega) ?_
  rw [hm.su hw k1.2 k2.2]
  refine Ok.eq (M_chg1 hw hF hW h4 hi hi' he hc hc2) ?_
  have d1 := (rX_div hw hF.1 hi').1
  have d2 := (rX_div hw hF.1 hi).1
  unfold qBw
  rw [d1, d2, show qMc w (rX r i) = m from he]
  refine Ok.lk ?_
  refine Ok.it (fun h => ?_) (fun h => ?_)
  · refine Ok.ld (1 + 11 * m + 10) (by omega) (by omega) (by omega) (Ok.so ?_)
    rw [if_pos h, hm.cg hw h4]
  · refine Ok.so ?_
    rw [if_neg (by rw [h]; exact Bool.false_ne_true)]
end MW1
section MW2
variable {w : wS} {r : Nat → Nat} {n : Nat} {G : mG}
/-- the order's place of a code -/
theorem OT_at (hw : Wok w) (hF : qF w r n) (hO : OT w r n (tOd (qS w D0 r n)) (G 57) 152) {i : Nat} (hi : i < n) : G 57 (152 + 31 * rM w r i + 1 + rK w r i) = (cd (rX r i) : Int) := by
  rw [(hO _ (rM_lt hw hF.1 hi)).2 _ (rK_lt hi), qS_od hw hF.1 hi]
theorem cd_rX (hw : Wok w) (hF : qF w r n) {i : Nat} (hi : i < n) : cd (rX r i) = 10 * r i + rS r i ∧ cd (rX r i) < 100 ∧ rX r i < 30 := by
  have hn := hw.n
  have h5 := rS_lt5 hw hF.1 hi
  have hv := (hF.1 i hi).1
  refine ⟨?_, ?_, ?_⟩
  · unfold rX
    exact cd_js h5
  · unfold rX
    rw [cd_js h5]
    omega
  · unfold rX
    omega
theorem cd_ne (hw : Wok w) (hF : qF w r n) {i i' : Nat} (hi : i < n) (hi' : i' < n) (h : i ≠ i') : cd (rX r i) ≠ cd (rX r i') := by
  intro e
  have h1 := cd_rX hw hF hi
  have h2 := cd_rX hw hF hi'
  have h5 := rS_lt5 hw hF.1 hi
  have h6 := rS_lt5 hw hF.1 hi'
  refine h (rX_inj hw hF.1 hi hi' ?_)
  unfold rX
  omega
theorem M_aheadOf (hw : Wok w) (hF : qF w r n) (hW : WP w r n G) {i : Nat} (hi : i < n) : P_X11_aheadOf (cd (rX r i) : Int) G = some (if rK w r i = 0 then -1 else (cd (tOd (qS w D0 r n) (rM w r i) (rK w r i - 1)) : Int)) := by
  have hn := hw.n
  have hm4 := rM_lt hw hF.1 hi
  have hv := hF.1 i hi
  obtain ⟨c1, c2, c3⟩ := cd_rX hw hF hi
  have hK := rK_lt (w := w) (r := r) hi
  have hC := rC_30 hw hF.1 (rM w r i)
  have h5 := rS_lt5 hw hF.1 hi
  refine Ok.get ?_
  unfold P_X11_aheadOf
  have e1 : iDiv (cd (rX r i) : Int) 10 = (r i : Int) := by
    rw [iDiv_id (by omega) (by omega) (by omega) (by omega)]
    omega
  have e2 : iRem (cd (rX r i) : Int) 10 = (rS r i : Int) := by
    rw [iRem_id (by omega) (by omega) (by omega) (by omega)]
    omega
  rw [e1, e2]
  refine Ok.eq (M_machineOf hw hW.1 hv.1 hv.2) ?_
  rw [show qMc w (5 * r i + rS r i) = rM w r i from rfl]
  obtain ⟨o1, o2⟩ := hW.2.1 _ hm4
  refine Ok.lp2 (fun M x k => ∃ q : Nat, k = (q : Int) ∧ q + M = rK w r i ∧ x = (if q = 0 then -1 else (cd (tOd (qS w D0 r n) (rM w r i) (q - 1)) : Int))) (fun M again x k hI hk => ?_) LF (rK w r i) (-1) 0 (LF_lt (by omega)) ⟨0, rfl, by omega, rfl⟩
  obtain ⟨q, rfl, hq, rfl⟩ := hI
  refine Ok.ld (152 + 31 * rM w r i) (by omega) (by omega) (by omega) ?_
  rw [o1]
  refine Ok.condT (ilt_nat (by omega) (by omega)) (by omega) ?_
  refine Ok.ld (152 + 31 * rM w r i + 1 + q) (by omega) (by omega) (by omega) ?_
  have hqC : q < rC w r n (rM w r i) := by omega
  obtain ⟨i', k1, k2, k3⟩ := rK_of hqC
  have eo := qS_od (D := D0) hw hF.1 k1
  rw [k2, k3] at eo
  obtain ⟨d1, d2, d3⟩ := cd_rX hw hF k1
  rw [o2 q hqC, eo]
  by_cases hM : q = rK w r i
  · have : i' = i := rK_inj (w := w) (r := r) k2 (by omega)
    subst this
    refine Ok.condT (ieq_nat (by omega) (by omega)) rfl ?_
    exact Ok.so (by rw [hM])
  · have hne : i' ≠ i := fun e => hM (by rw [← k3, e])
    refine Ok.condF (ieq_nat (by omega) (by omega)) (cd_ne hw hF k1 hi hne) ?_
    refine Ok.ld (152 + 31 * rM w r i + 1 + q) (by omega) (by omega) (by omega) ?_
    rw [o2 q hqC]
    refine hk (M - 1) _ _ (by omega) ⟨q + 1, rfl, by omega, ?_⟩
    rw [if_neg (by omega), Nat.add_sub_cancel]
theorem M_readyAt (hw : Wok w) (hF : qF w r n) (hW : WP w r n G) {i : Nat} (hi : i < n) : Ok (P_X11_readyAt (cd (rX r i) : Int) G) (fun z => z.1 = (if rK w r i = 0 then -1 else tE w (qS w D0 r n) (tOd (qS w D0 r n) (rM w r i) (rK w r i - 1)) + tBt (qS w D0 r n) (rX r i)) ∧ ∀ b, b ≠ 62 → b ≠ 64 → z.2 b = G b) := by
  have hn := hw.n
  have hm4 := rM_lt hw hF.1 hi
  have hv := hF.1 i hi
  obtain ⟨c1, c2, c3⟩ := cd_rX hw hF hi
  have hK := rK_lt (w := w) (r := r) hi
  have hC := rC_30 hw hF.1 (rM w r i)
  have h5 := rS_lt5 hw hF.1 hi
  have e1 : iDiv (cd (rX r i) : Int) 10 = (r i : Int) := by
    rw [iDiv_id (by omega) (by omega) (by omega) (by omega)]
    omega
  have e2 : iRem (cd (rX r i) : Int) 10 = (rS r i : Int) := by
    rw [iRem_id (by omega) (by omega) (by omega) (by omega)]
    omega
  obtain ⟨o1, o2⟩ := hW.2.1 _ hm4
  unfold P_X11_readyAt
  rw [e1, e2]
  refine Ok.eq (M_machineOf hw hW.1 hv.1 hv.2) ?_
  rw [show qMc w (5 * r i + rS r i) = rM w r i from rfl]
  generalize hmm : rM w r i = m at hm4 hK hC o1 o2 ⊢
  refine Ok.sto m rfl hm4 (by omega) ?_
  refine Ok.sto m rfl hm4 (by omega) ?_
  -- cells ahead of place q
  let C : Nat → mG → Prop := fun q G' => G' 62 m = (if q = 0 then -1 else (cd (tOd (qS w D0 r n) m (q - 1)) : Int)) ∧ G' 64 m = (if q = 0 then 0 else tWr (qS w D0 r n) (tOd (qS w D0 r n) m (q - 1))) ∧ ∀ b, b ≠ 62 → b ≠ 64 → G' b = G b
  refine Ok.jn1 (C (rK w r i)) (fun G5 hG5 => ?_) (fun k13 hk13 => ?_)
  · obtain ⟨b1, b2, b3⟩ := hG5
    have hW5 : WP w r n G5 := hW.fr (b3 57 (by omega) (by omega)) (b3 59 (by omega) (by omega))
    refine Ok.ld m rfl hm4 (by omega) ?_
    rw [b1]
    by_cases h0 : rK w r i = 0
    · rw [if_pos h0, if_pos h0]
      exact Ok.iteT rfl (Ok.so ⟨rfl, b3⟩)
    · rw [if_neg h0, if_neg h0]
      rw [if_neg h0] at b1 b2
      obtain ⟨i', q1, q2, q3⟩ := rK_pre h0
      have hi' : i' < n := by omega
      have eo := qS_od (D := D0) hw hF.1 hi'
      rw [q2, hmm, show rK w r i' = rK w r i - 1 by omega] at eo
      rw [eo] at b1 b2 ⊢
      obtain ⟨d1, d2, d3⟩ := cd_rX hw hF hi'
      refine Ok.condF (P := (cd (rX r i') : Int) = -1) (ieq_id (by omega) (by omega) (by omega) (by omega)) (by omega) ?_
      refine Ok.ld m rfl hm4 (by omega) ?_
      refine Ok.ld m rfl hm4 (by omega) ?_
      rw [b1]
      have h5' := rS_lt5 hw hF.1 hi'
      have f1 : iDiv (cd (rX r i') : Int) 10 = (r i' : Int) := by
        rw [iDiv_id (by omega) (by omega) (by omega) (by omega)]
        omega
      have f2 : iRem (cd (rX r i') : Int) 10 = (rS r i' : Int) := by
        rw [iRem_id (by omega) (by omega) (by omega) (by omega)]
        omega
      rw [f1, f2]
      refine Ok.eq (hW5.end hw hF hi') ?_
      refine Ok.eq (M_hoursOf hw hW5.1 hv.1 hv.2) ?_
      refine Ok.eq (M_btw1 hw hF hW5 hm4 hi hi' hmm b1 b2) ?_
      have eB := tBt_eq hw hF.1 hi
      rw [if_neg h0, hmm, eo] at eB
      exact Ok.so ⟨by rw [eB], b3⟩
  · refine Ok.lp2 (fun M k G' => ∃ q : Nat, k = (q : Int) ∧ q + M = rK w r i ∧ C q G') (fun M again k G' hI hk => ?_) LF (rK w r i) 0 _ (LF_lt (by omega)) ⟨0, rfl, by omega, ?_, ?_, ?_⟩
    · obtain ⟨q, rfl, hq, b1, b2, b3⟩ := hI
      have hW5 : WP w r n G' := hW.fr (b3 57 (by omega) (by omega)) (b3 59 (by omega) (by omega))
      refine Ok.ld (152 + 31 * m + 1 + q) (by omega) (by omega) (by omega) ?_
      have hqC : q < rC w r n m := by omega
      obtain ⟨i', k1, k2, k3⟩ := rK_of hqC
      have eo := qS_od (D := D0) hw hF.1 k1
      rw [k2, k3] at eo
      obtain ⟨d1, d2, d3⟩ := cd_rX hw hF k1
      have hcell : G' 57 (152 + 31 * m + 1 + q) = (cd (rX r i') : Int) := by
        rw [b3 57 (by omega) (by omega), o2 q hqC, eo]
      rw [hcell]
      by_cases hM : q = rK w r i
      · have : i' = i := rK_inj (w := w) (r := r) (k2.trans hmm.symm) (by omega)
        subst this
        refine Ok.condT (ieq_nat (by omega) (by omega)) rfl ?_
        refine hk13 _ ?_
        rw [← hM]
        exact ⟨b1, b2, b3⟩
      · have hne : i' ≠ i := fun e => hM (by rw [← k3, e])
        refine Ok.condF (ieq_nat (by omega) (by omega)) (cd_ne hw hF k1 hi hne) ?_
        refine Ok.ld (152 + 31 * m + 1 + q) (by omega) (by omega) (by omega) ?_
        rw [hcell]
        have h5' := rS_lt5 hw hF.1 k1
        have f1 : iDiv (cd (rX r i') : Int) 10 = (r i' : Int) := by
          rw [iDiv_id (by omega) (by omega) (by omega) (by omega)]
          omega
        have f2 : iRem (cd (rX r i') : Int) 10 = (rS r i' : Int) := by
          rw [iRem_id (by omega) (by omega) (by omega) (by omega)]
          omega
        rw [f1, f2]
        have hv' := hF.1 i' k1
        refine Ok.eq (M_hoursOf hw hW5.1 hv'.1 hv'.2) ?_
        have eW := qS_eqW (D := D0) hw hF.1 k1
        rw [k2, k3] at eW
        have hnext : ∀ x, x = tWr (qS w D0 r n) (rX r i') → Ok (again (((q : Int)) + 1) (up2 (up2 G' 64 m x) 62 m (cd (rX r i') : Int))) _ := fun x hx => hk (M - 1) _ _ (by omega) ⟨q + 1, rfl, by omega, by
          rw [up2_eq, up1_eq, if_neg (by omega), Nat.add_sub_cancel, eo], by
          rw [up2_ne (by omega), up2_eq, up1_eq, if_neg (by omega), Nat.add_sub_cancel, eo, hx], fun b hb1 hb2 => by
          rw [up2_ne hb1, up2_ne hb2, b3 b hb1 hb2]⟩
        by_cases h0 : q = 0
        · rw [if_pos h0] at b1 b2
          refine Ok.eq (M_chg0 hw hF hW5 hm4 b1) ?_
          refine Ok.lk ?_
          refine Ok.iteF rfl ?_
          refine Ok.ld m rfl hm4 (by omega) ?_
          rw [b2]
          refine Ok.sto m rfl hm4 (by omega) ?_
          refine Ok.sto m rfl hm4 (by omega) ?_
          refine hnext _ ?_
          rw [eW]
          unfold qWe
          rw [if_pos h0]
          exact Int.zero_add _
        · rw [if_neg h0] at b1 b2
          obtain ⟨p, p1, p2, p3⟩ := rK_pre (w := w) (r := r) (i := i') (by omega)
          have ep := qS_od (D := D0) hw hF.1 (i := p) (by omega)
          rw [p2, k2, show rK w r p = q - 1 by omega] at ep
          rw [ep] at b1 b2
          refine Ok.eq (M_chg1 hw hF hW5 hm4 k1 (by omega) k2 b1 b2) ?_
          unfold qWe at eW
          rw [if_neg h0, ep] at eW
          refine Ok.lk ?_
          refine Ok.it (fun h => ?_) (fun h => ?_)
          · refine Ok.sto m rfl hm4 (by omega) ?_
            refine Ok.sto m rfl hm4 (by omega) ?_
            refine hnext _ ?_
            rw [eW, if_pos h]
            rfl
          · refine Ok.ld m rfl hm4 (by omega) ?_
            rw [b2]
            refine Ok.sto m rfl hm4 (by omega) ?_
            refine Ok.sto m rfl hm4 (by omega) ?_
            refine hnext _ ?_
            rw [eW, if_neg (by rw [h]; exact Bool.false_ne_true)]
            rfl
    · rw [up2_ne (by omega), up2_eq, up1_eq]
      rfl
    · rw [up2_eq, up1_eq]
      rfl
    · intro b hb1 hb2
      rw [up2_ne hb2, up2_ne hb1]
end MW2
