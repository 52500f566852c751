/-! ===== questions: begins, ends, values, orders, who is worked on ===== -/
theorem C_begin {p1 p2 : Int} (i1 : I32 p1) (i2 : I32 p2) : CaseX (P_X10_begin p1 p2) (fun E => if E = 0 then 1 else if E = 2 then 2 else 0) (P_X11_begin p1 p2) := by
  refine CaseY_of (fun w => 0 ≤ p1 ∧ p1 < (qN w : Int) ∧ 0 ≤ p2 ∧ p2 < (qSt w p1.toNat : Int)) (fun w => w 1 15 = 1) (fun _ => True) (fun w => tBg (qS w D0 (qRw w) (qTot w).toNat) (5 * p1.toNat + p2.toNat)) (fun w h len a np G hI => ?_) (fun w h len a np G n k hI => ?_)
  · have hw := hI.1.1
    have hm := hI.2.2.2.2.1
    have hn := hw.n
    unfold P_X11_begin
    rw [M_isStep hw hm.1 i1 i2]
    refine Ok.eq rfl ?_
    refine Ok.bind (M_isPlanned hw hI.1.2.1 hm) (fun z5 hz5 => ?_)
    rw [hz5.2.1]
    refine QM.fits rfl rfl T_T (fun _ => rfl) (KF.fr hz5.1) (fun h1 h2 _ => ?_)
    refine Ok.iteT rfl ?_
    have hT := hz5.2.2 h2
    have hF := (hI.plan h2).1
    obtain ⟨j, rfl⟩ := Int.eq_ofNat_of_zero_le h1.1
    obtain ⟨s, rfl⟩ := Int.eq_ofNat_of_zero_le h1.2.2.1
    have hj : j < qN w := by omega
    rw [Int.toNat_natCast] at h1 ⊢
    have hs : s < qSt w j := by omega
    have h5 := (hw.st hj).2
    rw [Int.toNat_natCast]
    refine Ok.ld (5 * j + s) (by omega) (by omega) (by omega) ?_
    refine Ok.so ⟨?_, KF.rf _, rfl⟩
    dsimp only
    rw [up2_ne (by omega), hT.2.2.2 j s hj (by rw [hF.2 j hj]; exact hs)]
  · have hw := hI.1.1
    have hx := hI.2.1
    have hn := hw.n
    unfold P_X10_begin
    refine Ok.need (needStep_eq hw hx i1 i2) (fun h1 => ?_) (fun h1 => QC.e1 0 (by omega) rfl h1)
    refine Ok.need (needPlan_eq hw hx) (fun h2 => ?_) (fun h2 => QC.e2 2 (by omega) rfl h1 h2)
    obtain ⟨hF, hr, hO, hT⟩ := hI.plan h2
    obtain ⟨j, rfl⟩ := Int.eq_ofNat_of_zero_le h1.1
    obtain ⟨s, rfl⟩ := Int.eq_ofNat_of_zero_le h1.2.2.1
    have hj : j < qN w := by omega
    have h1' := h1
    rw [Int.toNat_natCast] at h1'
    have hs : s < qSt w j := by omega
    have h5 := (hw.st hj).2
    refine Ok.ld (5 * j + s) (by omega) (by omega) (by omega) ?_
    dsimp only
    rw [hT.bg (by omega) (by rw [hF.2 j hj]; exact hs)]
    exact Ok.so (QC.v h1 h2 trivial)
theorem C_endOf {p1 : Int} (i1 : I32 p1) : CaseX (P_X10_endOf p1) (fun E => if E = 0 then 1 else if E = 2 then 2 else 0) (P_X11_endOf p1) := by
  refine CaseY_of (fun w => 0 ≤ p1 ∧ p1 < (qN w : Int)) (fun w => w 1 15 = 1) (fun _ => True) (fun w => tEn w (qS w D0 (qRw w) (qTot w).toNat) p1.toNat) (fun w h len a np G hI => ?_) (fun w h len a np G n k hI => ?_)
  · have hw := hI.1.1
    have hm := hI.2.2.2.2.1
    have hn := hw.n
    unfold P_X11_endOf
    rw [M_isJob hw hm.1 i1]
    refine Ok.eq rfl ?_
    refine Ok.bind (M_isPlanned hw hI.1.2.1 hm) (fun z5 hz5 => ?_)
    rw [hz5.2.1]
    refine QM.fits rfl rfl T_T (fun _ => rfl) (KF.fr hz5.1) (fun h1 h2 _ => ?_)
    refine Ok.iteT rfl ?_
    have hT := hz5.2.2 h2
    have hF := (hI.plan h2).1
    obtain ⟨j, rfl⟩ := Int.eq_ofNat_of_zero_le h1.1
    have hj : j < qN w := by omega
    rw [Int.toNat_natCast]
    have hm5 : MD w (z5.2 57) := by
      rw [hz5.1 57 (by omega)]
      exact hm.1
    obtain ⟨E1, E2⟩ := MK_E hw hm5 hF hT
    refine Ok.ld j rfl (by omega) (by omega) ?_
    refine Ok.so ⟨?_, KF.rf _, rfl⟩
    dsimp only
    rw [up2_ne (by omega), E1 j hj]
  · have hw := hI.1.1
    have hx := hI.2.1
    have hn := hw.n
    unfold P_X10_endOf
    refine Ok.need (needJob_eq hw hx i1) (fun h1 => ?_) (fun h1 => QC.e1 0 (by omega) rfl h1)
    refine Ok.need (needPlan_eq hw hx) (fun h2 => ?_) (fun h2 => QC.e2 2 (by omega) rfl h1 h2)
    obtain ⟨hF, hr, hO, hT⟩ := hI.plan h2
    obtain ⟨j, rfl⟩ := Int.eq_ofNat_of_zero_le h1.1
    have hj : j < qN w := by omega
    refine Ok.eq (S_leastEndOf hw hx hF.1 DB0 hT hj) ?_
    exact Ok.so (QC.v h1 h2 trivial)
theorem C_value {p1 : Int} (i1 : I32 p1) : CaseX (P_X10_value p1) (fun E => if E = 1 then 1 else if E = 2 then 2 else 0) (P_X11_value p1) := by
  refine CaseY_of (fun _ => 0 ≤ p1 ∧ p1 ≤ 4) (fun w => w 1 15 = 1) (fun _ => True) (fun w => qVal w p1.toNat (tEn w (qS w D0 (qRw w) (qTot w).toNat))) (fun w h len a np G hI => ?_) (fun w h len a np G n k hI => ?_)
  · have hw := hI.1.1
    have hm := hI.2.2.2.2.1
    have hn := hw.n
    unfold P_X11_value
    rw [M_in i1 (i32_k (by omega)) (i32_k (by omega))]
    refine Ok.eq rfl ?_
    refine Ok.bind (M_isPlanned hw hI.1.2.1 hm) (fun z5 hz5 => ?_)
    rw [hz5.2.1]
    refine QM.fits rfl rfl T_T (fun _ => rfl) (KF.fr hz5.1) (fun h1 h2 _ => ?_)
    refine Ok.iteT rfl ?_
    have hT := hz5.2.2 h2
    have hF := (hI.plan h2).1
    obtain ⟨j, rfl⟩ := Int.eq_ofNat_of_zero_le h1.1
    rw [Int.toNat_natCast]
    have hm5 : MD w (z5.2 57) := by
      rw [hz5.1 57 (by omega)]
      exact hm.1
    have hm6 : MD w ((up2 z5.2 56 3 0) 57) := by
      rw [up2_ne (by omega)]
      exact hm5
    obtain ⟨E1, E2⟩ := MK_E hw hm5 hF hT
    refine Ok.eq (M_valueOf hw hm6 (a := j) (by omega) (fun i hi => (congrFun (up2_ne (by omega)) i).trans (E1 i hi)) E2) ?_
    exact Ok.so ⟨rfl, KF.rf _, rfl⟩
  · have hw := hI.1.1
    have hx := hI.2.1
    have hn := hw.n
    unfold P_X10_value
    refine Ok.need (needAim_eq i1) (fun h1 => ?_) (fun h1 => QC.e1 1 (by omega) rfl h1)
    refine Ok.need (needPlan_eq hw hx) (fun h2 => ?_) (fun h2 => QC.e2 2 (by omega) rfl h1 h2)
    obtain ⟨hF, hr, hO, hT⟩ := hI.plan h2
    obtain ⟨j, rfl⟩ := Int.eq_ofNat_of_zero_le h1.1
    refine Ok.eq (S_aimed hw hx hF.1 DB0 hT (a := j) (by omega)) ?_
    exact Ok.so (QC.v h1 h2 trivial)
theorem told_eq {x : Nat} (h : x < 1000) : P_X10_told (x : Int) = some (cd x : Int) := by
  unfold P_X10_told
  rw [iDiv_id (by omega) (by omega) (by omega) (by omega), iRem_id (by omega) (by omega) (by omega) (by omega)]
  unfold cd
  congr 1
/-- the row that is read, with or without a plan -/
theorem IV.row {w : wS} {h : Nat → wS} {len a np : Nat} {G : mG} (hI : IV w h len a np G) : qV w (qRw w) (qLn w) ∧ OT w (qRw w) (qLn w) (tOd (qS w D0 (qRw w) (qLn w))) (G 57) 152 ∧ TT 17 w D0 (qRw w) (qLn w) G := by
  refine ⟨?_, hI.2.2.2.2.1.2.2, hI.2.2.1⟩
  by_cases h1 : w 1 15 = 1
  · have hln : qLn w = (qTot w).toNat := by
      unfold qLn
      rw [if_neg (by omega)]
    rw [hln]
    exact (hI.plan h1).1.1
  · have hz := hI.1.1.2.2.2.2.2.2.2.1
    have hln : qLn w = 0 := by
      unfold qLn
      rw [if_pos (by omega)]
    rw [hln]
    exact fun i hi => absurd hi (Nat.not_lt_zero _)
theorem C_orderAt {p1 p2 : Int} (i1 : I32 p1) (i2 : I32 p2) : CaseX (P_X10_orderAt p1 p2) (fun E => if E = 0 then 1 else 0) (P_X11_orderAt p1 p2) := by
  refine CaseY_of (fun w => (0 ≤ p1 ∧ p1 < 4) ∧ 0 ≤ p2 ∧ p2 < (rC w (qRw w) (qLn w) p1.toNat : Int)) (fun _ => True) (fun _ => True) (fun w => (cd (tOd (qS w D0 (qRw w) (qLn w)) p1.toNat p2.toNat) : Int)) (fun w h len a np G hI => ?_) (fun w h len a np G n k hI => ?_)
  · have hw := hI.1.1
    have hm := hI.2.2.2.2.1
    have hn := hw.n
    obtain ⟨hv, hO, hT⟩ := hI.row
    unfold P_X11_orderAt
    rw [M_in i1 (i32_k (by omega)) (i32_k (by omega))]
    refine Ok.eq rfl ?_
    refine Ok.jn1 (fun y => y = b2i (decide ((0 ≤ p1 ∧ p1 < 4) ∧ 0 ≤ p2 ∧ p2 < (rC w (qRw w) (qLn w) p1.toNat : Int)))) (fun y hy => ?_) (fun k8 hk8 => ?_)
    · refine QM.fits hy T_T T_T (fun _ => rfl) (KF.rf G) (fun h1 _ _ => ?_)
      refine Ok.iteT rfl ?_
      obtain ⟨m, rfl⟩ := Int.eq_ofNat_of_zero_le h1.1.1
      obtain ⟨s, rfl⟩ := Int.eq_ofNat_of_zero_le h1.2.1
      rw [Int.toNat_natCast] at h1 ⊢
      rw [Int.toNat_natCast]
      have hc := rC_30 hw hv m
      obtain ⟨o1, o2⟩ := hO m (by omega)
      refine Ok.ld (152 + 31 * m + 1 + s) (by omega) (by omega) (by omega) ?_
      refine Ok.so ⟨?_, KF.rf _, rfl⟩
      dsimp only
      rw [up2_ne (by omega), o2 s (by omega)]
    · refine Ok.lk ?_
      refine Ok.it (fun h1 => ?_) (fun h1 => ?_)
      · have h1 := of_decide_eq_true h1
        obtain ⟨m, rfl⟩ := Int.eq_ofNat_of_zero_le h1.1
        rw [Int.toNat_natCast] at hk8
        have hc := rC_30 hw hv m
        obtain ⟨o1, o2⟩ := hO m (by omega)
        refine Ok.ld (152 + 31 * m) (by omega) (by omega) (by omega) ?_
        rw [o1, M_in i2 (i32_k (by omega)) (by unfold I32; omega)]
        refine Ok.eq rfl ?_
        refine Ok.it (fun h2 => ?_) (fun h2 => ?_)
        · have h2 := of_decide_eq_true h2
          exact hk8 _ (by rw [decide_eq_true ⟨⟨by omega, by omega⟩, by omega, by omega⟩]; rfl)
        · have h2 := of_decide_eq_false h2
          exact hk8 _ (by rw [decide_eq_false (fun g => h2 ⟨g.2.1, by omega⟩)]; rfl)
      · have h1 := of_decide_eq_false h1
        exact hk8 _ (by rw [decide_eq_false (fun g => h1 ⟨g.1.1, by omega⟩)]; rfl)
  · have hw := hI.1.1
    have hx := hI.2.1
    have hn := hw.n
    obtain ⟨hv, hO, hT⟩ := hI.row
    unfold P_X10_orderAt
    refine Ok.need (needMachine_eq i1) (fun h1 => ?_) (fun h1 => QC.e1 0 (by omega) rfl (fun g => h1 g.1))
    obtain ⟨m, rfl⟩ := Int.eq_ofNat_of_zero_le h1.1
    rw [Int.toNat_natCast]
    have hc := rC_30 hw hv m
    refine Ok.lk ?_
    refine Ok.cd (ilt_id i2.1 i2.2 (by omega) (by omega)) (fun h2 => ?_) (fun h2 => ?_)
    · exact Ok.so (QC.e1 0 (by omega) rfl (fun g => by omega))
    · refine Ok.ld m rfl (by omega) (by omega) ?_
      dsimp only
      rw [hT.cm (by omega)]
      refine Ok.cd (ilt_id i2.1 i2.2 (by omega) (by omega)) (fun h3 => ?_) (fun h3 => ?_)
      · obtain ⟨s, rfl⟩ := Int.eq_ofNat_of_zero_le (Int.not_lt.mp h2)
        refine Ok.ld (30 * m + s) (by omega) (by omega) (by omega) ?_
        rw [hT.od (by omega) (by omega)]
        obtain ⟨j, t, e, q1, q2, q3, q4⟩ := qS_mk (D := D0) hw hv (m := m) (k := s) (by omega)
        refine Ok.eq (told_eq (by omega)) ?_
        exact Ok.so (QC.v ⟨h1, by omega, by omega⟩ trivial trivial)
      · exact Ok.so (QC.e1 0 (by omega) rfl (fun g => h3 g.2.2))
