/-! ===== wayLength, wayAt, blocks, longestBlock ===== -/
theorem WP_of {w : wS} {r : Nat → Nat} {n : Nat} {G : mG} (hF : qF w r n) (hT : MK w r n n G) (hm : MD w (G 57)) (hO : OT w r n (tOd (qS w D0 r n)) (G 57) 152) : WP w r n G := ⟨hm, hO, fun j s hj hs => hT.2.2.2 j s hj (by rw [hF.2 j hj]; exact hs)⟩
theorem wL_le {w : wS} {r : Nat → Nat} {n : Nat} (hw : Wok w) (hv : qV w r n) : wL w r n ≤ 30 ∧ (∀ k, k < wL w r n → wy w r n k ≠ -1) ∧ wy w r n (wL w r n) = -1 := by
  have h30 := qV_30 hw hv
  have h1 : wy w r n n = -1 := by
    rcases wy_in hw hv n with e | ⟨i, hi, e⟩
    · exact e
    · omega
  have key : ∀ m, m ≤ n → (∃ k, k ≤ m ∧ wy w r n k = -1 ∧ ∀ i, i < k → wy w r n i ≠ -1) ∨ ∀ i, i < m → wy w r n i ≠ -1 := by
    intro m
    induction m with
    | zero => exact fun _ => Or.inr (fun i hi => absurd hi (Nat.not_lt_zero _))
    | succ m ih =>
      intro hm
      rcases ih (by omega) with ⟨k, a1, a2, a3⟩ | a1
      · exact Or.inl ⟨k, by omega, a2, a3⟩
      · by_cases g : wy w r n m = -1
        · exact Or.inl ⟨m, by omega, g, a1⟩
        · refine Or.inr (fun i hi => ?_)
          by_cases e : i = m
          · rw [e]
            exact g
          · exact a1 i (by omega)
  have : ∃ k, k ≤ n ∧ wy w r n k = -1 ∧ ∀ i, i < k → wy w r n i ≠ -1 := by
    rcases key n (Nat.le_refl n) with g | g
    · exact g
    · exact ⟨n, Nat.le_refl n, h1, g⟩
  obtain ⟨k, a1, a2, a3⟩ := this
  rw [wL_eq hw hv a2 a3 (by omega)]
  exact ⟨by omega, a3, a2⟩
theorem M_block {w : wS} {r : Nat → Nat} {n : Nat} {G : mG} (hw : Wok w) (hF : qF w r n) (hW : WP w r n G) {p : Int} (hp : p = 0 ∨ p = 1) : Ok (P_X11_block p G) (fun z => z.1 = (if p = 0 then (wB w r n (wL w r n)).1 else (wB w r n (wL w r n)).2.1) ∧ FrW G z.2) := by
  have hn := hw.n
  obtain ⟨hL, hne, hend⟩ := wL_le hw hF.1
  unfold P_X11_block
  refine Ok.bind (M_laysWay hw hF hW) (fun G2 hG2 => ?_)
  obtain ⟨g1, g2, g3⟩ := hG2
  have hW2 : WP w r n G2 := hW.fr (g3.1 57 (by omega) (by omega) (by omega) (by omega)) (g3.1 59 (by omega) (by omega) (by omega) (by omega))
  refine Ok.jn2 (fun y z => y = (wB w r n (wL w r n)).1 ∧ z = (wB w r n (wL w r n)).2.1) (fun y z hy => ?_) (fun k6 hk6 => ?_)
  · obtain ⟨rfl, rfl⟩ := hy
    refine Ok.cd (P := p = 0) (ieq_id (by omega) (by omega) (by omega) (by omega)) (fun h => ?_) (fun h => ?_)
    · rw [if_pos h]
      exact Ok.so ⟨rfl, g3⟩
    · rw [if_neg h]
      exact Ok.so ⟨rfl, g3⟩
  · refine Ok.lp4 (fun M c l run k => ∃ q : Nat, k = (q : Int) ∧ q + M = wL w r n ∧ c = (wB w r n q).1 ∧ l = (wB w r n q).2.1 ∧ run = (wB w r n q).2.2) (fun M again c l run k hI hk => ?_) LF (wL w r n) 0 0 0 0 (LF_lt (by omega)) ⟨0, rfl, by omega, rfl, rfl, rfl⟩
    obtain ⟨q, rfl, hq, rfl, rfl, rfl⟩ := hI
    rw [g1]
    have hcell : ∀ q', q' < wL w r n → ∃ i, i < n ∧ wy w r n q' = (rX r i : Int) ∧ G2 73 q' = (cd (rX r i) : Int) ∧ iDiv (cd (rX r i) : Int) 10 = (r i : Int) ∧ iRem (cd (rX r i) : Int) 10 = (rS r i : Int) ∧ P_X11_machineOf (r i : Int) (rS r i : Int) G2 = some (wMc w r n q' : Int) ∧ wMc w r n q' < 4 := by
      intro q' hq'
      rcases wy_in hw hF.1 q' with e | ⟨i, hi, e⟩
      · exact absurd e (hne q' hq')
      · have hi' : i < n := by omega
        obtain ⟨c1, c2, c3⟩ := cd_rX hw hF hi'
        have hS5 := rS_lt5 hw hF.1 hi'
        have hvi := hF.1 i hi'
        have hmk : wMc w r n q' = rM w r i := by
          unfold wMc
          rw [e, Int.toNat_natCast]
          rfl
        refine ⟨i, hi', e, ?_, ?_, ?_, ?_, ?_⟩
        · rw [g2 q' hq']
          unfold cdI
          rw [if_neg (by omega), e, Int.toNat_natCast]
        · rw [iDiv_id (by omega) (by omega) (by omega) (by omega)]
          omega
        · rw [iRem_id (by omega) (by omega) (by omega) (by omega)]
          omega
        · rw [M_machineOf hw hW2.1 hvi.1 hvi.2, hmk]
          rfl
        · rw [hmk]
          exact rM_lt hw hF.1 hi'
    by_cases hlt : q < wL w r n
    · refine Ok.condT (ilt_nat (by omega) (by omega)) hlt ?_
      obtain ⟨i, b1, b2, b3, b4, b5, b6, b7⟩ := hcell q hlt
      have hbb := wB_bd (w := w) (r := r) (n := n) (k := q)
      have hbs := wB_succ (w := w) (r := r) (n := n) (k := q)
      refine Ok.jn1 (fun y => y = if q ≠ 0 ∧ wMc w r n q = wMc w r n (q - 1) then 1 else 0) (fun x13 h13 => ?_) (fun k21 hk21 => ?_)
      · rw [h13]
        by_cases g : q ≠ 0 ∧ wMc w r n q = wMc w r n (q - 1)
        · rw [if_pos g]
          rw [if_pos g] at hbs
          refine Ok.lk ?_
          refine Ok.iteF rfl ?_
          refine Ok.lk ?_
          refine Ok.iteF rfl ?_
          refine hk (M - 1) _ _ _ _ (by omega) ⟨q + 1, rfl, by omega, by rw [hbs]; exact Int.add_zero _, ?_, by rw [hbs]⟩
          rw [hbs, iMax_id (by omega) (by omega) (by omega) (by omega)]
        · rw [if_neg g]
          rw [if_neg g] at hbs
          refine Ok.lk ?_
          refine Ok.iteT rfl ?_
          refine Ok.lk ?_
          refine Ok.iteT rfl ?_
          refine hk (M - 1) _ _ _ _ (by omega) ⟨q + 1, rfl, by omega, by rw [hbs], ?_, by rw [hbs]⟩
          rw [hbs, iMax_id (by omega) (by omega) (by omega) (by omega)]
      · refine Ok.lk ?_
        refine Ok.cd (ilt_nat (a := 0) (by omega) (by omega)) (fun h0 => ?_) (fun h0 => ?_)
        · obtain ⟨i2, d1, d2, d3, d4, d5, d6, d7⟩ := hcell (q - 1) (by omega)
          have eq1 : ((q : Int) - 1) = ((q - 1 : Nat) : Int) := by omega
          refine Ok.ld q rfl (by omega) (by omega) ?_
          refine Ok.ld q rfl (by omega) (by omega) ?_
          rw [b3, b4, b5]
          refine Ok.eq b6 ?_
          refine Ok.ld (q - 1) eq1 (by omega) (by omega) ?_
          refine Ok.ld (q - 1) eq1 (by omega) (by omega) ?_
          rw [d3, d4, d5]
          refine Ok.eq d6 ?_
          refine Ok.cd (ieq_nat (by omega) (by omega)) (fun g => ?_) (fun g => ?_)
          · exact hk21 _ (by rw [if_pos ⟨by omega, g⟩])
          · exact hk21 _ (by rw [if_neg (fun g2 => g g2.2)])
        · exact hk21 _ (by rw [if_neg (fun g2 => by omega)])
    · refine Ok.condF (ilt_nat (by omega) (by omega)) hlt ?_
      have : q = wL w r n := by omega
      subst this
      exact hk6 _ _ ⟨rfl, rfl⟩
theorem M_plan1 {w : wS} {h : Nat → wS} {len a np : Nat} {G : mG} (hI : IV w h len a np G) {f : Bool × mG → Option (Int × mG)} {v : Int} (hf : ∀ G, f (false, G) = some (0, G)) (h4 : w 1 15 = 1 → ∀ G', WP w (qRw w) (qTot w).toNat G' → MD w (G' 57) → Ok (f (true, G')) (fun z => w32 z.1 = w32 v ∧ FrW G' z.2)) : Ok ((P_X11_isPlanned G).bind fun z1 => (P_X11_fits (b2i z1.1) 1 1 z1.2).bind f) (QM (w 1 15 = 1) True True v G) := by
  have hw := hI.1.1
  have hm := hI.2.2.2.2.1
  refine Ok.bind (M_isPlanned hw hI.1.2.1 hm) (fun z5 hz5 => ?_)
  rw [hz5.2.1]
  refine QM.fits rfl T_T T_T hf (KF.fr hz5.1) (fun h1 _ _ => ?_)
  have hF := (hI.plan h1).1
  have hm6 : MD w ((up2 z5.2 56 3 0) 57) := by
    rw [up2_ne (by omega), hz5.1 57 (by omega)]
    exact hm.1
  have hW5 : WP w (qRw w) (qTot w).toNat z5.2 := WP_of hF (hz5.2.2 h1) (by rw [hz5.1 57 (by omega)]; exact hm.1) (by rw [hz5.1 57 (by omega)]; exact hm.plan h1)
  have hW6 : WP w (qRw w) (qTot w).toNat (up2 z5.2 56 3 0) := hW5.fr (up2_ne (by omega)) (up2_ne (by omega))
  refine Ok.w (h4 h1 _ hW6 hm6) (fun z hz => ⟨hz.1, hz.2.kf, hz.2.2 3 (by omega)⟩)
theorem IV.way {w : wS} {h : Nat → wS} {len a np : Nat} {G : mG} (hI : IV w h len a np G) : Ok (P_X9_trace G) (fun G' => G' 40 3 = (wL w (qRw w) (qLn w) : Int) ∧ (∀ k, k < wL w (qRw w) (qLn w) → G' 41 k = wy w (qRw w) (qLn w) k) ∧ G' 40 4 = (wB w (qRw w) (qLn w) (wL w (qRw w) (qLn w))).1 ∧ G' 40 5 = (wB w (qRw w) (qLn w) (wL w (qRw w) (qLn w))).2.1 ∧ KQ G G') := by
  obtain ⟨hv, hO, hT⟩ := hI.row
  refine Ok.w (S_trace hI.1.1 hI.2.1 hv hT) (fun G' hG' => ?_)
  obtain ⟨a1, a2, a3, a4, a5⟩ := hG'
  exact ⟨a1, a2, a3, a4, KQ.of (fun b hb => a5 b (by omega) (by omega))⟩
theorem qLn_1 {w : wS} (h : w 1 15 = 1) : qLn w = (qTot w).toNat := by
  unfold qLn
  rw [if_neg (by omega)]
theorem C_wayLength : CaseX P_X10_wayLength (fun E => if E = 2 then 1 else 0) P_X11_wayLength := by
  refine CaseY_of (fun w => w 1 15 = 1) (fun _ => True) (fun _ => True) (fun w => (wL w (qRw w) (qLn w) : Int)) (fun w h len a np G hI => ?_) (fun w h len a np G n k hI => ?_)
  · refine M_plan1 hI (fun _ => rfl) (fun h1 G' hW' hm' => ?_)
    refine Ok.iteT rfl ?_
    refine Ok.bind (M_laysWay hI.1.1 (hI.plan h1).1 hW') (fun G2 hG2 => ?_)
    refine Ok.so ⟨?_, hG2.2.2⟩
    dsimp only
    rw [hG2.1, qLn_1 h1]
  · have hw := hI.1.1
    have hx := hI.2.1
    unfold P_X10_wayLength
    refine Ok.need (needPlan_eq hw hx) (fun h2 => ?_) (fun h2 => QC.e1 2 (by omega) rfl h2)
    refine Ok.bind hI.way (fun G3 hG3 => ?_)
    rw [hG3.1]
    exact Ok.so ⟨G3, hG3.2.2.2.2, Or.inl ⟨h2, trivial, trivial, rfl⟩⟩
theorem C_blocks : CaseX P_X10_blocks (fun E => if E = 2 then 1 else 0) P_X11_blocks := by
  refine CaseY_of (fun w => w 1 15 = 1) (fun _ => True) (fun _ => True) (fun w => (wB w (qRw w) (qLn w) (wL w (qRw w) (qLn w))).1) (fun w h len a np G hI => ?_) (fun w h len a np G n k hI => ?_)
  · refine M_plan1 hI (fun _ => rfl) (fun h1 G' hW' hm' => ?_)
    refine Ok.iteT rfl ?_
    refine Ok.bind (M_block hI.1.1 (hI.plan h1).1 hW' (p := 0) (Or.inl rfl)) (fun z hz => ?_)
    refine Ok.so ⟨?_, hz.2⟩
    dsimp only
    rw [hz.1, qLn_1 h1, if_pos rfl]
  · have hw := hI.1.1
    have hx := hI.2.1
    unfold P_X10_blocks
    refine Ok.need (needPlan_eq hw hx) (fun h2 => ?_) (fun h2 => QC.e1 2 (by omega) rfl h2)
    refine Ok.bind hI.way (fun G3 hG3 => ?_)
    rw [hG3.2.2.1]
    exact Ok.so ⟨G3, hG3.2.2.2.2, Or.inl ⟨h2, trivial, trivial, rfl⟩⟩
theorem C_longestBlock : CaseX P_X10_longestBlock (fun E => if E = 2 then 1 else 0) P_X11_longestBlock := by
  refine CaseY_of (fun w => w 1 15 = 1) (fun _ => True) (fun _ => True) (fun w => (wB w (qRw w) (qLn w) (wL w (qRw w) (qLn w))).2.1) (fun w h len a np G hI => ?_) (fun w h len a np G n k hI => ?_)
  · refine M_plan1 hI (fun _ => rfl) (fun h1 G' hW' hm' => ?_)
    refine Ok.iteT rfl ?_
    refine Ok.bind (M_block hI.1.1 (hI.plan h1).1 hW' (p := 1) (Or.inr rfl)) (fun z hz => ?_)
    refine Ok.so ⟨?_, hz.2⟩
    dsimp only
    rw [hz.1, qLn_1 h1, if_neg (by omega)]
  · have hw := hI.1.1
    have hx := hI.2.1
    unfold P_X10_longestBlock
    refine Ok.need (needPlan_eq hw hx) (fun h2 => ?_) (fun h2 => QC.e1 2 (by omega) rfl h2)
    refine Ok.bind hI.way (fun G3 hG3 => ?_)
    rw [hG3.2.2.2.1]
    exact Ok.so ⟨G3, hG3.2.2.2.2, Or.inl ⟨h2, trivial, trivial, rfl⟩⟩
theorem C_wayAt {p1 : Int} (i1 : I32 p1) : CaseX (P_X10_wayAt p1) (fun E => if E = 0 then 1 else 0) (P_X11_wayAt p1) := by
  refine CaseY_of (fun w => 0 ≤ p1 ∧ p1 < (wL w (qRw w) (qLn w) : Int)) (fun _ => True) (fun _ => True) (fun w => cdI (wy w (qRw w) (qLn w) (wL w (qRw w) (qLn w) - 1 - p1.toNat))) (fun w h len a np G hI => ?_) (fun w h len a np G n k hI => ?_)
  · have hw := hI.1.1
    have hm := hI.2.2.2.2.1
    obtain ⟨hv, hO, hT⟩ := hI.row
    obtain ⟨hL, hne, hend⟩ := wL_le hw hv
    unfold P_X11_wayAt
    refine Ok.pu ?_
    have hf2 : KF G (up2 G 56 19 0) := (FrW.u19 G 0).kf
    have hm2 : MA w ((up2 G 56 19 0) 57) := by
      rw [up2_ne (by omega)]
      exact hm
    refine Ok.bind (M_isPlanned hw hI.1.2.1 hm2) (fun z3 hz3 => ?_)
    rw [hz3.2.1]
    have hf3 : KF G z3.2 := hf2.tr (KF.fr hz3.1)
    refine Ok.jn1 (fun G4 => KF G G4 ∧ G4 56 19 = (wL w (qRw w) (qLn w) : Int) ∧ ∀ k, k < wL w (qRw w) (qLn w) → G4 73 k = cdI (wy w (qRw w) (qLn w) k)) (fun G4 hG4 => ?_) (fun k9 hk9 => ?_)
    · obtain ⟨a1, a2, a3⟩ := hG4
      rw [a2, M_in i1 (i32_k (by omega)) (by unfold I32; omega)]
      refine Ok.eq rfl ?_
      refine QM.fits (c1 := 0 ≤ p1 ∧ p1 < (wL w (qRw w) (qLn w) : Int)) (by rw [show decide (0 ≤ p1 ∧ p1 ≤ (wL w (qRw w) (qLn w) : Int) - 1) = decide (0 ≤ p1 ∧ p1 < (wL w (qRw w) (qLn w) : Int)) from decide_eq_decide.mpr (by omega)]) T_T T_T (fun _ => rfl) a1 (fun h1 _ _ => ?_)
      refine Ok.iteT rfl ?_
      dsimp only
      rw [up2_if, if_neg (by omega), a2]
      refine Ok.ld (wL w (qRw w) (qLn w) - 1 - p1.toNat) (by omega) (by omega) (by omega) ?_
      refine Ok.so ⟨?_, KF.rf _, rfl⟩
      dsimp only
      rw [up2_ne (by omega), a3 _ (by omega)]
    · refine Ok.it (fun h => ?_) (fun h => ?_)
      · have h := of_decide_eq_true h
        have hF := (hI.plan h).1
        have hW5 : WP w (qRw w) (qTot w).toNat z3.2 := WP_of hF (hz3.2.2 h) (by rw [hz3.1 57 (by omega)]; exact hm2.1) (by rw [hz3.1 57 (by omega)]; exact hm2.plan h)
        refine Ok.bind (M_laysWay hw hF hW5) (fun G10 hG10 => ?_)
        rw [← qLn_1 h] at hG10
        exact hk9 _ ⟨hf3.tr hG10.2.2.kf, hG10.1, hG10.2.1⟩
      · have h := of_decide_eq_false h
        have h0 : qLn w = 0 := by
          have hz := hw.2.2.2.2.2.2.2.1
          unfold qLn
          rw [if_pos (by omega)]
        have hL0 : wL w (qRw w) (qLn w) = 0 := by
          refine wL_eq hw hv ?_ (fun i hi => absurd hi (Nat.not_lt_zero _)) (by omega)
          rcases wy_in hw hv 0 with e | ⟨i, hi, e⟩
          · exact e
          · omega
        refine hk9 _ ⟨hf3, ?_, fun k hk => by omega⟩
        rw [hL0, hz3.1 56 (by omega), up2_eq, up1_eq]
        rfl
  · have hw := hI.1.1
    have hx := hI.2.1
    obtain ⟨hv, hO, hT⟩ := hI.row
    obtain ⟨hL, hne, hend⟩ := wL_le hw hv
    unfold P_X10_wayAt
    refine Ok.bind hI.way (fun G2 hG2 => ?_)
    obtain ⟨a1, a2, a3, a4, a5⟩ := hG2
    refine Ok.lk ?_
    refine Ok.cd (ilt_id i1.1 i1.2 (by omega) (by omega)) (fun h1 => ?_) (fun h1 => ?_)
    · exact Ok.so ⟨G2, a5, Or.inr ⟨0, by omega, rfl, Or.inl ⟨rfl, fun g => by omega⟩⟩⟩
    · rw [a1]
      refine Ok.cd (ilt_id i1.1 i1.2 (by omega) (by omega)) (fun h2 => ?_) (fun h2 => ?_)
      · refine Ok.ld (wL w (qRw w) (qLn w) - 1 - p1.toNat) (by omega) (by omega) (by omega) ?_
        rw [a2 _ (by omega)]
        rcases wy_in hw hv (wL w (qRw w) (qLn w) - 1 - p1.toNat) with e | ⟨i, hi, e⟩
        · exact absurd e (hne _ (by omega))
        · have hX : rX (qRw w) i < 1000 := by
            have hn := hw.n
            have := (hv i (by omega)).1
            have := rS_lt5 hw hv (i := i) (by omega)
            unfold rX
            omega
          rw [e]
          refine Ok.eq (told_eq hX) ?_
          refine Ok.so ⟨G2, a5, Or.inl ⟨⟨by omega, h2⟩, trivial, trivial, ?_⟩⟩
          dsimp only
          unfold cdI
          rw [if_neg (by omega), Int.toNat_natCast]
      · exact Ok.so ⟨G2, a5, Or.inr ⟨0, by omega, rfl, Or.inl ⟨rfl, fun g => h2 g.2⟩⟩⟩
