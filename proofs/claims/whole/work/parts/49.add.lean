/-! ===== addJob, addStep ===== -/
theorem S_newJob {w : wS} {G : mG} (hw : Wok w) (hx : XS w G) (h6 : qN w < 6) (p1 p2 p3 p4 : Int) : Ok (P_X7_newJob p1 p2 p3 p4 G) (fun z => z.1 = (qN w : Int) ∧ XS (wJ w p1 p2 p3 p4) z.2 ∧ (∀ b, b = 0 ∨ 7 ≤ b → z.2 b = G b)) := by
  have hn := hw.n
  have e10 := hx.n hw
  unfold P_X7_newJob
  rw [e10]
  refine Ok.iteT ((ilt_id (by omega) (by omega) (by omega) (by omega)).trans (decide_eq_true (by omega))) ?_
  refine Ok.sto (qN w) rfl (by omega) (by omega) ?_
  rw [up2_ne (b := 1) (by omega), e10]
  refine Ok.sto (qN w) rfl (by omega) (by omega) ?_
  rw [up2_ne (b := 1) (by omega), up2_ne (b := 1) (by omega), e10]
  refine Ok.sto (qN w) rfl (by omega) (by omega) ?_
  rw [up2_ne (b := 1) (by omega), up2_ne (b := 1) (by omega), up2_ne (b := 1) (by omega), e10]
  refine Ok.sto (qN w) rfl (by omega) (by omega) ?_
  rw [up2_ne (b := 1) (by omega), up2_ne (b := 1) (by omega), up2_ne (b := 1) (by omega), up2_ne (b := 1) (by omega), e10]
  refine Ok.sto (qN w) rfl (by omega) (by omega) ?_
  rw [up2_ne (b := 1) (by omega), up2_ne (b := 1) (by omega), up2_ne (b := 1) (by omega), up2_ne (b := 1) (by omega), up2_ne (b := 1) (by omega), e10]
  refine Ok.pu (Ok.so ⟨?_, ?_, fun b hb => ?_⟩)
  · dsimp only
    rw [up2_eq, up1_eq]
    omega
  · exact (((((hx.up _ _ _).up _ _ _).up _ _ _).up _ _ _).up _ _ _).up _ _ _
  · dsimp only
    rw [up2_ne (by omega), up2_ne (by omega), up2_ne (by omega), up2_ne (by omega), up2_ne (by omega), up2_ne (by omega)]
theorem S_newStep {w : wS} {G : mG} (hw : Wok w) (hx : XS w G) {j : Nat} (hj : j < qN w) (h5 : qSt w j < 5) (p2 p3 : Int) : Ok (P_X7_newStep (j : Int) p2 p3 G) (fun z => z.1 = (qSt w j : Int) ∧ XS (wSt w j p2 p3) z.2 ∧ (∀ b, b = 0 ∨ 9 ≤ b → z.2 b = G b)) := by
  have hn := hw.n
  unfold P_X7_newStep
  rw [hx.n hw]
  refine Ok.iteF ((ilt_id (by omega) (by omega) (by omega) (by omega)).trans (decide_eq_false (by omega))) ?_
  refine Ok.iteT ((ilt_id (by omega) (by omega) (by omega) (by omega)).trans (decide_eq_true (by omega))) ?_
  refine Ok.ld j rfl (by omega) (by omega) ?_
  rw [hx.st hw hj]
  refine Ok.iteT ((ilt_id (by omega) (by omega) (by omega) (by omega)).trans (decide_eq_true (by omega))) ?_
  refine Ok.ld j rfl (by omega) (by omega) ?_
  rw [hx.st hw hj]
  refine Ok.sto (5 * j + qSt w j) (by omega) (by omega) (by omega) ?_
  refine Ok.sto (5 * j + qSt w j) (by omega) (by omega) (by omega) ?_
  refine Ok.ld j rfl (by omega) (by omega) ?_
  rw [up2_ne (by omega), up2_ne (by omega), hx.st hw hj]
  refine Ok.sto j rfl (by omega) (by omega) (Ok.so ⟨rfl, ?_, fun b hb => ?_⟩)
  · exact ((hx.up _ _ _).up _ _ _).up _ _ _
  · dsimp only
    rw [up2_ne (by omega), up2_ne (by omega), up2_ne (by omega)]
theorem M_laysJob {w : wS} {G : mG} (hw : Wok w) (hm : MD w (G 57)) (h6 : qN w < 6) (p1 p2 p3 : Int) : Ok (P_X11_laysJob p1 p2 p3 G) (fun G' => (∀ b, b ≠ 57 → G' b = G b) ∧ G' 57 0 = (qN w : Int) + 1 ∧ G' 57 (61 + 15 * qN w) = p1 ∧ G' 57 (61 + 15 * qN w + 1) = p2 ∧ G' 57 (61 + 15 * qN w + 3) = p3 ∧ G' 57 (61 + 15 * qN w + 4) = 0 ∧ (∀ k, k ≠ 0 → ¬ (61 + 15 * qN w ≤ k ∧ k < 61 + 15 * qN w + 15) → G' 57 k = G 57 k)) := by
  have hn := hw.n
  have e0 := hm.n hw
  unfold P_X11_laysJob
  refine Ok.ld 0 rfl (by omega) (by omega) ?_
  rw [e0]
  refine Ok.sto (61 + 15 * qN w) (by omega) (by omega) (by omega) ?_
  refine Ok.sto (61 + 15 * qN w + 1) (by omega) (by omega) (by omega) ?_
  refine Ok.sto (61 + 15 * qN w + 2) (by omega) (by omega) (by omega) ?_
  refine Ok.sto (61 + 15 * qN w + 3) (by omega) (by omega) (by omega) ?_
  refine Ok.sto (61 + 15 * qN w + 4) (by omega) (by omega) (by omega) ?_
  refine Ok.ld 0 rfl (by omega) (by omega) ?_
  have e0' : up2 (up2 (up2 (up2 (up2 G 57 (61 + 15 * qN w) p1) 57 (61 + 15 * qN w + 1) p2) 57 (61 + 15 * qN w + 2) 1) 57 (61 + 15 * qN w + 3) p3) 57 (61 + 15 * qN w + 4) 0 57 0 = (qN w : Int) := by
    rw [up2_eq, up1_ne (by omega), up2_eq, up1_ne (by omega), up2_eq, up1_ne (by omega), up2_eq, up1_ne (by omega), up2_eq, up1_ne (by omega), e0]
  rw [e0']
  refine Ok.sto 0 rfl (by omega) (by omega) (Ok.so ⟨fun b hb => ?_, ?_, ?_, ?_, ?_, ?_, fun k hk1 hk2 => ?_⟩)
  · rw [up2_ne hb, up2_ne hb, up2_ne hb, up2_ne hb, up2_ne hb, up2_ne hb]
  · rw [up2_eq, up1_eq]
  · rw [up2_eq, up1_ne (by omega), up2_eq, up1_ne (by omega), up2_eq, up1_ne (by omega), up2_eq, up1_ne (by omega), up2_eq, up1_ne (by omega), up2_eq, up1_eq]
  · rw [up2_eq, up1_ne (by omega), up2_eq, up1_ne (by omega), up2_eq, up1_ne (by omega), up2_eq, up1_ne (by omega), up2_eq, up1_eq]
  · rw [up2_eq, up1_ne (by omega), up2_eq, up1_ne (by omega), up2_eq, up1_eq]
  · rw [up2_eq, up1_ne (by omega), up2_eq, up1_eq]
  · rw [up2_eq, up1_ne (by omega), up2_eq, up1_ne (by omega), up2_eq, up1_ne (by omega), up2_eq, up1_ne (by omega), up2_eq, up1_ne (by omega), up2_eq, up1_ne (by omega)]
theorem M_laysStep {w : wS} {G : mG} (hw : Wok w) (hm : MD w (G 57)) {j : Nat} (hj : j < qN w) (h5 : qSt w j < 5) (p2 p3 : Int) : Ok (P_X11_laysStep (j : Int) p2 p3 G) (fun z => z.1 = (qSt w j : Int) ∧ (∀ b, b ≠ 57 → z.2 b = G b) ∧ MD (wSt w j p2 p3) (z.2 57) ∧ (∀ k, 151 ≤ k → z.2 57 k = G 57 k)) := by
  have hn := hw.n
  unfold P_X11_laysStep
  refine Ok.eq (M_st hw hm hj) ?_
  refine Ok.sto (61 + 15 * j + (5 + 2 * qSt w j)) (by omega) (by omega) (by omega) ?_
  refine Ok.sto (61 + 15 * j + (5 + 2 * qSt w j + 1)) (by omega) (by omega) (by omega) ?_
  refine Ok.ld (61 + 15 * j + 4) (by omega) (by omega) (by omega) ?_
  have e4 : up2 (up2 G 57 (61 + 15 * j + (5 + 2 * qSt w j)) p2) 57 (61 + 15 * j + (5 + 2 * qSt w j + 1)) p3 57 (61 + 15 * j + 4) = (qSt w j : Int) := by
    rw [up2_eq, up1_ne (by omega), up2_eq, up1_ne (by omega), hm.st hw hj]
  rw [e4]
  refine Ok.sto (61 + 15 * j + 4) (by omega) (by omega) (by omega) (Ok.so ⟨rfl, fun b hb => ?_, ?_, fun k hk => ?_⟩)
  · dsimp only
    rw [up2_ne hb, up2_ne hb, up2_ne hb]
  · dsimp only
    refine wSt_md hw hj h5 hm ⟨?_, ?_, ?_⟩ (fun k h1 h2 h3 => ?_)
    · rw [up2_eq, up1_ne (by omega), up2_eq, up1_ne (by omega), up2_eq, up1_eq]
    · rw [up2_eq, up1_ne (by omega), up2_eq, up1_eq]
    · rw [up2_eq, up1_eq]
    · rw [up2_eq, up1_ne h3, up2_eq, up1_ne h2, up2_eq, up1_ne h1]
  · dsimp only
    rw [up2_eq, up1_ne (by omega), up2_eq, up1_ne (by omega), up2_eq, up1_ne (by omega)]
theorem M_addJob {w : wS} {h : Nat → wS} {len : Nat} {G : mG} {p1 p2 p3 p4 : Int} (i1 : I32 p1) (i2 : I32 p2) (i3 : I32 p3) (i4 : I32 p4) (hp : PI w h len) (hm : MA w (G 57)) (hH : MH h len G) : Ok (P_X11_addJob p1 p2 p3 p4 G) (fun z =>
    (¬ (0 ≤ p4 ∧ p4 ≤ 3) → z.2 = up2 G 56 3 1) ∧ ((0 ≤ p4 ∧ p4 ≤ 3) → ¬ ((0 ≤ p1 ∧ p1 ≤ 200) ∧ (0 ≤ p2 ∧ p2 ≤ 1000) ∧ 1 ≤ p3 ∧ p3 ≤ 9) → z.2 = up2 G 56 3 2) ∧
    ((0 ≤ p4 ∧ p4 ≤ 3) → ((0 ≤ p1 ∧ p1 ≤ 200) ∧ (0 ≤ p2 ∧ p2 ≤ 1000) ∧ 1 ≤ p3 ∧ p3 ≤ 9) → ¬ qN w < 6 → z.2 = up2 G 56 3 3) ∧
    ((0 ≤ p4 ∧ p4 ≤ 3) → ((0 ≤ p1 ∧ p1 ≤ 200) ∧ (0 ≤ p2 ∧ p2 ≤ 1000) ∧ 1 ≤ p3 ∧ p3 ≤ 9) → qN w < 6 → z.1 = (qN w : Int) ∧ MP' (up2 (wJ w p1 p2 p3 p4) 1 15 0) (psh w h) (min (len + 1) 8) G z.2)) := by
  have hw := hp.1
  have hn := hw.n
  unfold P_X11_addJob
  rw [M_in i4 (by unfold I32; omega) (by unfold I32; omega), M_in i1 (by unfold I32; omega) (by unfold I32; omega)]
  refine Ok.eq rfl ?_
  refine Ok.eq rfl ?_
  refine Ok.jn1 (fun y => y = b2i (decide ((0 ≤ p1 ∧ p1 ≤ 200) ∧ (0 ≤ p2 ∧ p2 ≤ 1000) ∧ 1 ≤ p3 ∧ p3 ≤ 9))) (fun y hy => ?_) (fun k20 hk20 => ?_)
  · refine Ok.ld 0 rfl (by omega) (by omega) ?_
    rw [hm.1.n hw]
    refine Ok.jn1 (fun y => y = b2i (decide (qN w < 6))) (fun y2 hy2 => ?_) (fun k19 hk19 => ?_)
    · refine Ok.fits rfl hy hy2 (fun h1 => ?_) (fun h1 h2 => ?_) (fun h1 h2 h3 => ?_) (fun h1 h2 h3 => ?_)
      · exact Ok.so ⟨fun _ => rfl, fun g => absurd g h1, fun g => absurd g h1, fun g => absurd g h1⟩
      · exact Ok.so ⟨fun g => absurd h1 g, fun _ _ => rfl, fun _ g => absurd g h2, fun _ g => absurd g h2⟩
      · exact Ok.so ⟨fun g => absurd h1 g, fun _ g => absurd h2 g, fun _ _ _ => rfl, fun _ _ g => absurd g h3⟩
      · refine Ok.iteT rfl ?_
        refine M_keep0 hp hm hH (fun G' g1 g2 g3 => ?_)
        have hm' : MD w (G' 57) := by
          rw [g2 57 (by omega) (by omega)]
          exact hm.1
        refine Ok.bind (M_laysJob hw hm' h3 p1 p2 p4) (fun G4 hG4 => ?_)
        obtain ⟨f1, f2, f3, f4, f5, f6, f7⟩ := hG4
        refine Ok.ld 0 rfl (by omega) (by omega) ?_
        rw [f2]
        refine Ok.sto (61 + 15 * qN w + 2) (by omega) (by omega) (by omega) ?_
        refine Ok.bind M_noPlan (fun G6 hG6 => ?_)
        obtain ⟨k1, k2, k3, k4⟩ := hG6
        refine Ok.ld 0 rfl (by omega) (by omega) (Ok.so ⟨fun g => absurd h1 g, fun _ g => absurd h2 g, fun _ _ g => absurd h3 g, fun _ _ _ => ⟨?_, ⟨?_, ?_⟩, ?_, fun b hb => ?_, ?_⟩⟩)
        · dsimp only
          rw [k3 0 (by omega), up2_eq, up1_ne (by omega), f2]
          omega
        · dsimp only
          have hokJ := wJ_ok (rel := p1) (du := p2) (wt := p3) (kd := p4) hw h3 h2.1 h2.2.1 h2.2.2 (by omega)
          refine MD_plan hokJ (f := up1 (G4 57) (61 + 15 * qN w + 2) p3) (wJ_md hw h3 hm' ?_ ⟨?_, ?_, ?_, ?_, ?_⟩ (fun k hk1 hk2 => ?_)) (fun k hk => ?_)
          · rw [up1_ne (by omega)]
            exact f2
          · rw [up1_ne (by omega)]
            exact f3
          · rw [up1_ne (by omega)]
            exact f4
          · rw [up1_eq]
          · rw [up1_ne (by omega)]
            exact f5
          · rw [up1_ne (by omega)]
            exact f6
          · rw [up1_ne (by omega)]
            exact f7 k hk1 hk2
          · rw [k3 k hk, up2_eq]
        · exact MPl_0 (by rw [up2_eq, up1_eq]) k1 k2
        · dsimp only
          exact MH_fr (by rw [k4 56 (by omega), up2_ne (by omega), f1 56 (by omega)]) (by rw [k4 58 (by omega), up2_ne (by omega), f1 58 (by omega)]) g1
        · dsimp only
          rw [k4 b (by omega), up2_ne (by omega), f1 b (by omega)]
          exact g2 b (by omega) (by omega)
        · dsimp only
          rw [k4 56 (by omega), up2_ne (by omega), f1 56 (by omega)]
          exact g3
    · refine Ok.cd (ilt_id (by omega) (by omega) (by omega) (by omega)) (fun h2 => ?_) (fun h2 => ?_)
      · exact hk19 _ (by rw [decide_eq_true (by omega)]; rfl)
      · exact hk19 _ (by rw [decide_eq_false (by omega)]; rfl)
  · refine Ok.lk ?_
    refine Ok.it (fun h1 => ?_) (fun h1 => ?_)
    · have h1 := of_decide_eq_true h1
      rw [M_in i2 (by unfold I32; omega) (by unfold I32; omega)]
      refine Ok.eq rfl ?_
      refine Ok.it (fun h2 => ?_) (fun h2 => ?_)
      · have h2 := of_decide_eq_true h2
        rw [M_in i3 (by unfold I32; omega) (by unfold I32; omega)]
        refine Ok.eq rfl ?_
        refine Ok.it (fun h3 => ?_) (fun h3 => ?_)
        · have h3 := of_decide_eq_true h3
          exact hk20 _ (by rw [decide_eq_true ⟨h1, h2, h3⟩]; rfl)
        · have h3 := of_decide_eq_false h3
          exact hk20 _ (by rw [decide_eq_false (fun g => h3 g.2.2)]; rfl)
      · have h2 := of_decide_eq_false h2
        exact hk20 _ (by rw [decide_eq_false (fun g => h2 g.2.1)]; rfl)
    · have h1 := of_decide_eq_false h1
      exact hk20 _ (by rw [decide_eq_false (fun g => h1 g.1)]; rfl)
theorem C_addJob {p1 p2 p3 p4 : Int} (i1 : I32 p1) (i2 : I32 p2) (i3 : I32 p3) (i4 : I32 p4) : CaseX (P_X10_addJob p1 p2 p3 p4) (fun E => E + 1) (P_X11_addJob p1 p2 p3 p4) := by
  intro c W hW
  obtain ⟨w, h, len, a, np, G, n, k, rfl, hI, hn, hk⟩ := id hW
  have hp := hI.1
  have hw := hp.1
  have hx := hI.2.1
  have hm := hI.2.2.2.2.1
  have hH := hI.2.2.2.2.2
  have hM := M_addJob i1 i2 i3 i4 hp hm hH
  have er : ∀ e : Int, IW (c + 1) (rOf a, (tlOf a, (up2 G 56 3 e, (n + 1, k + 6)))) := fun e => hW.kq (KQ.up (by omega)) (Nat.le_refl _) (Nat.le_refl _)
  unfold P_X10_addJob
  rw [needKind_eq i4]
  by_cases h1 : 0 ≤ p4 ∧ p4 < 4
  · have h1' : 0 ≤ p4 ∧ p4 ≤ 3 := by omega
    rw [if_pos h1]
    refine Ok.thr0 rfl ?_
    rw [needRange_eq i1 (by unfold I32; omega) (by unfold I32; omega)]
    by_cases h2 : 0 ≤ p1 ∧ p1 ≤ 200
    · rw [if_pos h2]
      refine Ok.thr0 rfl ?_
      rw [needRange_eq i2 (by unfold I32; omega) (by unfold I32; omega)]
      by_cases h3 : 0 ≤ p2 ∧ p2 ≤ 1000
      · rw [if_pos h3]
        refine Ok.thr0 rfl ?_
        rw [needRange_eq i3 (by unfold I32; omega) (by unfold I32; omega)]
        by_cases h4 : 1 ≤ p3 ∧ p3 ≤ 9
        · rw [if_pos h4]
          refine Ok.thr0 rfl ?_
          rw [needRoom_eq hw hx]
          by_cases h5 : qN w < 6
          · rw [if_pos h5]
            refine Ok.thr0 rfl ?_
            refine S_rem hI (fun a' np' G' n' k' b1 b2 b3 b4 b5 => ?_)
            have hx' : XS w G' := fun b i hb => by
              have := hb.lo
              rw [b2 b (by omega) (by omega)]
              exact hx b i hb
            refine Ok.bind (S_newJob hw hx' h5 p1 p2 p3 p4) (fun z3 hz3 => ?_)
            obtain ⟨y1, y2, y3⟩ := hz3
            refine Ok.bind (S_dropPlan (wJ_ok hw h5 h2 h3 h4 h1) y2) (fun G4 hG4 => ?_)
            refine Ok.so (Or.inl ⟨_, rfl, fun G5 hG5 => ?_⟩)
            have f4 : ∀ b, b = 0 ∨ 26 ≤ b → G4 b = G' b := fun b hb => by rw [hG4.2.2.1 b (by omega), y3 b (by omega)]
            have hG5' : ∀ b, 56 ≤ b ∧ b ≤ 73 → G5 b = G b := fun b hb => by
              rw [hG5 b (by omega)]
              show G4 b = G b
              rw [f4 b (by omega), b2 b (by omega) (by omega)]
            obtain ⟨hmA, hmH⟩ := M_start hm hH hG5'
            refine Ok.w (M_addJob (G := G5) i1 i2 i3 i4 hp hmA hmH) (fun z hz => ?_)
            obtain ⟨z1, z2⟩ := hz.2.2.2 h1' ⟨h2, h3, h4⟩ h5
            refine ⟨z2.2.2.2, ?_, z2.2.2.1 74 (by omega), IW_done hI hn hk b1 b2 b3 b4 b5 hG4.2.2.2.1 hG4.2.2.2.2 hG4.1 hG4.2.1 f4 hG5 z2⟩
            rw [z1, y1]
          · rw [if_neg h5]
            refine Ok.thrE rfl (Or.inr ⟨2, rfl, by decide, by omega, Ok.w hM (fun z hz => ?_)⟩)
            rw [hz.2.2.1 h1' ⟨h2, h3, h4⟩ h5]
            exact ⟨by rw [up2_eq, up1_eq]; rfl, er 3⟩
        · rw [if_neg h4]
          refine Ok.thrE rfl (Or.inr ⟨1, rfl, by decide, by omega, Ok.w hM (fun z hz => ?_)⟩)
          rw [hz.2.1 h1' (fun g => h4 g.2.2)]
          exact ⟨by rw [up2_eq, up1_eq]; rfl, er 2⟩
      · rw [if_neg h3]
        refine Ok.thrE rfl (Or.inr ⟨1, rfl, by decide, by omega, Ok.w hM (fun z hz => ?_)⟩)
        rw [hz.2.1 h1' (fun g => h3 g.2.1)]
        exact ⟨by rw [up2_eq, up1_eq]; rfl, er 2⟩
    · rw [if_neg h2]
      refine Ok.thrE rfl (Or.inr ⟨1, rfl, by decide, by omega, Ok.w hM (fun z hz => ?_)⟩)
      rw [hz.2.1 h1' (fun g => h2 g.1)]
      exact ⟨by rw [up2_eq, up1_eq]; rfl, er 2⟩
  · rw [if_neg h1]
    refine Ok.thrE rfl (Or.inr ⟨0, rfl, by decide, by omega, Ok.w hM (fun z hz => ?_)⟩)
    rw [hz.1 (by omega)]
    exact ⟨by rw [up2_eq, up1_eq]; rfl, er 1⟩
