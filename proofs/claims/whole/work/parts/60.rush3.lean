/-! ===== rush and delay, both sides; whether there is a plan ===== -/
theorem KQ.b74 {G G' : mG} (h : ∀ b, b ≠ 74 → G' b = G b) : KQ G G' := KQ.of (fun b hb => h b (by omega))
theorem FrM.kq {G G' : mG} (h : FrM G G') : KQ G G' := KQ.of (fun b hb => h b (by omega))
theorem FrT.kq {G G' : mG} (h : FrT 26 G G') : KQ G G' := KQ.of (fun b hb => h b (by omega))
/-- what a plan says -/
theorem IV.plan {w : wS} {h : Nat → wS} {len a np : Nat} {G : mG} (hI : IV w h len a np G) (h1 : w 1 15 = 1) : qF w (qRw w) (qTot w).toNat ∧ (∀ i, i < (qTot w).toNat → G 16 i = (qRw w i : Int)) ∧ OT w (qRw w) (qTot w).toNat (tOd (qS w D0 (qRw w) (qTot w).toNat)) (G 57) 152 ∧ TT 17 w D0 (qRw w) (qTot w).toNat G := by
  have htot := qTot_le hI.1.1
  have hln : qLn w = (qTot w).toNat := by
    unfold qLn
    rw [if_neg (by omega)]
  obtain ⟨h2, h3⟩ := hI.1.2.1 h1
  have hT := hI.2.2.1
  have hO := hI.2.2.2.2.1.2.2
  rw [hln] at hT hO
  refine ⟨h2, fun i hi => ?_, hO, hT⟩
  rw [← h3 i hi]
  exact hI.2.1.at i (by simp [aok, asz]; omega)
theorem MA.plan {w : wS} {f : Nat → Int} (hm : MA w f) (h1 : w 1 15 = 1) : OT w (qRw w) (qTot w).toNat (tOd (qS w D0 (qRw w) (qTot w).toNat)) f 152 := by
  have hln : qLn w = (qTot w).toNat := by
    unfold qLn
    rw [if_neg (by omega)]
  have hO := hm.2.2
  rw [hln] at hO
  exact hO
theorem M_hasPlan {w : wS} {G : mG} (hw : Wok w) (hm : MA w (G 57)) : P_X11_hasPlan G = some (decide (w 1 15 = 1)) := by
  have hz := hw.2.2.2.2.2.2.2.1
  refine Ok.get ?_
  unfold P_X11_hasPlan
  refine Ok.ld 151 rfl (by omega) (by omega) ?_
  rw [hm.2.1]
  refine Ok.cd (ieq_id (by omega) (by omega) (by omega) (by omega)) (fun h => ?_) (fun h => ?_)
  · exact Ok.so (decide_eq_true h).symm
  · exact Ok.so (decide_eq_false h).symm
theorem M_isPlanned {w : wS} {G : mG} (hw : Wok w) (hp : Pok w) (hm : MA w (G 57)) : Ok (P_X11_isPlanned G) (fun z => FrM G z.2 ∧ z.1 = decide (w 1 15 = 1) ∧ (w 1 15 = 1 → MK w (qRw w) (qTot w).toNat (qTot w).toNat z.2)) := by
  unfold P_X11_isPlanned
  refine Ok.eq (M_hasPlan hw hm) ?_
  refine Ok.lk ?_
  refine Ok.it (fun h => ?_) (fun h => ?_)
  · have h := of_decide_eq_true h
    refine Ok.bind (M_works hw hm.1 (hp h).1 (hm.plan h)) (fun z hz => ?_)
    rw [hz.1]
    exact Ok.iteT rfl (Ok.so ⟨hz.2.2.1, (decide_eq_true h).symm, fun _ => hz.2.1⟩)
  · have h := of_decide_eq_false h
    exact Ok.so ⟨FrM.rf G, (decide_eq_false h).symm, fun g => absurd g h⟩
theorem M_rush {w : wS} {h : Nat → wS} {len : Nat} {G : mG} {p1 : Int} {f : Nat → Int} (i1 : I32 p1) (hp : PI w h len) (hm : MA w (G 57)) (hH : MH h len G) (hf : (0 ≤ p1 ∧ p1 < (qN w : Int)) → w 1 15 = 1 → ∀ i, i < (qTot w).toNat → f i = (rRu (qRw w) p1.toNat (qSt w p1.toNat) (qTot w).toNat i : Int)) : Ok (P_X11_rush p1 G) (fun z =>
    (¬ (0 ≤ p1 ∧ p1 < (qN w : Int)) → z.2 = up2 G 56 3 1) ∧ ((0 ≤ p1 ∧ p1 < (qN w : Int)) → ¬ w 1 15 = 1 → z.2 = up2 G 56 3 2) ∧
    ((0 ≤ p1 ∧ p1 < (qN w : Int)) → w 1 15 = 1 → z.1 = qEnd w (rRu (qRw w) p1.toNat (qSt w p1.toNat) (qTot w).toNat) ∧ MP' (wP w f) (psh w h) (min (len + 1) 8) G z.2)) := by
  have hw := hp.1
  unfold P_X11_rush
  rw [M_isJob hw hm.1 i1]
  refine Ok.eq rfl ?_
  refine Ok.eq (M_hasPlan hw hm) ?_
  refine Ok.fits rfl rfl b2i_T (fun h1 => ?_) (fun h1 h2 => ?_) (fun h1 h2 h3 => absurd trivial h3) (fun h1 h2 _ => ?_)
  · exact Ok.so ⟨fun _ => rfl, fun g => absurd g h1, fun g => absurd g h1⟩
  · exact Ok.so ⟨fun g => absurd h1 g, fun _ _ => rfl, fun _ g => absurd g h2⟩
  · refine Ok.iteT rfl ?_
    have hJ : p1.toNat < qN w := by omega
    have ej : ((p1.toNat : Nat) : Int) = p1 := by omega
    have hF := (hp.2.1 h2).1
    have hF' := rRu_F hF hJ (rfl : qSt w p1.toNat = qSt w p1.toNat)
    refine M_keep0 hp hm hH (fun G' g1 g2 g3 => ?_)
    have hm' : MD w (G' 57) := by
      rw [g2 57 (by omega) (by omega)]
      exact hm.1
    have hO' : OT w (qRw w) (qTot w).toNat (tOd (qS w D0 (qRw w) (qTot w).toNat)) (G' 57) 152 := by
      rw [g2 57 (by omega) (by omega)]
      exact hm.plan h2
    have hlr := M_laysRushed hw hF hO' hJ
    rw [ej] at hlr
    refine Ok.bind hlr (fun G6 hG6 => ?_)
    have hm6 : MD w (G6 57) := by
      rw [hG6.2 57 (by omega)]
      exact hm'
    refine Ok.bind (M_takesOrder hw hm6 hF' (RO_OT hw hF hJ rfl hG6.1)) (fun z8 hz8 => ?_)
    obtain ⟨c1, c2, c3, c4, c5⟩ := hz8
    exact Ok.so ⟨fun g => absurd h1 g, fun _ g => absurd h2 g, fun _ _ => ⟨c1, MP_plan hw hF' (hf h1 h2) hm' g1 g2 g3 (fun b hb => hG6.2 b (by omega)) c2 c3 c4 (fun b hb1 hb2 => c5 b hb1 (by omega))⟩⟩
theorem C_rush {p1 : Int} (i1 : I32 p1) : CaseX (P_X10_rush p1) (fun E => if E = 0 then 1 else if E = 2 then 2 else 0) (P_X11_rush p1) := by
  intro c W hW
  obtain ⟨w, h, len, a, np, G, n, k, rfl, hI, hn, hk⟩ := id hW
  have hp := hI.1
  have hw := hp.1
  have hx := hI.2.1
  have hm := hI.2.2.2.2.1
  have hH := hI.2.2.2.2.2
  have er : ∀ e : Int, IW (c + 1) (rOf a, (tlOf a, (up2 G 56 3 e, (n + 1, k + 6)))) := fun e => hW.kq (KQ.up (by omega)) (Nat.le_refl _) (Nat.le_refl _)
  unfold P_X10_rush
  rw [needJob_eq hw hx i1]
  by_cases h1 : 0 ≤ p1 ∧ p1 < (qN w : Int)
  · rw [if_pos h1]
    refine Ok.thr0 rfl ?_
    rw [needPlan_eq hw hx]
    by_cases h2 : w 1 15 = 1
    · rw [if_pos h2]
      refine Ok.thr0 rfl ?_
      have hJ : p1.toNat < qN w := by omega
      have ej : ((p1.toNat : Nat) : Int) = p1 := by omega
      obtain ⟨hF, hr, hO, hT17⟩ := hI.plan h2
      have hF' := rRu_F hF hJ (rfl : qSt w p1.toNat = qSt w p1.toNat)
      have hpr := S_putRushed (t := 26) hw hx (by omega) hF hr hJ
      rw [ej] at hpr
      refine Ok.bind hpr (fun G5 hG5 => ?_)
      have hI5 := IV_trial hI (G1 := G5) (fun b hb => hG5.2 b (by omega))
      refine S_adopt hI5 hF' hG5.1 (fun a' np' G' G6 n' k' f b1 b2 b3 b4 b5 hf hx6 hT6 f6 => ?_)
      refine Ok.so (Or.inl ⟨_, rfl, fun G7 hG7 => ?_⟩)
      have hG7' : ∀ b, 56 ≤ b ∧ b ≤ 73 → G7 b = G5 b := fun b hb => by
        rw [hG7 b (by omega)]
        show G6 b = G5 b
        rw [f6 b (by omega), b2 b (by omega) (by omega)]
      obtain ⟨hmA, hmH⟩ := M_start hI5.2.2.2.2.1 hI5.2.2.2.2.2 hG7'
      refine Ok.w (M_rush (G := G7) (f := f) i1 hp hmA hmH (fun _ _ => hf)) (fun z hz => ?_)
      obtain ⟨z1, z2⟩ := hz.2.2 h1 h2
      exact ⟨z2.2.2.2, by rw [z1], z2.2.2.1 74 (by omega), IW_done hI5 hn hk b1 b2 b3 b4 b5 (wP_ok hw) (wP_pok hw hF' hf) hx6 hT6 f6 hG7 z2⟩
    · rw [if_neg h2]
      refine Ok.thrE rfl (Or.inr ⟨2, rfl, by decide, by omega, Ok.w (M_rush (f := fun _ => 0) i1 hp hm hH (fun _ g => absurd g h2)) (fun z hz => ?_)⟩)
      rw [hz.2.1 h1 h2]
      exact ⟨by rw [up2_eq, up1_eq]; rfl, er 2⟩
  · rw [if_neg h1]
    refine Ok.thrE rfl (Or.inr ⟨0, rfl, by decide, by omega, Ok.w (M_rush (f := fun _ => 0) i1 hp hm hH (fun g => absurd g h1)) (fun z hz => ?_)⟩)
    rw [hz.1 h1]
    exact ⟨by rw [up2_eq, up1_eq]; rfl, er 1⟩
/-! questions that may throw -/
def CaseY (p : mW → Option ((Int ⊕ Nat) × mW)) (cm : Nat → Nat) (q : mG → Option (Int × mG)) : Prop := ∀ w h len a np G n k, IV w h len a np G → Ok (p (rOf a, (tlOf a, (G, (n, k))))) (fun x => ∃ G1, KQ G G1 ∧
  ((∃ v, x = (.inl v, (rOf a, (tlOf a, (G1, (n, k))))) ∧ ∀ G', (∀ b, b ≠ 74 → G' b = G1 b) → IV w h len a np G' → Ok (q G') (fun z => z.2 56 3 = 0 ∧ w32 z.1 = w32 v ∧ z.2 74 = G' 74 ∧ KQ G' z.2)) ∨
  (∃ E, x = (.inr E, (rOf a, (tlOf a, (G1, (n + 1, k + 6))))) ∧ cm E ≠ 0 ∧ E < 3 ∧ (IV w h len a np G1 → Ok (q G1) (fun z => z.2 56 3 = (cm E : Int) ∧ KQ G1 z.2)))))
theorem CaseX_of {p : mW → Option ((Int ⊕ Nat) × mW)} {cm : Nat → Nat} {q : mG → Option (Int × mG)} (hc : CaseY p cm q) : CaseX p cm q := by
  intro c W hW
  obtain ⟨w, h, len, a, np, G, n, k, rfl, hI, hn, hk⟩ := id hW
  refine Ok.w (hc w h len a np G n k hI) (fun x hx => ?_)
  obtain ⟨G1, hkq, hcase⟩ := hx
  rcases hcase with ⟨v, rfl, h1⟩ | ⟨E, rfl, h1, h2, h3⟩
  · refine Or.inl ⟨v, rfl, fun G' hG' => ?_⟩
    have hk2 : KQ G G' := hkq.tr (KQ.b74 hG')
    refine Ok.w (h1 G' hG' (hI.kq hk2)) (fun z hz => ⟨hz.1, hz.2.1, hz.2.2.1, hW.kq (hk2.tr hz.2.2.2) (by omega) (by omega)⟩)
  · refine Or.inr ⟨E, rfl, h1, h2, Ok.w (h3 (hI.kq hkq)) (fun z hz => ⟨hz.1, hW.kq (hkq.tr hz.2) (Nat.le_refl _) (Nat.le_refl _)⟩)⟩
theorem KQ.up3 (G : mG) (x : Int) : KQ G (up2 G 56 3 x) := KQ.up (by omega)
theorem M_delay {w : wS} {G : mG} {p1 p2 : Int} (i1 : I32 p1) (i2 : I32 p2) (hw : Wok w) (hp : Pok w) (hm : MA w (G 57)) : Ok (P_X11_delay p1 p2 G) (fun z => KQ G z.2 ∧ z.2 74 = G 74 ∧
    (¬ ((0 ≤ p1 ∧ p1 < (qN w : Int)) ∧ 0 ≤ p2 ∧ p2 < (qN w : Int)) → z.2 56 3 = 1) ∧ (((0 ≤ p1 ∧ p1 < (qN w : Int)) ∧ 0 ≤ p2 ∧ p2 < (qN w : Int)) → ¬ w 1 15 = 1 → z.2 56 3 = 2) ∧
    (((0 ≤ p1 ∧ p1 < (qN w : Int)) ∧ 0 ≤ p2 ∧ p2 < (qN w : Int)) → w 1 15 = 1 → z.2 56 3 = 0 ∧ z.1 = tEn w (qS w D0 (rRu (qRw w) p1.toNat (qSt w p1.toNat) (qTot w).toNat) (qTot w).toNat) p2.toNat - tEn w (qS w D0 (qRw w) (qTot w).toNat) p2.toNat)) := by
  have hn := hw.n
  unfold P_X11_delay
  rw [M_isJob hw hm.1 i1]
  refine Ok.eq rfl ?_
  refine Ok.jn1 (fun y => y = b2i (decide ((0 ≤ p1 ∧ p1 < (qN w : Int)) ∧ 0 ≤ p2 ∧ p2 < (qN w : Int)))) (fun y hy => ?_) (fun k12 hk12 => ?_)
  · refine Ok.bind (M_isPlanned hw hp hm) (fun z6 hz6 => ?_)
    obtain ⟨f1, f2, f3⟩ := hz6
    rw [f2]
    refine Ok.fits hy rfl b2i_T (fun h1 => ?_) (fun h1 h2 => ?_) (fun h1 h2 h3 => absurd trivial h3) (fun h1 h2 _ => ?_)
    · exact Ok.so ⟨f1.kq.tr (KQ.up3 _ _), by dsimp only; rw [up2_ne (by omega), f1 74 (by omega)], fun _ => by dsimp only; rw [up2_eq, up1_eq], fun g => absurd g h1, fun g => absurd g h1⟩
    · exact Ok.so ⟨f1.kq.tr (KQ.up3 _ _), by dsimp only; rw [up2_ne (by omega), f1 74 (by omega)], fun g => absurd h1 g, fun _ _ => by dsimp only; rw [up2_eq, up1_eq], fun _ g => absurd g h2⟩
    · refine Ok.iteT rfl ?_
      have hF := (hp h2).1
      have hJ : p1.toNat < qN w := by omega
      have hJ2 : p2.toNat < qN w := by omega
      have ej : ((p1.toNat : Nat) : Int) = p1 := by omega
      have hF' := rRu_F hF hJ (rfl : qSt w p1.toNat = qSt w p1.toNat)
      have hm6 : MD w (z6.2 57) := by
        rw [f1 57 (by omega)]
        exact hm.1
      have hT6 := f3 h2
      obtain ⟨E1, E2⟩ := MK_E hw hm6 hF hT6
      refine Ok.ld p2.toNat (by omega) (by omega) (by omega) ?_
      dsimp only
      rw [up2_ne (by omega), E1 _ hJ2]
      have hO7 : OT w (qRw w) (qTot w).toNat (tOd (qS w D0 (qRw w) (qTot w).toNat)) ((up2 z6.2 56 3 0) 57) 152 := by
        rw [up2_ne (by omega), f1 57 (by omega)]
        exact hm.plan h2
      have hlr := M_laysRushed hw hF hO7 hJ
      rw [ej] at hlr
      refine Ok.bind hlr (fun G9 hG9 => ?_)
      have hm9 : MD w (G9 57) := by
        rw [hG9.2 57 (by omega), up2_ne (by omega)]
        exact hm6
      have hwo := M_worksOut (lat := 1000) (by_ := 0) (a := 66) (an := 124) (p := 0) (p2 := -1) hw hF'.1 hF'.2 (So_of hw hF'.1) hm9 (by omega) (by omega) (by omega) (by omega) (fun i hi => by
        have h5 := rS_lt5 hw hF'.1 hi
        have h6 := (hF'.1 i hi).1
        unfold rX
        constructor
        · intro e
          omega
        · intro e
          omega) (by omega) (RO_OT hw hF hJ rfl hG9.1)
      refine Ok.bind hwo (fun z10 hz10 => ?_)
      obtain ⟨g1, g2, g3, g4⟩ := hz10
      have hm10 : MD w (z10.2 57) := by
        rw [g3 57 (by omega)]
        exact hm9
      obtain ⟨E3, E4⟩ := MK_E hw hm10 hF' g2
      refine Ok.ld p2.toNat (by omega) (by omega) (by omega) ?_
      rw [E3 _ hJ2]
      refine Ok.so ⟨?_, ?_, fun g => absurd h1 g, fun _ g => absurd h2 g, fun _ _ => ⟨?_, rfl⟩⟩
      · refine (f1.kq.tr (KQ.up3 _ 0)).tr (KQ.of (fun b hb => ?_))
        dsimp only
        rw [g3 b (by omega), hG9.2 b (by omega)]
      · dsimp only
        rw [g3 74 (by omega), hG9.2 74 (by omega), up2_ne (by omega), f1 74 (by omega)]
      · dsimp only
        rw [g3 56 (by omega), hG9.2 56 (by omega), up2_eq, up1_eq]
  · refine Ok.lk ?_
    refine Ok.it (fun h1 => ?_) (fun h1 => ?_)
    · have h1 := of_decide_eq_true h1
      rw [M_isJob hw hm.1 i2]
      refine Ok.eq rfl ?_
      refine Ok.it (fun h2 => ?_) (fun h2 => ?_)
      · have h2 := of_decide_eq_true h2
        exact hk12 _ (by rw [decide_eq_true ⟨h1, h2⟩]; rfl)
      · have h2 := of_decide_eq_false h2
        exact hk12 _ (by rw [decide_eq_false (fun g => h2 g.2)]; rfl)
    · have h1 := of_decide_eq_false h1
      exact hk12 _ (by rw [decide_eq_false (fun g => h1 g.1)]; rfl)
theorem C_delay {p1 p2 : Int} (i1 : I32 p1) (i2 : I32 p2) : CaseX (P_X10_delay p1 p2) (fun E => if E = 0 then 1 else if E = 2 then 2 else 0) (P_X11_delay p1 p2) := by
  refine CaseX_of ?_
  intro w h len a np G n k hI
  have hp := hI.1
  have hw := hp.1
  have hx := hI.2.1
  have hmd : ∀ G', IV w h len a np G' → _ := fun G' hI' => M_delay (G := G') i1 i2 hw hp.2.1 hI'.2.2.2.2.1
  unfold P_X10_delay
  rw [needJob_eq hw hx i1]
  by_cases h1 : 0 ≤ p1 ∧ p1 < (qN w : Int)
  · rw [if_pos h1]
    refine Ok.thr0 rfl ?_
    rw [needJob_eq hw hx i2]
    by_cases h2 : 0 ≤ p2 ∧ p2 < (qN w : Int)
    · rw [if_pos h2]
      refine Ok.thr0 rfl ?_
      rw [needPlan_eq hw hx]
      by_cases h3 : w 1 15 = 1
      · rw [if_pos h3]
        refine Ok.thr0 rfl ?_
        have hJ : p1.toNat < qN w := by omega
        have hJ2 : p2.toNat < qN w := by omega
        have ej : ((p1.toNat : Nat) : Int) = p1 := by omega
        have ej2 : ((p2.toNat : Nat) : Int) = p2 := by omega
        obtain ⟨hF, hr, hO, hT17⟩ := hI.plan h3
        have hF' := rRu_F hF hJ (rfl : qSt w p1.toNat = qSt w p1.toNat)
        have hpr := S_putRushed (t := 26) hw hx (by omega) hF hr hJ
        rw [ej] at hpr
        refine Ok.bind hpr (fun G9 hG9 => ?_)
        have hx9 := hG9.2.xs (by omega) hx
        have l1 := S_leastEndOf hw hx9 hF'.1 DB0 hG9.1 hJ2
        have l2 := S_leastEndOf hw hx9 hF.1 DB0 (TT_fr (fun b hb1 hb2 => hG9.2 b (by omega)) hT17) hJ2
        rw [ej2] at l1 l2
        refine Ok.eq l1 ?_
        refine Ok.eq l2 ?_
        refine Ok.so ⟨G9, hG9.2.kq, Or.inl ⟨_, rfl, fun G' hG' hI' => Ok.w (hmd G' hI') (fun z hz => ?_)⟩⟩
        obtain ⟨z1, z2, z3, z4, z5⟩ := hz
        obtain ⟨z6, z7⟩ := z5 ⟨h1, h2⟩ h3
        exact ⟨z6, by rw [z7], z2, z1⟩
      · rw [if_neg h3]
        refine Ok.thrE rfl ⟨G, KQ.rf G, Or.inr ⟨2, rfl, by decide, by omega, fun hI' => Ok.w (hmd G hI') (fun z hz => ⟨?_, hz.1⟩)⟩⟩
        rw [hz.2.2.2.1 ⟨h1, h2⟩ h3]
        rfl
    · rw [if_neg h2]
      refine Ok.thrE rfl ⟨G, KQ.rf G, Or.inr ⟨0, rfl, by decide, by omega, fun hI' => Ok.w (hmd G hI') (fun z hz => ⟨?_, hz.1⟩)⟩⟩
      rw [hz.2.2.1 (fun g => h2 g.2)]
      rfl
  · rw [if_neg h1]
    refine Ok.thrE rfl ⟨G, KQ.rf G, Or.inr ⟨0, rfl, by decide, by omega, fun hI' => Ok.w (hmd G hI') (fun z hz => ⟨?_, hz.1⟩)⟩⟩
    rw [hz.2.2.1 (fun g => h1 g.1)]
    rfl
