/-! ===== the class finds no wrong hour; errors ===== -/
def mkC (w : wS) (r : Nat → Nat) (n J S : Nat) (x : Nat) (v : Int) : Prop := ∃ k : Nat, v = (k : Int) ∧ k < 1024 ∧ (∀ m, m < 4 → hasb k m = true → ∃ i, i < n ∧ (r i < J ∨ (r i = J ∧ rS r i < S)) ∧ rM w r i = m ∧ cvr w r n (x : Int) i) ∧ (∀ j, j < 6 → hasb k (4 + j) = true → ∃ i, i < n ∧ (r i < J ∨ (r i = J ∧ rS r i < S)) ∧ r i = j ∧ cvr w r n (x : Int) i)
theorem mkC_up {w : wS} {r : Nat → Nat} {n J S J' S' : Nat} {x : Nat} {v : Int} (h : ∀ i, i < n → (r i < J ∨ (r i = J ∧ rS r i < S)) → (r i < J' ∨ (r i = J' ∧ rS r i < S'))) (hc : mkC w r n J S x v) : mkC w r n J' S' x v := by
  obtain ⟨k, h1, h2, h3, h4⟩ := hc
  refine ⟨k, h1, h2, fun m hm g => ?_, fun j hj g => ?_⟩
  · obtain ⟨i, a1, a2, a3, a4⟩ := h3 m hm g
    exact ⟨i, a1, h i a1 a2, a3, a4⟩
  · obtain ⟨i, a1, a2, a3, a4⟩ := h4 j hj g
    exact ⟨i, a1, h i a1 a2, a3, a4⟩
theorem S_markStep {w : wS} {r : Nat → Nat} {n J S : Nat} {G : mG} (hw : Wok w) (hx : XS w G) (hv : qV w r n) (hT : TT 17 w D0 r n G) (hJ : J < qN w) (hS : S < qSt w J) (hS' : S < rD r n J) (hM : ∀ x, x < 5000 → mkC w r n J S x (G 43 x)) : Ok (P_X2_markStep (J : Int) ((5 * J + S : Nat) : Int) G) (fun G' => (∀ x, x < 5000 → mkC w r n J (S + 1) x (G' 43 x)) ∧ ∀ b, b ≠ 43 → G' b = G b) := by
  have hn := hw.n
  have h5 := (hw.st hJ).2
  have hjs := qS_js hw DB0 hv hS'
  have hm4 : qMc w (5 * J + S) < 4 := (hw.mc hJ hS).2
  obtain ⟨i, c1, c2, c3, c4⟩ := rX_of hS'
  have hmi : rM w r i = qMc w (5 * J + S) := by
    unfold rM
    rw [c4]
  have hup : ∀ x v, mkC w r n J S x v → mkC w r n J (S + 1) x v := fun x v h => mkC_up (fun i' _ h => by omega) h
  unfold P_X2_markStep
  refine Ok.ld (5 * J + S) rfl (by omega) (by omega) ?_
  rw [hx.mc hw hJ hS]
  refine Ok.eq (S_endOfStep hw hx hv hT (by omega) hS' (by omega)) ?_
  refine Ok.ld (5 * J + S) rfl (by omega) (by omega) ?_
  rw [hT.bg (by omega) hS']
  have hgi : ∀ h : Int, tBg (qS w D0 r n) (5 * J + S) ≤ h → h < tBg (qS w D0 r n) (5 * J + S) + qHr w (5 * J + S) → cvr w r n h i := fun h g1 g2 => by
    unfold cvr
    rw [c4]
    exact ⟨g1, g2⟩
  generalize tBg (qS w D0 r n) (5 * J + S) = B at hjs hgi ⊢
  generalize hHr : qHr w (5 * J + S) = H at hjs hgi ⊢
  rw [iMax_id (by omega) (by omega) (by omega) (by omega), show max B 0 = B by omega, iMin_id (by omega) (by omega) (by omega) (by omega)]
  refine Ok.lp2 (fun M x G7 => ∃ h : Nat, x = (h : Int) ∧ B ≤ h ∧ h + M = 30000 ∧ (∀ b, b ≠ 43 → G7 b = G b) ∧ ∀ y, y < 5000 → mkC w r n J (S + 1) y (G7 43 y) ∧ (h ≤ y → mkC w r n J S y (G7 43 y))) (fun M again x G7 hI hk => ?_) LF (30000 - B.toNat) B G (LF_lt (by omega)) ⟨B.toNat, by omega, by omega, by omega, fun _ _ => rfl, fun y hy => ⟨hup _ _ (hM y hy), fun _ => hM y hy⟩⟩
  obtain ⟨h, rfl, hB, hhM, hfr, hce⟩ := hI
  refine Ok.cd (ilt_id (by omega) (by omega) (by omega) (by omega)) (fun g => ?_) (fun g => ?_)
  · have hh5 : h < 5000 := by omega
    have gi := hgi (h : Int) hB (by omega)
    obtain ⟨k, e1, e2, e3, e4⟩ := (hce h hh5).2 (Nat.le_refl h)
    refine Ok.ld h rfl hh5 (by omega) ?_
    rw [e1]
    have hor := mk_or e2 hm4 (show J < 6 by omega)
    have z1 : hasb k (qMc w (5 * J + S)) = false := by
      cases hb : hasb k (qMc w (5 * J + S))
      · rfl
      · obtain ⟨i', d1, d2, d3, d4⟩ := e3 _ hm4 hb
        have := er_m hw hv d1 c1 (d3.trans hmi.symm) d4 gi
        subst this
        omega
    have z2 : hasb k (4 + J) = false := by
      cases hb : hasb k (4 + J)
      · rfl
      · obtain ⟨i', d1, d2, d3, d4⟩ := e4 _ (show J < 6 by omega) hb
        have := er_j hw hv d1 c1 (d3.trans c2.symm) d4 gi
        subst this
        omega
    rw [hor.2, z1, z2]
    have hx7 : XS w G7 := fun a b hab => by
      have := hab.lo
      rw [hfr a (by omega)]
      exact hx a b hab
    refine Ok.jn1 (fun y => y = 0) (fun y hy => ?_) (fun k18 hk18 => ?_)
    · subst hy
      refine Ok.ld h rfl hh5 (by omega) ?_
      rw [e1]
      refine Ok.jn1 (fun y => y = iOr (iShl 1 (qMc w (5 * J + S) : Int)) (iShl 1 (4 + (J : Int)))) (fun y hy => ?_) (fun k17 hk17 => ?_)
      · subst hy
        rw [hor.1]
        refine Ok.sto h rfl hh5 (by omega) ?_
        refine hk (M - 1) _ _ (by omega) ⟨h + 1, rfl, by omega, by omega, fun b hb => by rw [up2_ne hb, hfr b hb], fun y hy => ?_⟩
        rw [up2_eq, up1_if]
        by_cases e : y = h
        · rw [if_pos e]
          refine ⟨⟨mkB k (qMc w (5 * J + S)) J, rfl, mkB_lt e2 hm4 (by omega), fun m hmm g2 => ?_, fun j hj g2 => ?_⟩, fun g2 => absurd g2 (by omega)⟩
          · rw [mkB_has] at g2
            by_cases e5 : m = qMc w (5 * J + S)
            · exact ⟨i, c1, Or.inr ⟨c2, by omega⟩, by rw [hmi, e5], by rw [e]; exact gi⟩
            · rw [decide_eq_false (fun e6 => e5 e6.symm), decide_eq_false (by omega), Bool.or_false, Bool.or_false] at g2
              obtain ⟨i', d1, d2, d3, d4⟩ := e3 m hmm g2
              exact ⟨i', d1, by omega, d3, by rw [e]; exact d4⟩
          · rw [mkB_has] at g2
            by_cases e5 : j = J
            · exact ⟨i, c1, Or.inr ⟨c2, by omega⟩, by rw [e5, c2], by rw [e]; exact gi⟩
            · rw [decide_eq_false (show ¬ qMc w (5 * J + S) = 4 + j by omega), decide_eq_false (show ¬ 4 + J = 4 + j by omega), Bool.or_false, Bool.or_false] at g2
              obtain ⟨i', d1, d2, d3, d4⟩ := e4 j hj g2
              exact ⟨i', d1, by omega, d3, by rw [e]; exact d4⟩
        · rw [if_neg e]
          exact ⟨(hce y hy).1, fun g2 => (hce y hy).2 (by omega)⟩
      · exact Ok.iteT rfl (hk17 _ rfl)
    · refine Ok.jnP False (fun g => g.elim) (fun k20 hk20 => ?_)
      refine Ok.iteT rfl ?_
      refine Ok.eq (S_isClosedIn (by unfold I32; omega) hw hx7 hm4 (fun c hc => ?_)) ?_
      · have := er_c hw hv c1 (c := c) (by rw [hmi]; exact hc) gi
        rw [hmi] at this
        exact this
      · exact Ok.iteF rfl (hk18 _ rfl)
  · exact Ok.so ⟨fun y hy => (hce y hy).1, hfr⟩
theorem S_wrongHours {w : wS} {r : Nat → Nat} {n : Nat} {G : mG} (hw : Wok w) (hx : XS w G) (hF : qF w r n) (hT : TT 17 w D0 r n G) : Ok (P_X2_wrongHours G) (fun z => z.1 = 0 ∧ ∀ b, b ≠ 43 → z.2 b = G b) := by
  have hn := hw.n
  unfold P_X2_wrongHours
  refine Ok.bind (S_fill (a := 43) (an := 5000) (v := 0) (G := G) (by omega)) (fun G1 hG1 => ?_)
  have hfx : ∀ G' : mG, (∀ b, b ≠ 43 → G' b = G b) → XS w G' ∧ TT 17 w D0 r n G' := fun G' h => ⟨fun a b hab => by
    have := hab.lo
    rw [h a (by omega)]
    exact hx a b hab, TT_fr (fun b hb1 hb2 => h b (by omega)) hT⟩
  refine Ok.jn1 (fun G2 => (∀ x, x < 5000 → ∃ k : Nat, G2 43 x = (k : Int) ∧ k < 1024) ∧ ∀ b, b ≠ 43 → G2 b = G b) (fun G2 h2 => ?_) (fun k12 hk12 => ?_)
  · refine Ok.forA (fun _ v => v = 0) 5000 LF (LF_lt (by omega)) rfl (fun x hx5 again v hv hk => ?_) (fun again v hv => ?_)
    · subst hv
      obtain ⟨k, e1, e2⟩ := h2.1 x hx5
      refine Ok.condT (ilt_nat (b := 5000) (by omega) (by omega)) hx5 ?_
      refine Ok.ld x rfl hx5 (by omega) ?_
      rw [e1, mk_w e2]
      refine Ok.jn1 (fun y => y = 0) (fun y hy => ?_) (fun k11 hk11 => ?_)
      · subst hy
        exact hk _ rfl
      · exact Ok.iteT rfl (hk11 _ rfl)
    · subst hv
      refine Ok.condF (ilt_nat (b := 5000) (by omega) (by omega)) (by omega) ?_
      exact Ok.so ⟨rfl, h2.2⟩
  · refine Ok.forC (fun J G' => (∀ x, x < 5000 → mkC w r n J 0 x (G' 43 x)) ∧ ∀ b, b ≠ 43 → G' b = G b) (qN w) LF (LF_lt (by omega)) ⟨fun x hx5 => ⟨0, by rw [hG1.1 x hx5]; rfl, by omega, fun m hm g => absurd g (by
      have : ∀ m : Fin 10, ¬ hasb 0 m.1 = true := by decide
      exact this ⟨m, by omega⟩), fun j hj g => absurd g (by
      have : ∀ m : Fin 10, ¬ hasb 0 m.1 = true := by decide
      exact this ⟨4 + j, by omega⟩)⟩, hG1.2⟩ (fun J hJ again G14 hI hk => ?_) (fun again G14 hI => ?_)
    · have h5 := (hw.st hJ).2
      rw [(hfx G14 hI.2).1.n hw]
      refine Ok.condT (ilt_nat (by omega) (by omega)) hJ ?_
      refine Ok.jn1 (fun G' => (∀ x, x < 5000 → mkC w r n (J + 1) 0 x (G' 43 x)) ∧ ∀ b, b ≠ 43 → G' b = G b) (fun G' h => hk G' h) (fun k19 hk19 => ?_)
      refine Ok.forC (fun S G' => (∀ x, x < 5000 → mkC w r n J S x (G' 43 x)) ∧ ∀ b, b ≠ 43 → G' b = G b) (qSt w J) LF (LF_lt (by omega)) hI (fun S hS again2 G21 hI2 hk2 => ?_) (fun again2 G21 hI2 => ?_)
      · obtain ⟨x21, t21⟩ := hfx G21 hI2.2
        refine Ok.ld J rfl (by omega) (by omega) ?_
        rw [x21.st hw hJ]
        refine Ok.condT (ilt_nat (by omega) (by omega)) hS ?_
        have e : (J : Int) * 5 + (S : Int) = ((5 * J + S : Nat) : Int) := by omega
        rw [e]
        refine Ok.bind (S_markStep hw x21 hF.1 t21 hJ hS (by rw [hF.2 J hJ]; exact hS) hI2.1) (fun G25 hG25 => ?_)
        exact hk2 _ ⟨hG25.1, fun b hb => (hG25.2 b hb).trans (hI2.2 b hb)⟩
      · obtain ⟨x21, t21⟩ := hfx G21 hI2.2
        refine Ok.ld J rfl (by omega) (by omega) ?_
        rw [x21.st hw hJ]
        refine Ok.condF (ilt_nat (by omega) (by omega)) (by omega) ?_
        exact hk19 _ ⟨fun x hx5 => mkC_up (fun i hi h => by omega) (hI2.1 x hx5), hI2.2⟩
    · rw [(hfx G14 hI.2).1.n hw]
      refine Ok.condF (ilt_nat (by omega) (by omega)) (by omega) ?_
      refine hk12 _ ⟨fun x hx5 => ?_, hI.2⟩
      obtain ⟨k, e1, e2, -⟩ := hI.1 x hx5
      exact ⟨k, e1, e2⟩
/-- what the second way says: the end against the bound -/
def vErr (w : wS) : Int := if w 1 15 = 1 then (if qVal w 0 (tEn w (qS w D0 (qRw w) (qTot w).toNat)) < vBound w then 1 else 0) else 0
theorem Q_errors : CaseQ P_X10_errors P_X11_errors := by
  refine Q_of (fun w => vErr w) (fun w h len a np G hI => ?_) (fun w G hw hp hm => ?_)
  · have hw := hI.1.1
    have hx := hI.2.1
    have hz := hw.2.2.2.2.2.2.2.1
    have e15 : G 1 15 = w 1 15 := hx.at 15 (by simp [aok])
    unfold P_X10_errors
    rw [e15]
    refine Ok.cd (ieq_id (by omega) (by omega) (by omega) (by omega)) (fun g => ?_) (fun g => ?_)
    · refine Ok.so ⟨KQ.rf G, ?_⟩
      unfold vErr
      rw [if_neg (by omega)]
    · have h1 : w 1 15 = 1 := by omega
      obtain ⟨hF, hr, hO, hT⟩ := hI.plan h1
      have hb := end_bd hw hF
      have hb2 := vB2_bd hw (k := 4)
      have hb3 : vB2 w 4 = vBound w := rfl
      have hv : vErr w = if qVal w 0 (tEn w (qS w D0 (qRw w) (qTot w).toNat)) < vBound w then 1 else 0 := by
        unfold vErr
        rw [if_pos h1]
      refine Ok.eq (S_aimed hw hx hF.1 DB0 hT (a := 0) (by omega)) ?_
      refine Ok.eq (S_leastHours hw hx) ?_
      refine Ok.jn1 (fun y => y = vErr w) (fun y hy => ?_) (fun k6 hk6 => ?_)
      · subst hy
        refine Ok.bind (S_wrongHours hw hx hF hT) (fun z hz => Ok.so ⟨KQ.of (fun b hb => hz.2 b (by omega)), ?_⟩)
        dsimp only
        rw [hz.1, Int.zero_add]
      · refine Ok.cd (ilt_id (by omega) (by omega) (by omega) (by omega)) (fun g => ?_) (fun g => ?_)
        · exact hk6 _ (by rw [hv, if_pos g])
        · exact hk6 _ (by rw [hv, if_neg g])
  · unfold P_X11_errors
    refine Ok.pu ?_
    have hm1 : MA w ((up2 G 56 3 0) 57) := by
      rw [up2_ne (by omega)]
      exact hm
    refine Ok.bind (M_isPlanned hw hp hm1) (fun z2 hz2 => ?_)
    have hk2 : KQ G z2.2 := (KQ.up3 G 0).tr hz2.1.kq
    rw [hz2.2.1]
    refine Ok.it (fun g => ?_) (fun g => ?_)
    · have h1 := of_decide_eq_true g
      have hF := (hp h1).1
      have hm2 : MD w (z2.2 57) := by
        rw [hz2.1 57 (by omega)]
        exact hm1.1
      have hT := hz2.2.2 h1
      obtain ⟨E1, E2⟩ := MK_E hw hm2 hF hT
      have hb := end_bd hw hF
      have hb2 := vB2_bd hw (k := 4)
      have hb3 : vB2 w 4 = vBound w := rfl
      have hv : vErr w = if qVal w 0 (tEn w (qS w D0 (qRw w) (qTot w).toNat)) < vBound w then 1 else 0 := by
        unfold vErr
        rw [if_pos h1]
      have hW : WP w (qRw w) (qTot w).toNat z2.2 := WP_of hF hT hm2 (by
        rw [hz2.1 57 (by omega)]
        exact hm1.plan h1)
      refine Ok.eq (M_planEnd hw hm2 E1 E2) ?_
      refine Ok.eq (M_bound hw hm2) ?_
      dsimp only
      have hW4 : WP w (qRw w) (qTot w).toNat (up2 z2.2 56 3 0) := hW.fr (up2_ne (by omega)) (up2_ne (by omega))
      refine Ok.jn1 (fun y => y = vErr w) (fun y hy => ?_) (fun k15 hk15 => ?_)
      · subst hy
        generalize qVal w 0 (tEn w (qS w D0 (qRw w) (qTot w).toNat)) = e at hb hv ⊢
        obtain ⟨N, rfl⟩ := Int.eq_ofNat_of_zero_le hb.1
        refine Ok.forA (fun _ v => v = vErr w) N LF (LF_lt (by omega)) rfl (fun x hxN again v hv hk => ?_) (fun again v hv => ?_)
        · subst hv
          refine Ok.condT (ilt_nat (by omega) (by omega)) hxN ?_
          refine Ok.eq (M_isWrong (by unfold I32; omega) hw hF hW4) ?_
          refine Ok.jn1 (fun y => y = 0) (fun y hy => ?_) (fun k14 hk14 => ?_)
          · subst hy
            exact hk _ (Int.add_zero _)
          · exact Ok.iteF rfl (hk14 _ rfl)
        · subst hv
          refine Ok.condF (ilt_nat (by omega) (by omega)) (by omega) ?_
          exact Ok.so ⟨hk2.tr (KQ.up3 _ 0), rfl⟩
      · refine Ok.cd (ilt_id (by omega) (by omega) (by omega) (by omega)) (fun g => ?_) (fun g => ?_)
        · exact hk15 _ (by rw [hv, if_pos g])
        · exact hk15 _ (by rw [hv, if_neg g])
    · have h1 := of_decide_eq_false g
      refine Ok.so ⟨hk2, ?_⟩
      unfold vErr
      rw [if_neg h1]
