/-! ===== worked ===== -/
def wkJ (w : wS) (σ : qT) (p : Int) (j n : Nat) : Int := sm (fun s => min (max (p - tBg σ (5 * j + s)) 0) (qHr w (5 * j + s))) n
def vWk (w : wS) (p q : Int) (k : Nat) : Int := it (fun j v => if q = 0 ∨ (q = 1 ∧ tEn w (qS w D0 (qRw w) (qTot w).toNat) j ≤ p) ∨ (q = 2 ∧ p < tEn w (qS w D0 (qRw w) (qTot w).toNat) j) then v + wkJ w (qS w D0 (qRw w) (qTot w).toNat) p j (qSt w j) else v) k 0
theorem vWk_succ {w : wS} {p q : Int} {k : Nat} : vWk w p q (k + 1) = if q = 0 ∨ (q = 1 ∧ tEn w (qS w D0 (qRw w) (qTot w).toNat) k ≤ p) ∨ (q = 2 ∧ p < tEn w (qS w D0 (qRw w) (qTot w).toNat) k) then vWk w p q k + wkJ w (qS w D0 (qRw w) (qTot w).toNat) p k (qSt w k) else vWk w p q k := rfl
theorem S_hoursDone {w : wS} {G : mG} {r : Nat → Nat} {n j : Nat} {p : Int} (hp : 0 ≤ p ∧ p ≤ 5000) (hw : Wok w) (hx : XS w G) (hF : qF w r n) (hT : TT 17 w D0 r n G) (hj : j < qN w) : P_X8_hoursDone 17 (j : Int) p G = some (wkJ w (qS w D0 r n) p j (qSt w j)) := by
  have hn := hw.n
  refine Ok.get ?_
  unfold P_X8_hoursDone
  have h5 := (hw.st hj).2
  refine Ok.seq2 (fun s => wkJ w (qS w D0 r n) p j s) (fun s => (s : Int)) (qSt w j) LF (LF_lt (by omega)) (fun s hs again hag => ?_) (fun again => ?_)
  · refine Ok.ld j rfl (by omega) (by omega) ?_
    rw [hT.dn (by omega), hF.2 j hj]
    refine Ok.condT (ilt_nat (by omega) (by omega)) hs ?_
    have hs' : s < rD r n j := by
      rw [hF.2 j hj]
      exact hs
    obtain ⟨q1, q2, q3, q4, q5, q6, q7⟩ := qS_js hw DB0 hF.1 hs'
    refine Ok.ld (5 * j + s) (by omega) (by omega) (by omega) ?_
    rw [hT.bg (by omega) hs']
    refine Ok.ld (5 * j + s) (by omega) (by omega) (by omega) ?_
    rw [hx.hr hw (by omega), iMax_id (by omega) (by omega) (by omega) (by omega), iMin_id (by omega) (by omega) (by omega) (by omega)]
    exact hag
  · refine Ok.ld j rfl (by omega) (by omega) ?_
    rw [hT.dn (by omega), hF.2 j hj]
    refine Ok.condF (ilt_nat (by omega) (by omega)) (by omega) ?_
    exact Ok.so rfl
theorem C_worked {p1 p2 : Int} (i1 : I32 p1) (i2 : I32 p2) : CaseX (P_X10_worked p1 p2) (fun E => if E = 1 then 1 else if E = 2 then 2 else 0) (P_X11_worked p1 p2) := by
  refine CaseY_of (fun _ => (0 ≤ p1 ∧ p1 ≤ 5000) ∧ 0 ≤ p2 ∧ p2 ≤ 2) (fun w => w 1 15 = 1) (fun _ => True) (fun w => vWk w p1 p2 (qN w)) (fun w h len a np G hI => ?_) (fun w h len a np G n k hI => ?_)
  · have hw := hI.1.1
    have hm := hI.2.2.2.2.1
    have hn := hw.n
    unfold P_X11_worked
    rw [M_in i1 (i32_k (by omega)) (i32_k (by omega))]
    refine Ok.eq rfl ?_
    refine Ok.jn1 (fun y => y = b2i (decide ((0 ≤ p1 ∧ p1 ≤ 5000) ∧ 0 ≤ p2 ∧ p2 ≤ 2))) (fun y hy => ?_) (fun k31 hk31 => ?_)
    · refine Ok.bind (M_isPlanned hw hI.1.2.1 hm) (fun z5 hz5 => ?_)
      rw [hz5.2.1]
      refine QM.fits hy rfl T_T (fun _ => rfl) (KF.fr hz5.1) (fun h1 h2 _ => ?_)
      refine Ok.iteT rfl ?_
      have hT := hz5.2.2 h2
      have hF := (hI.plan h2).1
      have hm5 : MD w (z5.2 57) := by
        rw [hz5.1 57 (by omega)]
        exact hm.1
      obtain ⟨E1, E2⟩ := MK_E hw hm5 hF hT
      have hm6 : MD w ((up2 z5.2 56 3 0) 57) := by
        rw [up2_ne (by omega)]
        exact hm5
      have hT6 : ∀ j s, j < qN w → s < qSt w j → (up2 z5.2 56 3 0) 59 (5 * j + s) = tBg (qS w D0 (qRw w) (qTot w).toNat) (5 * j + s) := fun j s hj hs => by
        rw [up2_ne (by omega)]
        exact hT.2.2.2 j s hj (by rw [hF.2 j hj]; exact hs)
      have hE6 : ∀ j, j < qN w → (up2 z5.2 56 3 0) 61 j = tEn w (qS w D0 (qRw w) (qTot w).toNat) j := fun j hj => by
        rw [up2_ne (by omega)]
        exact E1 j hj
      dsimp only
      generalize up2 z5.2 56 3 0 = G6 at hm6 hT6 hE6 ⊢
      refine Ok.forA (fun k v => v = vWk w p1 p2 k) (qN w) LF (LF_lt (by omega)) rfl (fun j hj again v hv hk => ?_) (fun again v hv => ?_)
      · subst hv
        refine Ok.ld 0 rfl (by omega) (by omega) ?_
        rw [hm6.1, hn.1]
        refine Ok.condT (ilt_nat (by omega) (by omega)) (by omega) ?_
        refine Ok.ld j rfl (by omega) (by omega) ?_
        rw [hE6 j hj]
        have hE2 := E2 j hj
        have hst := vWk_succ (w := w) (p := p1) (q := p2) (k := j)
        generalize he : tEn w (qS w D0 (qRw w) (qTot w).toNat) j = e at hE2 hst ⊢
        refine Ok.jn1 (fun y => y = if p1 < e then 0 else 1) (fun x14 h14 => ?_) (fun k30 hk30 => ?_)
        · refine Ok.jn1 (fun y => y = vWk w p1 p2 (j + 1)) (fun x16 h16 => ?_) (fun k18 hk18 => ?_)
          · subst h16
            exact hk _ rfl
          · have h5 := (hw.st hj).2
            refine Ok.jnP (¬ (p2 = 1 ∧ p1 < e)) (fun hc1 => ?_) (fun k29 hk29 => ?_)
            · refine Ok.jnP (p2 = 0 ∨ (p2 = 1 ∧ e ≤ p1) ∨ (p2 = 2 ∧ p1 < e)) (fun hc => ?_) (fun k28 hk28 => ?_)
              · rw [if_pos hc] at hst
                refine Ok.forA (fun s v => v = vWk w p1 p2 j + wkJ w (qS w D0 (qRw w) (qTot w).toNat) p1 j s) (qSt w j) LF (LF_lt (by omega)) (Int.add_zero _).symm (fun s hs again2 v hv hk2 => ?_) (fun again2 v hv => ?_)
                · subst hv
                  refine Ok.eq (M_of hw hm6 hj (k := 4) rfl (by omega)) ?_
                  rw [hm6.st hw hj]
                  refine Ok.condT (ilt_nat (by omega) (by omega)) hs ?_
                  have hs' : s < rD (qRw w) (qTot w).toNat j := by
                    rw [hF.2 j hj]
                    exact hs
                  obtain ⟨q1, q2, q3, q4, q5, q6, q7⟩ := qS_js hw DB0 hF.1 hs'
                  refine Ok.eq (M_stepEnd (r := qRw w) (n := (qTot w).toNat) hw hm6 hj hs q3 (hT6 j s hj hs)) ?_
                  refine Ok.ld (5 * j + s) (by omega) (by omega) (by omega) ?_
                  rw [hT6 j s hj hs, iMin_id (by omega) (by omega) (by omega) (by omega), iMax_id (by omega) (by omega) (by omega) (by omega)]
                  refine hk2 _ ?_
                  show _ = vWk w p1 p2 j + (wkJ w (qS w D0 (qRw w) (qTot w).toNat) p1 j s + min (max (p1 - tBg (qS w D0 (qRw w) (qTot w).toNat) (5 * j + s)) 0) (qHr w (5 * j + s)))
                  omega
                · subst hv
                  refine Ok.eq (M_of hw hm6 hj (k := 4) rfl (by omega)) ?_
                  rw [hm6.st hw hj]
                  refine Ok.condF (ilt_nat (by omega) (by omega)) (by omega) ?_
                  exact hk18 _ hst.symm
              · refine Ok.cd (ieq_id i2.1 i2.2 (by omega) (by omega)) (fun g1 => ?_) (fun g1 => ?_)
                · rw [h14]
                  by_cases g2 : p1 < e
                  · rw [if_pos g2]
                    exact Ok.iteT rfl (hk28 (by omega))
                  · rw [if_neg g2]
                    exact Ok.iteF rfl (hk18 _ (by rw [hst, if_neg (by omega)]))
                · exact hk28 (by omega)
            · refine Ok.cd (ieq_id i2.1 i2.2 (by omega) (by omega)) (fun g1 => ?_) (fun g1 => ?_)
              · rw [h14]
                by_cases g2 : p1 < e
                · rw [if_pos g2]
                  exact Ok.iteT rfl (hk18 _ (by rw [hst, if_neg (by omega)]))
                · rw [if_neg g2]
                  exact Ok.iteF rfl (hk29 (by omega))
              · exact hk29 (by omega)
        · refine Ok.cd (ilt_id i1.1 i1.2 (by omega) (by omega)) (fun g => ?_) (fun g => ?_)
          · exact hk30 _ (by rw [if_pos g])
          · exact hk30 _ (by rw [if_neg g])
      · subst hv
        refine Ok.ld 0 rfl (by omega) (by omega) ?_
        rw [hm6.1, hn.1]
        refine Ok.condF (ilt_nat (by omega) (by omega)) (by omega) ?_
        exact Ok.so ⟨rfl, KF.rf _, rfl⟩
    · refine Ok.lk ?_
      refine Ok.it (fun h1 => ?_) (fun h1 => ?_)
      · have h1 := of_decide_eq_true h1
        rw [M_in i2 (i32_k (by omega)) (i32_k (by omega))]
        refine Ok.eq rfl ?_
        refine Ok.it (fun h2 => ?_) (fun h2 => ?_)
        · have h2 := of_decide_eq_true h2
          exact hk31 _ (by rw [decide_eq_true ⟨h1, h2⟩]; rfl)
        · have h2 := of_decide_eq_false h2
          exact hk31 _ (by rw [decide_eq_false (fun g => h2 g.2)]; rfl)
      · have h1 := of_decide_eq_false h1
        exact hk31 _ (by rw [decide_eq_false (fun g => h1 g.1)]; rfl)
  · have hw := hI.1.1
    have hx := hI.2.1
    have hn := hw.n
    unfold P_X10_worked
    refine Ok.need (needRange_eq i1 (i32_k (by omega)) (i32_k (by omega))) (fun h1 => ?_) (fun h1 => QC.e1 1 (by omega) rfl (fun g => h1 g.1))
    refine Ok.need (needRange_eq i2 (i32_k (by omega)) (i32_k (by omega))) (fun h2 => ?_) (fun h2 => QC.e1 1 (by omega) rfl (fun g => h2 g.2))
    refine Ok.need (needPlan_eq hw hx) (fun h3 => ?_) (fun h3 => QC.e2 2 (by omega) rfl ⟨h1, h2⟩ h3)
    obtain ⟨hF, hr, hO, hT⟩ := hI.plan h3
    refine Ok.forA (fun k v => v = vWk w p1 p2 k) (qN w) LF (LF_lt (by omega)) rfl (fun j hj again v hv hk => ?_) (fun again v hv => ?_)
    · subst hv
      dsimp only
      rw [hx.n hw]
      refine Ok.condT (ilt_nat (by omega) (by omega)) (by omega) ?_
      refine Ok.eq (S_leastEndOf hw hx hF.1 DB0 hT hj) ?_
      have hE2 := tEn_bd hw hx hF.1 DB0 hT hj
      have hst := vWk_succ (w := w) (p := p1) (q := p2) (k := j)
      generalize he : tEn w (qS w D0 (qRw w) (qTot w).toNat) j = e at hE2 hst ⊢
      refine Ok.jn1 (fun y => y = if p1 < e then 0 else 1) (fun x14 h14 => ?_) (fun k25 hk25 => ?_)
      · refine Ok.jn1 (fun y => y = vWk w p1 p2 (j + 1)) (fun x16 h16 => ?_) (fun k18 hk18 => ?_)
        · subst h16
          exact hk _ rfl
        · refine Ok.jnP (p2 = 0 ∨ (p2 = 1 ∧ e ≤ p1) ∨ (p2 = 2 ∧ p1 < e)) (fun hc => ?_) (fun k21 hk21 => ?_)
          · rw [if_pos hc] at hst
            refine Ok.eq (S_hoursDone h1 hw hx hF hT hj) ?_
            exact hk18 _ hst.symm
          · refine Ok.cd (ieq_id i2.1 i2.2 (by omega) (by omega)) (fun g0 => ?_) (fun g0 => ?_)
            · exact hk21 (Or.inl g0)
            · refine Ok.jn1 (fun y => y = if p2 = 1 then 1 else 0) (fun x22 h22 => ?_) (fun k24 hk24 => ?_)
              · rw [h14, h22]
                by_cases g1 : p2 = 1
                · rw [if_pos g1]
                  by_cases g2 : p1 < e
                  · rw [if_pos g2]
                    exact Ok.iteF rfl (hk18 _ (by rw [hst, if_neg (by omega)]))
                  · rw [if_neg g2]
                    exact Ok.iteT rfl (hk21 (by omega))
                · rw [if_neg g1]
                  by_cases g2 : p1 < e
                  · rw [if_pos g2]
                    exact Ok.iteT rfl (hk21 (by omega))
                  · rw [if_neg g2]
                    exact Ok.iteF rfl (hk18 _ (by rw [hst, if_neg (by omega)]))
              · refine Ok.cd (ieq_id i2.1 i2.2 (by omega) (by omega)) (fun g1 => ?_) (fun g1 => ?_)
                · exact hk24 _ (by rw [if_pos g1])
                · exact hk24 _ (by rw [if_neg g1])
      · refine Ok.cd (ilt_id i1.1 i1.2 (by omega) (by omega)) (fun g => ?_) (fun g => ?_)
        · exact hk25 _ (by rw [if_pos g])
        · exact hk25 _ (by rw [if_neg g])
    · subst hv
      dsimp only
      rw [hx.n hw]
      refine Ok.condF (ilt_nat (by omega) (by omega)) (by omega) ?_
      exact Ok.so (QC.v ⟨h1, h2⟩ h3 trivial)
