/-! ===== doneIn ===== -/
theorem qS_seq {w : wS} {r : Nat → Nat} {n : Nat} {D : Nat → Int} (hw : Wok w) (hv : qV w r n) : ∀ b, b < n → ∀ a, a < b → rM w r a = rM w r b → tBg (qS w D r n) (rX r a) + qHr w (rX r a) ≤ tBg (qS w D r n) (rX r b) := by
  intro b
  induction b using Nat.strongRecOn with
  | ind b ih =>
    intro hb a hab hm
    have h1 := rK_mono hm hab
    obtain ⟨i, q1, q2, q3⟩ := rK_pre (w := w) (r := r) (i := b) (by omega)
    have e := qS_eqB (D := D) hw hv hb
    have e2 := qS_od (D := D) hw hv (i := i) (by omega)
    have hi := hv i (by omega)
    have hb2 := hv b hb
    have h3 := qBw_bd (p := rX r i) (x := rX r b) (wp := tWr (qS w D r n) (rX r i)) hw (by rw [(rX_div hw hv (by omega)).1]; exact hi.1) (by rw [(rX_div hw hv hb).1]; exact hb2.1) (rM_lt hw hv hb)
    have h4 : tBg (qS w D r n) (rX r i) + qHr w (rX r i) ≤ tBg (qS w D r n) (rX r b) := by
      rw [e]
      unfold qHo
      rw [if_neg (by omega), show rK w r b - 1 = rK w r i by omega, ← q2, e2]
      refine Int.le_trans ?_ (qOpen_le _ _ _ _)
      omega
    by_cases hai : a = i
    · rw [hai]
      exact h4
    · have h5 : a < i := by
        by_cases g : a < i
        · exact g
        · have := rK_mono (w := w) (r := r) (a := i) (b := a) (by omega) (by omega)
          omega
      have h6 := ih i q1 (by omega) a h5 (by omega)
      have h7 := rHr hw hv (i := i) (by omega)
      omega
/-- a step that is worked on in an hour, on a machine -/
def Cov (w : wS) (r : Nat → Nat) (n m : Nat) (h : Int) (j s : Nat) : Prop := j < qN w ∧ s < rD r n j ∧ qMc w (5 * j + s) = m ∧ tBg (qS w D0 r n) (5 * j + s) ≤ h ∧ h < tBg (qS w D0 r n) (5 * j + s) + qHr w (5 * j + s)
theorem Cov_uni {w : wS} {r : Nat → Nat} {n m : Nat} {h : Int} (hw : Wok w) (hv : qV w r n) {j s j' s' : Nat} (h1 : Cov w r n m h j s) (h2 : Cov w r n m h j' s') : j = j' := by
  obtain ⟨a1, a2, a3, a4, a5⟩ := h1
  obtain ⟨b1, b2, b3, b4, b5⟩ := h2
  obtain ⟨i, i1, i2, i3, i4⟩ := rX_of a2
  obtain ⟨i', k1, k2, k3, k4⟩ := rX_of b2
  rw [← i4] at a3 a4 a5
  rw [← k4] at b3 b4 b5
  have hm : rM w r i = rM w r i' := a3.trans b3.symm
  have : i < i' ∨ i = i' ∨ i' < i := by omega
  rcases this with g | g | g
  · have := qS_seq (D := D0) hw hv i' k1 i g hm
    omega
  · subst g
    exact i2.symm.trans k2
  · have := qS_seq (D := D0) hw hv i i1 i' g hm.symm
    omega
/-- who is worked on: looked for among the first jobs -/
def CovR (w : wS) (r : Nat → Nat) (n m : Nat) (h : Int) (v : Int) : Prop := (v = -1 ∧ ∀ j s, ¬ Cov w r n m h j s) ∨ ∃ j s : Nat, v = (j : Int) ∧ Cov w r n m h j s
theorem CovR_uni {w : wS} {r : Nat → Nat} {n m : Nat} {h v v' : Int} (hw : Wok w) (hv : qV w r n) (h1 : CovR w r n m h v) (h2 : CovR w r n m h v') : v = v' := by
  rcases h1 with ⟨e1, a1⟩ | ⟨j, s, e1, a1⟩
  · rcases h2 with ⟨e2, a2⟩ | ⟨j', s', e2, a2⟩
    · omega
    · exact absurd a2 (a1 j' s')
  · rcases h2 with ⟨e2, a2⟩ | ⟨j', s', e2, a2⟩
    · exact absurd a1 (a2 j s)
    · rw [e1, e2, Cov_uni hw hv a1 a2]
noncomputable def vDone (w : wS) (m : Nat) (h : Int) : Int := Classical.epsilon (CovR w (qRw w) (qTot w).toNat m h)
theorem vDone_eq {w : wS} {m : Nat} {h v : Int} (hw : Wok w) (hv : qV w (qRw w) (qTot w).toNat) (h1 : CovR w (qRw w) (qTot w).toNat m h v) : v = vDone w m h := CovR_uni hw hv h1 (Classical.epsilon_spec (p := CovR w (qRw w) (qTot w).toNat m h) ⟨v, h1⟩)
theorem M_stepEnd {w : wS} {r : Nat → Nat} {n : Nat} {G : mG} {j s : Nat} (hw : Wok w) (hm : MD w (G 57)) (hj : j < qN w) (hs : s < qSt w j) (h5 : s < 5) (hB : G 59 (5 * j + s) = tBg (qS w D0 r n) (5 * j + s)) : P_X11_stepEnd (j : Int) (s : Int) G = some (tBg (qS w D0 r n) (5 * j + s) + qHr w (5 * j + s)) := by
  have hn := hw.n
  refine Ok.get ?_
  unfold P_X11_stepEnd
  refine Ok.ld (5 * j + s) (by omega) (by omega) (by omega) ?_
  rw [hB]
  refine Ok.eq (M_hoursOf hw hm hj hs) ?_
  exact Ok.so rfl
theorem M_isDone {w : wS} {r : Nat → Nat} {n : Nat} {G : mG} {j s : Nat} {h : Int} (ih : I32 h) (hw : Wok w) (hv : qV w r n) (hm : MD w (G 57)) (hs : s < rD r n j) (hB : G 59 (5 * j + s) = tBg (qS w D0 r n) (5 * j + s)) : P_X11_isDone (j : Int) (s : Int) h G = some (decide (tBg (qS w D0 r n) (5 * j + s) ≤ h ∧ h < tBg (qS w D0 r n) (5 * j + s) + qHr w (5 * j + s))) := by
  have hn := hw.n
  obtain ⟨q1, q2, q3, q4, q5, q6, q7⟩ := qS_js hw DB0 hv hs
  refine Ok.get ?_
  unfold P_X11_isDone
  refine Ok.ld (5 * j + s) (by omega) (by omega) (by omega) ?_
  rw [hB]
  refine Ok.lk ?_
  refine Ok.cd (ilt_id ih.1 ih.2 (by omega) (by omega)) (fun g1 => ?_) (fun g1 => ?_)
  · exact Ok.so (decide_eq_false (fun g => by omega)).symm
  · refine Ok.eq (M_stepEnd (r := r) (n := n) hw hm q1 q2 q3 hB) ?_
    refine Ok.cd (ilt_id ih.1 ih.2 (by omega) (by omega)) (fun g2 => ?_) (fun g2 => ?_)
    · exact Ok.so (decide_eq_true ⟨by omega, g2⟩).symm
    · exact Ok.so (decide_eq_false (fun g => g2 g.2)).symm
theorem C_doneIn {p1 p2 : Int} (i1 : I32 p1) (i2 : I32 p2) : CaseX (P_X10_doneIn p1 p2) (fun E => E + 1) (P_X11_doneIn p1 p2) := by
  refine CaseY_of (fun _ => 0 ≤ p1 ∧ p1 < 4) (fun _ => 0 ≤ p2 ∧ p2 ≤ 5000) (fun w => w 1 15 = 1) (fun w => vDone w p1.toNat p2) (fun w h len a np G hI => ?_) (fun w h len a np G n k hI => ?_)
  · have hw := hI.1.1
    have hm := hI.2.2.2.2.1
    have hn := hw.n
    unfold P_X11_doneIn
    rw [M_in i1 (i32_k (by omega)) (i32_k (by omega))]
    refine Ok.eq rfl ?_
    rw [M_in i2 (i32_k (by omega)) (i32_k (by omega))]
    refine Ok.eq rfl ?_
    refine Ok.bind (M_isPlanned hw hI.1.2.1 hm) (fun z5 hz5 => ?_)
    rw [hz5.2.1]
    refine QM.fits (c1 := 0 ≤ p1 ∧ p1 < 4) (by rw [show decide (0 ≤ p1 ∧ p1 ≤ 3) = decide (0 ≤ p1 ∧ p1 < 4) from decide_eq_decide.mpr (by omega)]) rfl rfl (fun _ => rfl) (KF.fr hz5.1) (fun h1 h2 h3 => ?_)
    refine Ok.iteT rfl ?_
    have hT := hz5.2.2 h3
    have hF := (hI.plan h3).1
    obtain ⟨m, rfl⟩ := Int.eq_ofNat_of_zero_le h1.1
    rw [Int.toNat_natCast]
    have hm6 : MD w ((up2 z5.2 56 3 0) 57) := by
      rw [up2_ne (by omega), hz5.1 57 (by omega)]
      exact hm.1
    have hT6 : ∀ j s, j < qN w → s < qSt w j → (up2 z5.2 56 3 0) 59 (5 * j + s) = tBg (qS w D0 (qRw w) (qTot w).toNat) (5 * j + s) := fun j s hj hs => by
      rw [up2_ne (by omega)]
      exact hT.2.2.2 j s hj (by rw [hF.2 j hj]; exact hs)
    dsimp only
    generalize up2 z5.2 56 3 0 = G6 at hm6 hT6 ⊢
    have hrd : ∀ j s, j < qN w → (s < rD (qRw w) (qTot w).toNat j ↔ s < qSt w j) := fun j s hj => by rw [hF.2 j hj]
    refine Ok.forA (fun J v => (v = -1 ∧ ∀ j s, j < J → ¬ Cov w (qRw w) (qTot w).toNat m p2 j s) ∨ ∃ j s : Nat, v = (j : Int) ∧ Cov w (qRw w) (qTot w).toNat m p2 j s) (qN w) LF (LF_lt (by omega)) (Or.inl ⟨rfl, fun j s hj => absurd hj (Nat.not_lt_zero _)⟩) (fun J hJ again v hv hk => ?_) (fun again v hv => ?_)
    · refine Ok.ld 0 rfl (by omega) (by omega) ?_
      rw [hm6.1, hn.1]
      refine Ok.condT (ilt_nat (by omega) (by omega)) (by omega) ?_
      have h5 := (hw.st hJ).2
      refine Ok.lk ?_
      refine Ok.forA (fun S v => (v = -1 ∧ (∀ j s, j < J → ¬ Cov w (qRw w) (qTot w).toNat m p2 j s) ∧ ∀ s, s < S → ¬ Cov w (qRw w) (qTot w).toNat m p2 J s) ∨ ∃ j s : Nat, v = (j : Int) ∧ Cov w (qRw w) (qTot w).toNat m p2 j s) (qSt w J) LF (LF_lt (by omega)) ?_ (fun S hS again2 v2 hv2 hk2 => ?_) (fun again2 v2 hv2 => ?_)
      · rcases hv with ⟨e, a1⟩ | a1
        · exact Or.inl ⟨e, a1, fun s hs => absurd hs (Nat.not_lt_zero _)⟩
        · exact Or.inr a1
      · refine Ok.eq (M_of hw hm6 hJ (k := 4) rfl (by omega)) ?_
        rw [(hm6.2.2.2.2.1 J hJ).2.2.2.2, (hw.st hJ).1]
        refine Ok.condT (ilt_nat (by omega) (by omega)) (by omega) ?_
        refine Ok.eq (M_machineOf hw hm6 hJ hS) ?_
        have hB := hT6 J S hJ hS
        have hmc := (hw.mc hJ hS).2
        have hnc : ¬ Cov w (qRw w) (qTot w).toNat m p2 J S → Ok (again2 v2 ((S + 1 : Nat) : Int)) _ := fun g => hk2 v2 (by
          rcases hv2 with ⟨e, a1, a2⟩ | a1
          · refine Or.inl ⟨e, a1, fun s hs => ?_⟩
            by_cases e2 : s = S
            · rw [e2]
              exact g
            · exact a2 s (by omega)
          · exact Or.inr a1)
        refine Ok.lk ?_
        refine Ok.cd (ieq_nat (by omega) (by omega)) (fun e1 => ?_) (fun e1 => ?_)
        · have hS' : S < rD (qRw w) (qTot w).toNat J := (hrd J S hJ).mpr hS
          refine Ok.eq (M_isDone i2 hw hF.1 hm6 hS' hB) ?_
          refine Ok.it (fun g => ?_) (fun g => ?_)
          · have g := of_decide_eq_true g
            exact hk2 _ (Or.inr ⟨J, S, rfl, hJ, hS', by omega, g.1, g.2⟩)
          · have g := of_decide_eq_false g
            exact hnc (fun c => g ⟨c.2.2.2.1, c.2.2.2.2⟩)
        · exact hnc (fun g => e1 g.2.2.1)
      · refine Ok.eq (M_of hw hm6 hJ (k := 4) rfl (by omega)) ?_
        rw [(hm6.2.2.2.2.1 J hJ).2.2.2.2, (hw.st hJ).1]
        refine Ok.condF (ilt_nat (by omega) (by omega)) (by omega) ?_
        refine hk v2 ?_
        rcases hv2 with ⟨e, a1, a2⟩ | a1
        · refine Or.inl ⟨e, fun j s hj g => ?_⟩
          by_cases e2 : j = J
          · subst e2
            exact a2 s (by rw [← hrd j s g.1]; exact g.2.1) g
          · exact a1 j s (by omega) g
        · exact Or.inr a1
    · refine Ok.ld 0 rfl (by omega) (by omega) ?_
      rw [hm6.1, hn.1]
      refine Ok.condF (ilt_nat (by omega) (by omega)) (by omega) ?_
      refine Ok.so ⟨?_, KF.rf _, rfl⟩
      rw [vDone_eq hw hF.1 (m := m) (h := p2) (v := v) ?_]
      rcases hv with ⟨e, a1⟩ | a1
      · exact Or.inl ⟨e, fun j s g => a1 j s g.1 g⟩
      · exact Or.inr a1
  · have hw := hI.1.1
    have hx := hI.2.1
    have hn := hw.n
    unfold P_X10_doneIn
    refine Ok.need (needMachine_eq i1) (fun h1 => ?_) (fun h1 => QC.e1 0 (by omega) rfl h1)
    refine Ok.need (needRange_eq i2 (i32_k (by omega)) (i32_k (by omega))) (fun h2 => ?_) (fun h2 => QC.e2 1 (by omega) rfl h1 h2)
    refine Ok.need (needPlan_eq hw hx) (fun h3 => ?_) (fun h3 => QC.e3 2 (by omega) rfl h1 h2 h3)
    obtain ⟨hF, hr, hO, hT⟩ := hI.plan h3
    obtain ⟨m, rfl⟩ := Int.eq_ofNat_of_zero_le h1.1
    have hc := rC_30 hw hF.1 m
    refine Ok.lp1 (fun M x => ∃ k : Nat, x = (k : Int) ∧ k + M = rC w (qRw w) (qTot w).toNat m ∧ ∀ k', k' < k → ∀ j s, tOd (qS w D0 (qRw w) (qTot w).toNat) m k' = 5 * j + s → s < 5 → ¬ Cov w (qRw w) (qTot w).toNat m p2 j s) (fun M again x hx hk => ?_) LF (rC w (qRw w) (qTot w).toNat m) 0 (LF_lt (by omega)) ⟨0, rfl, by omega, fun k' hk' => absurd hk' (Nat.not_lt_zero _)⟩
    obtain ⟨k, rfl, hkM, hno⟩ := hx
    refine Ok.ld m rfl (by omega) (by omega) ?_
    dsimp only
    rw [hT.cm (by omega)]
    refine Ok.cd (ilt_nat (by omega) (by omega)) (fun hlt => ?_) (fun hlt => ?_)
    · have hlt : k < rC w (qRw w) (qTot w).toNat m := by omega
      obtain ⟨j, t, e, q1, q2, q3, q4⟩ := qS_mk (D := D0) hw hF.1 hlt
      refine Ok.ld (30 * m + k) (by omega) (by omega) (by omega) ?_
      rw [hT.od (by omega) hlt, e]
      refine Ok.ld (5 * j + t) (by omega) (by omega) (by omega) ?_
      rw [hT.bg (by omega) q2]
      have hb := qS_js hw DB0 hF.1 q2
      have hnext : ¬ Cov w (qRw w) (qTot w).toNat m p2 j t → Ok (again ((k : Int) + 1)) _ := fun g => hk (M - 1) _ (by omega) ⟨k + 1, rfl, by omega, fun k' hk' j' s' e' hs' => by
        by_cases e2 : k' = k
        · subst e2
          have : j' = j ∧ s' = t := by omega
          rw [this.1, this.2]
          exact g
        · exact hno k' (by omega) j' s' e' hs'⟩
      refine Ok.lk ?_
      refine Ok.cd (ilt_id i2.1 i2.2 (by omega) (by omega)) (fun g1 => ?_) (fun g1 => ?_)
      · exact hnext (fun g => by have := g.2.2.2.1; omega)
      · refine Ok.eq (S_endOfStep hw hx hF.1 hT (by omega) q2 q3) ?_
        refine Ok.cd (ilt_id i2.1 i2.2 (by omega) (by omega)) (fun g2 => ?_) (fun g2 => ?_)
        · rw [iDiv_id (by omega) (by omega) (by omega) (by omega), show ((5 * j + t : Nat) : Int) / 5 = (j : Int) by omega]
          rw [vDone_eq (w := w) (m := m) (h := p2) (v := (j : Int)) hw hF.1 (Or.inr ⟨j, t, rfl, q1, q2, q4, by omega, g2⟩)]
          exact Ok.so (QC.v h1 h2 h3)
        · exact hnext (fun g => g2 g.2.2.2.2)
    · rw [vDone_eq (w := w) (m := m) (h := p2) (v := -1) hw hF.1 (Or.inl ⟨rfl, fun j s g => ?_⟩)]
      · exact Ok.so (QC.v h1 h2 h3)
      · obtain ⟨g1, g2, g3, g4⟩ := g
        obtain ⟨i, c1, c2, c3, c4⟩ := rX_of g2
        have hM : rM w (qRw w) i = m := by
          unfold rM
          rw [c4]
          exact g3
        have h1 := rK_lt (w := w) (r := qRw w) c1
        rw [hM] at h1
        have h2 := qS_od (D := D0) hw hF.1 c1
        rw [hM, c4] at h2
        exact hno _ (by omega) j s h2 (qS_js hw DB0 hF.1 g2).2.2.1 ⟨g1, g2, g3, g4⟩
