/-! ===== replan: the model ===== -/
def RJ (w : wS) (r' : Nat → Nat) (N n1 : Nat) (G0 : mG) (dn cm : Nat → Nat) (G : mG) : Prop :=
  PF w r' n1 dn cm ∧ MT w dn cm (tOd (qS w D0 r' N)) (tBg (qS w D0 r' N)) (tWr (qS w D0 r' N)) G ∧ (∀ m, m < 4 → G 65 m = (cm m : Int)) ∧ (∀ m, m < 4 → G 66 (31 * m) = (cm m : Int) ∧ ∀ k, k < cm m → G 66 (31 * m + 1 + k) = (cd (tOd (qS w D0 r' N) m k) : Int)) ∧ Fr66 G0 G
theorem RJ_step {w : wS} {r' : Nat → Nat} {N n1 : Nat} {G0 G : mG} {dn cm : Nat → Nat} (hw : Wok w) (hv : qV w r' N) (hn1 : n1 ≤ N) (hm : MD w (G 57)) (hJ : RJ w r' N n1 G0 dn cm G) {i : Nat} (hi : i < n1) (hd : dn (r' i) = rS r' i) (hk : rK w r' i = cm (rM w r' i)) {Q : Int × mG → Prop} {f : mG → Option (Int × mG)} (hf : ∀ G', RJ w r' N n1 G0 (upf dn (r' i) (dn (r' i) + 1)) (upf cm (rM w r' i) (cm (rM w r' i) + 1)) G' → Ok (f G') Q) : Ok ((P_X11_puts (r' i : Int) G).bind fun G41 => (P_X11_beginOf (r' i : Int) G41).bind fun v42 => (P_X11_does (r' i : Int) v42 G41).bind f) Q := by
  obtain ⟨hP, hT, h65, h66, hfr⟩ := hJ
  have hn := hw.n
  have hv1 : qV w r' n1 := hv.le hn1
  have hS := So_of hw hv
  have hS1 : So w r' n1 1000 0 (tOd (qS w D0 r' N)) (tBg (qS w D0 r' N)) (tWr (qS w D0 r' N)) := fun i hi => hS i (by omega)
  have hC := PF.cs hw hv1 hS1 hP
  obtain ⟨hj, hl⟩ := hv1 i hi
  have h5 := rS_lt5 hw hv1 hi
  have hm4 := rM_lt hw hv1 hi
  have hl2 : dn (r' i) < qSt w (r' i) := by omega
  obtain ⟨b1, b2, b3, b4⟩ := So.hour hw hv1 hS1 hi hd hk
  have em : qMc w (5 * r' i + dn (r' i)) = rM w r' i := by
    rw [b1]
    rfl
  have hc30 : cm (rM w r' i) < 30 := by
    have h1 := rK_lt (w := w) (r := r') hi
    have h2 := rC_30 hw hv1 (rM w r' i)
    omega
  have hpu := M_puts hw hm (j := r' i) (d := dn (r' i)) (c := cm (rM w r' i)) hj hl2 (hT.1 _ (by omega)) hc30 (by rw [em]; exact (h66 _ hm4).1)
  rw [em] at hpu
  refine Ok.bind hpu (fun G41 hG41 => ?_)
  have hm41 : MD w (G41 57) := by
    rw [hG41.1 57 (by omega)]
    exact hm
  have hT41 : MT w dn cm (tOd (qS w D0 r' N)) (tBg (qS w D0 r' N)) (tWr (qS w D0 r' N)) G41 := by
    unfold MT at hT ⊢
    rw [hG41.1 60 (by omega), hG41.1 61 (by omega), hG41.1 62 (by omega), hG41.1 63 (by omega), hG41.1 64 (by omega), hG41.1 59 (by omega)]
    exact hT
  obtain ⟨c1, c2, c3⟩ := M_beginOf hw hm41 hC hT41 hj hl2
  refine Ok.eq c1 ?_
  have hB : tBg (qS w D0 r' N) (5 * r' i + dn (r' i)) = qHo w (tBg (qS w D0 r' N)) (tWr (qS w D0 r' N)) (tOd (qS w D0 r' N) (qMc w (5 * r' i + dn (r' i)))) (cm (qMc w (5 * r' i + dn (r' i)))) (5 * r' i + dn (r' i)) 0 := by
    rw [b1, b2, (hS1 i hi).2.1]
    unfold qAd
    rw [if_neg (by unfold rX; omega)]
  have hdo := M_does hw hm41 hC hT41 (j := r' i) hj hl2 hB (by rw [b1]; exact b3.symm) (by rw [b1]; exact b4)
  refine Ok.bind hdo (fun G43 hG43 => hf _ ?_)
  obtain ⟨d1, d2, d3⟩ := hG43
  rw [em] at d1 d3
  refine ⟨PF.ex hw hv1 hP hi hd hk, d1, fun m hm' => ?_, fun m hm' => ?_, ?_⟩
  · rw [d3, up1_if]
    by_cases h7 : m = rM w r' i
    · rw [if_pos h7, h7, upf_eq, hG41.1 65 (by omega), h65 _ hm4]
      rfl
    · rw [if_neg h7, upf_ne h7, hG41.1 65 (by omega)]
      exact h65 m hm'
  · rw [d2 66 (by omega), hG41.2]
    obtain ⟨q1, q2⟩ := h66 m hm'
    have hcm : cm m ≤ 30 := hC.2.2.2.2 m
    by_cases h7 : m = rM w r' i
    · subst h7
      rw [upf_eq]
      refine ⟨up1_eq, fun k' hk' => ?_⟩
      rw [up1_ne (by omega), up1_if]
      by_cases h3 : k' = cm (rM w r' i)
      · rw [h3, if_pos rfl, b1, ← b4]
        rfl
      · rw [if_neg (by omega)]
        exact q2 k' (by omega)
    · rw [upf_ne h7]
      refine ⟨?_, fun k' hk' => ?_⟩
      · rw [up1_ne (by omega), up1_ne (by omega)]
        exact q1
      · rw [up1_ne (by omega), up1_ne (by omega)]
        exact q2 k' hk'
  · exact (hfr.tr (fun a ha => hG41.1 a (by omega))).tr d2.f66
/-- nothing can be kept on a machine now -/
def NoSt (w : wS) (r : Nat → Nat) (N : Nat) (H : Int) (dn cm : Nat → Nat) (m : Nat) : Prop := ∀ i, i < N → rM w r i = m → rK w r i = cm m → dn (r i) = rS r i → ¬ bgP w r N H i = true
theorem M_replan {w : wS} {h : Nat → wS} {len : Nat} {G : mG} {p1 p2 : Int} {r' : Nat → Nat} {f : Nat → Int} (i1 : I32 p1) (i2 : I32 p2) (hp : PI w h len) (hm : MA w (G 57)) (hH : MH h len G) (hr : (0 ≤ p1 ∧ p1 ≤ 7) ∧ (0 ≤ p2 ∧ p2 ≤ 2000) → w 1 15 = 1 → (∀ k, k < ct (bgP w (qRw w) (qTot w).toNat p2) (qTot w).toNat → rBg w (qRw w) (qTot w).toNat p2 k = r' k) ∧ qF w r' (qTot w).toNat ∧ qRu w p1.toNat r' (ct (bgP w (qRw w) (qTot w).toNat p2) (qTot w).toNat) (qTot w).toNat ∧ (∀ i, i < (qTot w).toNat → f i = (r' i : Int))) : Ok (P_X11_replan p1 p2 G) (fun z =>
    (¬ ((0 ≤ p1 ∧ p1 ≤ 7) ∧ (0 ≤ p2 ∧ p2 ≤ 2000)) → z.2 = up2 G 56 3 1) ∧ ((0 ≤ p1 ∧ p1 ≤ 7) ∧ (0 ≤ p2 ∧ p2 ≤ 2000) → ¬ w 1 15 = 1 → z.2 = up2 G 56 3 2) ∧
    ((0 ≤ p1 ∧ p1 ≤ 7) ∧ (0 ≤ p2 ∧ p2 ≤ 2000) → w 1 15 = 1 → z.1 = qEnd w r' ∧ MP' (wP w f) (psh w h) (min (len + 1) 8) G z.2)) := by
  have hw := hp.1
  have hn := hw.n
  unfold P_X11_replan
  rw [M_in i1 (by unfold I32; omega) (by unfold I32; omega)]
  refine Ok.eq rfl ?_
  refine Ok.jn1 (fun y => y = b2i (decide ((0 ≤ p1 ∧ p1 ≤ 7) ∧ (0 ≤ p2 ∧ p2 ≤ 2000)))) (fun y hy => ?_) (fun k44 hk44 => ?_)
  · subst hy
    refine Ok.eq (M_hasPlan hw hm) ?_
    refine Ok.fits rfl rfl b2i_T (fun h1 => ?_) (fun h1 h2 => ?_) (fun h1 h2 h3 => absurd trivial h3) (fun h1 h2 _ => ?_)
    · exact Ok.so ⟨fun _ => rfl, fun g => absurd g h1, fun g => absurd g h1⟩
    · exact Ok.so ⟨fun g => absurd h1 g, fun _ _ => rfl, fun _ g => absurd g h2⟩
    · refine Ok.iteT rfl ?_
      have hF := (hp.2.1 h2).1
      have hv := hF.1
      obtain ⟨hr1, hF', hR, hf⟩ := hr h1 h2
      have hv' := hF'.1
      refine M_keep0 hp hm hH (fun G' g1 g2 g3 => ?_)
      have hm' : MD w (G' 57) := by
        rw [g2 57 (by omega) (by omega)]
        exact hm.1
      have hO' : OT w (qRw w) (qTot w).toNat (tOd (qS w D0 (qRw w) (qTot w).toNat)) (G' 57) 152 := by
        rw [g2 57 (by omega) (by omega)]
        exact hm.plan h2
      refine Ok.bind (M_works hw hm' hF hO') (fun z9 hz9 => ?_)
      obtain ⟨w1, w2, w3, w4⟩ := hz9
      refine Ok.ac 0 0 30 rfl rfl rfl (by omega) (by omega) (by omega) (by omega) ?_
      have h73 : ∀ j s, j < qN w → s < qSt w j → (upG z9.2 73 (cpyF (z9.2 59) (z9.2 73) 0 0 30)) 73 (5 * j + s) = tBg (qS w D0 (qRw w) (qTot w).toNat) (5 * j + s) := fun j s hj hs => by
        have h5 := (hw.st hj).2
        rw [upG_eq]
        unfold cpyF
        rw [if_pos (by omega), show 0 + (5 * j + s - 0) = 5 * j + s by omega]
        exact w2.2.2.2 j s hj (by rw [hF.2 j hj]; exact hs)
      have f10 : ∀ b, ¬ (59 ≤ b ∧ b ≤ 73) → (upG z9.2 73 (cpyF (z9.2 59) (z9.2 73) 0 0 30)) b = G' b := fun b hb => by
        rw [upG_ne (by omega), w3 b (by omega)]
      generalize upG z9.2 73 (cpyF (z9.2 59) (z9.2 73) 0 0 30) = G10 at h73 f10 ⊢
      have hm10 : MD w (G10 57) := by
        rw [f10 57 (by omega)]
        exact hm'
      refine Ok.bind (M_startsPlan hw hm10 (tOd (qS w D0 r' (qTot w).toNat)) (tBg (qS w D0 r' (qTot w).toNat)) (tWr (qS w D0 r' (qTot w).toNat))) (fun G11 hG11 => ?_)
      obtain ⟨t1, t2, t3⟩ := hG11
      refine Ok.bind M_clearsOrder (fun G12 hG12 => ?_)
      have f12 : ∀ b, ¬ (59 ≤ b ∧ b ≤ 72) → G12 b = G10 b := fun b hb => by
        rw [hG12.2 b (by omega), t2 b (by omega)]
      have hm12 : MD w (G12 57) := by
        rw [f12 57 (by omega)]
        exact hm10
      have hO12 : OT w (qRw w) (qTot w).toNat (tOd (qS w D0 (qRw w) (qTot w).toNat)) (G12 57) 152 := by
        rw [f12 57 (by omega), f10 57 (by omega)]
        exact hO'
      have h7312 : ∀ j s, j < qN w → s < qSt w j → G12 73 (5 * j + s) = tBg (qS w D0 (qRw w) (qTot w).toNat) (5 * j + s) := fun j s hj hs => by
        rw [f12 73 (by omega)]
        exact h73 j s hj hs
      have hN30 := qV_30 hw hv
      have hle : ct (bgP w (qRw w) (qTot w).toNat p2) (qTot w).toNat ≤ (qTot w).toNat := ct_le _ _
      have hJ0 : RJ w r' (qTot w).toNat (ct (bgP w (qRw w) (qTot w).toNat p2) (qTot w).toNat) G12 (fun _ => 0) (fun _ => 0) G12 := by
        refine ⟨PF0 hw (hv'.le hle), ?_, fun m hm4 => ?_, fun m hm4 => ⟨hG12.1 m hm4, fun k hk => absurd hk (Nat.not_lt_zero _)⟩, fun _ _ => rfl⟩
        · unfold MT
          rw [hG12.2 60 (by omega), hG12.2 61 (by omega), hG12.2 62 (by omega), hG12.2 63 (by omega), hG12.2 64 (by omega), hG12.2 59 (by omega)]
          exact t1
        · rw [hG12.2 65 (by omega)]
          exact t3 m hm4
      have f12' : ∀ b, ¬ (59 ≤ b ∧ b ≤ 73) → G12 b = G' b := fun b hb => (f12 b (by omega)).trans (f10 b hb)
      rw [w1]
      refine Ok.jn1 (fun G13 => MK w r' (qTot w).toNat (ct (bgP w (qRw w) (qTot w).toNat p2) (qTot w).toNat) G13 ∧ OT w r' (ct (bgP w (qRw w) (qTot w).toNat p2) (qTot w).toNat) (tOd (qS w D0 r' (qTot w).toNat)) (G13 66) 0 ∧ Fr66 G12 G13) (fun G13 hG13 => ?_) (fun k17 hk17 => ?_)
      · obtain ⟨e1, e2, e3⟩ := hG13
        have hm13 : MD w (G13 57) := by
          rw [e3 57 (by omega)]
          exact hm12
        have hgr := M_goesByRule (rule := p1.toNat) hw (by omega) hF' hle hR hm13 e1 e2
        rw [show ((p1.toNat : Nat) : Int) = p1 by omega] at hgr
        refine Ok.bind hgr (fun G15 hG15 => ?_)
        have hm15 : MD w (G15 57) := by
          rw [hG15.2 57 (by omega)]
          exact hm13
        refine Ok.bind (M_takesOrder hw hm15 hF' hG15.1) (fun z8 hz8 => ?_)
        obtain ⟨c1, c2, c3, c4, c5⟩ := hz8
        refine Ok.so ⟨fun g => absurd h1 g, fun _ g => absurd h2 g, fun _ _ => ⟨c1, MP_plan hw hF' hf hm' g1 g2 g3 (fun b hb => ?_) c2 c3 c4 (fun b hb1 hb2 => c5 b hb1 (by omega))⟩⟩
        rw [hG15.2 b (by omega), e3 b (by omega), f12' b hb]
      · generalize hn1 : ct (bgP w (qRw w) (qTot w).toNat p2) (qTot w).toNat = n1 at hr1 hle hJ0 hk17
        have hv1 : qV w r' n1 := hv'.le hle
        refine Ok.lp2 (fun M x G19 => ∃ dn cm, RJ w r' (qTot w).toNat n1 G12 dn cm G19 ∧ ((x = 1 ∧ (M : Int) = (n1 : Int) + 1 - sm (fun j => (dn j : Int)) (qN w)) ∨ (x = 0 ∧ ∀ m, m < 4 → NoSt w (qRw w) (qTot w).toNat p2 dn cm m))) (fun M again x G19 hI hk => ?_) LF (n1 + 1) 1 G12 (LF_lt (by omega)) ⟨_, _, hJ0, Or.inl ⟨rfl, ?_⟩⟩
        · obtain ⟨dn, cm, hJ, hcase⟩ := hI
          rcases hcase with ⟨rfl, hM⟩ | ⟨rfl, hno⟩
          · refine Ok.condF (ieq_id (by omega) (by omega) (by omega) (by omega)) (by omega) ?_
            refine Ok.jn2 (fun y G' => ∃ dn' cm', RJ w r' (qTot w).toNat n1 G12 dn' cm' G' ∧ ((y = 1 ∧ sm (fun j => (dn j : Int)) (qN w) < sm (fun j => (dn' j : Int)) (qN w)) ∨ (y = 0 ∧ ∀ m, m < 4 → NoSt w (qRw w) (qTot w).toNat p2 dn' cm' m))) (fun y G' hy => ?_) (fun k25 hk25 => ?_)
            · obtain ⟨dn', cm', hJ', hc⟩ := hy
              have hsum : sm (fun j => (dn' j : Int)) (qN w) ≤ n1 := by
                rw [← rD_sum (r := r') (n := n1) (N := qN w) (fun i hi => (hv1 i hi).1)]
                exact sm_le (fun j _ => by have := hJ'.1.1 j; omega)
              rcases hc with ⟨rfl, hc⟩ | ⟨rfl, hc⟩
              · exact hk ((n1 : Int) + 1 - sm (fun j => (dn' j : Int)) (qN w)).toNat _ _ (by omega) ⟨dn', cm', hJ', Or.inl ⟨rfl, by omega⟩⟩
              · refine hk 0 _ _ ?_ ⟨dn', cm', hJ', Or.inr ⟨rfl, hc⟩⟩
                have hsum2 : sm (fun j => (dn j : Int)) (qN w) ≤ n1 := by
                  rw [← rD_sum (r := r') (n := n1) (N := qN w) (fun i hi => (hv1 i hi).1)]
                  exact sm_le (fun j _ => by have := hJ.1.1 j; omega)
                omega
            · refine Ok.lp3 (fun M x y G28 => ∃ m : Nat, y = (m : Int) ∧ m + M = 4 ∧ ∃ dn' cm', RJ w r' (qTot w).toNat n1 G12 dn' cm' G28 ∧ ((x = 1 ∧ sm (fun j => (dn j : Int)) (qN w) < sm (fun j => (dn' j : Int)) (qN w)) ∨ (x = 0 ∧ sm (fun j => (dn' j : Int)) (qN w) = sm (fun j => (dn j : Int)) (qN w) ∧ ∀ m', m' < m → NoSt w (qRw w) (qTot w).toNat p2 dn' cm' m'))) (fun M2 again2 x y G28 hI2 hk2 => ?_) LF 4 0 0 G19 (LF_lt (by omega)) ⟨0, rfl, by omega, dn, cm, hJ, Or.inr ⟨rfl, rfl, fun m' hm' => absurd hm' (Nat.not_lt_zero _)⟩⟩
              obtain ⟨m, rfl, hmM, dn', cm', hJ', hc⟩ := hI2
              have hJ'' := hJ'
              obtain ⟨hP, hT, h65, h66, hfr⟩ := hJ'
              have hm28 : MD w (G28 57) := by
                rw [hfr 57 (by omega)]
                exact hm12
              have hO28 : OT w (qRw w) (qTot w).toNat (tOd (qS w D0 (qRw w) (qTot w).toNat)) (G28 57) 152 := by
                rw [hfr 57 (by omega)]
                exact hO12
              refine Ok.cd (ilt_nat (b := 4) (by omega) (by omega)) (fun hm4 => ?_) (fun hm4 => ?_)
              · have hC30 := rC_30 hw hv m
                have hcmr : cm' m ≤ rC w (qRw w) (qTot w).toNat m := by
                  refine Nat.le_trans (hP.2.1 m) ?_
                  rw [← rC_cong (w := w) hr1 m, ← hn1, rBg_C hw hv (Nat.le_refl _)]
                  unfold rC
                  refine ct_up (fun k _ h => ?_)
                  rw [Bool.and_eq_true] at h
                  exact h.2
                refine Ok.ld m rfl (by omega) (by omega) ?_
                rw [h65 m hm4]
                refine Ok.ld (152 + 31 * m) (by omega) (by omega) (by omega) ?_
                rw [(hO28 m hm4).1]
                refine Ok.jn2 (fun y G' => ∃ dn' cm', RJ w r' (qTot w).toNat n1 G12 dn' cm' G' ∧ ((y = 1 ∧ sm (fun j => (dn j : Int)) (qN w) < sm (fun j => (dn' j : Int)) (qN w)) ∨ (y = 0 ∧ sm (fun j => (dn' j : Int)) (qN w) = sm (fun j => (dn j : Int)) (qN w) ∧ ∀ m', m' < m + 1 → NoSt w (qRw w) (qTot w).toNat p2 dn' cm' m'))) (fun y G' hy => ?_) (fun k36 hk36 => ?_)
                · exact hk2 (M2 - 1) _ _ _ (by omega) ⟨m + 1, rfl, by omega, hy⟩
                · have hskip : NoSt w (qRw w) (qTot w).toNat p2 dn' cm' m → Ok (k36 x G28) _ := fun g => hk36 _ _ ⟨dn', cm', hJ'', by
                    rcases hc with hc | ⟨a1, a2, a3⟩
                    · exact Or.inl hc
                    · refine Or.inr ⟨a1, a2, fun m' hm' => ?_⟩
                      by_cases e : m' = m
                      · rw [e]
                        exact g
                      · exact a3 m' (by omega)⟩
                  refine Ok.cd (ieq_nat (by omega) (by omega)) (fun g => ?_) (fun g => ?_)
                  · refine hskip (fun i hi e1 e2 _ _ => ?_)
                    have := rK_lt (w := w) (r := qRw w) hi
                    rw [e1] at this
                    omega
                  · obtain ⟨i, a1, a2, a3⟩ := rK_of (w := w) (r := qRw w) (n := (qTot w).toNat) (m := m) (k := cm' m) (by omega)
                    have hod := qS_od (D := D0) hw hv a1
                    rw [a2, a3] at hod
                    have h5 := rS_lt5 hw hv a1
                    have hri := hv i a1
                    have ex : rX (qRw w) i = 5 * qRw w i + rS (qRw w) i := rfl
                    refine Ok.ld m rfl (by omega) (by omega) ?_
                    rw [h65 m hm4]
                    refine Ok.ld (152 + 31 * m + 1 + cm' m) (by omega) (by omega) (by omega) ?_
                    rw [(hO28 m hm4).2 (cm' m) (by omega), hod, ex, cd_js h5]
                    have e1 : iDiv ((10 * qRw w i + rS (qRw w) i : Nat) : Int) 10 = (qRw w i : Int) := by
                      rw [iDiv_id (by omega) (by omega) (by omega) (by omega)]
                      omega
                    have e2 : iRem ((10 * qRw w i + rS (qRw w) i : Nat) : Int) 10 = (rS (qRw w) i : Int) := by
                      rw [iRem_id (by omega) (by omega) (by omega) (by omega)]
                      omega
                    rw [e1, e2]
                    refine Ok.ld (qRw w i) rfl (by omega) (by omega) ?_
                    rw [hT.1 _ (by omega)]
                    have huni : ∀ i', i' < (qTot w).toNat → rM w (qRw w) i' = m → rK w (qRw w) i' = cm' m → i' = i := fun i' _ b2 b3 => rK_inj (b2.trans a2.symm) (b3.trans a3.symm)
                    have hdj : dn' (qRw w i) ≤ 5 := Nat.le_trans (hP.1 _) (Nat.le_trans (rD_le hv1 hri.1) (hw.st hri.1).2)
                    refine Ok.cd (ieq_nat (by omega) (by omega)) (fun g2 => ?_) (fun g2 => ?_)
                    · have h73' : G28 73 (5 * qRw w i + rS (qRw w) i) = tBg (qS w D0 (qRw w) (qTot w).toNat) (rX (qRw w) i) := by
                        rw [hfr 73 (by omega)]
                        exact h7312 _ _ hri.1 hri.2
                      refine Ok.ld (5 * qRw w i + rS (qRw w) i) (by omega) (by omega) (by omega) ?_
                      rw [h73']
                      have hbd := (qS_bd hw DB0 hv i a1).1
                      have hhr := rHr hw hv a1
                      refine Ok.cd (ilt_id (by omega) (by omega) i2.1 i2.2) (fun g3 => ?_) (fun g3 => ?_)
                      · have hpi : bgP w (qRw w) (qTot w).toNat p2 i = true := bg_iff.mpr g3
                        have hk1 : ct (bgP w (qRw w) (qTot w).toNat p2) i < n1 := by
                          rw [← hn1]
                          exact ct_lt _ a1 hpi
                        obtain ⟨s1, s2⟩ := rBg_S hw hv a1 hpi
                        obtain ⟨s3, s4⟩ := rBg_K hw hv a1 hpi
                        have s5 := rBg_at a1 hpi
                        rw [hr1 _ hk1] at s5
                        rw [rS_cong hr1 hk1] at s1
                        rw [show rM w (rBg w (qRw w) (qTot w).toNat p2) (ct (bgP w (qRw w) (qTot w).toNat p2) i) = rM w r' (ct (bgP w (qRw w) (qTot w).toNat p2) i) by unfold rM; rw [rX_cong hr1 hk1]] at s3
                        have s6 : rK w r' (ct (bgP w (qRw w) (qTot w).toNat p2) i) = rK w (qRw w) i := by
                          rw [← s4]
                          unfold rK
                          rw [← rC_cong (w := w) (n := ct (bgP w (qRw w) (qTot w).toNat p2) i) (fun a ha => hr1 a (by omega)), show rM w r' (ct (bgP w (qRw w) (qTot w).toNat p2) i) = rM w (rBg w (qRw w) (qTot w).toNat p2) (ct (bgP w (qRw w) (qTot w).toNat p2) i) by unfold rM; rw [rX_cong hr1 hk1]]
                        have hst := @RJ_step w r' (qTot w).toNat n1 G12 G28 dn' cm' hw hv' hle hm28 hJ'' (ct (bgP w (qRw w) (qTot w).toNat p2) i) hk1 (by rw [s5, s1]; exact g2) (by rw [s6, s3, a3, a2])
                        rw [s5] at hst
                        refine hst (f := fun G43 => k36 1 G43) (fun G43 hG43 => ?_)
                        refine hk36 _ _ ⟨_, _, hG43, Or.inl ⟨rfl, ?_⟩⟩
                        rw [sm_upf, if_pos hri.1]
                        rcases hc with hc | hc <;> omega
                      · refine hskip (fun i' hi' b1 b2 _ b4 => ?_)
                        rw [huni i' hi' b1 b2, bg_iff] at b4
                        exact g3 b4
                    · refine hskip (fun i' hi' b1 b2 b3 _ => ?_)
                      rw [huni i' hi' b1 b2] at b3
                      exact g2 b3
              · have : m = 4 := by omega
                subst this
                refine hk25 _ _ ⟨dn', cm', hJ'', ?_⟩
                rcases hc with hc | ⟨a1, a2, a3⟩
                · exact Or.inl hc
                · exact Or.inr ⟨a1, a3⟩
          · refine Ok.condT (ieq_id (by omega) (by omega) (by omega) (by omega)) rfl ?_
            obtain ⟨hP, hT, h65, h66, hfr⟩ := hJ
            obtain ⟨rfl, rfl⟩ := PF.all hw hv1 hP (fun i1 hi1 hh => by
              obtain ⟨i, a1, a2, a3⟩ := rBg_of (w := w) (r := qRw w) (n := (qTot w).toNat) (H := p2) (k := i1) (by omega)
              obtain ⟨s1, s2⟩ := rBg_S hw hv a1 a2
              obtain ⟨s3, s4⟩ := rBg_K hw hv a1 a2
              have s5 := rBg_at a1 a2
              rw [← a3] at s1 s3 s4 s5
              rw [hr1 _ hi1] at s5
              rw [rS_cong hr1 hi1] at s1
              have eM : rM w (rBg w (qRw w) (qTot w).toNat p2) i1 = rM w r' i1 := by
                unfold rM
                rw [rX_cong hr1 hi1]
              rw [eM] at s3
              have s6 : rK w r' i1 = rK w (qRw w) i := by
                rw [← s4]
                unfold rK
                rw [eM, rC_cong (w := w) (n := i1) (fun a ha => hr1 a (by omega))]
              refine hno (rM w r' i1) (rM_lt hw hv1 hi1) i a1 s3.symm (by rw [← s6]; exact hh.2) ?_ a2
              rw [← s5, ← s1]
              exact hh.1)
            refine hk17 _ ⟨hT, fun m hm4 => ?_, hfr⟩
            rw [Nat.zero_add]
            exact h66 m hm4
        · have g7 := sm_bd (f := fun _ => ((0 : Nat) : Int)) (a := 0) (b := 0) (n := qN w) (fun _ _ => by omega)
          have : sm (fun _ => ((0 : Nat) : Int)) (qN w) = 0 := by omega
          rw [this]
          omega
  · refine Ok.jnP (¬ ((0 ≤ p1 ∧ p1 ≤ 7) ∧ (0 ≤ p2 ∧ p2 ≤ 2000))) (fun g => hk44 _ (by rw [decide_eq_false g]; rfl)) (fun k46 hk46 => ?_)
    refine Ok.it (fun g1 => ?_) (fun g1 => ?_)
    · have g1 := of_decide_eq_true g1
      rw [M_in i2 (i32_k (by omega)) (i32_k (by omega))]
      refine Ok.eq rfl ?_
      refine Ok.it (fun g2 => ?_) (fun g2 => ?_)
      · have g2 := of_decide_eq_true g2
        exact hk44 _ (by rw [decide_eq_true (⟨g1, g2⟩ : (0 ≤ p1 ∧ p1 ≤ 7) ∧ (0 ≤ p2 ∧ p2 ≤ 2000))]; rfl)
      · have g2 := of_decide_eq_false g2
        exact hk46 (fun e => g2 e.2)
    · have g1 := of_decide_eq_false g1
      exact hk46 (fun e => g1 e.1)
theorem C_replan {p1 p2 : Int} (i1 : I32 p1) (i2 : I32 p2) : CaseX (P_X10_replan p1 p2) (fun E => if E = 1 then 1 else if E = 2 then 2 else 0) (P_X11_replan p1 p2) := by
  intro c W hW
  obtain ⟨w, h, len, a, np, G, n, k, rfl, hI, hn, hk⟩ := id hW
  have hp := hI.1
  have hw := hp.1
  have hx := hI.2.1
  have hm := hI.2.2.2.2.1
  have hH := hI.2.2.2.2.2
  have er : ∀ e : Int, IW (c + 1) (rOf a, (tlOf a, (up2 G 56 3 e, (n + 1, k + 6)))) := fun e => hW.kq (KQ.up (by omega)) (Nat.le_refl _) (Nat.le_refl _)
  unfold P_X10_replan
  rw [needRule_eq i1]
  have hbad : ¬ ((0 ≤ p1 ∧ p1 ≤ 7) ∧ (0 ≤ p2 ∧ p2 ≤ 2000)) → Ok (P_X11_replan p1 p2 G) (fun z => z.2 56 3 = 1 ∧ IW (c + 1) (rOf a, (tlOf a, (z.2, (n + 1, k + 6))))) := fun g => Ok.w (M_replan (r' := fun _ => 0) (f := fun _ => 0) i1 i2 hp hm hH (fun g2 => absurd g2 g)) (fun z hz => by
    rw [hz.1 g]
    exact ⟨by rw [up2_eq, up1_eq], er 1⟩)
  by_cases h1 : 0 ≤ p1 ∧ p1 ≤ 7
  · rw [if_pos h1]
    refine Ok.thr0 rfl ?_
    rw [needRange_eq i2 (i32_k (by omega)) (i32_k (by omega))]
    by_cases h2 : 0 ≤ p2 ∧ p2 ≤ 2000
    · rw [if_pos h2]
      refine Ok.thr0 rfl ?_
      rw [needPlan_eq hw hx]
      by_cases h3 : w 1 15 = 1
      · rw [if_pos h3]
        refine Ok.thr0 rfl ?_
        obtain ⟨hF, hr, hO, hT17⟩ := hI.plan h3
        refine Ok.bind (S_clear (w := w) D0 (rBg w (qRw w) (qTot w).toNat p2)) (fun G9 hG9 => ?_)
        have hx9 := hG9.2.xs (by omega) hx
        have h179 : TT 17 w D0 (qRw w) (qTot w).toNat G9 := TT_fr (fun b hb1 hb2 => hG9.2 b (by omega)) hT17
        refine Ok.bind (S_putBegunIn hw hx9 (by omega) hF.1 h2 h179 hG9.1) (fun G10 hG10 => ?_)
        have hx10 := hG10.2.xs (by omega) hx9
        have hpr := S_putRest (rule := p1.toNat) hw hx10 (by omega) (rBg_V hw hF.1) hG10.1 (by omega)
        rw [show ((p1.toNat : Nat) : Int) = p1 by omega] at hpr
        refine Ok.bind hpr (fun G5 hG5 => ?_)
        obtain ⟨r', hr1, hF', hR, hT, hFr⟩ := hG5
        have hf5 : ∀ b, ¬ (26 ≤ b ∧ b ≤ 55) → G5 b = G b := fun b hb => by
          rw [hFr b (by omega), hG10.2 b (by omega)]
          exact hG9.2 b (by omega)
        have hI5 := IV_trial hI hf5
        refine S_adopt hI5 hF' hT (fun a' np' G' G6 n' k' f b1 b2 b3 b4 b5 hf hx6 hT6 f6 => ?_)
        refine Ok.so (Or.inl ⟨_, rfl, fun G7 hG7 => ?_⟩)
        have hG7' : ∀ b, 56 ≤ b ∧ b ≤ 73 → G7 b = G5 b := fun b hb => by
          rw [hG7 b (by omega)]
          show G6 b = G5 b
          rw [f6 b (by omega), b2 b (by omega) (by omega)]
        obtain ⟨hmA, hmH⟩ := M_start hI5.2.2.2.2.1 hI5.2.2.2.2.2 hG7'
        refine Ok.w (M_replan (G := G7) (r' := r') (f := f) i1 i2 hp hmA hmH (fun _ _ => ⟨hr1, hF', hR, hf⟩)) (fun z hz => ?_)
        obtain ⟨z1, z2⟩ := hz.2.2 ⟨h1, h2⟩ h3
        exact ⟨z2.2.2.2, by rw [z1], z2.2.2.1 74 (by omega), IW_done hI5 hn hk b1 b2 b3 b4 b5 (wP_ok hw) (wP_pok hw hF' hf) hx6 hT6 f6 hG7 z2⟩
      · rw [if_neg h3]
        refine Ok.thrE rfl (Or.inr ⟨2, rfl, by decide, by omega, Ok.w (M_replan (r' := fun _ => 0) (f := fun _ => 0) i1 i2 hp hm hH (fun _ g => absurd g h3)) (fun z hz => ?_)⟩)
        rw [hz.2.1 ⟨h1, h2⟩ h3]
        exact ⟨by rw [up2_eq, up1_eq]; rfl, er 2⟩
    · rw [if_neg h2]
      exact Ok.thrE rfl (Or.inr ⟨1, rfl, by decide, by omega, hbad (fun g => h2 g.2)⟩)
  · rw [if_neg h1]
    exact Ok.thrE rfl (Or.inr ⟨1, rfl, by decide, by omega, hbad (fun g => h1 g.1)⟩)
