/-! ===== rush, delay ===== -/
theorem S_putRushed {w : wS} {r : Nat → Nat} {G : mG} {J t : Nat} (hw : Wok w) (hx : XS w G) (ht : 17 ≤ t) (hF : qF w r (qTot w).toNat) (hr : ∀ i, i < (qTot w).toNat → G 16 i = (r i : Int)) (hJ : J < qN w) : Ok (P_X8_putRushed t (J : Int) G) (fun G' => TT t w D0 (rRu r J (qSt w J) (qTot w).toNat) (qTot w).toNat G' ∧ FrT t G G') := by
  have hn := hw.n
  have htot := qTot_le hw
  have h5 := (hw.st hJ).2
  have hl := rRu_len hF hJ (rfl : qSt w J = qSt w J)
  unfold P_X8_putRushed
  refine Ok.bind (S_clear (w := w) D0 (rRu r J (qSt w J) (qTot w).toNat)) (fun G2 hG2 => ?_)
  refine Ok.jn1 (fun G3 => TT t w D0 (rRu r J (qSt w J) (qTot w).toNat) (qSt w J) G3 ∧ FrT t G G3) (fun G3 hG3 => ?_) (fun k16 hk16 => ?_)
  · refine Ok.eq (S_stepTotal hw (hG3.2.xs ht hx)) ?_
    refine Ok.forC (fun i G' => TT t w D0 (rRu r J (qSt w J) (qTot w).toNat) (qSt w J + ct (ruP r J) i) G' ∧ FrT t G G') (qTot w).toNat LF (LF_lt (by omega)) hG3 (fun i hi again G' hI hag => ?_) (fun again G' hI => ?_)
    · have hx' := hI.2.xs ht hx
      refine Ok.iteT ((ilt_id (by omega) (by omega) (by omega) (by omega)).trans (decide_eq_true (by omega))) ?_
      refine Ok.ld i rfl (by omega) (by omega) ?_
      have e16 : G' 16 i = (r i : Int) := by
        rw [hI.2 16 (by omega)]
        exact hr i hi
      rw [e16]
      have hri := (hF.1 i hi).1
      refine Ok.jn1 (fun G11 => TT t w D0 (rRu r J (qSt w J) (qTot w).toNat) (qSt w J + ct (ruP r J) (i + 1)) G11 ∧ FrT t G G11) (fun G11 hG11 => hag _ hG11) (fun k13 hk13 => ?_)
      refine Ok.cd (ieq_nat (by omega) (by omega)) (fun h => ?_) (fun h => ?_)
      · refine hk13 _ ?_
        rw [ct_succ, if_neg (by unfold ruP; simpa using h)]
        exact hI
      · refine Ok.ld i rfl (by omega) (by omega) ?_
        rw [e16]
        have hle : qSt w J + ct (ruP r J) (i + 1) ≤ qSt w J + ct (ruP r J) (qTot w).toNat := Nat.add_le_add_left (ct_mono _ (by omega)) _
        have hcs : ct (ruP r J) (i + 1) = ct (ruP r J) i + 1 := by rw [ct_succ, if_pos (show ruP r J i = true from decide_eq_true h)]
        have hput := S_put (D := D0) (r := rRu r J (qSt w J) (qTot w).toNat) (n := qSt w J + ct (ruP r J) i) hw ht hx' (rRu_V hF.1 hJ rfl (by omega)) DB0 hI.1
        rw [rRu_hi hi h] at hput
        refine Ok.bind hput (fun G15 hG15 => ?_)
        refine hk13 _ ⟨?_, hI.2.tr hG15.2⟩
        rw [hcs, ← Nat.add_assoc]
        exact hG15.1
    · refine Ok.iteF ((ilt_id (by omega) (by omega) (by omega) (by omega)).trans (decide_eq_false (by omega))) ?_
      rw [hl] at hI
      exact Ok.so hI
  · refine Ok.forC (fun k G' => TT t w D0 (rRu r J (qSt w J) (qTot w).toNat) k G' ∧ FrT t G G') (qSt w J) LF (LF_lt (by omega)) hG2 (fun k hk again G' hI hag => ?_) (fun again G' hI => ?_)
    · have hx' := hI.2.xs ht hx
      refine Ok.ld J rfl (by omega) (by omega) ?_
      rw [hx'.st hw hJ]
      refine Ok.condT (ilt_nat (by omega) (by omega)) hk ?_
      have hput := S_put (D := D0) (r := rRu r J (qSt w J) (qTot w).toNat) (n := k) hw ht hx' (rRu_V hF.1 hJ rfl (by omega)) DB0 hI.1
      rw [rRu_lo hk] at hput
      refine Ok.bind hput (fun G15 hG15 => ?_)
      exact hag _ ⟨hG15.1, hI.2.tr hG15.2⟩
    · have hx' := hI.2.xs ht hx
      refine Ok.ld J rfl (by omega) (by omega) ?_
      rw [hx'.st hw hJ]
      refine Ok.condF (ilt_nat (by omega) (by omega)) (Nat.lt_irrefl _) ?_
      exact hk16 _ hI
theorem M_laysRushed {w : wS} {r : Nat → Nat} {n J : Nat} {G : mG} (hw : Wok w) (hF : qF w r n) (hO : OT w r n (tOd (qS w D0 r n)) (G 57) 152) (hJ : J < qN w) : Ok (P_X11_laysRushed (J : Int) G) (fun G' => (∀ m, m < 4 → RO w r n J m (G' 66)) ∧ (∀ b, b ≠ 66 → G' b = G b)) := by
  have hn := hw.n
  have hv := hF.1
  have hn30 := qV_30 hw hv
  unfold P_X11_laysRushed
  refine Ok.bind M_clearsOrder (fun G2 hG2 => ?_)
  refine Ok.forC (fun k G' => (∀ m, m < k → RO w r n J m (G' 66)) ∧ (∀ m, k ≤ m → m < 4 → G' 66 (31 * m) = 0) ∧ (∀ b, b ≠ 66 → G' b = G b)) 4 LF (LF_lt (by omega)) ⟨fun m hm => absurd hm (Nat.not_lt_zero _), fun m _ hm => hG2.1 m hm, hG2.2⟩ (fun m hm again G4 hI hag => ?_) (fun again G4 hI => ?_)
  · obtain ⟨p1, p2, p3⟩ := hI
    refine Ok.iteT ((ilt_id (by omega) (by omega) (by omega) (by omega)).trans (decide_eq_true (by omega))) ?_
    refine Ok.lk ?_
    obtain ⟨o1, o2⟩ := hO m hm
    have hc30 := rC_30 hw hv m
    have hqJ : ∀ i, qJm w r J m i = true → rM w r i = m := fun i h => (of_decide_eq_true h).1
    have hqN : ∀ i, qNm w r J m i = true → rM w r i = m := fun i h => (of_decide_eq_true h).1
    have hsplit : ∀ i, rC w r i m = ct (qJm w r J m) i + ct (qNm w r J m) i := fun i => ct_or (fun i => by
      unfold qJm qNm
      by_cases h1 : rM w r i = m <;> by_cases h2 : r i = J <;> simp [h1, h2]) i
    -- turns: first the job's own steps, then the others
    refine Ok.forC (fun tn G11 => (∀ m', m' < m → RO w r n J m' (G11 66)) ∧ (∀ m', m < m' → m' < 4 → G11 66 (31 * m') = 0) ∧ (∀ b, b ≠ 66 → G11 b = G b) ∧ (tn = 0 → G11 66 (31 * m) = 0) ∧ (1 ≤ tn → ∀ i, i < n → qJm w r J m i = true → G11 66 (31 * m + 1 + ct (qJm w r J m) i) = (cd (rX r i) : Int)) ∧ (tn = 1 → G11 66 (31 * m) = (ct (qJm w r J m) n : Int)) ∧ (tn = 2 → RO w r n J m (G11 66))) 2 LF (LF_lt (by omega)) ⟨p1, fun m' h1 h2 => p2 m' (by omega) h2, p3, fun _ => p2 m (Nat.le_refl _) hm, fun h => absurd h (by omega), fun h => absurd h (by omega), fun h => absurd h (by omega)⟩ (fun tn htn again2 G11 hI2 hag2 => ?_) (fun again2 G11 hI2 => ?_)
    · obtain ⟨q1, q2, q3, q4, q5, q6, q7⟩ := hI2
      refine Ok.iteT ((ilt_id (by omega) (by omega) (by omega) (by omega)).trans (decide_eq_true (by omega))) ?_
      refine Ok.lk ?_
      -- which steps this turn takes
      have hlen0 : G11 66 (31 * m) = ((if tn = 0 then 0 else ct (qJm w r J m) n : Nat) : Int) := by
        by_cases h0 : tn = 0
        · rw [if_pos h0, q4 h0]
          rfl
        · rw [if_neg h0, q6 (by omega)]
      generalize hbase : (if tn = 0 then 0 else ct (qJm w r J m) n : Nat) = base at hlen0
      have hq : ∃ q : Nat → Bool, (∀ i, q i = decide (rM w r i = m ∧ (r i = J ↔ tn = 0))) ∧ (tn = 0 → q = qJm w r J m) ∧ (tn = 1 → q = qNm w r J m) := by
        refine ⟨fun i => decide (rM w r i = m ∧ (r i = J ↔ tn = 0)), fun _ => rfl, fun h => funext fun i => decide_eq_decide.mpr (by simp [h]), fun h => funext fun i => decide_eq_decide.mpr (by simp [h])⟩
      obtain ⟨q, hqd, hq0, hq1⟩ := hq
      have hqm : ∀ i, q i = true → rM w r i = m := fun i h => by
        rw [hqd] at h
        exact (of_decide_eq_true h).1
      have hb30 : ∀ i, i ≤ n → base + ct q i ≤ 30 := fun i hi => by
        have h1 := hsplit n
        have h2 : ct q i ≤ ct q n := ct_mono _ hi
        by_cases h0 : tn = 0
        · rw [if_pos h0] at hbase
          rw [hq0 h0] at h2
          rw [hq0 h0]
          omega
        · rw [if_neg h0] at hbase
          rw [hq1 (by omega)] at h2
          rw [hq1 (by omega)]
          omega
      refine Ok.forC (fun k G18 => ∃ i, i ≤ n ∧ rC w r i m = k ∧ (∀ m', m' < m → RO w r n J m' (G18 66)) ∧ (∀ m', m < m' → m' < 4 → G18 66 (31 * m') = 0) ∧ (∀ b, b ≠ 66 → G18 b = G b) ∧ (1 ≤ tn → ∀ i, i < n → qJm w r J m i = true → G18 66 (31 * m + 1 + ct (qJm w r J m) i) = (cd (rX r i) : Int)) ∧ G18 66 (31 * m) = ((base + ct q i : Nat) : Int) ∧ (∀ i', i' < i → q i' = true → G18 66 (31 * m + 1 + (base + ct q i')) = (cd (rX r i') : Int))) (rC w r n m) LF (LF_lt (by omega)) ⟨0, Nat.zero_le _, rfl, q1, q2, q3, q5, hlen0, fun i' h => absurd h (Nat.not_lt_zero _)⟩ (fun k hk again3 G18 hI3 hag3 => ?_) (fun again3 G18 hI3 => ?_)
      · obtain ⟨i, s1, s2, s3, s4, s5, s6, s7, s8⟩ := hI3
        obtain ⟨i2, b1, b2, b3⟩ := rK_of hk
        have hki : rC w r i2 m = k := by
          rw [← b3, ← b2]
          rfl
        obtain ⟨c1, c2⟩ := cur_ct (q := q) hqm (s2.trans hki.symm)
        have hod := qS_od (D := D0) hw hv b1
        rw [b2, b3] at hod
        refine Ok.ld (152 + 31 * m) (by omega) (by omega) (by omega) ?_
        rw [s5 57 (by omega), o1]
        refine Ok.condT (ilt_nat (by omega) (by omega)) hk ?_
        refine Ok.ld (152 + 31 * m + 1 + k) (by omega) (by omega) (by omega) ?_
        rw [s5 57 (by omega), o2 k hk, hod]
        have hs5 := rS_lt5 hw hv b1
        have hrj := (hv i2 b1).1
        have hcd : (cd (rX r i2) : Int) = ((10 * r i2 + rS r i2 : Nat) : Int) := by
          unfold rX
          rw [cd_js hs5]
        have hdiv : iDiv (cd (rX r i2) : Int) 10 = (r i2 : Int) := by
          rw [hcd, iDiv_id (by omega) (by omega) (by omega) (by omega)]
          omega
        rw [hdiv]
        refine Ok.jn1 (fun y => y = b2i (decide (r i2 = J))) (fun y hy => ?_) (fun k35 hk35 => ?_)
        · subst hy
          refine Ok.jn1 (fun z => z = b2i (decide (tn = 0))) (fun z hz => ?_) (fun k34 hk34 => ?_)
          · subst hz
            refine Ok.jn1 (fun G27 => ∃ i, i ≤ n ∧ rC w r i m = k + 1 ∧ (∀ m', m' < m → RO w r n J m' (G27 66)) ∧ (∀ m', m < m' → m' < 4 → G27 66 (31 * m') = 0) ∧ (∀ b, b ≠ 66 → G27 b = G b) ∧ (1 ≤ tn → ∀ i, i < n → qJm w r J m i = true → G27 66 (31 * m + 1 + ct (qJm w r J m) i) = (cd (rX r i) : Int)) ∧ G27 66 (31 * m) = ((base + ct q i : Nat) : Int) ∧ (∀ i', i' < i → q i' = true → G27 66 (31 * m + 1 + (base + ct q i')) = (cd (rX r i') : Int))) (fun G27 hG27 => hag3 _ hG27) (fun k29 hk29 => ?_)
            have hC1 : rC w r (i2 + 1) m = k + 1 := by
              unfold rC at hki ⊢
              rw [ct_succ, if_pos (decide_eq_true b2), hki]
            have hcond : ieq (b2i (decide (r i2 = J))) (b2i (decide (tn = 0))) = decide (r i2 = J ↔ tn = 0) := by
              by_cases h1 : r i2 = J <;> by_cases h2 : tn = 0 <;> simp [h1, h2, b2i] <;> decide
            refine Ok.cd hcond (fun h9 => ?_) (fun h9 => ?_)
            · have hqi : q i2 = true := by
                rw [hqd]
                exact decide_eq_true ⟨b2, h9⟩
              have hlt30 : base + ct q i2 < 30 := by
                have h1 := hb30 (i2 + 1) (by omega)
                rw [ct_succ, if_pos hqi] at h1
                omega
              refine Ok.ld (31 * m) (by omega) (by omega) (by omega) ?_
              rw [s7, c1]
              refine Ok.sto (31 * m + 1 + (base + ct q i2)) (by omega) (by omega) (by omega) ?_
              refine Ok.ld (31 * m) (by omega) (by omega) (by omega) ?_
              rw [up2_eq, up1_ne (by omega), s7, c1]
              refine Ok.sto (31 * m) (by omega) (by omega) (by omega) ?_
              refine hk29 _ ⟨i2 + 1, by omega, hC1, fun m' hm' => ?_, fun m' hm1 hm2 => ?_, fun b hb => ?_, fun h1 i' hi' hqj => ?_, ?_, fun i' hi' hqi' => ?_⟩
              · have hro := s3 m' hm'
                unfold RO at hro ⊢
                rw [up2_eq, up2_eq]
                have hc' : ct (qJm w r J m') n + ct (qNm w r J m') n ≤ 30 := by
                  have h2 : rC w r n m' = ct (qJm w r J m') n + ct (qNm w r J m') n := ct_or (fun i => by
                    unfold qJm qNm
                    by_cases h1 : rM w r i = m' <;> by_cases h2 : r i = J <;> simp [h1, h2]) n
                  have h3 := rC_30 hw hv m'
                  omega
                refine ⟨?_, fun i' hi' hj => ?_, fun i' hi' hj => ?_⟩
                · rw [up1_ne (by omega), up1_ne (by omega)]
                  exact hro.1
                · have h4 : ct (qJm w r J m') i' ≤ ct (qJm w r J m') n := ct_mono _ (by omega)
                  have h4' : ct (qJm w r J m') i' < ct (qJm w r J m') n := ct_lt _ hi' hj
                  rw [up1_ne (by omega), up1_ne (by omega)]
                  exact hro.2.1 i' hi' hj
                · have h4 : ct (qNm w r J m') i' < ct (qNm w r J m') n := ct_lt _ hi' hj
                  rw [up1_ne (by omega), up1_ne (by omega)]
                  exact hro.2.2 i' hi' hj
              · rw [up2_eq, up1_ne (by omega), up2_eq, up1_ne (by omega)]
                exact s4 m' hm1 hm2
              · rw [up2_ne hb, up2_ne hb]
                exact s5 b hb
              · have h0 : tn ≠ 0 := by omega
                rw [if_neg h0] at hbase
                have h4 : ct (qJm w r J m) i' < ct (qJm w r J m) n := ct_lt _ hi' hqj
                rw [up2_eq, up1_ne (by omega), up2_eq, up1_ne (by omega)]
                exact s6 h1 i' hi' hqj
              · rw [up2_eq, up1_eq, ct_succ, if_pos hqi]
                omega
              · rw [up2_eq, up1_ne (by omega), up2_eq, up1_if]
                by_cases h10 : i' = i2
                · rw [h10, if_pos rfl]
                · have h11 : ct q i' < ct q i2 := ct_lt _ (by omega) hqi'
                  rw [if_neg (by omega)]
                  exact s8 i' ((c2 i' hqi').mpr (by omega)) hqi'
            · have hqi : ¬ q i2 = true := by
                rw [hqd]
                intro h
                exact h9 (of_decide_eq_true h).2
              refine hk29 _ ⟨i2 + 1, by omega, hC1, s3, s4, s5, s6, ?_, fun i' hi' hqi' => ?_⟩
              · rw [s7, c1, ct_succ, if_neg hqi]
              · have h10 : i' ≠ i2 := fun e => hqi (e ▸ hqi')
                exact s8 i' ((c2 i' hqi').mpr (by omega)) hqi'
          · refine Ok.cd (ieq_id (by omega) (by omega) (by omega) (by omega)) (fun h => ?_) (fun h => ?_)
            · exact hk34 _ (by rw [decide_eq_true (by omega)]; rfl)
            · exact hk34 _ (by rw [decide_eq_false (by omega)]; rfl)
        · refine Ok.cd (ieq_nat (by omega) (by omega)) (fun h => ?_) (fun h => ?_)
          · exact hk35 _ (by rw [decide_eq_true h]; rfl)
          · exact hk35 _ (by rw [decide_eq_false h]; rfl)
      · obtain ⟨i, s1, s2, s3, s4, s5, s6, s7, s8⟩ := hI3
        obtain ⟨c1, c2⟩ := cur_ct (q := q) hqm s2
        refine Ok.ld (152 + 31 * m) (by omega) (by omega) (by omega) ?_
        rw [s5 57 (by omega), o1]
        refine Ok.condF (ilt_nat (by omega) (by omega)) (Nat.lt_irrefl _) ?_
        have s8' : ∀ i', i' < n → q i' = true → G18 66 (31 * m + 1 + (base + ct q i')) = (cd (rX r i') : Int) := fun i' hi' hqi' => s8 i' ((c2 i' hqi').mpr hi') hqi'
        rw [c1] at s7
        by_cases h0 : tn = 0
        · subst h0
          rw [if_pos rfl] at hbase
          subst hbase
          rw [hq0 rfl] at s7 s8'
          refine hag2 _ ⟨s3, s4, s5, fun h => absurd h (by omega), fun _ i' hi' hqi' => ?_, fun _ => ?_, fun h => absurd h (by omega)⟩
          · have := s8' i' hi' hqi'
            rw [Nat.zero_add] at this
            exact this
          · rw [s7, Nat.zero_add]
        · have h1 : tn = 1 := by omega
          rw [if_neg h0] at hbase
          subst hbase
          rw [hq1 h1] at s7 s8'
          exact hag2 _ ⟨s3, s4, s5, fun h => absurd h (by omega), fun _ => s6 (by omega), fun h => absurd h (by omega), fun _ => ⟨s7, s6 (by omega), s8'⟩⟩
    · obtain ⟨q1, q2, q3, q4, q5, q6, q7⟩ := hI2
      refine Ok.iteF ((ilt_id (by omega) (by omega) (by omega) (by omega)).trans (decide_eq_false (by omega))) ?_
      refine hag _ ⟨fun m' hm' => ?_, fun m' h1 h2 => q2 m' (by omega) h2, q3⟩
      by_cases h : m' = m
      · rw [h]
        exact q7 rfl
      · exact q1 m' (by omega)
  · refine Ok.iteF ((ilt_id (by omega) (by omega) (by omega) (by omega)).trans (decide_eq_false (by omega))) (Ok.so ⟨fun m hm => hI.1 m hm, hI.2.2⟩)
