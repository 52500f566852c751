/-! ===== the way laid by the model; wayLength, wayAt, blocks, longestBlock ===== -/
def cdI (v : Int) : Int := if v = -1 then -1 else (cd v.toNat : Int)
/-- the way's frame -/
def FrW (G G' : mG) : Prop := (∀ b, b ≠ 56 → b ≠ 62 → b ≠ 64 → b ≠ 73 → G' b = G b) ∧ ∀ c, c ≠ 19 → G' 56 c = G 56 c
theorem FrW.kf {G G' : mG} (h : FrW G G') : KF G G' := ⟨⟨fun b hb => h.1 b (by omega) (by omega) (by omega) (by omega), h.2 2 (by omega)⟩, h.1 74 (by omega) (by omega) (by omega) (by omega)⟩
theorem FrW.tr {A B C : mG} (h1 : FrW A B) (h2 : FrW B C) : FrW A C := ⟨fun b e1 e2 e3 e4 => (h2.1 b e1 e2 e3 e4).trans (h1.1 b e1 e2 e3 e4), fun c hc => (h2.2 c hc).trans (h1.2 c hc)⟩
theorem FrW.u19 (G : mG) (x : Int) : FrW G (up2 G 56 19 x) := ⟨fun b e1 _ _ _ => up2_ne e1, fun c hc => by rw [up2_eq, up1_ne hc]⟩
theorem FrW.u73 (G : mG) (i : Nat) (x : Int) : FrW G (up2 G 73 i x) := ⟨fun b _ _ _ e4 => up2_ne e4, fun c _ => by rw [up2_ne (by omega)]⟩
theorem FrW.rd {G G' : mG} (h : ∀ b, b ≠ 62 → b ≠ 64 → G' b = G b) : FrW G G' := ⟨fun b _ e2 e3 _ => h b e2 e3, fun c _ => by rw [h 56 (by omega) (by omega)]⟩
section LW
variable {w : wS} {r : Nat → Nat} {n : Nat} {G : mG}
theorem M_laysWay (hw : Wok w) (hF : qF w r n) (hW : WP w r n G) : Ok (P_X11_laysWay G) (fun G' => G' 56 19 = (wL w r n : Int) ∧ (∀ k, k < wL w r n → G' 73 k = cdI (wy w r n k)) ∧ FrW G G') := by
  have hn := hw.n
  have h30 := qV_30 hw hF.1
  unfold P_X11_laysWay
  refine Ok.pu ?_
  have hW1 : WP w r n (up2 G 56 19 0) := hW.fr (up2_ne (by omega)) (up2_ne (by omega))
  refine Ok.jn1 (fun y => y = cdI (wLat w r n (qN w))) (fun y hy => ?_) (fun k23 hk23 => ?_)
  · subst hy
    refine Ok.lp2 (fun M x G5 => ∃ k : Nat, k + M = 30 ∧ x = cdI (wy w r n k) ∧ (∀ i, i < k → wy w r n i ≠ -1) ∧ G5 56 19 = (k : Int) ∧ (∀ i, i < k → G5 73 i = cdI (wy w r n i)) ∧ FrW G G5) (fun M again x G5 hI hk => ?_) LF 30 (cdI (wLat w r n (qN w))) _ (LF_lt (by omega)) ⟨0, by omega, rfl, fun i hi => absurd hi (Nat.not_lt_zero _), by rw [up2_eq, up1_eq]; rfl, fun i hi => absurd hi (Nat.not_lt_zero _), FrW.u19 G 0⟩
    obtain ⟨k, hkM, rfl, hne, e3, e41, hf⟩ := hI
    rcases wy_in hw hF.1 k with e | ⟨i, hi, e⟩
    · rw [e]
      refine Ok.iteT rfl (Ok.so ?_)
      have hL := wL_eq hw hF.1 e hne (by omega)
      rw [hL]
      exact ⟨e3, e41, hf⟩
    · have hi' : i < n := by omega
      obtain ⟨c1, c2, c3⟩ := cd_rX hw hF hi'
      have hS5 := rS_lt5 hw hF.1 hi'
      have hvi := hF.1 i hi'
      have hx : cdI (wy w r n k) = (cd (rX r i) : Int) := by
        unfold cdI
        rw [if_neg (by omega), e, Int.toNat_natCast]
      have hcs : wy w r n (k + 1) = wNx w (qS w D0 r n) (rX r i) := by rw [wy_succ, if_neg (by omega), e, Int.toNat_natCast]
      have e1 : iDiv (cd (rX r i) : Int) 10 = (r i : Int) := by
        rw [iDiv_id (by omega) (by omega) (by omega) (by omega)]
        omega
      have e2 : iRem (cd (rX r i) : Int) 10 = (rS r i : Int) := by
        rw [iRem_id (by omega) (by omega) (by omega) (by omega)]
        omega
      rw [hx]
      refine Ok.condF (P := (cd (rX r i) : Int) = -1) (ieq_id (by omega) (by omega) (by omega) (by omega)) (by omega) ?_
      refine Ok.sto k e3 (by omega) (by omega) ?_
      refine Ok.pu ?_
      rw [up2_ne (by omega), e3]
      have hfG : FrW G (up2 (up2 G5 73 k (cd (rX r i) : Int)) 56 19 ((k : Int) + 1)) := (hf.tr (FrW.u73 _ _ _)).tr (FrW.u19 _ _)
      have h9 : up2 (up2 G5 73 k (cd (rX r i) : Int)) 56 19 ((k : Int) + 1) 56 19 = ((k + 1 : Nat) : Int) := by rw [up2_eq, up1_eq]; rfl
      have h973 : ∀ i', i' < k + 1 → up2 (up2 G5 73 k (cd (rX r i) : Int)) 56 19 ((k : Int) + 1) 73 i' = cdI (wy w r n i') := fun i' hi' => by
        rw [up2_ne (by omega), up2_eq, up1_if]
        by_cases g : i' = k
        · rw [if_pos g, g, hx]
        · rw [if_neg g, e41 i' (by omega)]
      generalize up2 (up2 G5 73 k (cd (rX r i) : Int)) 56 19 ((k : Int) + 1) = G9 at hfG h9 h973 ⊢
      have hW9 : WP w r n G9 := hW.fr (hfG.1 57 (by omega) (by omega) (by omega) (by omega)) (hfG.1 59 (by omega) (by omega) (by omega) (by omega))
      rw [e1, e2]
      refine Ok.ld (rX r i) (by unfold rX; omega) (by omega) (by omega) ?_
      have hBg : G9 59 (rX r i) = tBg (qS w D0 r n) (rX r i) := hW9.2.2 (r i) (rS r i) hvi.1 hvi.2
      rw [hBg]
      refine Ok.jn2 (fun y Gy => y = cdI (wNx w (qS w D0 r n) (rX r i)) ∧ Gy 56 19 = ((k + 1 : Nat) : Int) ∧ (∀ i', i' < k + 1 → Gy 73 i' = cdI (wy w r n i')) ∧ FrW G Gy) (fun y Gy hy => ?_) (fun k14 hk14 => ?_)
      · refine hk (M - 1) _ _ (by omega) ⟨k + 1, by omega, by rw [hcs]; exact hy.1, fun i' hi' => ?_, hy.2⟩
        by_cases g : i' = k
        · rw [g]
          omega
        · exact hne i' (by omega)
      · have hb := qS_bd hw DB0 hF.1
        have hb1 := hb i hi'
        have hr1 := rHr hw hF.1 hi'
        refine Ok.jnP (¬ (rX r i % 5 ≠ 0 ∧ tE w (qS w D0 r n) (rX r i - 1) = tBg (qS w D0 r n) (rX r i))) (fun hA => ?_) (fun k21 hk21 => ?_)
        · unfold wNx at hk14
          rw [if_neg hA] at hk14
          refine Ok.bind (M_readyAt hw hF hW9 hi') (fun z16 hz16 => ?_)
          obtain ⟨z1, z2⟩ := hz16
          have hfz : FrW G z16.2 := hfG.tr (FrW.rd z2)
          have hWz : WP w r n z16.2 := hW9.fr (z2 57 (by omega) (by omega)) (z2 59 (by omega) (by omega))
          have hgo : ∀ v, v = cdI (if tAh (qS w D0 r n) (rX r i) = -1 then -1 else if tE w (qS w D0 r n) (tAh (qS w D0 r n) (rX r i)).toNat + tBt (qS w D0 r n) (rX r i) = tBg (qS w D0 r n) (rX r i) then tAh (qS w D0 r n) (rX r i) else -1) → Ok (k14 v z16.2) _ := fun v hv => hk14 _ _ ⟨hv, by rw [z2 56 (by omega) (by omega)]; exact h9, fun i' hi' => by rw [z2 73 (by omega) (by omega)]; exact h973 i' hi', hfz⟩
          rw [z1]
          have eA := tAh_eq hw hF.1 hi'
          have eB := tBt_eq hw hF.1 hi'
          refine Ok.lk ?_
          by_cases h0 : rK w r i = 0
          · rw [if_pos h0] at eA ⊢
            rw [eA] at hgo
            refine Ok.condF (P := (-1 : Int) = tBg (qS w D0 r n) (rX r i)) (ieq_id (by omega) (by omega) (by omega) (by omega)) (by omega) ?_
            exact hgo _ rfl
          · rw [if_neg h0] at eA eB ⊢
            obtain ⟨i2, q1, q2, q3⟩ := rK_pre h0
            have eo := qS_od (D := D0) hw hF.1 (i := i2) (by omega)
            rw [q2, show rK w r i2 = rK w r i - 1 by omega] at eo
            rw [eo] at eA eB ⊢
            rw [eA, if_neg (by omega), Int.toNat_natCast] at hgo
            have hb2 := hb i2 (by omega)
            have hr2 := rHr hw hF.1 (i := i2) (by omega)
            have hvi2 := hF.1 i2 (by omega)
            have h3 := qBw_bd (p := rX r i2) (x := rX r i) (wp := tWr (qS w D0 r n) (rX r i2)) hw (by rw [(rX_div hw hF.1 (by omega)).1]; exact hvi2.1) (by rw [(rX_div hw hF.1 hi').1]; exact hvi.1) (rM_lt hw hF.1 hi')
            refine Ok.cd (P := tE w (qS w D0 r n) (rX r i2) + tBt (qS w D0 r n) (rX r i) = tBg (qS w D0 r n) (rX r i)) (by unfold tE; exact ieq_id (by omega) (by omega) (by omega) (by omega)) (fun g => ?_) (fun g => ?_)
            · rw [if_pos g] at hgo
              have hah := M_aheadOf hw hF hWz hi'
              rw [if_neg h0, eo] at hah
              refine Ok.eq hah ?_
              refine hgo _ ?_
              unfold cdI
              rw [if_neg (by omega), Int.toNat_natCast]
            · rw [if_neg g] at hgo
              exact hgo _ rfl
        · have hmod : rX r i % 5 = rS r i := (rX_div hw hF.1 hi').2
          refine Ok.cd (ilt_nat (a := 0) (by omega) (by omega)) (fun g => ?_) (fun g => ?_)
          · obtain ⟨i2, q1, q2, q3, q4⟩ := rX_pre hw hF.1 hi' (by omega)
            have hi2 : i2 < n := by omega
            have hb2 := hb i2 hi2
            have hr2 := rHr hw hF.1 hi2
            rw [show (rS r i : Int) - 1 = (rS r i2 : Int) by omega, ← q2]
            refine Ok.eq (hW9.end hw hF hi2) ?_
            refine Ok.cd (P := tE w (qS w D0 r n) (rX r i2) = tBg (qS w D0 r n) (rX r i)) (by unfold tE; exact ieq_id (by omega) (by omega) (by omega) (by omega)) (fun g2 => ?_) (fun g2 => ?_)
            · refine hk14 _ _ ⟨?_, h9, h973, hfG⟩
              unfold wNx
              rw [if_pos ⟨by omega, by rw [← q4]; exact g2⟩]
              obtain ⟨d1, d2, d3⟩ := cd_rX hw hF hi2
              unfold cdI
              rw [if_neg (by omega), show ((rX r i : Int) - 1).toNat = rX r i2 by omega]
              omega
            · exact hk21 (fun g3 => g2 (by rw [q4]; exact g3.2))
          · exact hk21 (fun g3 => by omega)
  · refine Ok.forA (fun j v => v = cdI (wLat w r n j)) (qN w) LF (LF_lt (by omega)) rfl (fun j hj again v hv' hk => ?_) (fun again v hv' => ?_)
    · subst hv'
      refine Ok.ld 0 rfl (by omega) (by omega) ?_
      rw [hW1.1.1, hn.1]
      refine Ok.condT (ilt_nat (by omega) (by omega)) (by omega) ?_
      refine Ok.eq (M_of hw hW1.1 hj (k := 4) rfl (by omega)) ?_
      rw [hW1.1.st hw hj]
      have hd := hF.2 j hj
      have h5 := (hw.st hj).2
      have hst : wLat w r n (j + 1) = if 0 < rD r n j ∧ (wLat w r n j = -1 ∨ tE w (qS w D0 r n) (wLat w r n j).toNat < tE w (qS w D0 r n) (5 * j + rD r n j - 1)) then ((5 * j + rD r n j - 1 : Nat) : Int) else wLat w r n j := rfl
      refine Ok.jn1 (fun y => y = cdI (wLat w r n (j + 1))) (fun y hy => ?_) (fun k32 hk32 => ?_)
      · subst hy
        exact hk _ rfl
      · refine Ok.cd (P := ¬ 0 < rD r n j) ((ilt_id (by omega) (by omega) (by omega) (by omega)).trans (decide_eq_decide.mpr (by omega))) (fun h0 => ?_) (fun h0 => ?_)
        · refine hk32 _ ?_
          rw [hst, if_neg (fun g => h0 g.1)]
        · obtain ⟨i', t1, t2, t3, t4⟩ := rX_of (r := r) (n := n) (j := j) (s := rD r n j - 1) (by omega)
          have t5 : 5 * j + rD r n j - 1 = rX r i' := by omega
          rw [t5] at hst
          obtain ⟨d1, d2, d3⟩ := cd_rX hw hF t1
          have hb := qS_bd hw DB0 hF.1
          have hb2 := hb i' t1
          have hr2 := rHr hw hF.1 t1
          have hyes : (wLat w r n j = -1 ∨ tE w (qS w D0 r n) (wLat w r n j).toNat < tE w (qS w D0 r n) (rX r i')) → Ok (k32 (10 * (j : Int) + ((qSt w j : Int) - 1))) _ := fun g => hk32 _ (by
            rw [hst, if_pos ⟨by omega, g⟩]
            unfold cdI
            rw [if_neg (by omega), Int.toNat_natCast]
            omega)
          refine Ok.lk ?_
          rcases wLat_in hw hF.1 j (by omega) with e | ⟨i, hi, e⟩
          · rw [e] at hyes ⊢
            exact Ok.iteT rfl (hyes (Or.inl rfl))
          · obtain ⟨c1, c2, c3⟩ := cd_rX hw hF hi
            have hb1 := hb i hi
            have hr1 := rHr hw hF.1 hi
            have hS5 := rS_lt5 hw hF.1 hi
            have hx : cdI (wLat w r n j) = (cd (rX r i) : Int) := by
              unfold cdI
              rw [if_neg (by omega), e, Int.toNat_natCast]
            rw [hx]
            have e1 : iDiv (cd (rX r i) : Int) 10 = (r i : Int) := by
              rw [iDiv_id (by omega) (by omega) (by omega) (by omega)]
              omega
            have e2 : iRem (cd (rX r i) : Int) 10 = (rS r i : Int) := by
              rw [iRem_id (by omega) (by omega) (by omega) (by omega)]
              omega
            refine Ok.condF (P := (cd (rX r i) : Int) = -1) (ieq_id (by omega) (by omega) (by omega) (by omega)) (by omega) ?_
            have hE := hW1.end hw hF t1
            rw [t2, t3] at hE
            rw [show (qSt w j : Int) - 1 = ((rD r n j - 1 : Nat) : Int) by omega] at hyes ⊢
            refine Ok.eq hE ?_
            rw [e1, e2]
            refine Ok.eq (hW1.end hw hF hi) ?_
            refine Ok.cd (P := tE w (qS w D0 r n) (rX r i) < tE w (qS w D0 r n) (rX r i')) (by unfold tE; exact ilt_id (by omega) (by omega) (by omega) (by omega)) (fun g => ?_) (fun g => ?_)
            · refine hyes (Or.inr ?_)
              rw [e, Int.toNat_natCast]
              exact g
            · refine hk32 _ ?_
              rw [hst, if_neg, hx]
              intro g2
              rcases g2.2 with g3 | g3
              · omega
              · rw [e, Int.toNat_natCast] at g3
                exact g g3
    · subst hv'
      refine Ok.ld 0 rfl (by omega) (by omega) ?_
      rw [hW1.1.1, hn.1]
      refine Ok.condF (ilt_nat (by omega) (by omega)) (by omega) ?_
      exact hk23 _ rfl
end LW
