/-! ===== meanEnd, use: both sides ===== -/
/-- one call that answers a double, or a float -/
def CaseIR {T : Type} (p : mW → Option ((Int ⊕ Nat) × mW)) (q : mG → Option (T × mG)) (R : mG → T → Prop) : Prop := ∀ c W, IW c W → Ok (p W) (fun x => ∃ code : Nat, x.1 = .inl (code : Int) ∧ code ≤ 3 ∧ Ok (q x.2.2.2.1) (fun z => z.2 56 3 = (code : Int) ∧ (code = 0 → R z.2 z.1) ∧ IW (c + 1) (x.2.1, (x.2.2.1, (z.2, x.2.2.2.2)))))
def RD2 (G : mG) (x : UInt64) : Prop := dld G 75 1 0 = some x ∧ FP.dcmp x x = some .eq
def RF2 (G : mG) (x : UInt32) : Prop := ∃ d, dld G 75 1 0 = some d ∧ ftd x = some d ∧ FP.dcmp d d = some .eq
theorem law_caseR {T : Type} {p : mW → Option ((Int ⊕ Nat) × mW)} {q : mG → Option (T × mG)} {R : mG → T → Prop} {Q : ((Bool ⊕ Nat) × mW) → Prop} {k8 : mW → Option ((Bool ⊕ Nat) × mW)} {body : mW → T × mG → Option ((Bool ⊕ Nat) × mW) → Option ((Bool ⊕ Nat) × mW)} (hc : CaseIR p q R) (hb : ∀ (W' : mW) (z : T × mG) (k : Option ((Bool ⊕ Nat) × mW)), R z.2 z.1 → Ok k Q → Ok (body W' z k) Q) {c : Nat} {W : mW} (hW : IW c W) (hk : ∀ W', IW (c + 1) W' → Ok (k8 W') Q) : Ok (notB (p W) fun v12 W13 =>
    (q W13.2.2.1).bind fun z17 =>
    (P_X11_thrown z17.2).bind fun v18 =>
    bif (ieq v18 v12) then
    letK (k8 (W13.1, (W13.2.1, (z17.2, W13.2.2.2)))) fun k20 =>
    bif (ieq v12 0) then
    body W13 z17 k20
    else
    k20
    else
    some (.inl false, (W13.1, (W13.2.1, (z17.2, W13.2.2.2))))) Q := by
  obtain ⟨⟨x, W'⟩, hx, code, rfl, h1, h2⟩ := hc c W hW
  rw [hx]
  show Ok ((q W'.2.2.1).bind _) Q
  refine Ok.bind h2 (fun z hz => ?_)
  obtain ⟨z1, z2, z3⟩ := hz
  refine Ok.eq (y := (code : Int)) (congrArg some z1) ?_
  refine Ok.iteT (by unfold ieq; exact decide_eq_true rfl) ?_
  refine Ok.lk ?_
  refine Ok.cd (ieq_id (by omega) (by omega) (by omega) (by omega)) (fun h0 => ?_) (fun h0 => ?_)
  · exact hb _ _ _ (z2 (by omega)) (hk _ z3)
  · exact hk _ z3
theorem cmp_0 : ieq (Op.cmpValue (some .eq) .l).toInt 0 = true := by decide +kernel
theorem KQ.b75 {G G' : mG} (h : ∀ b, b ≠ 75 → G' b = G b) : KQ G G' := KQ.of (fun b hb => h b (by omega))
theorem dst_ok {X : Type} {G : mG} {x : UInt64} {f : mG → Option X} : (dst G 75 1 0 x).bind f = f (up2 G 75 0 (x.toNat : Int)) := rfl
/-- an end's bound -/
theorem end_bd {w : wS} (hw : Wok w) {r : Nat → Nat} {n : Nat} (hF : qF w r n) : 0 ≤ qVal w 0 (tEn w (qS w D0 r n)) ∧ qVal w 0 (tEn w (qS w D0 r n)) ≤ 6100 := by
  have hE : ∀ j, j < qN w → 0 ≤ tEn w (qS w D0 r n) j ∧ tEn w (qS w D0 r n) j ≤ 6100 := by
    intro j hj
    rw [tEn_full hF hj]
    unfold tRd
    rw [qS_dn]
    by_cases h : rD r n j = 0
    · have := hw.rel hj
      rw [if_pos h]
      omega
    · rw [if_neg h]
      obtain ⟨i, a1, a2, a3, a4⟩ := rX_of (r := r) (n := n) (j := j) (s := rD r n j - 1) (by omega)
      have h1 := qS_b0 hw hF.1 i a1
      have h2 := (qS_bd hw DB0 hF.1 i a1).1
      have h3 := qV_30 hw hF.1
      have h4 := rHr hw hF.1 a1
      rw [a4, show 5 * j + (rD r n j - 1) = 5 * j + rD r n j - 1 by omega] at h1 h2 h4
      omega
  unfold qVal
  have : ∀ k, k ≤ qN w → 0 ≤ qValK w 0 (tEn w (qS w D0 r n)) k ∧ qValK w 0 (tEn w (qS w D0 r n)) k ≤ 6100 := by
    intro k
    induction k with
    | zero => exact fun _ => ⟨Int.le_refl 0, by show (0 : Int) ≤ 6100; omega⟩
    | succ k ih =>
      intro hk
      have h1 := ih (by omega)
      have h2 := hE k (by omega)
      show 0 ≤ max (qValK w 0 (tEn w (qS w D0 r n)) k) (tEn w (qS w D0 r n) k) ∧ max (qValK w 0 (tEn w (qS w D0 r n)) k) (tEn w (qS w D0 r n) k) ≤ 6100
      omega
  exact this _ (Nat.le_refl _)
/-- the answers -/
def vMean (w : wS) : UInt64 := FP.ddiv (FP.i2d (Int32.ofInt (qVal w 1 (tEn w (qS w D0 (qRw w) (qTot w).toNat))))) (FP.i2d (Int32.ofInt (qN w : Int)))
theorem vMean_ok {w : wS} (hw : Wok w) : ddv (FP.i2d (Int32.ofInt (qVal w 1 (tEn w (qS w D0 (qRw w) (qTot w).toNat))))) (FP.i2d (Int32.ofInt (qN w : Int))) = some (vMean w) ∧ FP.dcmp (vMean w) (vMean w) = some .eq := by
  have hn := hw.n
  exact ddiv_ok (nz_d ⟨qN w, by omega⟩ (by show 1 ≤ qN w; omega))
theorem M_meanEnd {w : wS} {h : Nat → wS} {len a np : Nat} {G : mG} (hI : IV w h len a np G) : Ok (P_X11_meanEnd G) (fun z => KQ G z.2 ∧ z.2 75 = G 75 ∧ (¬ w 1 15 = 1 → z.2 56 3 = 1) ∧ (w 1 15 = 1 → z.2 56 3 = 0 ∧ z.1 = vMean w)) := by
  have hw := hI.1.1
  have hm := hI.2.2.2.2.1
  have hn := hw.n
  unfold P_X11_meanEnd
  refine Ok.bind (M_isPlanned hw hI.1.2.1 hm) (fun z5 hz5 => ?_)
  rw [hz5.2.1]
  have h75 := hz5.1 75 (by omega)
  refine Ok.fits rfl b2i_T b2i_T (fun h1 => ?_) (fun h1 h2 => absurd trivial h2) (fun h1 h2 h3 => absurd trivial h3) (fun h1 _ _ => ?_)
  · exact Ok.so ⟨hz5.1.kq.tr (KQ.up3 _ _), by dsimp only; rw [up2_ne (by omega), h75], fun _ => by dsimp only; rw [up2_eq, up1_eq], fun g => absurd g h1⟩
  · refine Ok.iteT rfl ?_
    have hF := (hI.plan h1).1
    have hm5 : MD w (z5.2 57) := by
      rw [hz5.1 57 (by omega)]
      exact hm.1
    obtain ⟨E1, E2⟩ := MK_E hw hm5 hF (hz5.2.2 h1)
    have hm6 : MD w ((up2 z5.2 56 3 0) 57) := by
      rw [up2_ne (by omega)]
      exact hm5
    have hE6 : ∀ j, j < qN w → (up2 z5.2 56 3 0) 61 j = tEn w (qS w D0 (qRw w) (qTot w).toNat) j := fun j hj => by
      rw [up2_ne (by omega)]
      exact E1 j hj
    dsimp only
    refine Ok.jn1 (fun y => y = qVal w 1 (tEn w (qS w D0 (qRw w) (qTot w).toNat))) (fun y hy => ?_) (fun k8 hk8 => ?_)
    · subst hy
      refine Ok.ld 0 rfl (by omega) (by omega) ?_
      rw [hm6.1, hn.1]
      refine Ok.condF (ieq_nat (b := 0) (by omega) (by omega)) (by omega) ?_
      refine Ok.ld 0 rfl (by omega) (by omega) ?_
      rw [hm6.1, hn.1]
      refine Ok.eq (vMean_ok hw).1 ?_
      exact Ok.so ⟨hz5.1.kq.tr (KQ.up3 _ _), by dsimp only; rw [up2_ne (by omega), h75], fun g => absurd h1 g, fun _ => ⟨by dsimp only; rw [up2_eq, up1_eq], rfl⟩⟩
    · refine Ok.forA (fun k v => v = qValK w 1 (tEn w (qS w D0 (qRw w) (qTot w).toNat)) k) (qN w) LF (LF_lt (by omega)) rfl (fun j hj again v hv hk => ?_) (fun again v hv => ?_)
      · subst hv
        refine Ok.ld 0 rfl (by omega) (by omega) ?_
        rw [hm6.1, hn.1]
        refine Ok.condT (ilt_nat (by omega) (by omega)) hj ?_
        refine Ok.ld j rfl (by omega) (by omega) ?_
        rw [hE6 j hj]
        exact hk _ rfl
      · subst hv
        refine Ok.ld 0 rfl (by omega) (by omega) ?_
        rw [hm6.1, hn.1]
        refine Ok.condF (ilt_nat (by omega) (by omega)) (by omega) ?_
        exact hk8 _ rfl
theorem C_meanEnd : CaseIR P_L_meanEnd P_X11_meanEnd RD2 := by
  intro c W hW
  obtain ⟨w, h, len, a, np, G, n, k, rfl, hI, hn, hk⟩ := id hW
  have hw := hI.1.1
  have hx := hI.2.1
  have hq := hw.n
  unfold P_L_meanEnd P_X10_meanEnd
  rw [needPlan_eq hw hx]
  by_cases h1 : w 1 15 = 1
  · rw [if_pos h1]
    obtain ⟨hF, hr, hO, hT⟩ := hI.plan h1
    have e : (thrB (some (Sum.inl (β := Nat) (), (rOf a, (tlOf a, (G, (n, k)))))) fun v1 W2 => bif (ieq (W2.2.2.1 1 0) 0) then some (Sum.inl (β := Nat) FP.dconst0, W2) else (P_X8_aimed 17 1 W2.2.2.1).bind fun v3 => (ddv (FP.i2d (Int32.ofInt v3)) (FP.i2d (Int32.ofInt (W2.2.2.1 1 0)))).bind fun v4 => some (Sum.inl (β := Nat) v4, W2)) = some (Sum.inl (β := Nat) (vMean w), (rOf a, (tlOf a, (G, (n, k))))) := by
      refine Ok.get ?_
      show Ok (bif (ieq (G 1 0) 0) then _ else (P_X8_aimed 17 1 G).bind fun v3 => (ddv (FP.i2d (Int32.ofInt v3)) (FP.i2d (Int32.ofInt (G 1 0)))).bind fun v4 => _) _
      rw [hx.n hw]
      refine Ok.condF (ieq_nat (b := 0) (by omega) (by omega)) (by omega) ?_
      refine Ok.eq (S_aimed hw hx hF.1 DB0 hT (a := 1) (by omega)) ?_
      refine Ok.eq (vMean_ok hw).1 ?_
      exact Ok.so rfl
    rw [e, ctcB_v, dst_ok]
    refine Ok.so ⟨0, rfl, by omega, ?_⟩
    have hk2 : KQ G (up2 G 75 0 ((vMean w).toNat : Int)) := KQ.b75 (fun b hb => up2_ne hb)
    refine Ok.w (M_meanEnd (hI.kq hk2)) (fun z hz => ?_)
    obtain ⟨y1, y2, y3, y4⟩ := hz
    obtain ⟨y5, y6⟩ := y4 h1
    refine ⟨y5, fun _ => ⟨?_, ?_⟩, hW.kq (hk2.tr y1) (by omega) (by omega)⟩
    · show some (UInt64.ofNat (z.2 75 0).toNat) = some z.1
      rw [y2, y6]
      exact congrArg some (dld_dst (G := G) (a := 75) (i := 0) (x := vMean w))
    · rw [y6]
      exact (vMean_ok hw).2
  · rw [if_neg h1]
    refine Ok.so ⟨1, rfl, by omega, ?_⟩
    refine Ok.w (M_meanEnd hI) (fun z hz => ?_)
    exact ⟨hz.2.2.1 h1, fun g => absurd g (by omega), hW.kq hz.1 (Nat.le_refl _) (Nat.le_refl _)⟩
def vUse (w : wS) (m : Nat) : UInt32 := if qVal w 0 (tEn w (qS w D0 (qRw w) (qTot w).toNat)) = 0 then FP.fconst0 else FP.fdiv (FP.i2f (Int32.ofInt (hOn w m (qN w)))) (FP.i2f (Int32.ofInt (qVal w 0 (tEn w (qS w D0 (qRw w) (qTot w).toNat)))))
theorem vUse_ok {w : wS} (hw : Wok w) (hF : qF w (qRw w) (qTot w).toNat) {m : Nat} (h : qVal w 0 (tEn w (qS w D0 (qRw w) (qTot w).toNat)) ≠ 0) : fdv (FP.i2f (Int32.ofInt (hOn w m (qN w)))) (FP.i2f (Int32.ofInt (qVal w 0 (tEn w (qS w D0 (qRw w) (qTot w).toNat))))) = some (vUse w m) := by
  have hb := end_bd hw hF
  unfold vUse
  rw [if_neg h]
  exact (fdiv_ok (nz_f' (by omega))).1
theorem vUse_d {w : wS} (hw : Wok w) (hF : qF w (qRw w) (qTot w).toNat) {m : Nat} : ∃ d, ftd (vUse w m) = some d ∧ FP.dcmp d d = some .eq := by
  have hb := end_bd hw hF
  unfold vUse
  by_cases h : qVal w 0 (tEn w (qS w D0 (qRw w) (qTot w).toNat)) = 0
  · rw [if_pos h]
    exact f2d_ok (by decide +kernel)
  · rw [if_neg h]
    exact (fdiv_ok (nz_f' (by omega))).2
theorem M_use {w : wS} {h : Nat → wS} {len a np : Nat} {G : mG} {p1 : Int} (i1 : I32 p1) (hI : IV w h len a np G) : Ok (P_X11_use p1 G) (fun z => KQ G z.2 ∧ z.2 75 = G 75 ∧ (¬ (0 ≤ p1 ∧ p1 < 4) → z.2 56 3 = 1) ∧ ((0 ≤ p1 ∧ p1 < 4) → ¬ w 1 15 = 1 → z.2 56 3 = 2) ∧ ((0 ≤ p1 ∧ p1 < 4) → w 1 15 = 1 → z.2 56 3 = 0 ∧ z.1 = vUse w p1.toNat)) := by
  have hw := hI.1.1
  have hm := hI.2.2.2.2.1
  have hn := hw.n
  unfold P_X11_use
  rw [M_in i1 (i32_k (by omega)) (i32_k (by omega))]
  refine Ok.eq rfl ?_
  refine Ok.bind (M_isPlanned hw hI.1.2.1 hm) (fun z5 hz5 => ?_)
  rw [hz5.2.1]
  have h75 := hz5.1 75 (by omega)
  have hz : ∀ x : Int, (up2 z5.2 56 3 x) 75 = G 75 := fun x => by rw [up2_ne (by omega), h75]
  have hz3 : ∀ x : Int, (up2 z5.2 56 3 x) 56 3 = x := fun x => by rw [up2_eq, up1_eq]
  refine Ok.fits rfl rfl b2i_T (fun h1 => ?_) (fun h1 h2 => ?_) (fun h1 h2 h3 => absurd trivial h3) (fun h1 h2 _ => ?_)
  · exact Ok.so ⟨hz5.1.kq.tr (KQ.up3 _ _), hz 1, fun _ => hz3 1, fun g => absurd ⟨g.1, by omega⟩ h1, fun g => absurd ⟨g.1, by omega⟩ h1⟩
  · exact Ok.so ⟨hz5.1.kq.tr (KQ.up3 _ _), hz 2, fun g => absurd ⟨h1.1, by omega⟩ g, fun _ _ => hz3 2, fun _ g => absurd g h2⟩
  · refine Ok.iteT rfl ?_
    have hF := (hI.plan h2).1
    have hm5 : MD w (z5.2 57) := by
      rw [hz5.1 57 (by omega)]
      exact hm.1
    obtain ⟨E1, E2⟩ := MK_E hw hm5 hF (hz5.2.2 h2)
    have hm6 : MD w ((up2 z5.2 56 3 0) 57) := by
      rw [up2_ne (by omega)]
      exact hm5
    have hPE := M_planEnd hw hm6 (E := tEn w (qS w D0 (qRw w) (qTot w).toNat)) (fun j hj => by rw [up2_ne (by omega)]; exact E1 j hj) E2
    have hb := end_bd hw hF
    refine Ok.eq hPE ?_
    refine Ok.cd (P := qVal w 0 (tEn w (qS w D0 (qRw w) (qTot w).toNat)) = 0) (ieq_id (by omega) (by omega) (by omega) (by omega)) (fun g => ?_) (fun g => ?_)
    · refine Ok.so ⟨hz5.1.kq.tr (KQ.up3 _ _), hz 0, fun g => absurd ⟨h1.1, by omega⟩ g, fun _ g => absurd h2 g, fun _ _ => ⟨hz3 0, ?_⟩⟩
      unfold vUse
      rw [if_pos g]
    · obtain ⟨m, rfl⟩ := Int.eq_ofNat_of_zero_le h1.1
      refine Ok.eq (M_hoursOn hw hm6 (m := m) (by omega)) ?_
      refine Ok.eq hPE ?_
      refine Ok.eq (vUse_ok hw hF (m := m) g) ?_
      exact Ok.so ⟨hz5.1.kq.tr (KQ.up3 _ _), hz 0, fun g => absurd ⟨h1.1, by omega⟩ g, fun _ g => absurd h2 g, fun _ _ => ⟨hz3 0, rfl⟩⟩
theorem C_use {p1 : Int} (i1 : I32 p1) : CaseIR (P_L_use p1) (P_X11_use p1) RF2 := by
  intro c W hW
  obtain ⟨w, h, len, a, np, G, n, k, rfl, hI, hn, hk⟩ := id hW
  have hw := hI.1.1
  have hx := hI.2.1
  have hq := hw.n
  unfold P_L_use P_X10_use
  rw [needMachine_eq i1]
  by_cases h0 : 0 ≤ p1 ∧ p1 < 4
  · rw [if_pos h0]
    show Ok (ctcB (thrB (P_X10_needPlan (rOf a, (tlOf a, (G, (n, k))))) _) _ _ _ _) _
    rw [needPlan_eq hw hx]
    by_cases h1 : w 1 15 = 1
    · rw [if_pos h1]
      obtain ⟨hF, hr, hO, hT⟩ := hI.plan h1
      have hb := end_bd hw hF
      obtain ⟨m, rfl⟩ := Int.eq_ofNat_of_zero_le h0.1
      have e : (thrB (some (Sum.inl (β := Nat) (), (rOf a, (tlOf a, (G, (n, k)))))) fun v4 W5 => (P_X8_aimed 17 0 W5.2.2.1).bind fun v6 => bif (ieq v6 0) then some (Sum.inl (β := Nat) FP.fconst0, W5) else (P_X7_hoursOn (m : Int) W5.2.2.1).bind fun v7 => (fdv (FP.i2f (Int32.ofInt v7)) (FP.i2f (Int32.ofInt v6))).bind fun v8 => some (Sum.inl (β := Nat) v8, W5)) = some (Sum.inl (β := Nat) (vUse w m), (rOf a, (tlOf a, (G, (n, k))))) := by
        refine Ok.get ?_
        show Ok ((P_X8_aimed 17 0 G).bind fun v6 => bif (ieq v6 0) then some (Sum.inl (β := Nat) FP.fconst0, (rOf a, (tlOf a, (G, (n, k))))) else (P_X7_hoursOn (m : Int) G).bind fun v7 => (fdv (FP.i2f (Int32.ofInt v7)) (FP.i2f (Int32.ofInt v6))).bind fun v8 => some (Sum.inl (β := Nat) v8, (rOf a, (tlOf a, (G, (n, k)))))) _
        refine Ok.eq (S_aimed hw hx hF.1 DB0 hT (a := 0) (by omega)) ?_
        refine Ok.cd (P := qVal w 0 (tEn w (qS w D0 (qRw w) (qTot w).toNat)) = 0) (ieq_id (by omega) (by omega) (by omega) (by omega)) (fun g => ?_) (fun g => ?_)
        · refine Ok.so ?_
          unfold vUse
          rw [if_pos g]
        · refine Ok.eq (S_hoursOn hw hx (m := m) (by omega)) ?_
          refine Ok.eq (vUse_ok hw hF (m := m) g) ?_
          exact Ok.so rfl
      obtain ⟨d, d1, d2⟩ := vUse_d hw hF (m := m)
      rw [e, ctcB_v]
      refine Ok.eq d1 ?_
      rw [dst_ok]
      refine Ok.so ⟨0, rfl, by omega, ?_⟩
      have hk2 : KQ G (up2 G 75 0 (d.toNat : Int)) := KQ.b75 (fun b hb => up2_ne hb)
      refine Ok.w (M_use i1 (hI.kq hk2)) (fun z hz => ?_)
      obtain ⟨y1, y2, y3, y4, y7⟩ := hz
      obtain ⟨y5, y6⟩ := y7 h0 h1
      refine ⟨y5, fun _ => ⟨d, ?_, ?_, d2⟩, hW.kq (hk2.tr y1) (by omega) (by omega)⟩
      · show some (UInt64.ofNat (z.2 75 0).toNat) = some d
        rw [y2]
        exact congrArg some (dld_dst (G := G) (a := 75) (i := 0) (x := d))
      · rw [y6, Int.toNat_natCast]
        exact d1
    · rw [if_neg h1]
      refine Ok.so ⟨2, rfl, by omega, ?_⟩
      refine Ok.w (M_use i1 hI) (fun z hz => ?_)
      exact ⟨hz.2.2.2.1 h0 h1, fun g => absurd g (by omega), hW.kq hz.1 (Nat.le_refl _) (Nat.le_refl _)⟩
  · rw [if_neg h0]
    refine Ok.so ⟨1, rfl, by omega, ?_⟩
    refine Ok.w (M_use i1 hI) (fun z hz => ?_)
    exact ⟨hz.2.2.1 h0, fun g => absurd g (by omega), hW.kq hz.1 (Nat.le_refl _) (Nat.le_refl _)⟩
