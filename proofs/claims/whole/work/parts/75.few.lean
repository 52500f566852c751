/-! ===== fewestLate, isDropped ===== -/
theorem Q_fewestLate : CaseQ P_X10_fewestLate P_X11_fewestLate := by
  refine Q_of (fun w => (((((0 + (if hasb (mh w (qN w)).2 0 then 1 else 0)) + (if hasb (mh w (qN w)).2 1 then 1 else 0)) + (if hasb (mh w (qN w)).2 2 then 1 else 0)) + (if hasb (mh w (qN w)).2 3 then 1 else 0)) + (if hasb (mh w (qN w)).2 4 then 1 else 0)) + (if hasb (mh w (qN w)).2 5 then 1 else 0)) (fun w h len a np G hI => ?_) (fun w G hw hp hm => ?_)
  · have hw := hI.1.1
    unfold P_X10_fewestLate
    refine Ok.bind (S_dropped hw hI.2.1) (fun z hz => ?_)
    have h64 := (mh_in hw (Nat.le_refl (qN w))).2.1
    rw [hz.1]
    refine Ok.eq (bit_ct ⟨(mh w (qN w)).2, h64⟩) ?_
    exact Ok.so ⟨hz.2, rfl⟩
  · have h64 := (mh_in hw (Nat.le_refl (qN w))).2.1
    unfold P_X11_fewestLate
    refine Ok.pu ?_
    have hm1 : MD w ((up2 G 56 3 0) 57) := by
      rw [up2_ne (by omega)]
      exact hm.1
    refine Ok.bind (M_dropped hw hm1) (fun z hz => ?_)
    have hk : KQ G z.2 := (KQ.up3 G 0).tr (KQ.of (fun b hb => hz.2 b (by omega)))
    rw [hz.1]
    refine Ok.forA (fun k v => v = it (fun i s => s + (if hasb (mh w (qN w)).2 i then 1 else 0)) k 0) 6 LF (LF_lt (by omega)) rfl (fun i hi again v hv hk2 => ?_) (fun again v hv => ?_)
    · subst hv
      refine Ok.condT (ilt_nat (b := 6) (by omega) (by omega)) hi ?_
      rw [t3_b h64 hi]
      exact hk2 _ rfl
    · subst hv
      refine Ok.iteF rfl ?_
      exact Ok.so ⟨hk, rfl⟩
/-- one call that answers a truth value -/
def CaseIB (p : mW → Option ((Int ⊕ Nat) × mW)) (q : mG → Option (Bool × mG)) : Prop := ∀ c W, IW c W → Ok (p W) (fun x => ∃ code : Nat, x.1 = .inl (code : Int) ∧ code ≤ 3 ∧ Ok (q x.2.2.2.1) (fun z => z.2 56 3 = (code : Int) ∧ (code = 0 → z.2 74 0 = b2i z.1) ∧ IW (c + 1) (x.2.1, (x.2.2.1, (z.2, x.2.2.2.2)))))
theorem law_caseB {p : mW → Option ((Int ⊕ Nat) × mW)} {q : mG → Option (Bool × mG)} {Q : ((Bool ⊕ Nat) × mW) → Prop} {k8 : mW → Option ((Bool ⊕ Nat) × mW)} (hc : CaseIB p q) {c : Nat} {W : mW} (hW : IW c W) (hk : ∀ W', IW (c + 1) W' → Ok (k8 W') Q) : Ok (notB (p W) fun v12 W13 =>
    (q W13.2.2.1).bind fun z17 =>
    (P_X11_thrown z17.2).bind fun v18 =>
    bif (ieq v18 v12) then
    letK (k8 (W13.1, (W13.2.1, (z17.2, W13.2.2.2)))) fun k20 =>
    bif (ieq v12 0) then
    (ald z17.2 74 1 0).bind fun v21 =>
    letK (fun (x305 : Int) =>
    bif (ieq (lcmpI v21 x305) 0) then
    k20
    else
    some (.inl false, (W13.1, (W13.2.1, (z17.2, W13.2.2.2))))) fun k307 =>
    bif z17.1 then
    k307 1
    else
    k307 0
    else
    k20
    else
    some (.inl false, (W13.1, (W13.2.1, (z17.2, W13.2.2.2))))) Q := by
  obtain ⟨⟨x, W'⟩, hx, code, rfl, h1, h2⟩ := hc c W hW
  rw [hx]
  show Ok ((q W'.2.2.1).bind _) Q
  refine Ok.bind h2 (fun z hz => ?_)
  obtain ⟨z1, z2, z3⟩ := hz
  refine Ok.eq (y := (code : Int)) (congrArg some z1) ?_
  refine Ok.iteT (by unfold ieq; exact decide_eq_true rfl) ?_
  refine Ok.lk ?_
  refine Ok.cd (ieq_id (by omega) (by omega) (by omega) (by omega)) (fun h0 => ?_) (fun h0 => ?_)
  · refine Ok.ld 0 rfl (by omega) (by omega) ?_
    rw [z2 (by omega)]
    refine Ok.lk ?_
    cases z.1
    · exact Ok.iteF rfl (Ok.iteT (by decide) (hk _ z3))
    · exact Ok.iteT rfl (Ok.iteT (by decide) (hk _ z3))
  · exact hk _ z3
theorem C_isDropped {p1 : Int} (i1 : I32 p1) : CaseIB (P_L_isDropped p1) (P_X11_isDropped p1) := by
  intro c W hW
  obtain ⟨w, h, len, a, np, G, n, k, rfl, hI, hn, hk⟩ := id hW
  have hw := hI.1.1
  have hx := hI.2.1
  have hq := hw.n
  have h64 := (mh_in hw (Nat.le_refl (qN w))).2.1
  have hM : ∀ G', IV w h len a np G' → Ok (P_X11_isDropped p1 G') (fun z => KQ G' z.2 ∧ z.2 74 = G' 74 ∧ (¬ (0 ≤ p1 ∧ p1 < (qN w : Int)) → z.2 56 3 = 1) ∧ ((0 ≤ p1 ∧ p1 < (qN w : Int)) → z.2 56 3 = 0 ∧ z.1 = hasb (mh w (qN w)).2 p1.toNat)) := by
    intro G' hI'
    have hm := hI'.2.2.2.2.1.1
    unfold P_X11_isDropped
    rw [M_isJob hw hm i1]
    refine Ok.eq rfl ?_
    refine Ok.fits rfl b2i_T b2i_T (fun h1 => ?_) (fun h1 h2 => absurd trivial h2) (fun h1 h2 h3 => absurd trivial h3) (fun h1 _ _ => ?_)
    · refine Ok.lk ?_
      exact Ok.so ⟨(KF.up3 G' 1).1, (KF.up3 G' 1).2, fun _ => by dsimp only; rw [up2_eq, up1_eq], fun g => absurd g h1⟩
    · refine Ok.lk ?_
      refine Ok.iteT rfl ?_
      have hm1 : MD w ((up2 G' 56 3 0) 57) := by
        rw [up2_ne (by omega)]
        exact hm
      refine Ok.bind (M_dropped hw hm1) (fun z hz => ?_)
      have hkf : KF G' z.2 := (KF.up3 G' 0).tr (KF.of (fun b hb => hz.2 b (by omega)))
      have h3 : z.2 56 3 = 0 := by
        rw [hz.2 56 (by omega)]
        dsimp only
        rw [up2_eq, up1_eq]
      obtain ⟨j, rfl⟩ := Int.eq_ofNat_of_zero_le h1.1
      rw [hz.1, t3_b h64 (by omega : j < 6), Int.toNat_natCast]
      cases hb : hasb (mh w (qN w)).2 j
      · refine Ok.iteF (by decide) (Ok.so ⟨hkf.1, hkf.2, fun g => absurd h1 g, fun _ => ⟨h3, rfl⟩⟩)
      · refine Ok.iteT (by decide) (Ok.so ⟨hkf.1, hkf.2, fun g => absurd h1 g, fun _ => ⟨h3, rfl⟩⟩)
  unfold P_L_isDropped P_X10_isDropped
  rw [needJob_eq hw hx i1]
  by_cases h1 : 0 ≤ p1 ∧ p1 < (qN w : Int)
  · rw [if_pos h1]
    obtain ⟨⟨d, G4⟩, hz, hz1, hz2⟩ := S_dropped hw hx
    obtain ⟨j, rfl⟩ := Int.eq_ofNat_of_zero_le h1.1
    have hz1 : d = ((mh w (qN w)).2 : Int) := hz1
    subst hz1
    have hg : ∀ x : Int, x = b2i (hasb (mh w (qN w)).2 j) → Ok ((ast G4 74 1 0 x).bind fun G6 => some (Sum.inl (β := Nat) (0 : Int), (rOf a, (tlOf a, (G6, (n, k)))))) (fun x => ∃ code : Nat, x.1 = .inl (code : Int) ∧ code ≤ 3 ∧ Ok (P_X11_isDropped (j : Int) x.2.2.2.1) (fun z => z.2 56 3 = (code : Int) ∧ (code = 0 → z.2 74 0 = b2i z.1) ∧ IW (c + 1) (x.2.1, (x.2.2.1, (z.2, x.2.2.2.2))))) := by
      intro x hxe
      refine Ok.sto 0 rfl (by omega) (by omega) (Ok.so ⟨0, rfl, by omega, ?_⟩)
      have hk2 : KQ G (up2 G4 74 0 x) := hz2.tr (KQ.b74 (fun b hb => up2_ne hb))
      refine Ok.w (hM _ (hI.kq hk2)) (fun z hz => ?_)
      obtain ⟨y1, y2, y3, y4⟩ := hz
      obtain ⟨y5, y6⟩ := y4 h1
      refine ⟨y5, fun _ => ?_, hW.kq (hk2.tr y1) (by omega) (by omega)⟩
      rw [y2]
      dsimp only
      rw [up2_eq, up1_eq, y6, Int.toNat_natCast, hxe]
    have e1 : ∀ W' : mW, W'.2.2.1 = G → (thrB (some (Sum.inl (β := Nat) (), W')) fun v2 W3 => (P_X5_droppedJobs W3.2.2.1).bind fun z4 => bif (ieq (iAnd z4.1 (iShl 1 (j : Int))) 0) then some (Sum.inl (β := Nat) false, (W3.1, (W3.2.1, (z4.2, W3.2.2.2)))) else some (Sum.inl (β := Nat) true, (W3.1, (W3.2.1, (z4.2, W3.2.2.2))))) = some (Sum.inl (β := Nat) (hasb (mh w (qN w)).2 j), (W'.1, (W'.2.1, (G4, W'.2.2.2)))) := by
      intro W' e
      show ((P_X5_droppedJobs W'.2.2.1).bind fun z4 => bif (ieq (iAnd z4.1 (iShl 1 (j : Int))) 0) then some (Sum.inl (β := Nat) false, (W'.1, (W'.2.1, (z4.2, W'.2.2.2)))) else some (Sum.inl (β := Nat) true, (W'.1, (W'.2.1, (z4.2, W'.2.2.2))))) = _
      rw [e, hz]
      show (bif (ieq (iAnd ((mh w (qN w)).2 : Int) (iShl 1 (j : Int))) 0) then some (Sum.inl (β := Nat) false, (W'.1, (W'.2.1, (G4, W'.2.2.2)))) else some (Sum.inl (β := Nat) true, (W'.1, (W'.2.1, (G4, W'.2.2.2))))) = _
      rw [t1_b h64 (by omega : j < 6)]
      cases hasb (mh w (qN w)).2 j <;> rfl
    rw [e1 _ rfl, ctcB_v]
    cases hb : hasb (mh w (qN w)).2 j
    · exact hg 0 (by rw [hb]; rfl)
    · exact hg 1 (by rw [hb]; rfl)
  · rw [if_neg h1]
    refine Ok.so ⟨1, rfl, by omega, ?_⟩
    refine Ok.w (hM G hI) (fun z hz => ?_)
    exact ⟨hz.2.2.1 h1, fun g => absurd g (by omega), hW.kq hz.1 (Nat.le_refl _) (Nat.le_refl _)⟩
