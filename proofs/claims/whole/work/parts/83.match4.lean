/-! ===== match, workerOf ===== -/
theorem S_assign {w : wS} {G : mG} {pm : Nat} (hw : Wok w) (hx : XS w G) (hp : pm < 16) : Ok (P_X1_assign (pm : Int) G) (fun G' => G' 51 3 = (mtF w pm 2401).1 ∧ (0 ≤ (mtF w pm 2401).1 → ∀ m, m < 4 → G' 53 m = mtR (mtF w pm 2401).2 m) ∧ KQ G G') := by
  unfold P_X1_assign
  refine Ok.pu ?_
  have hx2 : XS w (up2 G 51 3 (-1)) := fun a i ha => by
    have := ha.lo
    rw [up2_ne (by omega)]
    exact hx a i ha
  have hfl := flM_lt hw hp
  have hfil : P_X1_fillable (pm : Int) (up2 G 51 3 (-1)) = some (flM w pm : Int) := by
    refine Ok.get ?_
    unfold P_X1_fillable
    refine Ok.jn1 (fun y => y = (unM w 6 : Int)) (fun y hy => ?_) (fun k4 hk4 => ?_)
    · subst hy
      rw [hfl.1]
      exact Ok.so rfl
    · refine Ok.forA (fun k v => v = (unM w k : Int)) 6 LF (LF_lt (by omega)) rfl (fun u hu again v hv hk => ?_) (fun again v hv => ?_)
      · subst hv
        refine Ok.condT (ilt_nat (b := 6) (by omega) (by omega)) hu ?_
        refine Ok.ld u rfl (by omega) (by omega) ?_
        rw [hx2.at u (by simp [aok, asz]; omega), (wkM_lt hw hu).1]
        refine hk _ ?_
        exact ((b16_all ⟨unM w u, unM_lt hw (by omega)⟩ ⟨wkM w u, wkM_16 hw hu⟩).1).1
      · subst hv
        refine Ok.iteF rfl ?_
        exact hk4 _ rfl
  refine Ok.eq hfil ?_
  have h0 : MX w pm (0 * 7 ^ (4 - 0)) 0 0 (up2 G 51 3 (-1)) (up2 G 51 3 (-1)) := ⟨by rw [up2_eq, up1_eq, Nat.zero_mul]; rfl, fun g => absurd g (by rw [Nat.zero_mul]; show ¬ (0 : Int) ≤ -1; omega), fun m hm => absurd hm (Nat.not_lt_zero _), fun _ _ _ _ => rfl⟩
  refine Ok.bind (S_match hw hp hx2 6 0 0 (up2 G 51 3 (-1)) (by omega) (by omega) rfl h0) (fun G4 hG4 => Ok.so ?_)
  have e : (0 + 1) * 7 ^ (4 - 0) = 2401 := by decide
  rw [e] at hG4
  refine ⟨hG4.1, hG4.2.1, KQ.of (fun b hb => ?_)⟩
  rw [hG4.2.2.2 b (by omega) (by omega) (by omega), up2_ne (by omega)]
theorem mtF_top {w : wS} {pm : Nat} : 0 ≤ (mtF w pm 2401).1 := by
  have hb := mtF_bd (w := w) (pm := pm) (n := 2400)
  have hs := mtF_s (w := w) (pm := pm) (n := 2400)
  have he : evc w pm 2400 4 = (0, (0, true)) := by
    rw [evc_s, evc_s, evc_s, evc_s]
    rfl
  have : mtF w pm 2401 = mtS w pm 2400 (mtF w pm 2400) := hs
  rw [this]
  unfold mtS
  rw [he]
  split
  · exact Int.le_refl 0
  · next h =>
    have h2 : ¬ (mtF w pm 2400).1 < 0 := fun g => h ⟨rfl, g⟩
    omega
theorem C_match {p1 : Int} (i1 : I32 p1) : CaseX (P_X10_match p1) (fun E => if E = 1 then 1 else 0) (P_X11_match p1) := by
  refine CaseY_of (fun _ => 0 ≤ p1 ∧ p1 ≤ 15) (fun _ => True) (fun _ => True) (fun w => (mtF w p1.toNat 2401).1) (fun w h len a np G hI => ?_) (fun w h len a np G n k hI => ?_)
  · have hw := hI.1.1
    have hm := hI.2.2.2.2.1.1
    unfold P_X11_match
    rw [M_in i1 (i32_k (by omega)) (i32_k (by omega))]
    refine Ok.eq rfl ?_
    refine QM.fits rfl T_T T_T (fun _ => rfl) (KF.rf G) (fun h1 _ _ => ?_)
    refine Ok.iteT rfl ?_
    obtain ⟨pm, rfl⟩ := Int.eq_ofNat_of_zero_le h1.1
    have hm6 : MD w ((up2 G 56 3 0) 57) := by
      rw [up2_ne (by omega)]
      exact hm
    refine Ok.bind (M_matches hw hm6 (pm := pm) (by omega)) (fun z hz => ?_)
    refine Ok.so ⟨?_, KF.of (fun b hb => hz.2.2 b (by omega)), congrFun (hz.2.2 56 (by omega)) 3⟩
    dsimp only
    rw [hz.1, Int.toNat_natCast]
  · have hw := hI.1.1
    have hx := hI.2.1
    unfold P_X10_match
    refine Ok.need (needMachines_eq i1) (fun h1 => ?_) (fun h1 => QC.e1 1 (by omega) rfl h1)
    obtain ⟨pm, rfl⟩ := Int.eq_ofNat_of_zero_le h1.1
    refine Ok.bind (S_assign hw hx (pm := pm) (by omega)) (fun G4 hG4 => ?_)
    rw [hG4.1]
    exact Ok.so ⟨G4, hG4.2.2, Or.inl ⟨h1, trivial, trivial, rfl⟩⟩
theorem C_workerOf {p1 p2 : Int} (i1 : I32 p1) (i2 : I32 p2) : CaseX (P_X10_workerOf p1 p2) (fun E => if E = 2 then 0 else E + 1) (P_X11_workerOf p1 p2) := by
  refine CaseY_of (fun _ => 0 ≤ p2 ∧ p2 < 4) (fun _ => 0 ≤ p1 ∧ p1 ≤ 15) (fun _ => True) (fun w => mtR (mtF w p1.toNat 2401).2 p2.toNat) (fun w h len a np G hI => ?_) (fun w h len a np G n k hI => ?_)
  · have hw := hI.1.1
    have hm := hI.2.2.2.2.1.1
    unfold P_X11_workerOf
    rw [M_in i2 (i32_k (by omega)) (i32_k (by omega))]
    refine Ok.eq rfl ?_
    rw [M_in i1 (i32_k (by omega)) (i32_k (by omega))]
    refine Ok.eq rfl ?_
    refine QM.fits (c1 := 0 ≤ p2 ∧ p2 < 4) (by rw [show decide (0 ≤ p2 ∧ p2 ≤ 3) = decide (0 ≤ p2 ∧ p2 < 4) from decide_eq_decide.mpr (by omega)]) rfl T_T (fun _ => rfl) (KF.rf G) (fun h1 h2 _ => ?_)
    refine Ok.iteT rfl ?_
    obtain ⟨m, rfl⟩ := Int.eq_ofNat_of_zero_le h1.1
    obtain ⟨pm, rfl⟩ := Int.eq_ofNat_of_zero_le h2.1
    have hm6 : MD w ((up2 G 56 3 0) 57) := by
      rw [up2_ne (by omega)]
      exact hm
    refine Ok.bind (M_matches hw hm6 (pm := pm) (by omega)) (fun z hz => ?_)
    refine Ok.ld m rfl (by omega) (by omega) ?_
    rw [hz.2.1 mtF_top m (by omega)]
    exact Ok.so ⟨rfl, KF.of (fun b hb => hz.2.2 b (by omega)), congrFun (hz.2.2 56 (by omega)) 3⟩
  · have hw := hI.1.1
    have hx := hI.2.1
    unfold P_X10_workerOf
    refine Ok.need (needMachine_eq i2) (fun h1 => ?_) (fun h1 => QC.e1 0 (by omega) rfl h1)
    refine Ok.need (needMachines_eq i1) (fun h2 => ?_) (fun h2 => QC.e2 1 (by omega) rfl h1 h2)
    obtain ⟨m, rfl⟩ := Int.eq_ofNat_of_zero_le h1.1
    obtain ⟨pm, rfl⟩ := Int.eq_ofNat_of_zero_le h2.1
    refine Ok.bind (S_assign hw hx (pm := pm) (by omega)) (fun G7 hG7 => ?_)
    refine Ok.ld m rfl (by omega) (by omega) ?_
    rw [hG7.2.1 mtF_top m (by omega)]
    exact Ok.so ⟨G7, hG7.2.2, Or.inl ⟨h1, h2, trivial, rfl⟩⟩
