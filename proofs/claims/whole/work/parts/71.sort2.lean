/-! ===== rows by length, by due hour, for two machines ===== -/
def kPt (w : wS) (j s : Nat) : Int := if s < qSt w j then qHr w (5 * j + s) else 0
def kTwo (w : wS) (j : Nat) : Int := if kPt w j 0 < kPt w j 1 then kPt w j 0 else 101 - kPt w j 1
def qKy (w : wS) (p j : Nat) : Int := if p = 0 then qHf w j 0 else if p = 1 then qDu w j else kTwo w j
def qSo (w : wS) (p i : Nat) : Nat := so (qKy w p) (qN w) i
section K1
variable {w : wS}
theorem kPt_bd (hw : Wok w) {j s : Nat} (hj : j < qN w) : 0 ≤ kPt w j s ∧ kPt w j s ≤ 50 := by
  unfold kPt
  by_cases h : s < qSt w j
  · rw [if_pos h]
    have := hw.hr hj h
    omega
  · rw [if_neg h]
    omega
theorem qKy_bd (hw : Wok w) {p j : Nat} (hj : j < qN w) : -2147483648 ≤ qKy w p j ∧ qKy w p j < 2147483648 := by
  have h1 := qHf_bd hw hj (s := 0)
  have h2 := hw.du hj
  have h3 := kPt_bd hw hj (s := 0)
  have h4 := kPt_bd hw hj (s := 1)
  unfold qKy kTwo
  split
  · omega
  · split
    · omega
    · split <;> omega
theorem S_part (hw : Wok w) {G : mG} {j s : Nat} (hx : XS w G) (hj : j < qN w) (hs : s < 5) : P_X5_hoursOfStep (j : Int) (s : Int) G = some (kPt w j s) := by
  have hn := hw.n
  have h5 := (hw.st hj).2
  refine Ok.get ?_
  unfold P_X5_hoursOfStep kPt
  refine Ok.ld j rfl (by omega) (by omega) ?_
  rw [hx.st hw hj]
  refine Ok.cd (ilt_nat (by omega) (by omega)) (fun h => ?_) (fun h => ?_)
  · rw [if_pos h]
    refine Ok.ld (5 * j + s) (by omega) (by omega) (by omega) ?_
    rw [hx.hr hw (by omega)]
    exact Ok.so rfl
  · rw [if_neg h]
    exact Ok.so rfl
theorem M_part (hw : Wok w) {G : mG} {j s : Nat} (hm : MD w (G 57)) (hj : j < qN w) (hs : s < 5) : P_X11_part (j : Int) (s : Int) G = some (kPt w j s) := by
  have hn := hw.n
  have h5 := (hw.st hj).2
  refine Ok.get ?_
  unfold P_X11_part kPt
  refine Ok.eq (M_of hw hm hj (k := 4) rfl (by omega)) ?_
  rw [hm.st hw hj]
  refine Ok.cd (ilt_nat (by omega) (by omega)) (fun h => ?_) (fun h => ?_)
  · rw [if_pos h]
    refine Ok.eq (M_hoursOf hw hm hj h) ?_
    exact Ok.so rfl
  · rw [if_neg h]
    exact Ok.so rfl
theorem M_goesFirst (hw : Wok w) {G : mG} {p i j : Nat} (hm : MD w (G 57)) (hp : p ≤ 2) (hi : i < qN w) (hj : j < qN w) : P_X11_goesFirst (p : Int) (i : Int) (j : Int) G = some (decide (ahd (qKy w p) i j)) := by
  have hn := hw.n
  have k1 := qKy_bd hw (p := p) hi
  have k2 := qKy_bd hw (p := p) hj
  refine Ok.get ?_
  unfold P_X11_goesFirst
  have hfin : ∀ x y : Int, (-2147483648 ≤ x ∧ x < 2147483648) → (-2147483648 ≤ y ∧ y < 2147483648) → (x < y ∨ (x = y ∧ i < j) ↔ ahd (qKy w p) i j) → Ok (letK (some true) fun k12 => bif (ilt x y) then k12 else letK (some false) fun k14 => bif (ieq x y) then bif (ilt (i : Int) (j : Int)) then k12 else k14 else k14) (fun b => b = decide (ahd (qKy w p) i j)) := by
    intro x y hx hy he
    refine Ok.lk ?_
    refine Ok.cd (ilt_id hx.1 hx.2 hy.1 hy.2) (fun h => ?_) (fun h => ?_)
    · exact Ok.so (decide_eq_true (he.mp (Or.inl h))).symm
    · refine Ok.lk ?_
      refine Ok.cd (ieq_id hx.1 hx.2 hy.1 hy.2) (fun h2 => ?_) (fun h2 => ?_)
      · refine Ok.cd (ilt_nat (by omega) (by omega)) (fun h3 => ?_) (fun h3 => ?_)
        · exact Ok.so (decide_eq_true (he.mp (Or.inr ⟨h2, h3⟩))).symm
        · refine Ok.so (decide_eq_false (fun g => ?_)).symm
          have := he.mpr g
          omega
      · refine Ok.so (decide_eq_false (fun g => ?_)).symm
        have := he.mpr g
        omega
  refine Ok.jn1 (fun y => p ≠ 2 → y = qKy w p i) (fun x4 hx4 => ?_) (fun k40 hk40 => ?_)
  · refine Ok.jn1 (fun y => p ≠ 2 → y = qKy w p j) (fun x6 hx6 => ?_) (fun k37 hk37 => ?_)
    · refine Ok.jn2 (fun x y => (-2147483648 ≤ x ∧ x < 2147483648) ∧ (-2147483648 ≤ y ∧ y < 2147483648) ∧ (x < y ∨ (x = y ∧ i < j) ↔ ahd (qKy w p) i j)) (fun x y hxy => hfin x y hxy.1 hxy.2.1 hxy.2.2) (fun k15 hk15 => ?_)
      refine Ok.cd (ieq_nat (b := 2) (by omega) (by omega)) (fun h2 => ?_) (fun h2 => ?_)
      · subst h2
        have b1 := kPt_bd hw hi (s := 0)
        have b2 := kPt_bd hw hi (s := 1)
        have b3 := kPt_bd hw hj (s := 0)
        have b4 := kPt_bd hw hj (s := 1)
        have ei : qKy w 2 i = if kPt w i 0 < kPt w i 1 then kPt w i 0 else 101 - kPt w i 1 := rfl
        have ej : qKy w 2 j = if kPt w j 0 < kPt w j 1 then kPt w j 0 else 101 - kPt w j 1 := rfl
        refine Ok.eq (M_part hw hm hi (s := 0) (by omega)) ?_
        refine Ok.eq (M_part hw hm hi (s := 1) (by omega)) ?_
        refine Ok.jn1 (fun y => y = if kPt w i 0 < kPt w i 1 then 1 else 0) (fun x18 h18 => ?_) (fun k36 hk36 => ?_)
        · refine Ok.eq (M_part hw hm hj (s := 0) (by omega)) ?_
          refine Ok.eq (M_part hw hm hj (s := 1) (by omega)) ?_
          refine Ok.jn1 (fun y => y = if kPt w j 0 < kPt w j 1 then 1 else 0) (fun x22 h22 => ?_) (fun k35 hk35 => ?_)
          · by_cases gi : kPt w i 0 < kPt w i 1
            · rw [if_pos gi] at h18 ei
              by_cases gj : kPt w j 0 < kPt w j 1
              · rw [if_pos gj] at h22 ej
                subst h18 h22
                refine Ok.iteT rfl ?_
                refine Ok.lk ?_
                refine Ok.iteF rfl ?_
                refine Ok.eq (M_part hw hm hi (s := 0) (by omega)) ?_
                refine Ok.lk ?_
                refine Ok.iteF rfl ?_
                refine Ok.eq (M_part hw hm hj (s := 0) (by omega)) ?_
                refine hk15 _ _ ⟨by omega, by omega, ?_⟩
                unfold ahd
                rw [ei, ej]
              · rw [if_neg gj] at h22 ej
                subst h18 h22
                refine Ok.iteF rfl ?_
                refine Ok.so (decide_eq_true ?_).symm
                unfold ahd
                omega
            · rw [if_neg gi] at h18 ei
              by_cases gj : kPt w j 0 < kPt w j 1
              · rw [if_pos gj] at h22 ej
                subst h18 h22
                refine Ok.iteF rfl ?_
                refine Ok.so (decide_eq_false ?_).symm
                unfold ahd
                omega
              · rw [if_neg gj] at h22 ej
                subst h18 h22
                refine Ok.iteT rfl ?_
                refine Ok.lk ?_
                refine Ok.iteT rfl ?_
                refine Ok.eq (M_part hw hm hi (s := 1) (by omega)) ?_
                refine Ok.lk ?_
                refine Ok.iteT rfl ?_
                refine Ok.eq (M_part hw hm hj (s := 1) (by omega)) ?_
                refine hk15 _ _ ⟨by omega, by omega, ?_⟩
                unfold ahd
                rw [ei, ej]
                omega
          · refine Ok.cd (ilt_id (by omega) (by omega) (by omega) (by omega)) (fun g => ?_) (fun g => ?_)
            · exact hk35 _ (by rw [if_pos g])
            · exact hk35 _ (by rw [if_neg g])
        · refine Ok.cd (ilt_id (by omega) (by omega) (by omega) (by omega)) (fun g => ?_) (fun g => ?_)
          · exact hk36 _ (by rw [if_pos g])
          · exact hk36 _ (by rw [if_neg g])
      · refine hk15 _ _ ?_
        rw [hx4 h2, hx6 h2]
        exact ⟨k1, k2, Iff.rfl⟩
    · refine Ok.cd (ieq_nat (b := 0) (by omega) (by omega)) (fun h => ?_) (fun h => ?_)
      · refine Ok.eq (M_length hw hm hj) ?_
        refine hk37 _ (fun _ => ?_)
        unfold qKy
        rw [if_pos h]
      · refine Ok.eq (M_of hw hm hj (k := 1) rfl (by omega)) ?_
        refine hk37 _ (fun g => ?_)
        unfold qKy
        rw [if_neg h, if_pos (by omega)]
        exact hm.du hw hj
  · refine Ok.cd (ieq_nat (b := 0) (by omega) (by omega)) (fun h => ?_) (fun h => ?_)
    · refine Ok.eq (M_length hw hm hi) ?_
      refine hk40 _ (fun _ => ?_)
      unfold qKy
      rw [if_pos h]
    · refine Ok.eq (M_of hw hm hi (k := 1) rfl (by omega)) ?_
      refine hk40 _ (fun g => ?_)
      unfold qKy
      rw [if_neg h, if_pos (by omega)]
      exact hm.du hw hi
theorem M_laysRow (hw : Wok w) {G : mG} {p : Nat} (hm : MD w (G 57)) (hp : p ≤ 2) : Ok (P_X11_laysRow (p : Int) G) (fun G' => (∀ i, i < qN w → G' 70 i = (qSo w p i : Int)) ∧ ∀ b, b ≠ 70 → G' b = G b) := by
  have hn := hw.n
  unfold P_X11_laysRow
  refine Ok.forC (fun k G' => (∀ j, j < k → G' 70 (rk (qKy w p) (qN w) j) = (j : Int)) ∧ ∀ b, b ≠ 70 → G' b = G b) (qN w) LF (LF_lt (by omega)) ⟨fun j hj => absurd hj (Nat.not_lt_zero _), fun _ _ => rfl⟩ (fun j hj again G3 hG3 hk => ?_) (fun again G3 hG3 => ?_)
  · obtain ⟨c1, c2⟩ := hG3
    have hm3 : MD w (G3 57) := by
      rw [c2 57 (by omega)]
      exact hm
    refine Ok.ld 0 rfl (by omega) (by omega) ?_
    rw [hm3.1, hn.1]
    refine Ok.condT (ilt_nat (by omega) (by omega)) hj ?_
    refine Ok.jn1 (fun y => y = (rk (qKy w p) (qN w) j : Int)) (fun y hy => ?_) (fun k10 hk10 => ?_)
    · subst hy
      have hr := rk_N (K := qKy w p) hj
      refine Ok.sto (rk (qKy w p) (qN w) j) rfl (by omega) (by omega) ?_
      refine hk _ ⟨fun j' hj' => ?_, fun b hb => by rw [up2_ne hb, c2 b hb]⟩
      rw [up2_eq]
      by_cases e : j' = j
      · subst e
        rw [up1_eq]
      · rw [up1_ne (fun g => e (rk_inj (by omega) hj g))]
        exact c1 j' (by omega)
    · refine Ok.forA (fun k v => v = (ct (fun i => decide (ahd (qKy w p) i j)) k : Int)) (qN w) LF (LF_lt (by omega)) rfl (fun i hi again2 v hv hk2 => ?_) (fun again2 v hv => ?_)
      · subst hv
        refine Ok.ld 0 rfl (by omega) (by omega) ?_
        rw [hm3.1, hn.1]
        refine Ok.condT (ilt_nat (by omega) (by omega)) hi ?_
        refine Ok.jn1 (fun y => y = if ahd (qKy w p) i j then 1 else 0) (fun y hy => ?_) (fun k18 hk18 => ?_)
        · refine hk2 _ ?_
          rw [hy, ct_succ]
          by_cases g : ahd (qKy w p) i j
          · rw [if_pos g, if_pos (decide_eq_true g)]
            rfl
          · rw [if_neg g, if_neg (by rw [decide_eq_false g]; exact Bool.false_ne_true)]
            exact Int.add_zero _
        · have hno : ¬ ahd (qKy w p) i j → Ok (k18 0) _ := fun g => hk18 0 (by rw [if_neg g])
          refine Ok.jnP (¬ ahd (qKy w p) i j) hno (fun k20 hk20 => ?_)
          refine Ok.cd (ieq_nat (by omega) (by omega)) (fun e => ?_) (fun e => ?_)
          · refine hk20 ?_
            subst e
            unfold ahd
            omega
          · refine Ok.eq (M_goesFirst hw hm3 hp hi hj) ?_
            refine Ok.it (fun g => ?_) (fun g => ?_)
            · have g := of_decide_eq_true g
              exact hk18 _ (by rw [if_pos g])
            · exact hk20 (of_decide_eq_false g)
      · subst hv
        refine Ok.ld 0 rfl (by omega) (by omega) ?_
        rw [hm3.1, hn.1]
        refine Ok.condF (ilt_nat (by omega) (by omega)) (by omega) ?_
        exact hk10 _ rfl
  · obtain ⟨c1, c2⟩ := hG3
    refine Ok.ld 0 rfl (by omega) (by omega) ?_
    rw [c2 57 (by omega), hm.1, hn.1]
    refine Ok.condF (ilt_nat (by omega) (by omega)) (by omega) ?_
    refine Ok.so ⟨fun i hi => ?_, c2⟩
    have h1 := so_lt (K := qKy w p) hi
    have h2 := c1 (qSo w p i) h1.1
    rw [show rk (qKy w p) (qN w) (qSo w p i) = i from h1.2] at h2
    exact h2
/-- a class row is read -/
theorem SR.at (hw : Wok w) {G : mG} {p i : Nat} (h : SR (qKy w p) (qN w) G) (hi : i < qN w) : G 46 i = (qSo w p i : Int) := by
  have h1 := so_lt (K := qKy w p) hi
  have h2 := (h.2 (qSo w p i) h1.1).1
  rw [show rk (qKy w p) (qN w) (qSo w p i) = i from h1.2] at h2
  exact h2
theorem S_sortLoop (hw : Wok w) {G : mG} {p : Nat} {F : (Int → mG → Option mG) → Int → mG → Option mG} (hx : XS w G) (hF1 : ∀ j, j < qN w → ∀ (again : Int → mG → Option mG) G3, XS w G3 → FrS G G3 → ∀ Q : mG → Prop, Ok ((P_X3_insert (j : Int) (qKy w p j) G3).bind fun G7 => again ((j : Int) + 1) G7) Q → Ok (F again (j : Int) G3) Q) (hF2 : ∀ again G3, XS w G3 → F again (qN w : Int) G3 = some G3) : Ok ((P_X3_clear G).bind fun G1 => loop2 LF F 0 G1) (fun G' => SR (qKy w p) (qN w) G' ∧ FrS G G') := by
  have hn := hw.n
  refine Ok.bind (P := fun G1 => SR (qKy w p) 0 G1 ∧ FrS G G1) ?_ (fun G1 hG1 => ?_)
  · unfold P_X3_clear
    refine Ok.pu ?_
    refine Ok.so ⟨⟨by rw [up2_eq, up1_eq]; rfl, fun j hj => absurd hj (Nat.not_lt_zero _)⟩, fun b x _ _ => up2_ne x⟩
  · refine Ok.forC (fun k G' => SR (qKy w p) k G' ∧ FrS G G') (qN w) LF (LF_lt (by omega)) hG1 (fun j hj again G3 hG3 hk => ?_) (fun again G3 hG3 => ?_)
    · refine hF1 j hj again G3 (hG3.2.xs hx) hG3.2 _ ?_
      refine Ok.bind (S_insert (by omega) (fun j' hj' => qKy_bd hw (by omega)) hG3.1) (fun G7 hG7 => ?_)
      exact hk G7 ⟨hG7.1, hG3.2.tr hG7.2⟩
    · rw [hF2 again G3 (hG3.2.xs hx)]
      exact Ok.so hG3
end K1
