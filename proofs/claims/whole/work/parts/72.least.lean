/-! ===== twoAt, leastSum, leastLateness, leastEnd ===== -/
section SL
variable {w : wS} {G : mG}
theorem S_sortByLength (hw : Wok w) (hx : XS w G) : Ok (P_X5_sortByLength G) (fun G' => SR (qKy w 0) (qN w) G' ∧ FrS G G') := by
  have hn := hw.n
  unfold P_X5_sortByLength
  refine S_sortLoop hw hx (fun j hj again G3 hx3 _ Q hQ => ?_) (fun again G3 hx3 => ?_)
  · rw [hx3.n hw]
    refine Ok.condT (ilt_nat (by omega) (by omega)) hj ?_
    refine Ok.eq (S_hoursFrom hw hx3 hj (s := 0) (by omega)) ?_
    exact hQ
  · refine Ok.get ?_
    rw [hx3.n hw]
    refine Ok.condF (ilt_nat (by omega) (by omega)) (by omega) ?_
    exact Ok.so rfl
theorem S_sortByDue (hw : Wok w) (hx : XS w G) : Ok (P_X5_sortByDue G) (fun G' => SR (qKy w 1) (qN w) G' ∧ FrS G G') := by
  have hn := hw.n
  unfold P_X5_sortByDue
  refine S_sortLoop hw hx (fun j hj again G3 hx3 _ Q hQ => ?_) (fun again G3 hx3 => ?_)
  · rw [hx3.n hw]
    refine Ok.condT (ilt_nat (by omega) (by omega)) hj ?_
    refine Ok.ld j rfl (by omega) (by omega) ?_
    rw [hx3.at j (by simp [aok, asz]; omega)]
    exact hQ
  · refine Ok.get ?_
    rw [hx3.n hw]
    refine Ok.condF (ilt_nat (by omega) (by omega)) (by omega) ?_
    exact Ok.so rfl
theorem S_sortForTwo (hw : Wok w) (hx : XS w G) : Ok (P_X5_sortForTwo G) (fun G' => SR (qKy w 2) (qN w) G' ∧ FrS G G') := by
  have hn := hw.n
  unfold P_X5_sortForTwo
  refine S_sortLoop hw hx (fun j hj again G3 hx3 _ Q hQ => ?_) (fun again G3 hx3 => ?_)
  · rw [hx3.n hw]
    refine Ok.condT (ilt_nat (by omega) (by omega)) hj ?_
    refine Ok.eq (S_part hw hx3 hj (s := 0) (by omega)) ?_
    refine Ok.eq (S_part hw hx3 hj (s := 1) (by omega)) ?_
    have b1 := kPt_bd hw hj (s := 0)
    have b2 := kPt_bd hw hj (s := 1)
    refine Ok.jn1 (fun y => y = qKy w 2 j) (fun y hy => ?_) (fun k11 hk11 => ?_)
    · subst hy
      exact hQ
    · have e : qKy w 2 j = if kPt w j 0 < kPt w j 1 then kPt w j 0 else 101 - kPt w j 1 := rfl
      refine Ok.cd (ilt_id (by omega) (by omega) (by omega) (by omega)) (fun g => ?_) (fun g => ?_)
      · exact hk11 _ (by rw [e, if_pos g])
      · exact hk11 _ (by rw [e, if_neg g])
  · refine Ok.get ?_
    rw [hx3.n hw]
    refine Ok.condF (ilt_nat (by omega) (by omega)) (by omega) ?_
    exact Ok.so rfl
end SL
theorem qSo_lt {w : wS} {p i : Nat} (hi : i < qN w) : qSo w p i < qN w := (so_lt (K := qKy w p) hi).1
theorem C_twoAt {p1 : Int} (i1 : I32 p1) : CaseX (P_X10_twoAt p1) (fun E => if E = 0 then 1 else 0) (P_X11_twoAt p1) := by
  refine CaseY_of (fun w => 0 ≤ p1 ∧ p1 < (qN w : Int)) (fun _ => True) (fun _ => True) (fun w => (qSo w 2 p1.toNat : Int)) (fun w h len a np G hI => ?_) (fun w h len a np G n k hI => ?_)
  · have hw := hI.1.1
    have hm := hI.2.2.2.2.1.1
    have hn := hw.n
    unfold P_X11_twoAt
    refine Ok.ld 0 rfl (by omega) (by omega) ?_
    rw [hm.1, hn.1, M_in i1 (i32_k (by omega)) (i32_k (by omega))]
    refine Ok.eq rfl ?_
    refine QM.fits (c1 := 0 ≤ p1 ∧ p1 < (qN w : Int)) (by rw [show decide (0 ≤ p1 ∧ p1 ≤ (qN w : Int) - 1) = decide (0 ≤ p1 ∧ p1 < (qN w : Int)) from decide_eq_decide.mpr (by omega)]) T_T T_T (fun _ => rfl) (KF.rf G) (fun h1 _ _ => ?_)
    refine Ok.iteT rfl ?_
    have hm6 : MD w ((up2 G 56 3 0) 57) := by
      rw [up2_ne (by omega)]
      exact hm
    refine Ok.bind (M_laysRow hw hm6 (p := 2) (by omega)) (fun G5 hG5 => ?_)
    refine Ok.ld p1.toNat (by omega) (by omega) (by omega) ?_
    rw [hG5.1 _ (by omega)]
    exact Ok.so ⟨rfl, KF.of (fun b hb => hG5.2 b (by omega)), congrFun (hG5.2 56 (by omega)) 3⟩
  · have hw := hI.1.1
    have hx := hI.2.1
    have hn := hw.n
    unfold P_X10_twoAt
    refine Ok.need (needPlaceOfJob_eq hw hx i1) (fun h1 => ?_) (fun h1 => QC.e1 0 (by omega) rfl h1)
    unfold P_X5_jobOnTwo
    refine Ok.bind (P := fun z => z.1 = (qSo w 2 p1.toNat : Int) ∧ KQ G z.2) ?_ (fun z4 hz4 => ?_)
    · refine Ok.bind (S_sortForTwo hw hx) (fun G2 hG2 => ?_)
      refine Ok.lk ?_
      refine Ok.condF (ilt_id i1.1 i1.2 (by omega) (by omega)) (by omega) ?_
      rw [hG2.1.1]
      refine Ok.condT (ilt_id i1.1 i1.2 (by omega) (by omega)) h1.2 ?_
      refine Ok.ld p1.toNat (by omega) (by omega) (by omega) ?_
      rw [hG2.1.at hw (by omega)]
      exact Ok.so ⟨rfl, hG2.2.kq⟩
    · rw [hz4.1]
      exact Ok.so ⟨z4.2, hz4.2, Or.inl ⟨h1, trivial, trivial, rfl⟩⟩
/-- sums of ends, greatest lateness, the end on two machines: of the first places -/
def fSum (w : wS) (k : Nat) : Int × Int := it (fun i t => (t.1 + qHf w (qSo w 0 i) 0, t.2 + (t.1 + qHf w (qSo w 0 i) 0))) k (0, 0)
def fLat (w : wS) (k : Nat) : Int × Int := it (fun i t => (t.1 + qHf w (qSo w 1 i) 0, if i = 0 then (t.1 + qHf w (qSo w 1 i) 0) - qDu w (qSo w 1 i) else max t.2 ((t.1 + qHf w (qSo w 1 i) 0) - qDu w (qSo w 1 i)))) k (0, 0)
def fTwo (w : wS) (k : Nat) : Int × Int := it (fun i t => (t.1 + kPt w (qSo w 2 i) 0, max t.2 (t.1 + kPt w (qSo w 2 i) 0) + kPt w (qSo w 2 i) 1)) k (0, 0)
theorem fSum_s {w : wS} {k : Nat} : fSum w (k + 1) = ((fSum w k).1 + qHf w (qSo w 0 k) 0, (fSum w k).2 + ((fSum w k).1 + qHf w (qSo w 0 k) 0)) := rfl
theorem fLat_s {w : wS} {k : Nat} : fLat w (k + 1) = ((fLat w k).1 + qHf w (qSo w 1 k) 0, if k = 0 then ((fLat w k).1 + qHf w (qSo w 1 k) 0) - qDu w (qSo w 1 k) else max (fLat w k).2 (((fLat w k).1 + qHf w (qSo w 1 k) 0) - qDu w (qSo w 1 k))) := rfl
theorem fTwo_s {w : wS} {k : Nat} : fTwo w (k + 1) = ((fTwo w k).1 + kPt w (qSo w 2 k) 0, max (fTwo w k).2 ((fTwo w k).1 + kPt w (qSo w 2 k) 0) + kPt w (qSo w 2 k) 1) := rfl
theorem fLat_bd {w : wS} (hw : Wok w) : ∀ {k : Nat}, k ≤ qN w → (0 ≤ (fLat w k).1 ∧ (fLat w k).1 ≤ 250 * k) ∧ -1000 ≤ (fLat w k).2 ∧ (fLat w k).2 ≤ 250 * k
  | 0, _ => ⟨⟨Int.le_refl 0, Int.le_refl 0⟩, by show -1000 ≤ (0 : Int); omega, Int.le_refl 0⟩
  | k + 1, hk => by
    have ih := fLat_bd hw (k := k) (by omega)
    have h1 := qHf_bd hw (qSo_lt (p := 1) (show k < qN w by omega)) (s := 0)
    have h2 := hw.du (qSo_lt (p := 1) (show k < qN w by omega))
    rw [fLat_s]
    dsimp only
    split <;> omega
theorem fTwo_bd {w : wS} (hw : Wok w) : ∀ {k : Nat}, k ≤ qN w → (0 ≤ (fTwo w k).1 ∧ (fTwo w k).1 ≤ 50 * k) ∧ 0 ≤ (fTwo w k).2 ∧ (fTwo w k).2 ≤ 100 * k
  | 0, _ => ⟨⟨Int.le_refl 0, Int.le_refl 0⟩, Int.le_refl 0, Int.le_refl 0⟩
  | k + 1, hk => by
    have ih := fTwo_bd hw (k := k) (by omega)
    have h1 := kPt_bd hw (qSo_lt (p := 2) (show k < qN w by omega)) (s := 0)
    have h2 := kPt_bd hw (qSo_lt (p := 2) (show k < qN w by omega)) (s := 1)
    rw [fTwo_s]
    dsimp only
    omega
theorem Q_of {p q : mG → Option (Int × mG)} (v : wS → Int) (hp : ∀ w h len a np G, IV w h len a np G → Ok (p G) (fun y => KQ G y.2 ∧ w32 y.1 = w32 (v w))) (hq : ∀ w G, Wok w → Pok w → MA w (G 57) → Ok (q G) (fun z => KQ G z.2 ∧ w32 z.1 = w32 (v w))) : CaseQ p q := by
  intro w h len a np G hI
  refine Ok.w (hp w h len a np G hI) (fun y hy => ⟨hy.1, ?_⟩)
  have hI' := hI.kq hy.1
  refine Ok.w (hq w y.2 hI'.1.1 hI'.1.2.1 hI'.2.2.2.2.1) (fun z hz => ⟨hz.1, hy.2.trans hz.2.symm⟩)
theorem Q_leastSum : CaseQ P_X10_leastSum P_X11_leastSum := by
  refine Q_of (fun w => (fSum w (qN w)).2) (fun w h len a np G hI => ?_) (fun w G hw hp hm => ?_)
  · have hw := hI.1.1
    have hx := hI.2.1
    have hn := hw.n
    unfold P_X10_leastSum P_X5_sumOfEnds
    refine Ok.bind (P := fun z => z.1 = (fSum w (qN w)).2 ∧ KQ G z.2) ?_ (fun z hz => Ok.so ⟨hz.2, by rw [hz.1]⟩)
    refine Ok.bind (S_sortByLength hw hx) (fun G1 hG1 => ?_)
    have hx1 := hG1.2.xs hx
    refine Ok.for3 (fun k a b => a = (fSum w k).1 ∧ b = (fSum w k).2) (qN w) LF (LF_lt (by omega)) ⟨rfl, rfl⟩ (fun i hi again a b hab hk => ?_) (fun again a b hab => ?_)
    · obtain ⟨rfl, rfl⟩ := hab
      rw [hG1.1.1]
      refine Ok.condT (ilt_nat (by omega) (by omega)) hi ?_
      refine Ok.ld i rfl (by omega) (by omega) ?_
      rw [hG1.1.at hw hi]
      refine Ok.eq (S_hoursFrom hw hx1 (qSo_lt hi) (s := 0) (by omega)) ?_
      exact hk _ _ ⟨rfl, rfl⟩
    · obtain ⟨rfl, rfl⟩ := hab
      rw [hG1.1.1]
      refine Ok.condF (ilt_nat (by omega) (by omega)) (by omega) ?_
      exact Ok.so ⟨rfl, hG1.2.kq⟩
  · have hn := hw.n
    unfold P_X11_leastSum
    refine Ok.pu ?_
    have hm1 : MD w ((up2 G 56 3 0) 57) := by
      rw [up2_ne (by omega)]
      exact hm.1
    refine Ok.bind (M_laysRow hw hm1 (p := 0) (by omega)) (fun G2 hG2 => ?_)
    have hm2 : MD w (G2 57) := by
      rw [hG2.2 57 (by omega)]
      exact hm1
    have hk2 : KQ G G2 := (KQ.up3 G 0).tr (KQ.of (fun b hb => hG2.2 b (by omega)))
    refine Ok.for3 (fun k a b => a = (fSum w k).1 ∧ b = (fSum w k).2) (qN w) LF (LF_lt (by omega)) ⟨rfl, rfl⟩ (fun i hi again a b hab hk => ?_) (fun again a b hab => ?_)
    · obtain ⟨rfl, rfl⟩ := hab
      refine Ok.ld 0 rfl (by omega) (by omega) ?_
      rw [hm2.1, hn.1]
      refine Ok.condT (ilt_nat (by omega) (by omega)) hi ?_
      refine Ok.ld i rfl (by omega) (by omega) ?_
      rw [hG2.1 i hi]
      refine Ok.eq (M_length hw hm2 (qSo_lt hi)) ?_
      exact hk _ _ ⟨rfl, rfl⟩
    · obtain ⟨rfl, rfl⟩ := hab
      refine Ok.ld 0 rfl (by omega) (by omega) ?_
      rw [hm2.1, hn.1]
      refine Ok.condF (ilt_nat (by omega) (by omega)) (by omega) ?_
      exact Ok.so ⟨hk2, rfl⟩
theorem Q_leastLateness : CaseQ P_X10_leastLateness P_X11_leastLateness := by
  refine Q_of (fun w => (fLat w (qN w)).2) (fun w h len a np G hI => ?_) (fun w G hw hp hm => ?_)
  · have hw := hI.1.1
    have hx := hI.2.1
    have hn := hw.n
    unfold P_X10_leastLateness P_X5_greatestLateness
    refine Ok.bind (P := fun z => z.1 = (fLat w (qN w)).2 ∧ KQ G z.2) ?_ (fun z hz => Ok.so ⟨hz.2, by rw [hz.1]⟩)
    refine Ok.bind (S_sortByDue hw hx) (fun G1 hG1 => ?_)
    have hx1 := hG1.2.xs hx
    refine Ok.for3 (fun k a b => a = (fLat w k).1 ∧ b = (fLat w k).2) (qN w) LF (LF_lt (by omega)) ⟨rfl, rfl⟩ (fun i hi again a b hab hk => ?_) (fun again a b hab => ?_)
    · obtain ⟨rfl, rfl⟩ := hab
      have hb := fLat_bd hw (k := i) (by omega)
      have hs := fLat_s (w := w) (k := i)
      have hso := qSo_lt (w := w) (p := 1) hi
      have h1 := qHf_bd hw hso (s := 0)
      have h2 := hw.du hso
      rw [hG1.1.1]
      refine Ok.condT (ilt_nat (by omega) (by omega)) hi ?_
      refine Ok.ld i rfl (by omega) (by omega) ?_
      rw [hG1.1.at hw hi]
      refine Ok.eq (S_hoursFrom hw hx1 hso (s := 0) (by omega)) ?_
      refine Ok.ld (qSo w 1 i) rfl (by omega) (by omega) ?_
      have eD : G1 3 (qSo w 1 i) = qDu w (qSo w 1 i) := hx1.at _ (by simp [aok, asz]; omega)
      rw [eD]
      refine Ok.jn1 (fun y => y = (fLat w (i + 1)).2) (fun y hy => ?_) (fun k12 hk12 => ?_)
      · subst hy
        exact hk _ _ ⟨rfl, rfl⟩
      · refine Ok.cd (ieq_nat (b := 0) (by omega) (by omega)) (fun g => ?_) (fun g => ?_)
        · exact hk12 _ (by rw [hs, if_pos g])
        · refine hk12 _ ?_
          rw [hs, if_neg g, iMax_id (by omega) (by omega) (by omega) (by omega)]
    · obtain ⟨rfl, rfl⟩ := hab
      rw [hG1.1.1]
      refine Ok.condF (ilt_nat (by omega) (by omega)) (by omega) ?_
      exact Ok.so ⟨rfl, hG1.2.kq⟩
  · have hn := hw.n
    unfold P_X11_leastLateness
    refine Ok.pu ?_
    have hm1 : MD w ((up2 G 56 3 0) 57) := by
      rw [up2_ne (by omega)]
      exact hm.1
    refine Ok.bind (M_laysRow hw hm1 (p := 1) (by omega)) (fun G2 hG2 => ?_)
    have hm2 : MD w (G2 57) := by
      rw [hG2.2 57 (by omega)]
      exact hm1
    have hk2 : KQ G G2 := (KQ.up3 G 0).tr (KQ.of (fun b hb => hG2.2 b (by omega)))
    refine Ok.for3 (fun k a b => a = (fLat w k).1 ∧ b = (fLat w k).2) (qN w) LF (LF_lt (by omega)) ⟨rfl, rfl⟩ (fun i hi again a b hab hk => ?_) (fun again a b hab => ?_)
    · obtain ⟨rfl, rfl⟩ := hab
      have hb := fLat_bd hw (k := i) (by omega)
      have hs := fLat_s (w := w) (k := i)
      have hso := qSo_lt (w := w) (p := 1) hi
      have h1 := qHf_bd hw hso (s := 0)
      have h2 := hw.du hso
      refine Ok.ld 0 rfl (by omega) (by omega) ?_
      rw [hm2.1, hn.1]
      refine Ok.condT (ilt_nat (by omega) (by omega)) hi ?_
      refine Ok.ld i rfl (by omega) (by omega) ?_
      rw [hG2.1 i hi]
      refine Ok.eq (M_length hw hm2 hso) ?_
      refine Ok.jn1 (fun y => y = (fLat w (i + 1)).2) (fun y hy => ?_) (fun k12 hk12 => ?_)
      · subst hy
        exact hk _ _ ⟨rfl, rfl⟩
      · refine Ok.cd (ieq_nat (b := 0) (by omega) (by omega)) (fun g => ?_) (fun g => ?_)
        · refine Ok.ld i rfl (by omega) (by omega) ?_
          rw [hG2.1 i hi]
          refine Ok.eq (M_of hw hm2 hso (k := 1) rfl (by omega)) ?_
          rw [hm2.du hw hso]
          exact hk12 _ (by rw [hs, if_pos g])
        · refine Ok.ld i rfl (by omega) (by omega) ?_
          rw [hG2.1 i hi]
          refine Ok.eq (M_of hw hm2 hso (k := 1) rfl (by omega)) ?_
          rw [hm2.du hw hso]
          refine hk12 _ ?_
          rw [hs, if_neg g, iMax_id (by omega) (by omega) (by omega) (by omega)]
    · obtain ⟨rfl, rfl⟩ := hab
      refine Ok.ld 0 rfl (by omega) (by omega) ?_
      rw [hm2.1, hn.1]
      refine Ok.condF (ilt_nat (by omega) (by omega)) (by omega) ?_
      exact Ok.so ⟨hk2, rfl⟩
theorem Q_leastEnd : CaseQ P_X10_leastEnd P_X11_leastEnd := by
  refine Q_of (fun w => (fTwo w (qN w)).2) (fun w h len a np G hI => ?_) (fun w G hw hp hm => ?_)
  · have hw := hI.1.1
    have hx := hI.2.1
    have hn := hw.n
    unfold P_X10_leastEnd P_X5_endOnTwo
    refine Ok.bind (P := fun z => z.1 = (fTwo w (qN w)).2 ∧ KQ G z.2) ?_ (fun z hz => Ok.so ⟨hz.2, by rw [hz.1]⟩)
    refine Ok.bind (S_sortForTwo hw hx) (fun G1 hG1 => ?_)
    have hx1 := hG1.2.xs hx
    refine Ok.for3 (fun k a b => a = (fTwo w k).1 ∧ b = (fTwo w k).2) (qN w) LF (LF_lt (by omega)) ⟨rfl, rfl⟩ (fun i hi again a b hab hk => ?_) (fun again a b hab => ?_)
    · obtain ⟨rfl, rfl⟩ := hab
      have hb := fTwo_bd hw (k := i) (by omega)
      have hso := qSo_lt (w := w) (p := 2) hi
      have h1 := kPt_bd hw hso (s := 0)
      have h2 := kPt_bd hw hso (s := 1)
      rw [hG1.1.1]
      refine Ok.condT (ilt_nat (by omega) (by omega)) hi ?_
      refine Ok.ld i rfl (by omega) (by omega) ?_
      rw [hG1.1.at hw hi]
      refine Ok.eq (S_part hw hx1 hso (s := 0) (by omega)) ?_
      refine Ok.ld i rfl (by omega) (by omega) ?_
      rw [hG1.1.at hw hi]
      refine Ok.eq (S_part hw hx1 hso (s := 1) (by omega)) ?_
      rw [iMax_id (by omega) (by omega) (by omega) (by omega)]
      refine hk _ _ ⟨rfl, ?_⟩
      rw [fTwo_s, Int.max_comm]
    · obtain ⟨rfl, rfl⟩ := hab
      rw [hG1.1.1]
      refine Ok.condF (ilt_nat (by omega) (by omega)) (by omega) ?_
      exact Ok.so ⟨rfl, hG1.2.kq⟩
  · have hn := hw.n
    unfold P_X11_leastEnd
    refine Ok.pu ?_
    have hm1 : MD w ((up2 G 56 3 0) 57) := by
      rw [up2_ne (by omega)]
      exact hm.1
    refine Ok.bind (M_laysRow hw hm1 (p := 2) (by omega)) (fun G2 hG2 => ?_)
    have hm2 : MD w (G2 57) := by
      rw [hG2.2 57 (by omega)]
      exact hm1
    have hk2 : KQ G G2 := (KQ.up3 G 0).tr (KQ.of (fun b hb => hG2.2 b (by omega)))
    refine Ok.for3 (fun k a b => a = (fTwo w k).1 ∧ b = (fTwo w k).2) (qN w) LF (LF_lt (by omega)) ⟨rfl, rfl⟩ (fun i hi again a b hab hk => ?_) (fun again a b hab => ?_)
    · obtain ⟨rfl, rfl⟩ := hab
      have hb := fTwo_bd hw (k := i) (by omega)
      have hso := qSo_lt (w := w) (p := 2) hi
      have h1 := kPt_bd hw hso (s := 0)
      have h2 := kPt_bd hw hso (s := 1)
      refine Ok.ld 0 rfl (by omega) (by omega) ?_
      rw [hm2.1, hn.1]
      refine Ok.condT (ilt_nat (by omega) (by omega)) hi ?_
      refine Ok.ld i rfl (by omega) (by omega) ?_
      rw [hG2.1 i hi]
      refine Ok.eq (M_part hw hm2 hso (s := 0) (by omega)) ?_
      refine Ok.ld i rfl (by omega) (by omega) ?_
      rw [hG2.1 i hi]
      refine Ok.eq (M_part hw hm2 hso (s := 1) (by omega)) ?_
      rw [iMax_id (by omega) (by omega) (by omega) (by omega)]
      exact hk _ _ ⟨rfl, rfl⟩
    · obtain ⟨rfl, rfl⟩ := hab
      refine Ok.ld 0 rfl (by omega) (by omega) ?_
      rw [hm2.1, hn.1]
      refine Ok.condF (ilt_nat (by omega) (by omega)) (by omega) ?_
      exact Ok.so ⟨hk2, rfl⟩
