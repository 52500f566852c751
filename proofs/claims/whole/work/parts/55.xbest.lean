/-! ===== best plans, the class ===== -/
theorem S_takeBack {w : wS} {r : Nat → Nat} {n t : Nat} {D : Nat → Int} {G : mG} (hw : Wok w) (hx : XS w G) (ht : 17 ≤ t) (hv : qV w r (n + 1)) (hT : TT t w D r (n + 1) G) : Ok (P_X8_takeBack t G) (fun G' => TT t w D r n G' ∧ FrT t G G') := by
  have hn := hw.n
  have hv' : qV w r n := hv.le (by omega)
  obtain ⟨hj, hl⟩ := hv n (by omega)
  have h5 := (hw.st hj).2
  have h30 := qV_30 hw hv
  have hm4 := rM_lt hw hv (show n < n + 1 by omega)
  have ed : ∀ j, rD r (n + 1) j = if j = r n then rD r n j + 1 else rD r n j := fun j => by
    rw [rD_succ]
    by_cases h : j = r n
    · rw [h, upf_eq, if_pos rfl]
    · rw [upf_ne h, if_neg h]
  have ec : ∀ m, rC w r (n + 1) m = if m = rM w r n then rC w r n m + 1 else rC w r n m := fun m => by
    rw [rC_succ]
    by_cases h : m = rM w r n
    · rw [h, upf_eq, if_pos rfl]
    · rw [upf_ne h, if_neg h]
  have hl' : rD r n (r n) < qSt w (r n) := hl
  unfold P_X8_takeBack
  rw [hT.len]
  refine Ok.iteT ((ilt_id (by omega) (by omega) (by omega) (by omega)).trans (decide_eq_true (by omega))) ?_
  refine Ok.pu ?_
  have e1 : up2 G t 1 (((n + 1 : Nat) : Int) - 1) t 1 = (n : Int) := by
    rw [up2_eq, up1_eq]
    omega
  rw [e1]
  refine Ok.ld n rfl (by omega) (by omega) ?_
  rw [up2_ne (by omega), hT.row (by omega)]
  refine Ok.ld (r n) rfl (by omega) (by omega) ?_
  rw [up2_ne (by omega), hT.dn (by omega), ed (r n), if_pos rfl]
  refine Ok.sto (r n) rfl (by omega) (by omega) ?_
  have e2 : up2 (up2 G t 1 (((n + 1 : Nat) : Int) - 1)) (t + 2) (r n) (((rD r n (r n) + 1 : Nat) : Int) - 1) (t + 2) (r n) = (rD r n (r n) : Int) := by
    rw [up2_eq, up1_eq]
    omega
  have hns : P_X8_nextStep t (r n : Int) (up2 (up2 G t 1 (((n + 1 : Nat) : Int) - 1)) (t + 2) (r n) (((rD r n (r n) + 1 : Nat) : Int) - 1)) = some (rX r n : Int) := by
    refine Ok.get ?_
    unfold P_X8_nextStep
    refine Ok.ld (r n) rfl (by omega) (by omega) (Ok.so ?_)
    rw [e2]
    unfold rX rS
    omega
  refine Ok.eq hns ?_
  have hx30 : rX r n < 30 := by
    unfold rX rS
    omega
  refine Ok.ld (rX r n) rfl hx30 (by omega) ?_
  rw [up2_ne (by omega), up2_ne (by omega)]
  have e7 : G 7 (rX r n) = (rM w r n : Int) := hx.mc hw hj hl'
  rw [e7]
  refine Ok.ld (rM w r n) rfl hm4 (by omega) ?_
  rw [up2_ne (by omega), up2_ne (by omega), hT.cm hm4, ec (rM w r n), if_pos rfl]
  refine Ok.sto (rM w r n) rfl hm4 (by omega) (Ok.so ⟨⟨?_, fun i hi => ?_, fun j hj6 => ?_, fun m hm => ?_, fun m k hm hk => ?_, fun j s hj6 hs => ?_⟩, ?_⟩)
  · rw [up2_ne (by omega), up2_ne (by omega)]
    exact e1
  · rw [up2_ne (by omega), up2_ne (by omega), up2_ne (by omega)]
    exact hT.row (by omega)
  · rw [up2_ne (by omega), up2_eq, up1_if]
    by_cases h : j = r n
    · rw [if_pos h, h]
      omega
    · rw [if_neg h, up2_ne (by omega), hT.dn hj6, ed j, if_neg h]
  · rw [up2_eq, up1_if]
    by_cases h : m = rM w r n
    · rw [if_pos h, h]
      omega
    · rw [if_neg h, up2_ne (by omega), up2_ne (by omega), hT.cm hm, ec m, if_neg h]
  · rw [up2_ne (by omega), up2_ne (by omega), up2_ne (by omega), hT.od hm (by rw [ec]; split <;> omega)]
    obtain ⟨i', a1, a2, a3⟩ := rK_of hk
    have f1 := qS_od (D := D) hw hv (show i' < n + 1 by omega)
    have f2 := qS_od (D := D) hw hv' a1
    rw [a2, a3] at f1 f2
    rw [f1, f2]
  · rw [up2_ne (by omega), up2_ne (by omega), up2_ne (by omega), up2_ne (by omega), up2_ne (by omega), up2_ne (by omega), up2_ne (by omega), up2_ne (by omega), up2_ne (by omega), up2_ne (by omega), up2_ne (by omega), up2_ne (by omega)]
    have hs1 : s < rD r (n + 1) j := by
      rw [ed]
      split <;> omega
    rw [hT.bg hj6 hs1, hT.ah hj6 hs1, hT.bt hj6 hs1, hT.wr hj6 hs1]
    obtain ⟨i', a1, a2, a3, a4⟩ := rX_of hs
    rw [← a4]
    have k1 := qS_keep (D := D) hw hv (show i' < n + 1 by omega)
    have k2 := qS_keep (D := D) hw hv' a1
    exact ⟨k1.1.trans k2.1.symm, k1.2.2.1.trans k2.2.2.1.symm, k1.2.2.2.1.trans k2.2.2.2.1.symm, k1.2.1.trans k2.2.1.symm⟩
  · exact (FrT.up2 _ _ _ (by omega)).tr ((FrT.up2 _ _ _ (by omega)).tr (FrT.up2 _ _ _ (by omega)))
def FrB (G G' : mG) : Prop := ∀ b, ¬ ((26 ≤ b ∧ b ≤ 34) ∨ b = 38 ∨ b = 39) → G' b = G b
theorem FrB.tr {A B C : mG} (h1 : FrB A B) (h2 : FrB B C) : FrB A C := fun b hb => (h2 b hb).trans (h1 b hb)
theorem FrT.b {G G' : mG} (h : FrT 26 G G') : FrB G G' := fun b hb => h b (by omega)
theorem FrB.xs {w : wS} {G G' : mG} (h : FrB G G') (hx : XS w G) : XS w G' := fun b i hb => by
  have := hb.lo
  rw [h b (by omega)]
  exact hx b i hb
def CA (tot : Nat) (acc : bAcc) (G : mG) : Prop := G 38 3 = (tot : Int) ∧ ((G 38 5 = 0 ∧ acc = none) ∨ (∃ p, acc = some p ∧ G 38 5 = 1 ∧ G 38 4 = p.1 ∧ ∀ i, i < tot → G 39 i = (p.2 i : Int)))
theorem CA.fr {tot : Nat} {acc : bAcc} {G G' : mG} (h : FrT 26 G G') (hc : CA tot acc G) : CA tot acc G' := by
  unfold CA at hc ⊢
  rw [h 38 (by omega), h 39 (by omega)]
  exact hc
theorem bV_bd {w : wS} {a : Nat} {r : Nat → Nat} {k : Nat} (hw : Wok w) (hv : qV w r k) : -2400000 ≤ bV w a r k ∧ bV w a r k ≤ 2400000 := by
  have hn := hw.n
  have h1 := qValK_bd hw (a := a) (E := tEn w (qS w D0 r k)) (fun j hj => by
    have h2 := tRd_bd0 (D := D0) hw DB0 hv hj
    have h3 := qHf_bd hw (s := tDn (qS w D0 r k) j) hj
    unfold tEn
    omega) (k := qN w) (Nat.le_refl _)
  have e : qValK w a (tEn w (qS w D0 r k)) (qN w) = bV w a r k := rfl
  rw [e] at h1
  omega
theorem Ok.lkJ {X : Type} {Q : X → Prop} {j e : Option X} {c1 c2 : Bool} (h1 : (c1 = true ∨ (c1 = false ∧ c2 = true)) → Ok j Q) (h2 : c1 = false → c2 = false → Ok e Q) : Ok (letK j fun k => bif c1 then k else bif c2 then k else e) Q := by
  show Ok (bif c1 then j else bif c2 then j else e) Q
  refine Ok.it (fun h => h1 (Or.inl h)) (fun h => Ok.it (fun h' => h1 (Or.inr ⟨h, h'⟩)) (fun h' => h2 h h'))
theorem S_explore {w : wS} {a tot : Nat} (hw : Wok w) (ha : a ≤ 4) (ht : (tot : Int) = qTot w) (ht8 : tot ≤ 8) : ∀ (m N k : Nat) (r : Nat → Nat) (acc : bAcc) (G : mG), k + m = tot → m < N → qV w r k → XS w G → TT 26 w D0 r k G → CA tot acc G → bGood w a tot acc → Ok (P_X0_explore N (a : Int) (k : Int) G) (fun G' => TT 26 w D0 r k G' ∧ CA tot (bEx w a tot m r acc) G' ∧ FrB G G') := by
  have hn := hw.n
  intro m
  induction m with
  | zero =>
    intro N k r acc G hk hN hv hx hT hC hg
    cases N with
    | zero => exact absurd hN (Nat.not_lt_zero _)
    | succ N =>
      have hkt : k = tot := by omega
      subst hkt
      obtain ⟨hc1, hc2⟩ := hC
      have hbd := bV_bd (a := a) hw hv
      show Ok ((P_X8_aimed 26 (a : Int) G).bind _) _
      refine Ok.eq (S_aimed hw hx hv DB0 hT ha) ?_
      have e0 : qVal w a (tEn w (qS w D0 r k)) = bV w a r k := rfl
      rw [e0, hc1]
      refine Ok.lkJ (fun hnp => ?_) (fun h1 h2 => ?_)
      · refine Ok.iteF ((ilt_nat (by omega) (by omega)).trans (decide_eq_false (Nat.lt_irrefl _))) ?_
        have hleaf : bEx w a k 0 r acc = some (bV w a r k, r) := by
          show bLeaf w a k r acc = _
          rcases hc2 with ⟨h5, rfl⟩ | ⟨p, rfl, h5, h4, h9⟩
          · rfl
          · rcases hnp with h | ⟨-, h⟩
            · rw [h5] at h
              exact absurd h (by decide)
            · have hp := (hg p rfl).2
              have hpb := bV_bd (a := a) hw (hg p rfl).1.1
              rw [h4, ilt_id (by omega) (by omega) (by omega) (by omega)] at h
              unfold bLeaf
              show (if bV w a r k < p.1 then _ else _) = _
              rw [if_pos (of_decide_eq_true h)]
        rw [hleaf]
        refine Ok.puZ (Or.inr rfl) ?_
        refine Ok.pu ?_
        have e3 : up2 (up2 G 38 5 1) 38 4 (bV w a r k) 38 3 = (k : Int) := by
          rw [up2_eq, up1_ne (by omega), up2_eq, up1_ne (by omega)]
          exact hc1
        refine Ok.ac 0 0 k rfl rfl e3 (by omega) (by omega) (by omega) (by omega) (Ok.so ⟨?_, ⟨?_, Or.inr ⟨_, rfl, ?_, ?_, fun i hi => ?_⟩⟩, fun b hb => ?_⟩)
        · refine TT_fr (fun b hb1 hb2 => ?_) hT
          rw [upG_ne (by omega), up2_ne (by omega), up2_ne (by omega)]
        · rw [upG_ne (by omega)]
          exact e3
        · rw [upG_ne (by omega), up2_eq, up1_ne (by omega), up2_eq, up1_eq]
        · rw [upG_ne (by omega), up2_eq, up1_eq]
        · rw [upG_eq]
          unfold cpyF
          rw [if_pos ⟨Nat.zero_le _, by omega⟩, up2_ne (by omega), up2_ne (by omega), show 0 + (i - 0) = i by omega]
          exact hT.row hi
        · rw [upG_ne (by omega), up2_ne (by omega), up2_ne (by omega)]
      · rcases hc2 with ⟨h5, rfl⟩ | ⟨p, rfl, h5, h4, h9⟩
        · rw [h5] at h1
          exact absurd h1 (by decide)
        · have hp := (hg p rfl).2
          have hpb := bV_bd (a := a) hw (hg p rfl).1.1
          rw [h4, ilt_id (by omega) (by omega) (by omega) (by omega)] at h2
          have h2 := of_decide_eq_false h2
          rw [bEx_prune hw (Nat.zero_le _) hv (by rw [Nat.sub_zero]; omega)]
          exact Ok.so ⟨hT, ⟨hc1, Or.inr ⟨p, rfl, h5, h4, h9⟩⟩, fun _ _ => rfl⟩
  | succ m ih =>
    intro N k r acc G hk hN hv hx hT hC hg
    cases N with
    | zero => exact absurd hN (Nat.not_lt_zero _)
    | succ N =>
      obtain ⟨hc1, hc2⟩ := id hC
      have hbd := bV_bd (a := a) hw hv
      have hkm : tot - (m + 1) = k := by omega
      show Ok ((P_X8_aimed 26 (a : Int) G).bind _) _
      refine Ok.eq (S_aimed hw hx hv DB0 hT ha) ?_
      have e0 : qVal w a (tEn w (qS w D0 r k)) = bV w a r k := rfl
      rw [e0, hc1]
      refine Ok.lkJ (fun _ => ?_) (fun h1 h2 => ?_)
      · refine Ok.iteT ((ilt_nat (by omega) (by omega)).trans (decide_eq_true (by omega))) ?_
        rw [bEx_succ]
        refine Ok.forC (fun i G6 => TT 26 w D0 r k G6 ∧ CA tot (it (bF w a tot m r) i acc) G6 ∧ bGood w a tot (it (bF w a tot m r) i acc) ∧ FrB G G6) (qN w) LF (LF_lt (by omega)) ⟨hT, hC, hg, fun _ _ => rfl⟩ (fun j hj again G6 hI hag => ?_) (fun again G6 hI => ?_)
        · obtain ⟨a1, a2, a3, a4⟩ := hI
          have hx6 := a4.xs hx
          rw [hx6.n hw]
          refine Ok.condT (ilt_nat (by omega) (by omega)) hj ?_
          refine Ok.eq (S_hasLeftN hw hx6 hv a1 hj) ?_
          have eit : it (bF w a tot m r) (j + 1) acc = bF w a tot m r j (it (bF w a tot m r) j acc) := rfl
          rw [eit] at hag
          generalize it (bF w a tot m r) j acc = x at a2 a3 hag
          refine Ok.lk ?_
          refine Ok.it (fun hl => ?_) (fun hl => ?_)
          · have hl := of_decide_eq_true hl
            have hv' := qV_upf hv hj hl
            have hc : ∀ i, i < k → r i = upf r k j i := fun i hi => (upf_ne (by omega)).symm
            have ebf : bF w a tot m r j x = bEx w a tot m (upf r k j) x := by
              unfold bF
              rw [hkm, if_pos hl]
            rw [ebf] at hag
            have hpu := S_put (D := D0) (r := upf r k j) hw (by omega) hx6 hv' DB0 (TT_cong hc (fun _ _ => rfl) a1)
            rw [upf_eq] at hpu
            refine Ok.bind hpu (fun G13 hG13 => ?_)
            have hx13 := hG13.2.xs (by omega) hx6
            have hrec := ih N (k + 1) (upf r k j) x G13 (by omega) (by omega) hv' hx13 hG13.1 (a2.fr hG13.2) a3
            refine Ok.bind hrec (fun G14 hG14 => ?_)
            obtain ⟨c1, c2, c3⟩ := hG14
            refine Ok.bind (S_takeBack hw (c3.xs hx13) (by omega) hv' c1) (fun G15 hG15 => ?_)
            have hgood := bEx_good hw ht (m := m) (r := upf r k j) (acc := x) (by omega) (by rw [show tot - m = k + 1 by omega]; exact hv') a3
            refine hag _ ⟨TT_cong (fun i hi => (hc i hi).symm) (fun _ _ => rfl) hG15.1, c2.fr hG15.2, hgood.1, ((a4.tr hG13.2.b).tr c3).tr hG15.2.b⟩
          · have hl := of_decide_eq_false hl
            have ebf : bF w a tot m r j x = x := by
              unfold bF
              rw [hkm, if_neg hl]
            rw [ebf] at hag
            exact hag _ ⟨a1, a2, a3, a4⟩
        · obtain ⟨a1, a2, a3, a4⟩ := hI
          rw [(a4.xs hx).n hw]
          refine Ok.condF (ilt_nat (by omega) (by omega)) (Nat.lt_irrefl _) (Ok.so ⟨a1, a2, a4⟩)
      · rcases hc2 with ⟨h5, rfl⟩ | ⟨p, rfl, h5, h4, h9⟩
        · rw [h5] at h1
          exact absurd h1 (by decide)
        · have hp := (hg p rfl).2
          have hpb := bV_bd (a := a) hw (hg p rfl).1.1
          rw [h4, ilt_id (by omega) (by omega) (by omega) (by omega)] at h2
          have h2 := of_decide_eq_false h2
          rw [bEx_prune hw (by omega) (by rw [hkm]; exact hv) (by rw [hkm]; omega)]
          exact Ok.so ⟨hT, ⟨hc1, Or.inr ⟨p, rfl, h5, h4, h9⟩⟩, fun _ _ => rfl⟩
/-- the best row of all -/
def bBest (w : wS) (a : Nat) : bAcc := bEx w a (qTot w).toNat (qTot w).toNat (fun _ => 0) none
theorem bBest_ok {w : wS} {a : Nat} (hw : Wok w) : ∃ p, bBest w a = some p ∧ qF w p.2 (qTot w).toNat ∧ p.1 = bV w a p.2 (qTot w).toNat := by
  have htot := qTot_le hw
  have h := bEx_good (a := a) (tot := (qTot w).toNat) hw (by omega) (m := (qTot w).toNat) (r := fun _ => 0) (acc := none) (Nat.le_refl _) (by rw [Nat.sub_self]; exact fun i hi => absurd hi (Nat.not_lt_zero _)) (fun p hp => nomatch hp)
  have e : bBest w a = bEx w a (qTot w).toNat (qTot w).toNat (fun _ => 0) none := rfl
  cases hb : bBest w a with
  | none =>
    rw [e] at hb
    exact absurd hb h.2
  | some p =>
    rw [e] at hb
    have := h.1 p hb
    exact ⟨p, rfl, this.1, this.2⟩
theorem S_search {w : wS} {a : Nat} {G : mG} (hw : Wok w) (hx : XS w G) (ha : a ≤ 4) (h8 : qTot w ≤ 8) : Ok (P_X0_search (a : Int) G) (fun G' => ∃ p, bBest w a = some p ∧ TT 26 w D0 p.2 (qTot w).toNat G' ∧ FrB G G') := by
  have htot := qTot_le hw
  obtain ⟨p, hp, hF, hval⟩ := bBest_ok (a := a) hw
  have ht : (((qTot w).toNat : Nat) : Int) = qTot w := by omega
  unfold P_X0_search
  refine Ok.eq (S_stepTotal hw hx) ?_
  have emin : iMin (qTot w) 8 = qTot w := by
    rw [iMin_id (by omega) (by omega) (by omega) (by omega)]
    omega
  rw [emin]
  refine Ok.pu ?_
  refine Ok.puZ (Or.inl rfl) ?_
  have hf4 : FrB G (up2 (up2 G 38 3 (qTot w)) 38 5 0) := fun b hb => by rw [up2_ne (by omega), up2_ne (by omega)]
  have e43 : up2 (up2 G 38 3 (qTot w)) 38 5 0 38 3 = qTot w := by rw [up2_eq, up1_ne (by omega), up2_eq, up1_eq]
  have e45 : up2 (up2 G 38 3 (qTot w)) 38 5 0 38 5 = 0 := by rw [up2_eq, up1_eq]
  generalize up2 (up2 G 38 3 (qTot w)) 38 5 0 = G4 at hf4 e43 e45 ⊢
  refine Ok.bind (S_clear (w := w) D0 (fun _ => 0)) (fun G5 hG5 => ?_)
  have hf5 := hf4.tr hG5.2.b
  have hexp := S_explore (a := a) (tot := (qTot w).toNat) hw ha (by omega) (by omega) (qTot w).toNat 10 0 (fun _ => 0) none G5 (by omega) (by omega) (fun i hi => absurd hi (Nat.not_lt_zero _)) (hf5.xs hx) hG5.1 ⟨by rw [hG5.2 38 (by omega), e43, ht], Or.inl ⟨by rw [hG5.2 38 (by omega), e45], rfl⟩⟩ (fun p hp => nomatch hp)
  refine Ok.bind hexp (fun G6 hG6 => ?_)
  obtain ⟨c1, c2, c3⟩ := hG6
  have eb : bEx w a (qTot w).toNat (qTot w).toNat (fun _ => 0) none = some p := hp
  rw [eb] at c2
  obtain ⟨c4, c5⟩ := c2
  have hf6 := hf5.tr c3
  refine Ok.bind (S_clear (w := w) D0 p.2) (fun G7 hG7 => ?_)
  have hf7 := hf6.tr hG7.2.b
  have hrow : ∀ i, i < (qTot w).toNat → G6 39 i = (p.2 i : Int) := by
    rcases c5 with ⟨-, h⟩ | ⟨q, h, -, -, h9⟩
    · exact nomatch h
    · cases h
      exact h9
  refine Ok.forC (fun k G' => TT 26 w D0 p.2 k G' ∧ FrB G G' ∧ G' 38 3 = qTot w ∧ (∀ i, i < (qTot w).toNat → G' 39 i = (p.2 i : Int))) (qTot w).toNat LF (LF_lt (by omega)) ⟨hG7.1, hf7, by rw [hG7.2 38 (by omega), c4, ht], fun i hi => by rw [hG7.2 39 (by omega)]; exact hrow i hi⟩ (fun k hk again G' hI hag => ?_) (fun again G' hI => ?_)
  · obtain ⟨a1, a2, a3, a4⟩ := hI
    rw [a3]
    refine Ok.iteT ((ilt_id (by omega) (by omega) (by omega) (by omega)).trans (decide_eq_true (by omega))) ?_
    refine Ok.ld k rfl (by omega) (by omega) ?_
    rw [a4 k hk]
    refine Ok.bind (S_put (D := D0) hw (by omega) (a2.xs hx) (hF.1.le (by omega)) DB0 a1) (fun G13 hG13 => ?_)
    exact hag _ ⟨hG13.1, a2.tr hG13.2.b, by rw [hG13.2 38 (by omega)]; exact a3, fun i hi => by rw [hG13.2 39 (by omega)]; exact a4 i hi⟩
  · obtain ⟨a1, a2, a3, a4⟩ := hI
    rw [a3]
    refine Ok.iteF ((ilt_id (by omega) (by omega) (by omega) (by omega)).trans (decide_eq_false (by omega))) (Ok.so ⟨p, hp, a1, a2⟩)
