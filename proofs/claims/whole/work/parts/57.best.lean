/-! ===== best: both ===== -/
def FrL (G G' : mG) : Prop := ∀ b, ¬ ((59 ≤ b ∧ b ≤ 65) ∨ (67 ≤ b ∧ b ≤ 69)) → G' b = G b
theorem FrL.tr {A B C : mG} (h1 : FrL A B) (h2 : FrL B C) : FrL A C := fun b hb => (h2 b hb).trans (h1 b hb)
def CB (tot : Nat) (acc : bAcc) (x32 x33 : Int) (G : mG) : Prop := (x33 = 0 ∧ acc = none) ∨ (∃ p, acc = some p ∧ x33 = 1 ∧ x32 = p.1 ∧ ∀ i, i < tot → G 69 i = (p.2 i : Int))
theorem CB.fr {tot : Nat} {acc : bAcc} {x32 x33 : Int} {G G' : mG} (h : G' 69 = G 69) (hc : CB tot acc x32 x33 G) : CB tot acc x32 x33 G' := by
  unfold CB at hc ⊢
  rw [h]
  exact hc
def BS (w : wS) (a tot : Nat) (T : bAcc) (G0 : mG) (m : Nat) (x32 x33 x34 : Int) (G : mG) : Prop :=
  (x34 = -1 ∧ CB tot T x32 x33 G ∧ FrL G0 G) ∨
  (∃ (k : Nat) (r : Nat → Nat) (j0 : Nat) (acc : bAcc), x34 = (k : Int) ∧ k < tot ∧ qV w r k ∧ MK w r k k G ∧ (∀ i, i < k → ST1 w r G i) ∧ G 67 k = (j0 : Int) - 1 ∧ j0 ≤ qN w ∧ CB tot acc x32 x33 G ∧ bGood w a tot acc ∧ bUp w a tot k r (bFrom (bF w a tot (tot - k - 1) r) (qN w) j0 acc) = T ∧ m = bMu tot k r j0 ∧ FrL G0 G)
theorem M_bestLoop {w : wS} {a tot : Nat} {T : bAcc} {G0 G : mG} (hw : Wok w) (ha : a ≤ 4) (ht : (tot : Int) = qTot w) (h8 : tot ≤ 8) (h0 : 0 < tot) (hm0 : MD w (G0 57)) {Q : (Int × mG) → Prop} {k31 : Int → mG → Option (Int × mG)} (hk31 : ∀ x32 x33 G', CB tot T x32 x33 G' → FrL G0 G' → Ok (k31 x32 G') Q) {m : Nat} (hmL : m < 100000000) {x32 x33 x34 : Int} (hI0 : BS w a tot T G0 m x32 x33 x34 G) : Ok (loop4 LF (fun again37 (x32 : Int) (x33 : Int) (x34 : Int) (G35 : mG) =>
    bif (ilt x34 0) then
    k31 x32 G35
    else
    bif (ilt 0 (tot : Int)) then
    (ald G35 67 9 x34).bind fun v38 =>
    (P_X11_nextJob v38 G35).bind fun v39 =>
    bif (ieq v39 (-1)) then
    bif (ilt (x34 + (-1)) 0) then
    again37 x32 x33 (x34 + (-1)) G35
    else
    (P_X11_takesBack (x34 + (-1)) G35).bind fun G55 =>
    again37 x32 x33 (x34 + (-1)) G55
    else
    (P_X11_remembers x34 v39 G35).bind fun G40 =>
    (ast G40 67 9 x34 v39).bind fun G41 =>
    (P_X11_beginOf v39 G41).bind fun v42 =>
    (P_X11_does v39 v42 G41).bind fun G43 =>
    bif (ilt (x34 + 1) (tot : Int)) then
    (ast G43 67 9 (x34 + 1) (-1)).bind fun G54 =>
    again37 x32 x33 (x34 + 1) G54
    else
    (P_X11_valueOf (a : Int) G43).bind fun v44 =>
    letK (fun (x45 : Int) (x46 : Int) (G47 : mG) =>
    (P_X11_takesBack x34 G47).bind fun G49 =>
    again37 x45 x46 x34 G49) fun k50 =>
    letK ((acp G43 67 9 0 69 8 0 (tot : Int)).bind fun G52 =>
    k50 v44 1 G52) fun k53 =>
    bif (ieq x33 0) then
    k53
    else
    bif (ilt v44 x32) then
    k53
    else
    k50 x32 x33 G43
    else
    k31 x32 G35) x32 x33 x34 G) Q := by
  have hn := hw.n
  refine Ok.lp4 (BS w a tot T G0) (fun m again x32 x33 x34 G35 hI hag => ?_) LF m x32 x33 x34 G (LF_lt hmL) hI0
  rcases hI with ⟨rfl, hC, hfr⟩ | ⟨k, r, j0, acc, rfl, hkt, hv, hT, hst, h67, hj0, hC, hg, hUp, rfl, hfr⟩
  · refine Ok.iteT ((ilt_id (by omega) (by omega) (by omega) (by omega)).trans (decide_eq_true (by omega))) ?_
    exact hk31 _ _ _ hC hfr
  · have hm35 : MD w (G35 57) := by
      rw [hfr 57 (by omega)]
      exact hm0
    refine Ok.iteF ((ilt_id (by omega) (by omega) (by omega) (by omega)).trans (decide_eq_false (by omega))) ?_
    refine Ok.iteT ((ilt_id (by omega) (by omega) (by omega) (by omega)).trans (decide_eq_true (by omega))) ?_
    refine Ok.ld k rfl (by omega) (by omega) ?_
    refine Ok.bind (M_nextJob hw hm35 hv hT hj0 h67) (fun y hy => ?_)
    obtain ⟨j1, c1, c2, c3, c4⟩ := hy
    have hm1 : tot - (tot - k - 1 + 1) = k := by omega
    have hskip : bFrom (bF w a tot (tot - k - 1) r) (qN w) j0 acc = bFrom (bF w a tot (tot - k - 1) r) (qN w) j1 acc := bFrom_skip (d := j1 - j0) (by omega) c2 (fun j h1 h2 => by
      unfold bF
      rw [hm1, if_neg (by rw [c3 j h1 h2]; omega)])
    rw [hskip] at hUp
    rcases c4 with ⟨c5, c6, rfl⟩ | ⟨c5, rfl⟩
    · have hle := rD_le hv c5
      have hl : rD r k j1 < qSt w j1 := by omega
      have hv' := qV_upf hv c5 hl
      have hc : ∀ i, i < k → r i = upf r k j1 i := fun i hi => (upf_ne (by omega)).symm
      refine Ok.iteF ((ieq_id (by omega) (by omega) (by omega) (by omega)).trans (decide_eq_false (by omega))) ?_
      refine Ok.bind (M_remembers hw hm35 hv hT (by omega) c5 hl) (fun G40 hG40 => ?_)
      obtain ⟨e1, e2, e3, e4, e5, e6⟩ := hG40
      refine Ok.sto k rfl (by omega) (by omega) ?_
      have f41 : ∀ b, b ≠ 67 → b ≠ 68 → up2 G40 67 k (j1 : Int) b = G35 b := fun b hb1 hb2 => by rw [up2_ne hb1, e1 b hb2]
      have g67 : ∀ i, up2 G40 67 k (j1 : Int) 67 i = if i = k then (j1 : Int) else G35 67 i := fun i => by rw [up2_eq, up1_if, e1 67 (by omega)]
      have g68 : up2 G40 67 k (j1 : Int) 68 = G40 68 := up2_ne (by omega)
      generalize hG41 : up2 G40 67 k (j1 : Int) = G41 at f41 g67 g68 ⊢
      have hm41 : MD w (G41 57) := by
        rw [f41 57 (by omega) (by omega)]
        exact hm35
      have hT41 : MK w r k k G41 := by
        unfold MK MT at hT ⊢
        rw [f41 60 (by omega) (by omega), f41 61 (by omega) (by omega), f41 62 (by omega) (by omega), f41 63 (by omega) (by omega), f41 64 (by omega) (by omega), f41 59 (by omega) (by omega)]
        exact hT
      obtain ⟨b1, b2, b3⟩ := MK_begin hw hv (Nat.le_refl k) hm41 hT41 c5 hl
      refine Ok.eq b1 ?_
      have hT41' : MK w (upf r k j1) (k + 1) k G41 := MK_ext hw hv' (by omega) (MK_cg hw hc hT41)
      have hdo := MK_does hw hv' (Nat.lt_succ_self k) hm41 hT41'
      have ehr : tHo w (qS w D0 (upf r k j1) k) (rX (upf r k j1) k) 0 = tHo w (qS w D0 r k) (5 * j1 + rD r k j1) 0 := by
        have d1 : qS w D0 (upf r k j1) k = qS w D0 r k := (qS_cong hc (fun _ _ => rfl)).symm
        have d2 : rX (upf r k j1) k = 5 * j1 + rD r k j1 := by
          unfold rX rS
          rw [upf_eq, ← rD_cong hc]
        rw [d1, d2]
      rw [ehr, upf_eq] at hdo
      refine Ok.bind hdo (fun G43 hG43 => ?_)
      obtain ⟨t1, t2, t3⟩ := hG43
      have hfr43 : FrL G35 G43 := fun b hb => by rw [t2 b (by omega), f41 b (by omega) (by omega)]
      -- the place of this step on the stack
      have hx1 : rX (upf r k j1) k = 5 * j1 + rD r k j1 := by
        unfold rX rS
        rw [upf_eq, ← rD_cong hc]
      have hmx : rM w (upf r k j1) k = qMc w (5 * j1 + rD r k j1) := by
        unfold rM
        rw [hx1]
      have hmc := hw.mc c5 hl
      have hC0 : rC w (upf r k j1) k = rC w r k := funext fun m => (rC_cong hc m).symm
      have hS0 : qS w D0 (upf r k j1) k = qS w D0 r k := (qS_cong hc (fun _ _ => rfl)).symm
      have hD0' : rD (upf r k j1) k = rD r k := funext fun j => (rD_cong hc j).symm
      have hstk : ST1 w (upf r k j1) G43 k := by
        unfold ST1 mLa mFr mWo
        rw [t2 67 (by omega), t2 68 (by omega), g67 k, if_pos rfl, g68, e3, e4, e5, e6, hmx, hC0, hS0, hD0', upf_eq]
        exact ⟨rfl, (hT.2.2.1 _ hmc.2).1, (hT.2.2.1 _ hmc.2).2.1, (hT.2.2.1 _ hmc.2).2.2, hT.2.1 j1 c5⟩
      have hstl : ∀ i, i < k → ST1 w (upf r k j1) G43 i := fun i hi => ST1_cg (fun i' hi' => hc i' (by omega)) (by rw [t2 67 (by omega), g67 i, if_neg (by omega)]) (fun q hq => by rw [t2 68 (by omega), g68, e2 _ (by omega)]) (hst i hi)
      have hC43 : CB tot acc x32 x33 G43 := hC.fr (by rw [t2 69 (by omega), f41 69 (by omega) (by omega)])
      have hbf : bF w a tot (tot - k - 1) r j1 acc = bEx w a tot (tot - k - 1) (upf r k j1) acc := by
        unfold bF
        rw [hm1, if_pos hl]
      rw [bFrom_step c5, hbf] at hUp
      have hdec := bMu_dec (tot := tot) (k := k) (r := r) c1 (show j1 < 6 by omega)
      by_cases hlast : k + 1 < tot
      · refine Ok.iteT ((ilt_id (by omega) (by omega) (by omega) (by omega)).trans (decide_eq_true (by omega))) ?_
        refine Ok.sto (k + 1) (by omega) (by omega) (by omega) ?_
        have hP : 7 ^ (tot - k) = 7 * 7 ^ (tot - (k + 1)) := by
          rw [show tot - k = (tot - (k + 1)) + 1 by omega, Nat.pow_succ, Nat.mul_comm]
        have hP2 : 7 ≤ 7 ^ (tot - (k + 1)) := by
          have := Nat.pow_le_pow_right (n := 7) (by omega) (show 1 ≤ tot - (k + 1) by omega)
          rw [Nat.pow_one] at this
          exact this
        have hmu : bMu tot (k + 1) (upf r k j1) 0 = bMu tot k r (j1 + 1) + (6 - 0) * 7 ^ (tot - (k + 1)) + 1 := by
          show bMu tot k (upf r k j1) (upf r k j1 k + 1) + _ + 1 = _
          rw [upf_eq, bMu_cg (fun i hi => (hc i hi).symm)]
        refine hag (bMu tot (k + 1) (upf r k j1) 0) _ _ _ _ ?_ (Or.inr ⟨k + 1, upf r k j1, 0, acc, by omega, hlast, hv', ?_, fun i hi => ?_, ?_, Nat.zero_le _, ?_, hg, ?_, rfl, ?_⟩)
        · rw [hmu]
          omega
        · unfold MK MT at t1 ⊢
          rw [up2_ne (by omega), up2_ne (by omega), up2_ne (by omega), up2_ne (by omega), up2_ne (by omega), up2_ne (by omega)]
          exact t1
        · have hs1 : ST1 w (upf r k j1) G43 i := by
            by_cases h5 : i = k
            · rw [h5]
              exact hstk
            · exact hstl i (by omega)
          refine ST1_cg (fun _ _ => rfl) ?_ (fun q hq => by rw [up2_ne (by omega)]) hs1
          rw [up2_eq, up1_ne (by omega)]
        · rw [up2_eq, up1_eq]
          rfl
        · exact hC43.fr (by rw [up2_ne (by omega)])
        · rw [← hUp]
          have e9 : bFrom (bF w a tot (tot - (k + 1) - 1) (upf r k j1)) (qN w) 0 acc = bEx w a tot (tot - k - 1) (upf r k j1) acc := by
            rw [bFrom_0, show tot - k - 1 = (tot - (k + 1) - 1) + 1 by omega, bEx_succ]
          rw [e9]
          show bUp w a tot k (upf r k j1) (bFrom (bF w a tot (tot - k - 1) (upf r k j1)) (qN w) (upf r k j1 k + 1) (bEx w a tot (tot - k - 1) (upf r k j1) acc)) = _
          rw [upf_eq]
          have e10 : bFrom (bF w a tot (tot - k - 1) (upf r k j1)) (qN w) (j1 + 1) (bEx w a tot (tot - k - 1) (upf r k j1) acc) = bFrom (bF w a tot (tot - k - 1) r) (qN w) (j1 + 1) (bEx w a tot (tot - k - 1) (upf r k j1) acc) := by
            unfold bFrom
            exact it_cong (fun i _ y => bF_cg (by omega) (fun i hi => upf_ne (by omega)))
          rw [e10]
          exact bUp_cg (by omega) (fun i hi => upf_ne (by omega))
        · refine (hfr.tr hfr43).tr (fun b hb => ?_)
          rw [up2_ne (by omega)]
      · have hkl : k + 1 = tot := by omega
        refine Ok.iteF ((ilt_id (by omega) (by omega) (by omega) (by omega)).trans (decide_eq_false (by omega))) ?_
        have hF' : qF w (upf r k j1) (k + 1) := qF_of hv' (by omega)
        have hm43 : MD w (G43 57) := by
          rw [t2 57 (by omega)]
          exact hm41
        obtain ⟨E1, E2⟩ := MK_E hw hm43 hF' t1
        refine Ok.eq (M_valueOf hw hm43 ha E1 E2) ?_
        have ev : qVal w a (tEn w (qS w D0 (upf r k j1) (k + 1))) = bV w a (upf r k j1) tot := by
          rw [← hkl]
          rfl
        rw [ev]
        have hbd := bV_bd (a := a) hw (show qV w (upf r k j1) tot by rw [← hkl]; exact hv')
        have hlf : bEx w a tot (tot - k - 1) (upf r k j1) acc = bLeaf w a tot (upf r k j1) acc := by
          rw [show tot - k - 1 = 0 by omega]
          rfl
        have hgl : bGood w a tot (bLeaf w a tot (upf r k j1) acc) := by
          have := (bEx_good (a := a) hw ht (m := 0) (r := upf r k j1) (acc := acc) (Nat.zero_le _) (by rw [Nat.sub_zero, ← hkl]; exact hv') hg).1
          exact this
        rw [hlf] at hUp
        refine Ok.jn3 (fun y32 y33 G47 => CB tot (bLeaf w a tot (upf r k j1) acc) y32 y33 G47 ∧ (∀ b, b ≠ 69 → G47 b = G43 b)) (fun y32 y33 G47 hy => ?_) (fun k50 hk50 => ?_)
        · obtain ⟨hC47, hf47⟩ := hy
          have hm47 : MD w (G47 57) := by
            rw [hf47 57 (by omega)]
            exact hm43
          have hT47 : MK w (upf r k j1) (k + 1) (k + 1) G47 := by
            unfold MK MT at t1 ⊢
            rw [hf47 60 (by omega), hf47 61 (by omega), hf47 62 (by omega), hf47 63 (by omega), hf47 64 (by omega), hf47 59 (by omega)]
            exact t1
          have hs47 : ST1 w (upf r k j1) G47 k := ST1_cg (fun _ _ => rfl) (by rw [hf47 67 (by omega)]) (fun q hq => by rw [hf47 68 (by omega)]) hstk
          refine Ok.bind (M_takesBack hw hm47 hv' (by omega) hT47 hs47) (fun G49 hG49 => ?_)
          refine hag (bMu tot k r (j1 + 1)) _ _ _ _ (by have := Nat.pow_pos (n := tot - k) (show 0 < 7 by omega); omega) (Or.inr ⟨k, r, j1 + 1, bLeaf w a tot (upf r k j1) acc, rfl, hkt, hv, MK_cg hw (fun i hi => (hc i hi).symm) hG49.1, fun i hi => ?_, ?_, by omega, ?_, hgl, hUp, rfl, ?_⟩)
          · refine ST1_cg (fun i' hi' => (hc i' (by omega)).symm) ?_ (fun q hq => ?_) (hstl i hi)
            · rw [hG49.2 67 (by omega), hf47 67 (by omega)]
            · rw [hG49.2 68 (by omega), hf47 68 (by omega)]
          · rw [hG49.2 67 (by omega), hf47 67 (by omega), t2 67 (by omega), g67 k, if_pos rfl]
            omega
          · exact hC47.fr (by rw [hG49.2 69 (by omega)])
          · refine (hfr.tr hfr43).tr (fun b hb => ?_)
            rw [hG49.2 b (by omega), hf47 b (by omega)]
        · refine Ok.lkJ (fun hnp => ?_) (fun h1 h2 => ?_)
          · refine Ok.ac 0 0 tot rfl rfl rfl (by omega) (by omega) (by omega) (by omega) ?_
            refine hk50 _ _ _ ⟨Or.inr ⟨(bV w a (upf r k j1) tot, upf r k j1), ?_, rfl, rfl, fun i hi => ?_⟩, fun b hb => upG_ne hb⟩
            · rcases hC with ⟨h5, rfl⟩ | ⟨p, rfl, h5, h4, h9⟩
              · rfl
              · rcases hnp with h | ⟨-, h⟩
                · rw [h5] at h
                  exact absurd h (by decide)
                · have hpb := bV_bd (a := a) hw (hg p rfl).1.1
                  have hp := (hg p rfl).2
                  rw [h4, ilt_id (by omega) (by omega) (by omega) (by omega)] at h
                  unfold bLeaf
                  show (if bV w a (upf r k j1) tot < p.1 then _ else _) = _
                  rw [if_pos (of_decide_eq_true h)]
            · rw [upG_eq]
              unfold cpyF
              rw [if_pos ⟨Nat.zero_le _, by omega⟩, show 0 + (i - 0) = i by omega]
              by_cases h5 : i = k
              · rw [h5]
                exact hstk.1
              · exact (hstl i (by omega)).1
          · rcases hC with ⟨h5, rfl⟩ | ⟨p, rfl, h5, h4, h9⟩
            · rw [h5] at h1
              exact absurd h1 (by decide)
            · have hpb := bV_bd (a := a) hw (hg p rfl).1.1
              have hp := (hg p rfl).2
              rw [h4, ilt_id (by omega) (by omega) (by omega) (by omega)] at h2
              have h2 := of_decide_eq_false h2
              have el : bLeaf w a tot (upf r k j1) (some p) = some p := by
                unfold bLeaf
                show (if bV w a (upf r k j1) tot < p.1 then _ else _) = _
                rw [if_neg h2]
              refine hk50 _ _ _ ⟨?_, fun _ _ => rfl⟩
              rw [el]
              exact hC43
    · refine Ok.iteT (by decide) ?_
      rw [c5, bFrom_end (Nat.le_refl _)] at hUp
      cases k with
      | zero =>
        refine Ok.iteT ((ilt_id (by omega) (by omega) (by omega) (by omega)).trans (decide_eq_true (by omega))) ?_
        refine hag 0 _ _ _ _ ?_ (Or.inl ⟨by omega, ?_, hfr⟩)
        · show 0 < (6 - j0) * 7 ^ tot + 1
          omega
        · have hUp' : acc = T := hUp
          rw [← hUp']
          exact hC
      | succ k =>
        refine Ok.iteF ((ilt_id (by omega) (by omega) (by omega) (by omega)).trans (decide_eq_false (by omega))) ?_
        have ek : ((k + 1 : Nat) : Int) + (-1) = (k : Int) := by omega
        rw [ek]
        refine Ok.bind (M_takesBack hw hm35 hv (by omega) hT (hst k (by omega))) (fun G55 hG55 => ?_)
        refine hag (bMu tot k r (r k + 1)) _ _ _ _ ?_ (Or.inr ⟨k, r, r k + 1, acc, rfl, by omega, hv.le (by omega), hG55.1, fun i hi => ?_, ?_, ?_, ?_, hg, ?_, rfl, ?_⟩)
        · show _ < bMu tot k r (r k + 1) + (6 - j0) * 7 ^ (tot - (k + 1)) + 1
          omega
        · refine ST1_cg (fun _ _ => rfl) ?_ (fun q hq => ?_) (hst i (by omega))
          · rw [hG55.2 67 (by omega)]
          · rw [hG55.2 68 (by omega)]
        · rw [hG55.2 67 (by omega), (hst k (by omega)).1]
          omega
        · have := (hv k (by omega)).1
          omega
        · exact hC.fr (by rw [hG55.2 69 (by omega)])
        · exact hUp
        · exact hfr.tr (fun b hb => hG55.2 b (by omega))
theorem M_best {w : wS} {h : Nat → wS} {len : Nat} {G : mG} {p1 : Int} {p : Int × (Nat → Nat)} {f : Nat → Int} (i1 : I32 p1) (hp : PI w h len) (hm : MA w (G 57)) (hH : MH h len G) (hb : (0 ≤ p1 ∧ p1 ≤ 4) → qTot w ≤ 8 → bBest w p1.toNat = some p ∧ (∀ i, i < (qTot w).toNat → f i = (p.2 i : Int))) : Ok (P_X11_best p1 G) (fun z =>
    (¬ (0 ≤ p1 ∧ p1 ≤ 4) → z.2 = up2 G 56 3 1) ∧ ((0 ≤ p1 ∧ p1 ≤ 4) → ¬ qTot w ≤ 8 → z.2 = up2 G 56 3 2) ∧ ((0 ≤ p1 ∧ p1 ≤ 4) → qTot w ≤ 8 → z.1 = p.1 ∧ MP' (wP w f) (psh w h) (min (len + 1) 8) G z.2)) := by
  have hw := hp.1
  have hn := hw.n
  have htot := qTot_le hw
  unfold P_X11_best
  refine Ok.eq (M_allSteps hw hm.1) ?_
  rw [M_in i1 (by unfold I32; omega) (by unfold I32; omega)]
  refine Ok.eq rfl ?_
  refine Ok.jn1 (fun y => y = b2i (decide (qTot w ≤ 8))) (fun y hy => ?_) (fun k57 hk57 => ?_)
  · refine Ok.fits rfl hy b2i_T (fun h1 => ?_) (fun h1 h2 => ?_) (fun h1 h2 h3 => absurd trivial h3) (fun h1 h2 _ => ?_)
    · exact Ok.so ⟨fun _ => rfl, fun g => absurd g h1, fun g => absurd g h1⟩
    · exact Ok.so ⟨fun g => absurd h1 g, fun _ _ => rfl, fun _ g => absurd g h2⟩
    · refine Ok.iteT rfl ?_
      obtain ⟨hbb, hf⟩ := hb h1 h2
      obtain ⟨p', hp', hF, hval⟩ := bBest_ok (a := p1.toNat) hw
      rw [hbb] at hp'
      cases hp'
      have ha4 : p1.toNat ≤ 4 := by omega
      have ej : ((p1.toNat : Nat) : Int) = p1 := by omega
      have htn : (((qTot w).toNat : Nat) : Int) = qTot w := by omega
      have htpos : 0 < (qTot w).toNat := by
        have hst0 := hw.2.2.2.2.2.2.2.2
        have h5 : (1 : Int) ≤ qTot w := by
          have hle := sm_le (f := fun j => if j = 0 then 1 else 0) (g := fun j => (qSt w j : Int)) (n := qN w) (fun j hj => by
            by_cases h6 : j = 0
            · rw [h6]
              show (if (0 : Nat) = 0 then (1 : Int) else 0) ≤ _
              rw [if_pos rfl]
              omega
            · show (if j = 0 then (1 : Int) else 0) ≤ _
              rw [if_neg h6]
              omega)
          have hs1 : ∀ n, 0 < n → (1 : Int) ≤ sm (fun j => if j = 0 then 1 else 0) n := by
            intro n
            induction n with
            | zero => intro h; exact absurd h (Nat.lt_irrefl _)
            | succ n ih =>
              intro _
              rw [sm_succ]
              by_cases h7 : n = 0
              · subst h7
                show (1 : Int) ≤ 0 + 1
                omega
              · have := ih (by omega)
                rw [if_neg h7]
                omega
          exact Int.le_trans (hs1 (qN w) (by omega)) hle
        omega
      refine M_keep0 hp hm hH (fun G' g1 g2 g3 => ?_)
      have hm' : MD w (G' 57) := by
        rw [g2 57 (by omega) (by omega)]
        exact hm.1
      refine Ok.bind (M_startsPlan hw hm' (tOd (qS w D0 (fun _ => 0) 0)) (tBg (qS w D0 (fun _ => 0) 0)) (tWr (qS w D0 (fun _ => 0) 0))) (fun G8 hG8 => ?_)
      obtain ⟨t1, t2, t3⟩ := hG8
      have hm8 : MD w (G8 57) := by
        rw [t2 57 (by omega)]
        exact hm'
      have hvo := M_valueOf hw hm8 ha4 (E := qRel w) (fun j hj => by rw [t1.2.1 j hj]; rfl) (fun j hj => by have := hw.rel hj; omega)
      rw [ej] at hvo
      refine Ok.eq hvo ?_
      refine Ok.lk ?_
      refine Ok.iteF ((ieq_id (by omega) (by omega) (by omega) (by omega)).trans (decide_eq_false (by omega))) ?_
      refine Ok.sto 0 rfl (by omega) (by omega) ?_
      refine Ok.jn2 (fun x G14 => CB (qTot w).toNat (bBest w p1.toNat) x 1 G14 ∧ FrL G' G14) (fun x13 G14 hG14 => ?_) (fun k31 hk31 => ?_)
      · obtain ⟨hCB, hfr⟩ := hG14
        have hm14 : MD w (G14 57) := by
          rw [hfr 57 (by omega)]
          exact hm'
        rw [hbb] at hCB
        rcases hCB with ⟨-, h5⟩ | ⟨q, h5, -, h6, h69⟩
        · exact nomatch h5
        cases h5
        refine Ok.bind (M_startsPlan hw hm14 (fun _ _ => 0) (fun _ => 0) (fun _ => 0)) (fun G16 hG16 => ?_)
        obtain ⟨u1, u2, u3⟩ := hG16
        refine Ok.bind M_clearsOrder (fun G17 hG17 => ?_)
        have fr17 : ∀ b, ¬ (59 ≤ b ∧ b ≤ 66) → G17 b = G14 b := fun b hb => by rw [hG17.2 b (by omega), u2 b (by omega)]
        have z17 : ∀ j, j < 6 → G17 60 j = 0 := fun j hj => by
          rw [hG17.2 60 (by omega)]
          exact u1.1 j hj
        refine Ok.jn1 (fun G18 => OT w p.2 (qTot w).toNat (tOd (qS w D0 p.2 (qTot w).toNat)) (G18 66) 0 ∧ (∀ b, ¬ (59 ≤ b ∧ b ≤ 66) → G18 b = G14 b)) (fun G18 hG18 => ?_) (fun k21 hk21 => ?_)
        · have hm18 : MD w (G18 57) := by
            rw [hG18.2 57 (by omega)]
            exact hm14
          refine Ok.bind (M_takesOrder hw hm18 hF hG18.1) (fun z20 hz20 => ?_)
          obtain ⟨c1, c2, c3, c4, c5⟩ := hz20
          refine Ok.so ⟨fun g => absurd h1 g, fun _ g => absurd h2 g, fun _ _ => ⟨h6, MP_plan hw hF hf hm' g1 g2 g3 (fun b hb => ?_) c2 c3 c4 (fun b hb1 hb2 => c5 b hb1 (by omega))⟩⟩
          rw [hG18.2 b (by omega), hfr b (by omega)]
        · refine Ok.forC (fun k G' => (∀ j, j < 6 → G' 60 j = (rD p.2 k j : Int)) ∧ OT w p.2 k (tOd (qS w D0 p.2 (qTot w).toNat)) (G' 66) 0 ∧ (∀ b, ¬ (59 ≤ b ∧ b ≤ 66) → G' b = G14 b)) (qTot w).toNat LF (LF_lt (by omega)) ⟨z17, OT_0 hG17.1, fr17⟩ (fun i hi again G22 hI hag => ?_) (fun again G22 hI => ?_)
          · obtain ⟨a5, a6, a7⟩ := hI
            refine Ok.iteT ((ilt_id (by omega) (by omega) (by omega) (by omega)).trans (decide_eq_true (by omega))) ?_
            refine Ok.ld i rfl (by omega) (by omega) ?_
            have e69 : G22 69 i = (p.2 i : Int) := by
              rw [a7 69 (by omega)]
              exact h69 i hi
            rw [e69]
            obtain ⟨hj, hl⟩ := hF.1 i hi
            have hm22 : MD w (G22 57) := by
              rw [a7 57 (by omega)]
              exact hm14
            have hcm := rC_30 hw (hF.1.le (show i + 1 ≤ (qTot w).toNat by omega)) (rM w p.2 i)
            have hlt : rC w p.2 i (rM w p.2 i) < rC w p.2 (i + 1) (rM w p.2 i) := ct_lt _ (Nat.lt_succ_self i) (decide_eq_true rfl)
            have hx0 : 5 * p.2 i + rS p.2 i = rX p.2 i := rfl
            have hmk : qMc w (rX p.2 i) = rM w p.2 i := rfl
            have hpu := M_puts hw hm22 (c := rC w p.2 i (rM w p.2 i)) hj hl (a5 _ (by omega)) (by omega) (by
              rw [hx0, hmk]
              have := (a6 (rM w p.2 i) (rM_lt hw hF.1 hi)).1
              rw [Nat.zero_add] at this
              exact this)
            rw [hx0, hmk] at hpu
            refine Ok.bind hpu (fun G26 hG26 => ?_)
            refine Ok.ld i rfl (by omega) (by omega) ?_
            rw [hG26.1 69 (by omega), e69]
            refine Ok.ld (p.2 i) rfl (by omega) (by omega) ?_
            rw [hG26.1 60 (by omega), a5 _ (by omega)]
            refine Ok.sto (p.2 i) rfl (by omega) (by omega) ?_
            refine hag _ ⟨fun j hj6 => ?_, ?_, fun b hb => ?_⟩
            · rw [up2_eq, up1_if, rD_succ]
              by_cases h7 : j = p.2 i
              · rw [if_pos h7, h7, upf_eq]
                omega
              · rw [if_neg h7, upf_ne h7, hG26.1 60 (by omega)]
                exact a5 j hj6
            · rw [up2_ne (by omega), hG26.2]
              exact OT_succ hw (hF.1.le (by omega)) a6 (qS_od hw hF.1 hi)
            · rw [up2_ne (by omega), hG26.1 b (by omega)]
              exact a7 b hb
          · refine Ok.iteF ((ilt_id (by omega) (by omega) (by omega) (by omega)).trans (decide_eq_false (by omega))) ?_
            exact hk21 _ ⟨hI.2.1, hI.2.2⟩
      · have hpow : 7 ^ (qTot w).toNat ≤ 7 ^ 8 := Nat.pow_le_pow_right (by omega) (by omega)
        have h78 : 7 ^ 8 = 5764801 := by decide
        have hloop := M_bestLoop (w := w) (a := p1.toNat) (tot := (qTot w).toNat) (T := bBest w p1.toNat) (G0 := G') (G := up2 G8 67 0 (-1)) (k31 := k31) (x32 := qVal w p1.toNat (qRel w)) (x33 := 0) (x34 := 0) (m := bMu (qTot w).toNat 0 (fun _ => 0) 0) hw ha4 htn (by omega) htpos hm' (fun x32 x33 G14 hCB hfr => hk31 x32 G14 ⟨?_, hfr⟩) ?_ (Or.inr ⟨0, fun _ => 0, 0, none, rfl, htpos, fun i hi => absurd hi (Nat.not_lt_zero _), ?_, fun i hi => absurd hi (Nat.not_lt_zero _), ?_, Nat.zero_le _, Or.inl ⟨rfl, rfl⟩, fun q hq => (nomatch hq), ?_, rfl, ?_⟩)
        · rw [ej, htn] at hloop
          exact hloop
        · rcases hCB with ⟨-, h5⟩ | ⟨q, h5, h7, h6, h69⟩
          · rw [hbb] at h5
            exact nomatch h5
          · exact Or.inr ⟨q, h5, rfl, h6, h69⟩
        · show (6 - 0) * 7 ^ (qTot w).toNat + 1 < 100000000
          omega
        · unfold MK MT
          rw [up2_ne (by omega), up2_ne (by omega), up2_ne (by omega), up2_ne (by omega), up2_ne (by omega), up2_ne (by omega)]
          exact t1
        · rw [up2_eq, up1_eq]
          rfl
        · show bFrom (bF w p1.toNat (qTot w).toNat ((qTot w).toNat - 0 - 1) (fun _ => 0)) (qN w) 0 none = bBest w p1.toNat
          rw [bFrom_0]
          unfold bBest
          have e1 : (qTot w).toNat = ((qTot w).toNat - 0 - 1) + 1 := by omega
          have e2 : ∀ m, m = ((qTot w).toNat - 0 - 1) + 1 → bEx w p1.toNat (qTot w).toNat m (fun _ => 0) none = it (bF w p1.toNat (qTot w).toNat ((qTot w).toNat - 0 - 1) (fun _ => 0)) (qN w) none := fun m hm9 => by
            rw [hm9, bEx_succ]
          exact (e2 _ e1).symm
        · intro b hb
          rw [up2_ne (by omega)]
          exact t2 b (by omega)
  · refine Ok.cd (ilt_id (by omega) (by omega) (by omega) (by omega)) (fun h2 => ?_) (fun h2 => ?_)
    · exact hk57 _ (by rw [decide_eq_false (by omega)]; rfl)
    · exact hk57 _ (by rw [decide_eq_true (by omega)]; rfl)
theorem C_best {p1 : Int} (i1 : I32 p1) : CaseX (P_X10_best p1) (fun E => if E = 1 then 1 else if E = 2 then 2 else 0) (P_X11_best p1) := by
  intro c W hW
  obtain ⟨w, h, len, a, np, G, n, k, rfl, hI, hn, hk⟩ := id hW
  have hp := hI.1
  have hw := hp.1
  have hx := hI.2.1
  have hm := hI.2.2.2.2.1
  have hH := hI.2.2.2.2.2
  have htot := qTot_le hw
  have er : ∀ e : Int, IW (c + 1) (rOf a, (tlOf a, (up2 G 56 3 e, (n + 1, k + 6)))) := fun e => hW.kq (KQ.up (by omega)) (Nat.le_refl _) (Nat.le_refl _)
  unfold P_X10_best
  rw [needAim_eq i1]
  by_cases h1 : 0 ≤ p1 ∧ p1 ≤ 4
  · rw [if_pos h1]
    refine Ok.thr0 rfl ?_
    refine Ok.eq (S_stepTotal hw hx) ?_
    refine Ok.cd (ilt_id (by omega) (by omega) (by omega) (by omega)) (fun h2 => ?_) (fun h2 => ?_)
    · refine Ok.so (Or.inr ⟨2, rfl, by decide, by omega, Ok.w (M_best (p := (0, fun _ => 0)) (f := fun _ => 0) i1 hp hm hH (fun _ g => absurd g (by omega))) (fun z hz => ?_)⟩)
      rw [hz.2.1 h1 (by omega)]
      exact ⟨by rw [up2_eq, up1_eq]; rfl, er 2⟩
    · have h8 : qTot w ≤ 8 := by omega
      have hse := S_search (a := p1.toNat) hw hx (by omega) h8
      rw [show ((p1.toNat : Nat) : Int) = p1 by omega] at hse
      refine Ok.bind hse (fun G5 hG5 => ?_)
      obtain ⟨p, hbb, hT, hfr⟩ := hG5
      obtain ⟨p', hp', hF, hval⟩ := bBest_ok (a := p1.toNat) hw
      rw [hbb] at hp'
      cases hp'
      have hI5 := IV_trial hI (G1 := G5) (fun b hb => hfr b (by omega))
      refine S_adopt hI5 hF hT (fun a' np' G' G6 n' k' f b1 b2 b3 b4 b5 hf hx6 hT6 f6 => ?_)
      have hokP : Wok (wP w f) := wP_ok hw
      have hpkP : Pok (wP w f) := wP_pok hw hF hf
      have hai := S_aimed (a := p1.toNat) hokP hx6 (Pok.v hokP hpkP) DB0 hT6 (by omega)
      rw [show ((p1.toNat : Nat) : Int) = p1 by omega] at hai
      refine Ok.eq hai ?_
      have ev : qVal (wP w f) p1.toNat (tEn (wP w f) (qS (wP w f) D0 (qRw (wP w f)) (qLn (wP w f)))) = p.1 := by
        rw [wP_val, wP_S hw hf, hval]
        exact qVal_cong (fun j _ => wP_tEn)
      rw [ev]
      refine Ok.so (Or.inl ⟨_, rfl, fun G7 hG7 => ?_⟩)
      have hG7' : ∀ b, 56 ≤ b ∧ b ≤ 73 → G7 b = G5 b := fun b hb => by
        rw [hG7 b (by omega)]
        show G6 b = G5 b
        rw [f6 b (by omega), b2 b (by omega) (by omega)]
      obtain ⟨hmA, hmH⟩ := M_start hI5.2.2.2.2.1 hI5.2.2.2.2.2 hG7'
      refine Ok.w (M_best (G := G7) (p := p) (f := f) i1 hp hmA hmH (fun _ _ => ⟨hbb, hf⟩)) (fun z hz => ?_)
      obtain ⟨z1, z2⟩ := hz.2.2 h1 h8
      exact ⟨z2.2.2.2, by rw [z1], z2.2.2.1 74 (by omega), IW_done hI5 hn hk b1 b2 b3 b4 b5 hokP hpkP hx6 hT6 f6 hG7 z2⟩
  · rw [if_neg h1]
    refine Ok.thrE rfl (Or.inr ⟨1, rfl, by decide, by omega, Ok.w (M_best (p := (0, fun _ => 0)) (f := fun _ => 0) i1 hp hm hH (fun g => absurd g h1)) (fun z hz => ?_)⟩)
    rw [hz.1 h1]
    exact ⟨by rw [up2_eq, up1_eq]; rfl, er 1⟩
