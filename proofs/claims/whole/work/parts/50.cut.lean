/-! ===== addStep, cut ===== -/
theorem wSt_pl {w : wS} {j : Nat} {m h : Int} : wSt (up2 w 1 15 0) j m h = up2 (wSt w j m h) 1 15 0 := by
  have e : qSt (up2 w 1 15 0) j = qSt w j := by rw [qSt_w (up2_ne (by omega) : (up2 w 1 15 0) 6 = w 6)]
  unfold wSt
  rw [e]
  funext b i
  simp only [up2_if]
  by_cases h1 : b = 1
  · subst h1
    simp
  · simp [h1]
theorem M_addStep {w : wS} {h : Nat → wS} {len : Nat} {G : mG} {p1 p2 p3 : Int} (i1 : I32 p1) (i2 : I32 p2) (i3 : I32 p3) (hp : PI w h len) (hm : MA w (G 57)) (hH : MH h len G) : Ok (P_X11_addStep p1 p2 p3 G) (fun z =>
    (¬ ((0 ≤ p1 ∧ p1 < (qN w : Int)) ∧ 0 ≤ p2 ∧ p2 ≤ 3) → z.2 = up2 G 56 3 1) ∧ (((0 ≤ p1 ∧ p1 < (qN w : Int)) ∧ 0 ≤ p2 ∧ p2 ≤ 3) → ¬ (1 ≤ p3 ∧ p3 ≤ 50) → z.2 = up2 G 56 3 2) ∧
    (((0 ≤ p1 ∧ p1 < (qN w : Int)) ∧ 0 ≤ p2 ∧ p2 ≤ 3) → (1 ≤ p3 ∧ p3 ≤ 50) → ¬ qSt w p1.toNat < 5 → z.2 = up2 G 56 3 3) ∧
    (((0 ≤ p1 ∧ p1 < (qN w : Int)) ∧ 0 ≤ p2 ∧ p2 ≤ 3) → (1 ≤ p3 ∧ p3 ≤ 50) → qSt w p1.toNat < 5 → z.1 = (qSt w p1.toNat : Int) ∧ MP' (up2 (wSt w p1.toNat p2 p3) 1 15 0) (psh w h) (min (len + 1) 8) G z.2)) := by
  have hw := hp.1
  have hn := hw.n
  unfold P_X11_addStep
  rw [M_isJob hw hm.1 i1]
  refine Ok.eq rfl ?_
  refine Ok.jn1 (fun y => y = b2i (decide ((0 ≤ p1 ∧ p1 < (qN w : Int)) ∧ 0 ≤ p2 ∧ p2 ≤ 3))) (fun y hy => ?_) (fun k19 hk19 => ?_)
  · rw [M_in i3 (by unfold I32; omega) (by unfold I32; omega)]
    refine Ok.eq rfl ?_
    refine Ok.eq rfl ?_
    refine Ok.jn1 (fun y => y = b2i (decide ((0 ≤ p1 ∧ p1 < (qN w : Int)) ∧ qSt w p1.toNat < 5))) (fun y2 hy2 => ?_) (fun k15 hk15 => ?_)
    · refine Ok.fits hy rfl hy2 (fun h1 => ?_) (fun h1 h2 => ?_) (fun h1 h2 h3 => ?_) (fun h1 h2 h3 => ?_)
      · exact Ok.so ⟨fun _ => rfl, fun g => absurd g h1, fun g => absurd g h1, fun g => absurd g h1⟩
      · exact Ok.so ⟨fun g => absurd h1 g, fun _ _ => rfl, fun _ g => absurd g h2, fun _ g => absurd g h2⟩
      · exact Ok.so ⟨fun g => absurd h1 g, fun _ g => absurd h2 g, fun _ _ _ => rfl, fun _ _ g => absurd ⟨h1.1, g⟩ h3⟩
      · refine Ok.iteT rfl ?_
        refine M_keep0 hp hm hH (fun G' g1 g2 g3 => ?_)
        have hm' : MD w (G' 57) := by
          rw [g2 57 (by omega) (by omega)]
          exact hm.1
        refine Ok.bind M_noPlan (fun G4 hG4 => ?_)
        obtain ⟨k1, k2, k3, k4⟩ := hG4
        have hm4 : MD (up2 w 1 15 0) (G4 57) := MD_plan hw hm' k3
        have hok4 : Wok (up2 w 1 15 0) := Wok_up hw (Or.inr (Or.inr (Or.inr (Or.inr (Or.inl ⟨rfl, rfl, Or.inl rfl⟩)))))
        have hj : p1.toNat < qN w := by omega
        have eN : qN (up2 w 1 15 0) = qN w := qN_w (by rw [up2_eq, up1_ne (by omega)])
        have eS : qSt (up2 w 1 15 0) = qSt w := qSt_w (up2_ne (by omega))
        have hls := M_laysStep hok4 hm4 (j := p1.toNat) (by rw [eN]; exact hj) (by rw [eS]; exact h3.2) p2 p3
        rw [show ((p1.toNat : Nat) : Int) = p1 by omega, eS, wSt_pl] at hls
        refine Ok.bind hls (fun z14 hz14 => ?_)
        obtain ⟨y1, y2, y3, y4⟩ := hz14
        refine Ok.so ⟨fun g => absurd h1 g, fun _ g => absurd h2 g, fun _ _ g => absurd h3.2 g, fun _ _ _ => ⟨y1, ⟨y3, ?_⟩, ?_, fun b hb => ?_, ?_⟩⟩
        · refine MPl_0 (by rw [up2_eq, up1_eq]) ?_ (fun m hm9 => ?_)
          · dsimp only
            rw [y4 151 (by omega)]
            exact k1
          · dsimp only
            rw [y4 _ (by omega)]
            exact k2 m hm9
        · dsimp only
          exact MH_fr (by rw [y2 56 (by omega), k4 56 (by omega)]) (by rw [y2 58 (by omega), k4 58 (by omega)]) g1
        · dsimp only
          rw [y2 b (by omega), k4 b (by omega)]
          exact g2 b (by omega) (by omega)
        · dsimp only
          rw [y2 56 (by omega), k4 56 (by omega)]
          exact g3
    · refine Ok.lk ?_
      refine Ok.it (fun h1 => ?_) (fun h1 => ?_)
      · have h1 := of_decide_eq_true h1
        have hj : p1.toNat < qN w := by omega
        have h5 := (hw.st hj).2
        have e := M_st hw hm.1 hj
        rw [show ((p1.toNat : Nat) : Int) = p1 by omega] at e
        refine Ok.eq e ?_
        refine Ok.cd (ilt_id (by omega) (by omega) (by omega) (by omega)) (fun h2 => ?_) (fun h2 => ?_)
        · exact hk15 _ (by rw [decide_eq_true ⟨h1, by omega⟩]; rfl)
        · exact hk15 _ (by rw [decide_eq_false (fun g => by omega)]; rfl)
      · have h1 := of_decide_eq_false h1
        exact hk15 _ (by rw [decide_eq_false (fun g => h1 g.1)]; rfl)
  · refine Ok.lk ?_
    refine Ok.it (fun h1 => ?_) (fun h1 => ?_)
    · have h1 := of_decide_eq_true h1
      rw [M_in i2 (by unfold I32; omega) (by unfold I32; omega)]
      refine Ok.eq rfl ?_
      refine Ok.it (fun h2 => ?_) (fun h2 => ?_)
      · have h2 := of_decide_eq_true h2
        exact hk19 _ (by rw [decide_eq_true ⟨h1, h2⟩]; rfl)
      · have h2 := of_decide_eq_false h2
        exact hk19 _ (by rw [decide_eq_false (fun g => h2 g.2)]; rfl)
    · have h1 := of_decide_eq_false h1
      exact hk19 _ (by rw [decide_eq_false (fun g => h1 g.1)]; rfl)
theorem C_addStep {p1 p2 p3 : Int} (i1 : I32 p1) (i2 : I32 p2) (i3 : I32 p3) : CaseX (P_X10_addStep p1 p2 p3) (fun E => E + 1) (P_X11_addStep p1 p2 p3) := by
  intro c W hW
  obtain ⟨w, h, len, a, np, G, n, k, rfl, hI, hn, hk⟩ := id hW
  have hp := hI.1
  have hw := hp.1
  have hx := hI.2.1
  have hm := hI.2.2.2.2.1
  have hH := hI.2.2.2.2.2
  have hM := M_addStep i1 i2 i3 hp hm hH
  have er : ∀ e : Int, IW (c + 1) (rOf a, (tlOf a, (up2 G 56 3 e, (n + 1, k + 6)))) := fun e => hW.kq (KQ.up (by omega)) (Nat.le_refl _) (Nat.le_refl _)
  unfold P_X10_addStep
  rw [needJob_eq hw hx i1]
  by_cases h1 : 0 ≤ p1 ∧ p1 < (qN w : Int)
  · rw [if_pos h1]
    refine Ok.thr0 rfl ?_
    rw [needMachine_eq i2]
    by_cases h2 : 0 ≤ p2 ∧ p2 < 4
    · have h2' : (0 ≤ p1 ∧ p1 < (qN w : Int)) ∧ 0 ≤ p2 ∧ p2 ≤ 3 := by omega
      rw [if_pos h2]
      refine Ok.thr0 rfl ?_
      rw [needRange_eq i3 (by unfold I32; omega) (by unfold I32; omega)]
      by_cases h3 : 1 ≤ p3 ∧ p3 ≤ 50
      · rw [if_pos h3]
        refine Ok.thr0 rfl ?_
        have hj : p1.toNat < qN w := by omega
        have hn6 := hw.n
        have h5 := (hw.st hj).2
        refine Ok.ld p1.toNat (by omega) (by omega) (by omega) ?_
        show Ok (bif ilt (G 6 p1.toNat) 5 then _ else _) _
        rw [hx.st hw hj]
        refine Ok.cd (ilt_id (by omega) (by omega) (by omega) (by omega)) (fun h4 => ?_) (fun h4 => ?_)
        · have h4' : qSt w p1.toNat < 5 := by omega
          refine S_rem hI (fun a' np' G' n' k' b1 b2 b3 b4 b5 => ?_)
          have hx' : XS w G' := fun b i hb => by
            have := hb.lo
            rw [b2 b (by omega) (by omega)]
            exact hx b i hb
          have hns := S_newStep hw hx' hj h4' p2 p3
          rw [show ((p1.toNat : Nat) : Int) = p1 by omega] at hns
          refine Ok.bind hns (fun z3 hz3 => ?_)
          obtain ⟨y1, y2, y3⟩ := hz3
          refine Ok.bind (S_dropPlan (wSt_ok hw hj h4' h2 h3) y2) (fun G4 hG4 => ?_)
          refine Ok.so (Or.inl ⟨_, rfl, fun G5 hG5 => ?_⟩)
          have f4 : ∀ b, b = 0 ∨ 26 ≤ b → G4 b = G' b := fun b hb => by rw [hG4.2.2.1 b (by omega), y3 b (by omega)]
          have hG5' : ∀ b, 56 ≤ b ∧ b ≤ 73 → G5 b = G b := fun b hb => by
            rw [hG5 b (by omega)]
            show G4 b = G b
            rw [f4 b (by omega), b2 b (by omega) (by omega)]
          obtain ⟨hmA, hmH⟩ := M_start hm hH hG5'
          refine Ok.w (M_addStep (G := G5) i1 i2 i3 hp hmA hmH) (fun z hz => ?_)
          obtain ⟨z1, z2⟩ := hz.2.2.2 h2' h3 h4'
          refine ⟨z2.2.2.2, ?_, z2.2.2.1 74 (by omega), IW_done hI hn hk b1 b2 b3 b4 b5 hG4.2.2.2.1 hG4.2.2.2.2 hG4.1 hG4.2.1 f4 hG5 z2⟩
          rw [z1, y1]
        · refine Ok.so (Or.inr ⟨2, rfl, by decide, by omega, Ok.w hM (fun z hz => ?_)⟩)
          rw [hz.2.2.1 h2' h3 (by omega)]
          exact ⟨by rw [up2_eq, up1_eq]; rfl, er 3⟩
      · rw [if_neg h3]
        refine Ok.thrE rfl (Or.inr ⟨1, rfl, by decide, by omega, Ok.w hM (fun z hz => ?_)⟩)
        rw [hz.2.1 h2' h3]
        exact ⟨by rw [up2_eq, up1_eq]; rfl, er 2⟩
    · rw [if_neg h2]
      refine Ok.thrE rfl (Or.inr ⟨0, rfl, by decide, by omega, Ok.w hM (fun z hz => ?_)⟩)
      rw [hz.1 (by omega)]
      exact ⟨by rw [up2_eq, up1_eq]; rfl, er 1⟩
  · rw [if_neg h1]
    refine Ok.thrE rfl (Or.inr ⟨0, rfl, by decide, by omega, Ok.w hM (fun z hz => ?_)⟩)
    rw [hz.1 (by omega)]
    exact ⟨by rw [up2_eq, up1_eq]; rfl, er 1⟩
/-! cut -/
def wC (w : wS) (j : Nat) : Nat → wS
  | 0 => wJ w (qRel w j) (qDu w j) (qWt w j) (qKd w j)
  | k + 1 => wHr (wSt (wC w j k) (qN w) (qMc w (5 * j + k)) (qHr w (5 * j + k) / 2)) j k (qHr w (5 * j + k) - qHr w (5 * j + k) / 2)
theorem wC_inv {w : wS} (hw : Wok w) {j : Nat} (hj : j < qN w) (h6 : qN w < 6) (h2 : ∀ s, s < qSt w j → 2 ≤ qHr w (5 * j + s)) : ∀ {k : Nat}, k ≤ qSt w j → Wok (wC w j k) ∧ qN (wC w j k) = qN w + 1 ∧ qSt (wC w j k) (qN w) = k ∧ qSt (wC w j k) j = qSt w j ∧ (∀ s, k ≤ s → s < 5 → wC w j k 8 (5 * j + s) = qHr w (5 * j + s)) ∧ (∀ s, s < 5 → wC w j k 7 (5 * j + s) = w 7 (5 * j + s))
  | 0, _ => by
    refine ⟨wJ_ok hw h6 (hw.rel hj) (hw.du hj) (hw.wt hj) (by have := (hw.kd hj).2; omega), wJ_N, ?_, ?_, fun s _ _ => ?_, fun s _ => ?_⟩
    · show qSt (wJ w _ _ _ _) (qN w) = 0
      rw [wJ_st, if_pos rfl]
    · show qSt (wJ w _ _ _ _) j = _
      rw [wJ_st, if_neg (by omega)]
    · show wJ w _ _ _ _ 8 _ = _
      rw [wJ_ne (by omega)]
      rfl
    · show wJ w _ _ _ _ 7 _ = _
      rw [wJ_ne (by omega)]
  | k + 1, hk => by
    obtain ⟨a1, a2, a3, a4, a5, a6⟩ := wC_inv hw hj h6 h2 (k := k) (by omega)
    have h5 := (hw.st hj).2
    have hmc := (hw.mc hj (show k < qSt w j by omega)).2
    have hh := hw.hr hj (show k < qSt w j by omega)
    have hh2 := h2 k (by omega)
    have b1 : Wok (wSt (wC w j k) (qN w) (qMc w (5 * j + k)) (qHr w (5 * j + k) / 2)) := wSt_ok a1 (by omega) (by omega) (by omega) (by omega)
    have e6 : qSt (wC w j (k + 1)) = qSt (wSt (wC w j k) (qN w) (qMc w (5 * j + k)) (qHr w (5 * j + k) / 2)) := qSt_w (wHr_ne (by omega))
    refine ⟨wHr_ok b1 (by omega), ?_, ?_, ?_, fun s hs1 hs2 => ?_, fun s hs => ?_⟩
    · show qN (wHr _ j k _) = _
      rw [qN_w (by rw [wHr_ne (by omega)] : wHr _ j k _ 1 0 = _), wSt_N]
      exact a2
    · rw [e6, wSt_st, if_pos rfl, a3]
    · rw [e6, wSt_st, if_neg (by omega)]
      exact a4
    · show wHr _ j k _ 8 _ = _
      rw [wHr_c, if_neg (by omega), wSt_c.2.1, a3, if_neg (by omega)]
      exact a5 s (by omega) hs2
    · show wHr _ j k _ 7 _ = _
      rw [wHr_ne (by omega), wSt_c.1, a3, if_neg (by omega)]
      exact a6 s hs
def qHalf (w : wS) (j : Nat) : Prop := 0 < qSt w j ∧ ∀ s, s < qSt w j → 2 ≤ qHr w (5 * j + s)
theorem S_canBeHalved {w : wS} {G : mG} (hw : Wok w) (hx : XS w G) {j : Nat} (hj : j < qN w) : Ok (P_X7_canBeHalved (j : Int) G) (fun b => b = true ↔ qHalf w j) := by
  have hn := hw.n
  have h5 := (hw.st hj).2
  unfold P_X7_canBeHalved
  refine Ok.lk ?_
  refine Ok.lp1 (fun m x => ∃ k : Nat, x = (k : Int) ∧ k ≤ qSt w j ∧ m = qSt w j - k ∧ ∀ s : Nat, s < k → 2 ≤ qHr w (5 * j + s)) (fun m again x hI hag => ?_) LF (qSt w j) 0 (LF_lt (by omega)) ⟨0, rfl, by omega, rfl, fun s hs => absurd hs (Nat.not_lt_zero _)⟩
  obtain ⟨k, rfl, g1, g2, g3⟩ := hI
  refine Ok.ld j rfl (by omega) (by omega) ?_
  rw [hx.st hw hj]
  refine Ok.cd (ilt_nat (by omega) (by omega)) (fun h => ?_) (fun h => ?_)
  · have hh := hw.hr hj h
    refine Ok.ld (5 * j + k) (by omega) (by omega) (by omega) ?_
    rw [hx.hr hw (by omega)]
    refine Ok.cd (ilt_id (by omega) (by omega) (by omega) (by omega)) (fun h2 => ?_) (fun h2 => ?_)
    · refine Ok.so ⟨fun g => absurd g Bool.false_ne_true, fun g => ?_⟩
      have := g.2 k h
      omega
    · refine hag (qSt w j - (k + 1)) _ (by omega) ⟨k + 1, rfl, by omega, rfl, fun s hs => ?_⟩
      by_cases h3 : s = k
      · rw [h3]
        omega
      · exact g3 s (by omega)
  · refine Ok.ld j rfl (by omega) (by omega) ?_
    rw [hx.st hw hj]
    refine Ok.cd (ilt_id (by omega) (by omega) (by omega) (by omega)) (fun h2 => ?_) (fun h2 => ?_)
    · exact Ok.so ⟨fun _ => ⟨by omega, fun s hs => g3 s (by omega)⟩, fun _ => rfl⟩
    · exact Ok.so ⟨fun g => absurd g Bool.false_ne_true, fun g => by have := g.1; omega⟩
theorem S_halve {w : wS} {G : mG} (hw : Wok w) (hx : XS w G) {j : Nat} (hj : j < qN w) (h6 : qN w < 6) (h2 : qHalf w j) : Ok (P_X7_halve (j : Int) G) (fun z => z.1 = (qN w : Int) ∧ XS (wC w j (qSt w j)) z.2 ∧ (∀ b, b = 0 ∨ 9 ≤ b → z.2 b = G b)) := by
  have hn := hw.n
  have h5 := (hw.st hj).2
  unfold P_X7_halve
  refine Ok.ld j rfl (by omega) (by omega) ?_
  refine Ok.ld j rfl (by omega) (by omega) ?_
  refine Ok.ld j rfl (by omega) (by omega) ?_
  refine Ok.ld j rfl (by omega) (by omega) ?_
  have e2 : G 2 j = qRel w j := hx.at _ (by simp [aok, asz] <;> omega)
  have e3 : G 3 j = qDu w j := hx.at _ (by simp [aok, asz] <;> omega)
  have e4 : G 4 j = qWt w j := hx.at _ (by simp [aok, asz] <;> omega)
  rw [e2, e3, e4, hx.kd hw hj]
  refine Ok.bind (S_newJob hw hx h6 _ _ _ _) (fun z hz => ?_)
  obtain ⟨y1, y2, y3⟩ := hz
  rw [y1]
  refine Ok.forC (fun k G' => XS (wC w j k) G' ∧ (∀ b, b = 0 ∨ 9 ≤ b → G' b = G b)) (qSt w j) LF (LF_lt (by omega)) ⟨y2, fun b hb => y3 b (by omega)⟩ (fun k hk again G' hI hag => ?_) (fun again G' hI => ?_)
  · obtain ⟨a1, a2, a3, a4, a5, a6⟩ := wC_inv hw hj h6 h2.2 (k := k) (by omega)
    have hmc := hw.mc hj hk
    have hh := hw.hr hj hk
    have hh2 := h2.2 k hk
    have hNk : j < qN (wC w j k) := by omega
    refine Ok.ld j rfl (by omega) (by omega) ?_
    rw [hI.1.st a1 hNk, a4]
    refine Ok.condT (ilt_nat (by omega) (by omega)) hk ?_
    refine Ok.ld (5 * j + k) (by omega) (by omega) (by omega) ?_
    have e8 : G' 8 (5 * j + k) = qHr w (5 * j + k) := (hI.1.at _ (by simp [aok, asz] <;> omega)).trans (a5 k (by omega) (by omega))
    have e7 : G' 7 (5 * j + k) = (qMc w (5 * j + k) : Int) := (hI.1.at _ (by simp [aok, asz] <;> omega)).trans ((a6 k (by omega)).trans hmc.1)
    rw [e8]
    refine Ok.ld (5 * j + k) (by omega) (by omega) (by omega) ?_
    rw [e7]
    have ed : iDiv (qHr w (5 * j + k)) 2 = qHr w (5 * j + k) / 2 := iDiv_id (by omega) (by omega) (by omega) (by omega)
    rw [ed]
    refine Ok.bind (S_newStep a1 hI.1 (j := qN w) (by omega) (by omega) _ _) (fun z14 hz14 => ?_)
    obtain ⟨b1, b2, b3⟩ := hz14
    have hok2 : Wok (wSt (wC w j k) (qN w) (qMc w (5 * j + k)) (qHr w (5 * j + k) / 2)) := wSt_ok a1 (by omega) (by omega) (by have := hmc.2; omega) (by omega)
    refine Ok.ld (5 * j + k) (by omega) (by omega) (by omega) ?_
    have e8' : z14.2 8 (5 * j + k) = qHr w (5 * j + k) := by
      refine (b2.at _ (by simp [aok, asz] <;> omega)).trans ?_
      rw [wSt_c.2.1, a3, if_neg (by omega)]
      exact a5 k (by omega) (by omega)
    rw [e8']
    refine Ok.sto (5 * j + k) (by omega) (by omega) (by omega) ?_
    refine hag _ ⟨b2.up _ _ _, fun b hb => ?_⟩
    rw [up2_ne (by omega), b3 b hb]
    exact hI.2 b hb
  · obtain ⟨a1, a2, a3, a4, a5, a6⟩ := wC_inv hw hj h6 h2.2 (k := qSt w j) (by omega)
    refine Ok.ld j rfl (by omega) (by omega) ?_
    rw [hI.1.st a1 (by omega), a4]
    refine Ok.condF (ilt_nat (by omega) (by omega)) (Nat.lt_irrefl _) (Ok.so ⟨rfl, hI.1, hI.2⟩)
theorem wC_15 {w : wS} {j : Nat} : ∀ {k : Nat}, wC w j k 1 15 = w 1 15
  | 0 => wJ_15
  | k + 1 => by
    show wHr (wSt (wC w j k) _ _ _) j k _ 1 15 = _
    rw [wHr_ne (by omega), wSt_ne (by omega)]
    exact wC_15
theorem M_cut {w : wS} {h : Nat → wS} {len : Nat} {G : mG} {p1 : Int} (i1 : I32 p1) (hp : PI w h len) (hm : MA w (G 57)) (hH : MH h len G) : Ok (P_X11_cut p1 G) (fun z =>
    (¬ (0 ≤ p1 ∧ p1 < (qN w : Int)) → z.2 = up2 G 56 3 1) ∧ ((0 ≤ p1 ∧ p1 < (qN w : Int)) → ¬ (qN w < 6 ∧ qHalf w p1.toNat) → z.2 = up2 G 56 3 2) ∧
    ((0 ≤ p1 ∧ p1 < (qN w : Int)) → (qN w < 6 ∧ qHalf w p1.toNat) → z.1 = (qN w : Int) ∧ MP' (up2 (wC w p1.toNat (qSt w p1.toNat)) 1 15 0) (psh w h) (min (len + 1) 8) G z.2)) := by
  have hw := hp.1
  have hn := hw.n
  have hdec : Decidable (qHalf w p1.toNat) := Classical.propDecidable _
  unfold P_X11_cut
  rw [M_isJob hw hm.1 i1]
  refine Ok.eq rfl ?_
  refine Ok.jn1 (fun y => (y = 1 ∧ (0 ≤ p1 ∧ p1 < (qN w : Int)) ∧ qN w < 6 ∧ 0 < qSt w p1.toNat) ∨ (y = 0 ∧ ¬ ((0 ≤ p1 ∧ p1 < (qN w : Int)) ∧ qN w < 6 ∧ 0 < qSt w p1.toNat))) (fun y hy => ?_) (fun k41 hk41 => ?_)
  · refine Ok.jn1 (fun y => y = b2i (decide ((0 ≤ p1 ∧ p1 < (qN w : Int)) ∧ qN w < 6 ∧ qHalf w p1.toNat))) (fun y2 hy2 => ?_) (fun k31 hk31 => ?_)
    · refine Ok.eq rfl ?_
      refine Ok.fits rfl hy2 b2i_T (fun h1 => ?_) (fun h1 h2 => ?_) (fun h1 h2 h3 => absurd trivial h3) (fun h1 h2 _ => ?_)
      · exact Ok.so ⟨fun _ => rfl, fun g => absurd g h1, fun g => absurd g h1⟩
      · exact Ok.so ⟨fun g => absurd h1 g, fun _ _ => rfl, fun _ g => absurd ⟨h1, g⟩ h2⟩
      · refine Ok.iteT rfl ?_
        have hj : p1.toNat < qN w := by omega
        have ej : ((p1.toNat : Nat) : Int) = p1 := by omega
        have h5 := (hw.st hj).2
        obtain ⟨-, h6, hhalf⟩ := h2
        refine M_keep0 hp hm hH (fun G' g1 g2 g3 => ?_)
        have hm' : MD w (G' 57) := by
          rw [g2 57 (by omega) (by omega)]
          exact hm.1
        have r0 := M_rel hw hm' hj
        have r1 := M_du hw hm' hj
        have r2 := M_kd hw hm' hj
        rw [ej] at r0 r1 r2
        refine Ok.eq r0 ?_
        refine Ok.eq r1 ?_
        refine Ok.eq r2 ?_
        refine Ok.bind (M_laysJob hw hm' h6 _ _ _) (fun G13 hG13 => ?_)
        obtain ⟨f1, f2, f3, f4, f5, f6, f7⟩ := hG13
        refine Ok.ld 0 rfl (by omega) (by omega) ?_
        rw [f2]
        have hwt : P_X11_of p1 2 G13 = some (qWt w p1.toNat) := by
          refine Ok.get ?_
          unfold P_X11_of
          refine Ok.ld (61 + 15 * p1.toNat + 2) (by omega) (by omega) (by omega) (Ok.so ?_)
          rw [f7 _ (by omega) (by omega)]
          exact hm'.wt hw hj
        refine Ok.eq hwt ?_
        refine Ok.sto (61 + 15 * qN w + 2) (by omega) (by omega) (by omega) ?_
        refine Ok.jn1 (fun G17 => MD (wC w p1.toNat (qSt w p1.toNat)) (G17 57) ∧ (∀ b, b ≠ 57 → G17 b = G' b)) (fun G17 hG17 => ?_) (fun k20 hk20 => ?_)
        · have hokC := (wC_inv hw hj h6 hhalf.2 (k := qSt w p1.toNat) (Nat.le_refl _)).1
          refine Ok.bind M_noPlan (fun G6 hG6 => ?_)
          obtain ⟨k1, k2, k3, k4⟩ := hG6
          refine Ok.so ⟨fun g => absurd h1 g, fun _ g => absurd ⟨h6, hhalf⟩ g, fun _ _ => ⟨?_, ⟨?_, ?_⟩, ?_, fun b hb => ?_, ?_⟩⟩
          · dsimp only
            omega
          · exact MD_plan hokC hG17.1 k3
          · exact MPl_0 (by rw [up2_eq, up1_eq]) k1 k2
          · dsimp only
            exact MH_fr (by rw [k4 56 (by omega), hG17.2 56 (by omega)]) (by rw [k4 58 (by omega), hG17.2 58 (by omega)]) g1
          · dsimp only
            rw [k4 b (by omega), hG17.2 b (by omega)]
            exact g2 b (by omega) (by omega)
          · dsimp only
            rw [k4 56 (by omega), hG17.2 56 (by omega)]
            exact g3
        · refine Ok.forC (fun k G22 => MD (wC w p1.toNat k) (G22 57) ∧ (∀ b, b ≠ 57 → G22 b = G' b)) (qSt w p1.toNat) LF (LF_lt (by omega)) ⟨?_, fun b hb => ?_⟩ (fun k hk again G22 hI hag => ?_) (fun again G22 hI => ?_)
          · rw [up2_eq]
            refine wJ_md hw h6 hm' ?_ ⟨?_, ?_, ?_, ?_, ?_⟩ (fun k hk1 hk2 => ?_)
            · rw [up1_ne (by omega)]
              exact f2
            · rw [up1_ne (by omega)]
              exact f3
            · rw [up1_ne (by omega)]
              exact f4
            · rw [up1_eq]
            · rw [up1_ne (by omega)]
              exact f5
            · rw [up1_ne (by omega)]
              exact f6
            · rw [up1_ne (by omega)]
              exact f7 k hk1 hk2
          · rw [up2_ne hb]
            exact f1 b hb
          · obtain ⟨a1, a2, a3, a4, a5, a6⟩ := wC_inv hw hj h6 hhalf.2 (k := k) (by omega)
            have hmc := hw.mc hj hk
            have hh := hw.hr hj hk
            have hh2 := hhalf.2 k hk
            have hNk : p1.toNat < qN (wC w p1.toNat k) := by omega
            have q1 := M_st a1 hI.1 hNk
            rw [ej, a4] at q1
            refine Ok.eq q1 ?_
            refine Ok.condT (ilt_nat (by omega) (by omega)) hk ?_
            have q2 := M_hoursOf a1 hI.1 hNk (s := k) (by omega)
            have q3 := M_machineOf a1 hI.1 hNk (s := k) (by omega)
            rw [ej] at q2 q3
            have q4 : qHr (wC w p1.toNat k) (5 * p1.toNat + k) = qHr w (5 * p1.toNat + k) := a5 k (Nat.le_refl _) (by omega)
            have q5 : qMc (wC w p1.toNat k) (5 * p1.toNat + k) = qMc w (5 * p1.toNat + k) := by
              unfold qMc
              rw [a6 k (by omega)]
            rw [q4] at q2
            rw [q5] at q3
            refine Ok.eq q2 ?_
            refine Ok.eq q3 ?_
            have ed : iDiv (qHr w (5 * p1.toNat + k)) 2 = qHr w (5 * p1.toNat + k) / 2 := iDiv_id (by omega) (by omega) (by omega) (by omega)
            rw [ed]
            have eN1 : ((qN w : Int) + 1) - 1 = (qN w : Int) := by omega
            rw [eN1]
            refine Ok.bind (M_laysStep a1 hI.1 (j := qN w) (by omega) (by omega) _ _) (fun z28 hz28 => ?_)
            obtain ⟨b1, b2, b3, b4⟩ := hz28
            have hok2 : Wok (wSt (wC w p1.toNat k) (qN w) (qMc w (5 * p1.toNat + k)) (qHr w (5 * p1.toNat + k) / 2)) := wSt_ok a1 (by omega) (by omega) (by have := hmc.2; omega) (by omega)
            have hS2 : qSt (wSt (wC w p1.toNat k) (qN w) (qMc w (5 * p1.toNat + k)) (qHr w (5 * p1.toNat + k) / 2)) p1.toNat = qSt w p1.toNat := by
              rw [wSt_st, if_neg (by omega)]
              exact a4
            refine Ok.ld (61 + 15 * p1.toNat + (5 + 2 * k + 1)) (by omega) (by omega) (by omega) ?_
            have e8' : z28.2 57 (61 + 15 * p1.toNat + (5 + 2 * k + 1)) = qHr w (5 * p1.toNat + k) := by
              rw [b3.hr hok2 (by rw [wSt_N]; omega) (by rw [hS2]; exact hk)]
              show wSt _ _ _ _ 8 _ = _
              rw [wSt_c.2.1, a3, if_neg (by omega)]
              exact a5 k (Nat.le_refl _) (by omega)
            rw [e8']
            refine Ok.sto (61 + 15 * p1.toNat + (5 + 2 * k + 1)) (by omega) (by omega) (by omega) ?_
            refine hag _ ⟨?_, fun b hb => ?_⟩
            · rw [up2_eq]
              refine wHr_md hok2 (by rw [wSt_N]; omega) (by omega) b3 (up1_eq) (fun k' hk' => up1_ne hk')
            · rw [up2_ne hb, b2 b hb]
              exact hI.2 b hb
          · obtain ⟨a1, a2, a3, a4, a5, a6⟩ := wC_inv hw hj h6 hhalf.2 (k := qSt w p1.toNat) (Nat.le_refl _)
            have q1 := M_st a1 hI.1 (j := p1.toNat) (by omega)
            rw [ej, a4] at q1
            refine Ok.eq q1 ?_
            refine Ok.condF (ilt_nat (by omega) (by omega)) (Nat.lt_irrefl _) ?_
            exact hk20 _ hI
    · rcases hy with ⟨rfl, h1, h2, h3⟩ | ⟨rfl, h1⟩
      · have hj : p1.toNat < qN w := by omega
        have ej : ((p1.toNat : Nat) : Int) = p1 := by omega
        have h5 := (hw.st hj).2
        refine Ok.lp2 (fun m x s => ∃ k : Nat, s = (k : Int) ∧ k ≤ qSt w p1.toNat ∧ ((x = 1 ∧ m = qSt w p1.toNat + 1 - k ∧ ∀ s : Nat, s < k → 2 ≤ qHr w (5 * p1.toNat + s)) ∨ (x = 0 ∧ ∃ s : Nat, s < qSt w p1.toNat ∧ ¬ 2 ≤ qHr w (5 * p1.toNat + s)))) (fun m again x s hI hag => ?_) LF (qSt w p1.toNat + 1) 1 0 (LF_lt (by omega)) ⟨0, rfl, by omega, Or.inl ⟨rfl, rfl, fun s hs => absurd hs (Nat.not_lt_zero _)⟩⟩
        obtain ⟨k, rfl, g1, g2⟩ := hI
        rcases g2 with ⟨rfl, g3, g4⟩ | ⟨rfl, s, g3, g4⟩
        · refine Ok.condF (ieq_id (by omega) (by omega) (by omega) (by omega)) (by omega) ?_
          have q1 := M_st hw hm.1 hj
          rw [ej] at q1
          refine Ok.eq q1 ?_
          refine Ok.cd (ilt_nat (by omega) (by omega)) (fun h7 => ?_) (fun h7 => ?_)
          · have q2 := M_hoursOf hw hm.1 hj h7
            rw [ej] at q2
            have hh := hw.hr hj h7
            refine Ok.eq q2 ?_
            refine Ok.lk ?_
            refine Ok.cd (ilt_id (by omega) (by omega) (by omega) (by omega)) (fun h8 => ?_) (fun h8 => ?_)
            · exact hag 0 _ _ (by omega) ⟨k + 1, rfl, by omega, Or.inr ⟨rfl, k, h7, by omega⟩⟩
            · refine hag (qSt w p1.toNat + 1 - (k + 1)) _ _ (by omega) ⟨k + 1, rfl, by omega, Or.inl ⟨rfl, rfl, fun s hs => ?_⟩⟩
              by_cases h9 : s = k
              · rw [h9]
                omega
              · exact g4 s (by omega)
          · refine hk31 _ ?_
            rw [decide_eq_true ⟨h1, h2, h3, fun s hs => g4 s (by omega)⟩]
            rfl
        · refine Ok.condT (ieq_id (by omega) (by omega) (by omega) (by omega)) rfl ?_
          refine hk31 _ ?_
          rw [decide_eq_false (fun g => g4 (g.2.2.2 s g3))]
          rfl
      · refine Ok.lp2 (fun m x s => x = 0) (fun m again x s hI hag => ?_) LF 0 0 0 (LF_lt (by omega)) rfl
        subst hI
        refine Ok.condT (ieq_id (by omega) (by omega) (by omega) (by omega)) rfl ?_
        refine hk31 _ ?_
        rw [decide_eq_false (fun g => h1 ⟨g.1, g.2.1, g.2.2.1⟩)]
        rfl
  · refine Ok.lk ?_
    refine Ok.it (fun h1 => ?_) (fun h1 => ?_)
    · have h1 := of_decide_eq_true h1
      have hj : p1.toNat < qN w := by omega
      have ej : ((p1.toNat : Nat) : Int) = p1 := by omega
      have h5 := (hw.st hj).2
      refine Ok.ld 0 rfl (by omega) (by omega) ?_
      rw [hm.1.n hw]
      refine Ok.cd (ilt_id (by omega) (by omega) (by omega) (by omega)) (fun h2 => ?_) (fun h2 => ?_)
      · have q1 := M_st hw hm.1 hj
        rw [ej] at q1
        refine Ok.eq q1 ?_
        refine Ok.cd (ilt_id (by omega) (by omega) (by omega) (by omega)) (fun h3 => ?_) (fun h3 => ?_)
        · exact hk41 _ (Or.inl ⟨rfl, h1, by omega, by omega⟩)
        · exact hk41 _ (Or.inr ⟨rfl, fun g => by have := g.2.2; omega⟩)
      · exact hk41 _ (Or.inr ⟨rfl, fun g => by have := g.2.1; omega⟩)
    · have h1 := of_decide_eq_false h1
      exact hk41 _ (Or.inr ⟨rfl, fun g => h1 g.1⟩)
theorem C_cut {p1 : Int} (i1 : I32 p1) : CaseX (P_X10_cut p1) (fun E => if E = 0 then 1 else if E = 2 then 2 else 0) (P_X11_cut p1) := by
  intro c W hW
  obtain ⟨w, h, len, a, np, G, n, k, rfl, hI, hn, hk⟩ := id hW
  have hp := hI.1
  have hw := hp.1
  have hx := hI.2.1
  have hm := hI.2.2.2.2.1
  have hH := hI.2.2.2.2.2
  have hM := M_cut i1 hp hm hH
  have er : ∀ e : Int, IW (c + 1) (rOf a, (tlOf a, (up2 G 56 3 e, (n + 1, k + 6)))) := fun e => hW.kq (KQ.up (by omega)) (Nat.le_refl _) (Nat.le_refl _)
  unfold P_X10_cut
  rw [needJob_eq hw hx i1]
  by_cases h1 : 0 ≤ p1 ∧ p1 < (qN w : Int)
  · have hj : p1.toNat < qN w := by omega
    have ej : ((p1.toNat : Nat) : Int) = p1 := by omega
    rw [if_pos h1]
    refine Ok.thr0 rfl ?_
    rw [needRoom_eq hw hx]
    by_cases h2 : qN w < 6
    · rw [if_pos h2]
      refine Ok.thr0 rfl ?_
      have hcb := S_canBeHalved hw hx hj
      rw [ej] at hcb
      refine Ok.bind hcb (fun b hb => ?_)
      refine Ok.it (fun h3 => ?_) (fun h3 => ?_)
      · have hhalf := hb.mp h3
        refine S_rem hI (fun a' np' G' n' k' b1 b2 b3 b4 b5 => ?_)
        have hx' : XS w G' := fun b i hb => by
          have := hb.lo
          rw [b2 b (by omega) (by omega)]
          exact hx b i hb
        have hhv := S_halve hw hx' hj h2 hhalf
        rw [ej] at hhv
        refine Ok.bind hhv (fun z9 hz9 => ?_)
        obtain ⟨y1, y2, y3⟩ := hz9
        refine Ok.bind (S_dropPlan (wC_inv hw hj h2 hhalf.2 (Nat.le_refl _)).1 y2) (fun G4 hG4 => ?_)
        refine Ok.so (Or.inl ⟨_, rfl, fun G5 hG5 => ?_⟩)
        have f4 : ∀ b, b = 0 ∨ 26 ≤ b → G4 b = G' b := fun b hb => by rw [hG4.2.2.1 b (by omega), y3 b (by omega)]
        have hG5' : ∀ b, 56 ≤ b ∧ b ≤ 73 → G5 b = G b := fun b hb => by
          rw [hG5 b (by omega)]
          show G4 b = G b
          rw [f4 b (by omega), b2 b (by omega) (by omega)]
        obtain ⟨hmA, hmH⟩ := M_start hm hH hG5'
        refine Ok.w (M_cut (G := G5) i1 hp hmA hmH) (fun z hz => ?_)
        obtain ⟨z1, z2⟩ := hz.2.2 h1 ⟨h2, hhalf⟩
        refine ⟨z2.2.2.2, ?_, z2.2.2.1 74 (by omega), IW_done hI hn hk b1 b2 b3 b4 b5 hG4.2.2.2.1 hG4.2.2.2.2 hG4.1 hG4.2.1 f4 hG5 z2⟩
        rw [z1, y1]
      · refine Ok.so (Or.inr ⟨2, rfl, by decide, by omega, Ok.w hM (fun z hz => ?_)⟩)
        rw [hz.2.1 h1 (fun g => by rw [hb.mpr g.2] at h3; exact Bool.false_ne_true h3.symm)]
        exact ⟨by rw [up2_eq, up1_eq]; rfl, er 2⟩
    · rw [if_neg h2]
      refine Ok.thrE rfl (Or.inr ⟨2, rfl, by decide, by omega, Ok.w hM (fun z hz => ?_)⟩)
      rw [hz.2.1 h1 (fun g => h2 g.1)]
      exact ⟨by rw [up2_eq, up1_eq]; rfl, er 2⟩
  · rw [if_neg h1]
    refine Ok.thrE rfl (Or.inr ⟨0, rfl, by decide, by omega, Ok.w hM (fun z hz => ?_)⟩)
    rw [hz.1 h1]
    exact ⟨by rw [up2_eq, up1_eq]; rfl, er 1⟩
