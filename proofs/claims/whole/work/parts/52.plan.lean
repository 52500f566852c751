/-! ===== plan, undo, jobs ===== -/
/-- a plan's value, told by its row -/
def qEnd (w : wS) (r : Nat → Nat) : Int := qVal w 0 (tEn w (qS w D0 r (qTot w).toNat))
theorem S_adopt {w : wS} {h : Nat → wS} {len a np n k : Nat} {G : mG} {r : Nat → Nat} (hI : IV w h len a np G) (hF : qF w r (qTot w).toNat) (hT : TT 26 w D0 r (qTot w).toNat G) {X : Type} {Q : ((X ⊕ Nat) × mW) → Prop} {g : Int → mW → Option ((X ⊕ Nat) × mW)}
    (hk : ∀ a' np' G' G4 n' k' f, HC (psh w h) (min (len + 1) 8) a' np' G' → (∀ b, 1 ≤ b → b ≤ 75 → G' b = G b) → a ≤ a' → n' + 16 * a = n + 16 * a' → k' + 203 * a = k + 203 * a' → (∀ i, i < (qTot w).toNat → f i = (r i : Int)) → XS (wP w f) G4 → TT 17 (wP w f) D0 (qRw (wP w f)) (qLn (wP w f)) G4 → (∀ b, b = 0 ∨ 26 ≤ b → G4 b = G' b) → Ok (g (qEnd w r) (rOf a', (tlOf a', (G4, (n', k'))))) Q) :
    Ok (thrB (P_X10_adoptTrial (rOf a, (tlOf a, (G, (n, k))))) g) Q := by
  have hw := hI.1.1
  have htot := qTot_le hw
  have key : Ok (P_X10_adoptTrial (rOf a, (tlOf a, (G, (n, k))))) (fun x => ∃ a' np' G' G4 n' k' f, x = (.inl (qEnd w r), (rOf a', (tlOf a', (G4, (n', k'))))) ∧ HC (psh w h) (min (len + 1) 8) a' np' G' ∧ (∀ b, 1 ≤ b → b ≤ 75 → G' b = G b) ∧ a ≤ a' ∧ n' + 16 * a = n + 16 * a' ∧ k' + 203 * a = k + 203 * a' ∧ (∀ i, i < (qTot w).toNat → f i = (r i : Int)) ∧ XS (wP w f) G4 ∧ TT 17 (wP w f) D0 (qRw (wP w f)) (qLn (wP w f)) G4 ∧ (∀ b, b = 0 ∨ 26 ≤ b → G4 b = G' b)) := by
    unfold P_X10_adoptTrial
    refine S_rem hI (fun a' np' G' n' k' b1 b2 b3 b4 b5 => ?_)
    have hx' : XS w G' := fun b i hb => by
      have := hb.lo
      rw [b2 b (by omega) (by omega)]
      exact hI.2.1 b i hb
    show Ok ((P_X7_takeRow G').bind _) _
    have htr : Ok (P_X7_takeRow G') (fun G3 => (∀ i, i < 30 → G3 16 i = G' 27 i) ∧ (∀ b, b ≠ 16 → b ≠ 1 → G3 b = G' b) ∧ G3 1 = up1 (G' 1) 15 1) := by
      unfold P_X7_takeRow
      refine Ok.cp (by omega) (fun G1 f1 e1 => ?_)
      refine Ok.puZ (Or.inr rfl) (Ok.so ⟨fun i hi => ?_, fun b h1 h2 => ?_, ?_⟩)
      · rw [up2_ne (by omega)]
        exact e1 i hi
      · rw [up2_ne h2, f1 b h1]
      · rw [up2_eq, f1 1 (by omega)]
    refine Ok.bind htr (fun G3 hG3 => ?_)
    obtain ⟨c1, c2, c3⟩ := hG3
    have hf : ∀ i, i < (qTot w).toNat → G3 16 i = (r i : Int) := fun i hi => by
      rw [c1 i (by omega), b2 27 (by omega) (by omega)]
      exact hT.2.1 i hi
    have hx3 : XS (wP w (G3 16)) G3 := fun b i hb => by
      have hlo := hb.lo
      by_cases h16 : b = 16
      · subst h16
        rw [wP_16]
      · by_cases h1 : b = 1
        · subst h1
          unfold wP
          rw [c3, up2_eq, up1_if, up1_if, upG_ne (by omega)]
          split
          · rfl
          · exact hx' 1 i hb
        · rw [wP_ne h1 h16, c2 b h16 h1]
          exact hx' b i hb
    have hokP : Wok (wP w (G3 16)) := wP_ok hw
    have hpkP : Pok (wP w (G3 16)) := wP_pok hw hF hf
    refine Ok.bind (S_replay (t := 17) hokP hx3 (by omega) hpkP) (fun G4 hG4 => ?_)
    have hx4 := hG4.2.xs (by omega) hx3
    have hvP := Pok.v hokP hpkP
    have ha := S_aimed (a := 0) hokP hx4 hvP DB0 hG4.1 (by omega)
    refine Ok.eq ha (Ok.so ⟨a', np', G', G4, n', k', G3 16, ?_, b1, b2, b3, b4, b5, hf, hx4, hG4.1, fun b hb => ?_⟩)
    · have e1 : qVal (wP w (G3 16)) 0 (tEn (wP w (G3 16)) (qS (wP w (G3 16)) D0 (qRw (wP w (G3 16))) (qLn (wP w (G3 16))))) = qEnd w r := by
        rw [wP_val, wP_S hw hf]
        exact qVal_cong (fun j _ => wP_tEn)
      rw [e1]
    · rw [hG4.2 b (by omega), c2 b (by omega) (by omega)]
  obtain ⟨x, hx, a', np', G', G4, n', k', f, rfl, h1, h2, h3, h4, h5, h6, h7, h8, h9⟩ := key
  exact Ok.thr0 hx (hk a' np' G' G4 n' k' f h1 h2 h3 h4 h5 h6 h7 h8 h9)
theorem M_clearsOrder {G : mG} : Ok (P_X11_clearsOrder G) (fun G' => (∀ m, m < 4 → G' 66 (31 * m) = 0) ∧ (∀ b, b ≠ 66 → G' b = G b)) := by
  unfold P_X11_clearsOrder
  refine Ok.forC (fun k G' => (∀ m, m < k → G' 66 (31 * m) = 0) ∧ (∀ b, b ≠ 66 → G' b = G b)) 4 LF (LF_lt (by omega)) ⟨fun m hm => absurd hm (Nat.not_lt_zero _), fun b hb => rfl⟩ (fun k hk again G' hI hag => ?_) (fun again G' hI => ?_)
  · refine Ok.iteT ((ilt_id (by omega) (by omega) (by omega) (by omega)).trans (decide_eq_true (by omega))) ?_
    refine Ok.sto (31 * k) (by omega) (by omega) (by omega) ?_
    refine hag _ ⟨fun m hm => ?_, fun b hb => ?_⟩
    · rw [up2_eq, up1_if]
      split
      · rfl
      · exact hI.1 m (by omega)
    · rw [up2_ne hb]
      exact hI.2 b hb
  · refine Ok.iteF ((ilt_id (by omega) (by omega) (by omega) (by omega)).trans (decide_eq_false (by omega))) (Ok.so hI)
theorem OT_0 {w : wS} {r : Nat → Nat} {od : Nat → Nat → Nat} {f : Nat → Int} (h : ∀ m, m < 4 → f (31 * m) = 0) : OT w r 0 od f 0 := fun m hm => ⟨by rw [Nat.zero_add, h m hm]; rfl, fun k hk => absurd hk (Nat.not_lt_zero _)⟩
/-- behind an order made: what the model's change comes to -/
theorem MP_plan {w : wS} {h : Nat → wS} {len : Nat} {r : Nat → Nat} {G0 G' G7 G8 : mG} {f : Nat → Int} (hw : Wok w) (hF : qF w r (qTot w).toNat) (hf : ∀ i, i < (qTot w).toNat → f i = (r i : Int)) (hm : MD w (G' 57)) (g1 : MH (psh w h) (min (len + 1) 8) G') (g2 : ∀ b, b ≠ 56 → b ≠ 58 → G' b = G0 b) (g3 : G' 56 3 = 0) (h7 : ∀ b, ¬ (59 ≤ b ∧ b ≤ 73) → G7 b = G' b) (c2 : ∀ k, k < 151 ∨ 276 ≤ k → G8 57 k = G7 57 k) (c3 : G8 57 151 = 1) (c4 : OT w r (qTot w).toNat (tOd (qS w D0 r (qTot w).toNat)) (G8 57) 152) (c5 : ∀ b, b ≠ 57 → ¬ (59 ≤ b ∧ b ≤ 73) → G8 b = G7 b) : MP' (wP w f) (psh w h) (min (len + 1) 8) G0 G8 := by
  refine ⟨⟨wP_md hw (g := G' 57) hm (fun k hk => ?_), wP_mpl hw hF hf c3 c4⟩, MH_fr ?_ ?_ g1, fun b hb => ?_, ?_⟩
  · rw [c2 k hk, h7 57 (by omega)]
  · rw [c5 56 (by omega) (by omega), h7 56 (by omega)]
  · rw [c5 58 (by omega) (by omega), h7 58 (by omega)]
  · rw [c5 b (by omega) (by omega), h7 b (by omega)]
    exact g2 b (by omega) (by omega)
  · rw [c5 56 (by omega) (by omega), h7 56 (by omega)]
    exact g3
theorem M_plan {w : wS} {h : Nat → wS} {len : Nat} {G : mG} {p1 : Int} {r : Nat → Nat} {f : Nat → Int} (i1 : I32 p1) (hp : PI w h len) (hm : MA w (G 57)) (hH : MH h len G) (hr : (0 ≤ p1 ∧ p1 ≤ 7) → qF w r (qTot w).toNat ∧ qRu w p1.toNat r 0 (qTot w).toNat ∧ (∀ i, i < (qTot w).toNat → f i = (r i : Int))) : Ok (P_X11_plan p1 G) (fun z =>
    (¬ (0 ≤ p1 ∧ p1 ≤ 7) → z.2 = up2 G 56 3 1) ∧ ((0 ≤ p1 ∧ p1 ≤ 7) → z.1 = qEnd w r ∧ MP' (wP w f) (psh w h) (min (len + 1) 8) G z.2)) := by
  have hw := hp.1
  unfold P_X11_plan
  rw [M_in i1 (by unfold I32; omega) (by unfold I32; omega)]
  refine Ok.eq rfl ?_
  refine Ok.fits rfl b2i_T b2i_T (fun h1 => ?_) (fun h1 h2 => absurd trivial h2) (fun h1 h2 h3 => absurd trivial h3) (fun h1 _ _ => ?_)
  · exact Ok.so ⟨fun _ => rfl, fun g => absurd g h1⟩
  · refine Ok.iteT rfl ?_
    obtain ⟨hF, hR, hf⟩ := hr h1
    refine M_keep0 hp hm hH (fun G' g1 g2 g3 => ?_)
    have hm' : MD w (G' 57) := by
      rw [g2 57 (by omega) (by omega)]
      exact hm.1
    refine Ok.bind (M_startsPlan hw hm' (tOd (qS w D0 r (qTot w).toNat)) (tBg (qS w D0 r (qTot w).toNat)) (tWr (qS w D0 r (qTot w).toNat))) (fun G5 hG5 => ?_)
    obtain ⟨t1, t2, t3⟩ := hG5
    refine Ok.bind M_clearsOrder (fun G6 hG6 => ?_)
    have hm6 : MD w (G6 57) := by
      rw [hG6.2 57 (by omega), t2 57 (by omega)]
      exact hm'
    have hT6 : MK w r (qTot w).toNat 0 G6 := by
      unfold MK MT
      rw [hG6.2 60 (by omega), hG6.2 61 (by omega), hG6.2 62 (by omega), hG6.2 63 (by omega), hG6.2 64 (by omega), hG6.2 59 (by omega)]
      exact t1
    have hgr := M_goesByRule (rule := p1.toNat) (n := 0) hw (by omega) hF (Nat.zero_le _) hR hm6 hT6 (OT_0 hG6.1)
    rw [show ((p1.toNat : Nat) : Int) = p1 by omega] at hgr
    refine Ok.bind hgr (fun G7 hG7 => ?_)
    have hm7 : MD w (G7 57) := by
      rw [hG7.2 57 (by omega)]
      exact hm6
    refine Ok.bind (M_takesOrder hw hm7 hF hG7.1) (fun z8 hz8 => ?_)
    obtain ⟨c1, c2, c3, c4, c5⟩ := hz8
    refine Ok.so ⟨fun g => absurd h1 g, fun _ => ⟨c1, MP_plan hw hF hf hm' g1 g2 g3 (fun b hb => ?_) c2 c3 c4 (fun b hb1 hb2 => c5 b hb1 (by omega))⟩⟩
    rw [hG7.2 b (by omega), hG6.2 b (by omega), t2 b (by omega)]
/-- the trial may be written ahead of a change -/
theorem IV_trial {w : wS} {h : Nat → wS} {len a np : Nat} {G G1 : mG} (hI : IV w h len a np G) (hf : ∀ b, ¬ (26 ≤ b ∧ b ≤ 55) → G1 b = G b) : IV w h len a np G1 := hI.kq (KQ.of (fun b hb => hf b (by omega)))
theorem C_plan {p1 : Int} (i1 : I32 p1) : CaseX (P_X10_plan p1) (fun E => if E = 1 then 1 else 0) (P_X11_plan p1) := by
  intro c W hW
  obtain ⟨w, h, len, a, np, G, n, k, rfl, hI, hn, hk⟩ := id hW
  have hp := hI.1
  have hw := hp.1
  have hx := hI.2.1
  have hm := hI.2.2.2.2.1
  have hH := hI.2.2.2.2.2
  unfold P_X10_plan
  rw [needRule_eq i1]
  by_cases h1 : 0 ≤ p1 ∧ p1 ≤ 7
  · rw [if_pos h1]
    refine Ok.thr0 rfl ?_
    refine Ok.bind (S_clear (w := w) D0 (fun _ => 0)) (fun G4 hG4 => ?_)
    have hx4 := hG4.2.xs (by omega) hx
    have hpr := S_putRest (rule := p1.toNat) hw hx4 (by omega) (fun i hi => absurd hi (Nat.not_lt_zero _)) hG4.1 (by omega)
    rw [show ((p1.toNat : Nat) : Int) = p1 by omega] at hpr
    refine Ok.bind hpr (fun G5 hG5 => ?_)
    obtain ⟨r, -, hF, hR, hT, hFr⟩ := hG5
    have hf5 : ∀ b, ¬ (26 ≤ b ∧ b ≤ 55) → G5 b = G b := fun b hb => by
      rw [hFr b (by omega)]
      exact hG4.2 b (by omega)
    have hI5 := IV_trial hI hf5
    refine S_adopt hI5 hF hT (fun a' np' G' G6 n' k' f b1 b2 b3 b4 b5 hf hx6 hT6 f6 => ?_)
    refine Ok.so (Or.inl ⟨_, rfl, fun G7 hG7 => ?_⟩)
    have hG7' : ∀ b, 56 ≤ b ∧ b ≤ 73 → G7 b = G5 b := fun b hb => by
      rw [hG7 b (by omega)]
      show G6 b = G5 b
      rw [f6 b (by omega), b2 b (by omega) (by omega)]
    obtain ⟨hmA, hmH⟩ := M_start hI5.2.2.2.2.1 hI5.2.2.2.2.2 hG7'
    refine Ok.w (M_plan (G := G7) (r := r) (f := f) i1 hp hmA hmH (fun _ => ⟨hF, hR, hf⟩)) (fun z hz => ?_)
    obtain ⟨z1, z2⟩ := hz.2 h1
    exact ⟨z2.2.2.2, by rw [z1], z2.2.2.1 74 (by omega), IW_done hI5 hn hk b1 b2 b3 b4 b5 (wP_ok hw) (wP_pok hw hF hf) hx6 hT6 f6 hG7 z2⟩
  · rw [if_neg h1]
    refine Ok.thrE rfl (Or.inr ⟨1, rfl, by decide, by omega, Ok.w (M_plan (r := fun _ => 0) (f := fun _ => 0) i1 hp hm hH (fun g => absurd g h1)) (fun z hz => ?_)⟩)
    rw [hz.1 h1]
    exact ⟨by rw [up2_eq, up1_eq]; rfl, hW.kq (KQ.up (by omega)) (Nat.le_refl _) (Nat.le_refl _)⟩
/-! undo and jobs: the law compares the two answers at once -/
theorem C_undo {c : Nat} {W : mW} (hW : IW c W) {Z : Type} {Q : ((Z ⊕ Nat) × mW) → Prop} {k8 : mW → Option ((Z ⊕ Nat) × mW)} {e : mW → mG → Option ((Z ⊕ Nat) × mW)} (hk8 : ∀ W', IW (c + 1) W' → Ok (k8 W') Q) : Ok (thrB (P_X10_undo W) fun v156 W157 => (P_X11_undo W157.2.2.1).bind fun z158 => bif (ieq v156 z158.1) then k8 (W157.1, (W157.2.1, (z158.2, W157.2.2.2))) else e W157 z158.2) Q := by
  obtain ⟨w, h, len, a, np, G, n, k, rfl, hI, hn, hk⟩ := id hW
  have hp := hI.1
  obtain ⟨x, hx, hcase⟩ := S_undo (n := n) (k := k) hI.2.1 hI.2.2.2.1 hp.2.2
  have hl8 := hI.2.2.2.1.2.2.2.2.2.1
  rcases hcase with ⟨h0, rfl⟩ | ⟨h0, np', G', rfl, c1, c2, c3, c4⟩
  · refine Ok.thr0 hx ?_
    refine Ok.bind (M_undo hI.2.2.2.2.2 hp.2.2) (fun z hz => ?_)
    rcases hz with ⟨-, z1, z2, z3⟩ | ⟨z0, -⟩
    · rw [z1]
      refine Ok.iteT (by decide) (hk8 _ (hW.kq ⟨fun b hb => z2 b (by omega), z3⟩ (by omega) (by omega)))
    · omega
  · refine Ok.thr0 hx ?_
    refine Ok.bind (M_undo (h := h) (len := len) (G := G') (MH_fr (by rw [c4 56 (by omega) (by omega)]) (c4 58 (by omega) (by omega)) hI.2.2.2.2.2) hp.2.2) (fun z hz => ?_)
    rcases hz with ⟨z0, -⟩ | ⟨-, z1, z2, z3, z4⟩
    · omega
    · rw [z1]
      refine Ok.iteT ((ieq_nat (by omega) (by omega)).trans (decide_eq_true rfl)) (hk8 _ ?_)
      have hok0 := hp.2.2 0 h0
      refine ⟨h 0, fun i => h (i + 1), len - 1, a, np', z.2, n, k, rfl, ⟨⟨hok0.1, hok0.2, fun i hi => hp.2.2 (i + 1) (by omega)⟩, fun b i hb => ?_, TT_fr (fun b hb1 hb2 => z4 b (by omega) (by omega)) c3, HC_fr ⟨by rw [z4 0 (by omega) (by omega)], by rw [z4 0 (by omega) (by omega)]⟩ (fun b hb => z4 b (by omega) (by omega)) c1, z3, z2⟩, by omega, by omega⟩
      have := hb.lo
      rw [z4 b (by omega) (by omega)]
      exact c2 b i hb
/-- a question that never throws: both answers agree, little is written -/
def CaseQ (p : mG → Option (Int × mG)) (q : mG → Option (Int × mG)) : Prop := ∀ w h len a np G, IV w h len a np G → Ok (p G) (fun y => KQ G y.2 ∧ Ok (q y.2) (fun z => KQ y.2 z.2 ∧ w32 y.1 = w32 z.1))
theorem law_q {p q : mG → Option (Int × mG)} (hc : CaseQ p q) {c : Nat} {W : mW} (hW : IW c W) {Z : Type} {Q : ((Z ⊕ Nat) × mW) → Prop} {k8 : mW → Option ((Z ⊕ Nat) × mW)} {e : mW → mG → Option ((Z ⊕ Nat) × mW)} (hk8 : ∀ W', IW (c + 1) W' → Ok (k8 W') Q) : Ok ((p W.2.2.1).bind fun z290 => (q z290.2).bind fun z291 => bif (ieq z290.1 z291.1) then k8 (W.1, (W.2.1, (z291.2, W.2.2.2))) else e W z291.2) Q := by
  obtain ⟨w, h, len, a, np, G, n, k, rfl, hI, hn, hk⟩ := id hW
  refine Ok.bind (hc w h len a np G hI) (fun y hy => ?_)
  refine Ok.bind hy.2 (fun z hz => ?_)
  refine Ok.iteT (by unfold ieq; exact decide_eq_true hz.2) (hk8 _ (hW.kq (hy.1.tr hz.1) (by omega) (by omega)))
theorem Q_jobs : CaseQ (fun G => (P_X10_jobs G).bind fun v => some (v, G)) P_X11_jobs := by
  intro w h len a np G hI
  have hw := hI.1.1
  unfold P_X10_jobs
  refine Ok.so ⟨KQ.rf G, ?_⟩
  unfold P_X11_jobs
  refine Ok.pu ?_
  refine Ok.ld 0 rfl (by omega) (by omega) (Ok.so ⟨KQ.up (by omega), ?_⟩)
  dsimp only
  rw [up2_ne (by omega), hI.2.1.n hw, hI.2.2.2.2.1.1.n hw]
