/-! ===== setSetup, setWorker ===== -/
/-- the model drops the plan -/
theorem MD_plan {w : wS} (hw : Wok w) {f f' : Nat → Int} {x : Int} (hf : MD w f) (h1 : ∀ k, k < 151 ∨ 276 ≤ k → f' k = f k) : MD (up2 w 1 15 x) f' := by
  have h2 : MD (up2 w 1 15 x) (up1 f 151 x) := MD_up hw hf (Or.inr (Or.inr (Or.inr (Or.inr ⟨rfl, rfl, rfl⟩))))
  obtain ⟨a1, a2, a3, a4, a5, a6, a7⟩ := h2
  have hn := hw.n
  have eN : qN (up2 w 1 15 x) = qN w := qN_w (by rw [up2_eq, up1_ne (by omega)])
  have eS : qSt (up2 w 1 15 x) = qSt w := qSt_w (up2_ne (by omega))
  have eC : ∀ m, qCn (up2 w 1 15 x) m = qCn w m := fun m => by
    unfold qCn
    rw [up2_ne (by omega)]
  have e : ∀ k, k < 151 ∨ 276 ≤ k → f' k = up1 f 151 x k := fun k hk => by rw [h1 k hk, up1_ne (by omega)]
  refine ⟨(e 0 (by omega)).trans a1, fun m hm => ?_, fun m c hm hc => ?_, fun j hj => ?_, fun j hj => ?_, fun j s hj hs => ?_, fun u hu => ?_⟩
  · rw [e _ (by omega), e _ (by omega), e _ (by omega)]
    exact a2 m hm
  · have := (hw.cn hm).2
    rw [eC] at hc
    rw [e _ (by omega), e _ (by omega)]
    exact a3 m c hm (by rw [eC]; exact hc)
  · rw [e _ (by omega)]
    exact a4 j hj
  · rw [eN] at hj
    rw [e _ (by omega), e _ (by omega), e _ (by omega), e _ (by omega), e _ (by omega)]
    exact a5 j (by rw [eN]; exact hj)
  · rw [eN] at hj
    rw [eS] at hs
    have := (hw.st hj).2
    rw [e _ (by omega), e _ (by omega)]
    exact a6 j s (by rw [eN]; exact hj) (by rw [eS]; exact hs)
  · rw [e _ (by omega)]
    exact a7 u hu
/-- the class drops the plan -/
theorem S_dropPlan {w : wS} {G : mG} (hw : Wok w) (hx : XS w G) : Ok (P_X10_dropPlan G) (fun G' => XS (up2 w 1 15 0) G' ∧ TT 17 (up2 w 1 15 0) D0 (qRw (up2 w 1 15 0)) (qLn (up2 w 1 15 0)) G' ∧ (∀ b, b = 0 ∨ 26 ≤ b → G' b = G b) ∧ Wok (up2 w 1 15 0) ∧ Pok (up2 w 1 15 0)) := by
  have hok : Wok (up2 w 1 15 0) := Wok_up hw (Or.inr (Or.inr (Or.inr (Or.inr (Or.inl ⟨rfl, rfl, Or.inl rfl⟩)))))
  have hpk : Pok (up2 w 1 15 0) := Pok_0 (by rw [up2_eq, up1_eq])
  unfold P_X10_dropPlan
  refine Ok.puZ (Or.inl rfl) ?_
  have hx1 : XS (up2 w 1 15 0) (up2 G 1 15 0) := hx.up _ _ _
  refine Ok.bind (S_replay (t := 17) hok hx1 (by omega) hpk) (fun G2 hG2 => Ok.so ⟨hG2.2.xs (by omega) hx1, hG2.1, fun b hb => ?_, hok, hpk⟩)
  rw [hG2.2 b (by omega), up2_ne (by omega)]
theorem M_setSetup {w : wS} {h : Nat → wS} {len : Nat} {G : mG} {p1 p2 p3 : Int} (i1 : I32 p1) (i2 : I32 p2) (i3 : I32 p3) (hp : PI w h len) (hm : MA w (G 57)) (hH : MH h len G) : Ok (P_X11_setSetup p1 p2 p3 G) (fun z =>
    (¬ ((0 ≤ p1 ∧ p1 ≤ 3) ∧ 0 ≤ p2 ∧ p2 ≤ 3) → z.2 = up2 G 56 3 1) ∧ (((0 ≤ p1 ∧ p1 ≤ 3) ∧ 0 ≤ p2 ∧ p2 ≤ 3) → ¬ (0 ≤ p3 ∧ p3 ≤ 20) → z.2 = up2 G 56 3 2) ∧
    (((0 ≤ p1 ∧ p1 ≤ 3) ∧ 0 ≤ p2 ∧ p2 ≤ 3) → (0 ≤ p3 ∧ p3 ≤ 20) → z.1 = w 14 (4 * p1.toNat + p2.toNat) ∧ MP' (up2 (up2 w 14 (4 * p1.toNat + p2.toNat) p3) 1 15 0) (psh w h) (min (len + 1) 8) G z.2)) := by
  have hw := hp.1
  unfold P_X11_setSetup
  rw [M_in i1 (by unfold I32; omega) (by unfold I32; omega)]
  refine Ok.eq rfl ?_
  refine Ok.jn1 (fun y => y = b2i (decide ((0 ≤ p1 ∧ p1 ≤ 3) ∧ 0 ≤ p2 ∧ p2 ≤ 3))) (fun y hy => ?_) (fun k12 hk12 => ?_)
  · rw [M_in i3 (by unfold I32; omega) (by unfold I32; omega)]
    refine Ok.eq rfl ?_
    refine Ok.fits hy rfl b2i_T (fun h1 => ?_) (fun h1 h2 => ?_) (fun h1 h2 h3 => absurd trivial h3) (fun h1 h2 _ => ?_)
    · exact Ok.so ⟨fun _ => rfl, fun g => absurd g h1, fun g => absurd g h1⟩
    · exact Ok.so ⟨fun g => absurd h1 g, fun _ _ => rfl, fun _ g => absurd g h2⟩
    · refine Ok.iteT rfl ?_
      refine M_keep0 hp hm hH (fun G' g1 g2 g3 => ?_)
      have hm' : MD w (G' 57) := by
        rw [g2 57 (by omega) (by omega)]
        exact hm.1
      refine Ok.ld (45 + (4 * p1.toNat + p2.toNat)) (by omega) (by omega) (by omega) ?_
      refine Ok.sto (45 + (4 * p1.toNat + p2.toNat)) (by omega) (by omega) (by omega) ?_
      refine Ok.bind M_noPlan (fun G4 hG4 => Ok.so ⟨fun g => absurd h1 g, fun _ g => absurd h2 g, fun _ _ => ⟨hm'.2.2.2.1 _ (by omega), ⟨?_, ?_⟩, ?_, fun b hb => ?_, ?_⟩⟩)
      · refine MD_plan (Wok_up hw (Or.inr (Or.inr (Or.inl ⟨rfl, h2⟩)))) (MD_up hw hm' (Or.inr (Or.inr (Or.inl ⟨rfl, by omega, rfl⟩)))) (fun k hk => ?_)
        dsimp only
        rw [hG4.2.2.1 k hk, up2_eq]
      · exact MPl_0 (by rw [up2_eq, up1_eq]) hG4.1 hG4.2.1
      · dsimp only
        exact MH_fr (by rw [hG4.2.2.2 56 (by omega), up2_ne (by omega)]) (by rw [hG4.2.2.2 58 (by omega), up2_ne (by omega)]) g1
      · dsimp only
        rw [hG4.2.2.2 b (by omega), up2_ne (by omega)]
        exact g2 b (by omega) (by omega)
      · dsimp only
        rw [hG4.2.2.2 56 (by omega), up2_ne (by omega)]
        exact g3
  · refine Ok.lk ?_
    refine Ok.it (fun h1 => ?_) (fun h1 => ?_)
    · have h1 := of_decide_eq_true h1
      rw [M_in i2 (by unfold I32; omega) (by unfold I32; omega)]
      refine Ok.eq rfl ?_
      refine Ok.it (fun h2 => ?_) (fun h2 => ?_)
      · have h2 := of_decide_eq_true h2
        exact hk12 _ (by rw [decide_eq_true ⟨h1, h2⟩]; rfl)
      · have h2 := of_decide_eq_false h2
        exact hk12 _ (by rw [decide_eq_false (fun g => h2 g.2)]; rfl)
    · have h1 := of_decide_eq_false h1
      exact hk12 _ (by rw [decide_eq_false (fun g => h1 g.1)]; rfl)
theorem C_setSetup {p1 p2 p3 : Int} (i1 : I32 p1) (i2 : I32 p2) (i3 : I32 p3) : CaseX (P_X10_setSetup p1 p2 p3) (fun E => if E = 2 then 0 else E + 1) (P_X11_setSetup p1 p2 p3) := by
  intro c W hW
  obtain ⟨w, h, len, a, np, G, n, k, rfl, hI, hn, hk⟩ := id hW
  have hp := hI.1
  have hw := hp.1
  have hx := hI.2.1
  have hm := hI.2.2.2.2.1
  have hH := hI.2.2.2.2.2
  have hM := M_setSetup i1 i2 i3 hp hm hH
  have er : ∀ e : Int, IW (c + 1) (rOf a, (tlOf a, (up2 G 56 3 e, (n + 1, k + 6)))) := fun e => hW.kq (KQ.up (by omega)) (Nat.le_refl _) (Nat.le_refl _)
  unfold P_X10_setSetup
  rw [needKind_eq i1]
  by_cases h1 : 0 ≤ p1 ∧ p1 < 4
  · rw [if_pos h1]
    refine Ok.thr0 rfl ?_
    rw [needKind_eq i2]
    by_cases h2 : 0 ≤ p2 ∧ p2 < 4
    · rw [if_pos h2]
      refine Ok.thr0 rfl ?_
      have h12 : (0 ≤ p1 ∧ p1 ≤ 3) ∧ 0 ≤ p2 ∧ p2 ≤ 3 := by omega
      rw [needRange_eq i3 (by unfold I32; omega) (by unfold I32; omega)]
      by_cases h3 : 0 ≤ p3 ∧ p3 ≤ 20
      · rw [if_pos h3]
        refine Ok.thr0 rfl ?_
        refine S_rem hI (fun a' np' G' n' k' b1 b2 b3 b4 b5 => ?_)
        have hx' : XS w G' := fun b i hb => by
          have := hb.lo
          rw [b2 b (by omega) (by omega)]
          exact hx b i hb
        have hok : Wok (up2 w 14 (4 * p1.toNat + p2.toNat) p3) := Wok_up hw (Or.inr (Or.inr (Or.inl ⟨rfl, h3⟩)))
        refine Ok.ld (4 * p1.toNat + p2.toNat) (by omega) (by omega) (by omega) ?_
        have e14 : G' 14 (4 * p1.toNat + p2.toNat) = w 14 (4 * p1.toNat + p2.toNat) := hx'.at _ (by simp [aok, asz] <;> omega)
        refine Ok.sto (4 * p1.toNat + p2.toNat) (by omega) (by omega) (by omega) ?_
        have hxn : XS (up2 w 14 (4 * p1.toNat + p2.toNat) p3) (up2 G' 14 (4 * p1.toNat + p2.toNat) p3) := hx'.up _ _ _
        refine Ok.bind (S_dropPlan hok hxn) (fun G4 hG4 => ?_)
        refine Ok.so (Or.inl ⟨_, rfl, fun G5 hG5 => ?_⟩)
        have f4 : ∀ b, b = 0 ∨ 26 ≤ b → G4 b = G' b := fun b hb => by rw [hG4.2.2.1 b (by omega), up2_ne (by omega)]
        have hG5' : ∀ b, 56 ≤ b ∧ b ≤ 73 → G5 b = G b := fun b hb => by
          rw [hG5 b (by omega)]
          show G4 b = G b
          rw [f4 b (by omega), b2 b (by omega) (by omega)]
        obtain ⟨hmA, hmH⟩ := M_start hm hH hG5'
        refine Ok.w (M_setSetup (G := G5) i1 i2 i3 hp hmA hmH) (fun z hz => ?_)
        obtain ⟨z1, z2⟩ := hz.2.2 h12 h3
        refine ⟨z2.2.2.2, ?_, z2.2.2.1 74 (by omega), IW_done hI hn hk b1 b2 b3 b4 b5 hG4.2.2.2.1 hG4.2.2.2.2 hG4.1 hG4.2.1 f4 hG5 z2⟩
        show w32 z.1 = w32 (G' 14 (4 * p1.toNat + p2.toNat))
        rw [z1, e14]
      · rw [if_neg h3]
        refine Ok.thrE rfl (Or.inr ⟨1, rfl, by decide, by omega, Ok.w hM (fun z hz => ?_)⟩)
        rw [hz.2.1 h12 h3]
        exact ⟨by rw [up2_eq, up1_eq]; rfl, er 2⟩
    · rw [if_neg h2]
      refine Ok.thrE rfl (Or.inr ⟨0, rfl, by decide, by omega, Ok.w hM (fun z hz => ?_)⟩)
      rw [hz.1 (by omega)]
      exact ⟨by rw [up2_eq, up1_eq]; rfl, er 1⟩
  · rw [if_neg h1]
    refine Ok.thrE rfl (Or.inr ⟨0, rfl, by decide, by omega, Ok.w hM (fun z hz => ?_)⟩)
    rw [hz.1 (by omega)]
    exact ⟨by rw [up2_eq, up1_eq]; rfl, er 1⟩
theorem M_setWorker {w : wS} {h : Nat → wS} {len : Nat} {G : mG} {p1 p2 : Int} (i1 : I32 p1) (i2 : I32 p2) (hp : PI w h len) (hm : MA w (G 57)) (hH : MH h len G) : Ok (P_X11_setWorker p1 p2 G) (fun z =>
    (¬ (0 ≤ p1 ∧ p1 ≤ 5) → z.2 = up2 G 56 3 1) ∧ ((0 ≤ p1 ∧ p1 ≤ 5) → ¬ (0 ≤ p2 ∧ p2 ≤ 15) → z.2 = up2 G 56 3 2) ∧
    ((0 ≤ p1 ∧ p1 ≤ 5) → (0 ≤ p2 ∧ p2 ≤ 15) → z.1 = w 15 p1.toNat ∧ MP' (up2 w 15 p1.toNat p2) (psh w h) (min (len + 1) 8) G z.2)) := by
  have hw := hp.1
  unfold P_X11_setWorker
  rw [M_in i1 (by unfold I32; omega) (by unfold I32; omega), M_in i2 (by unfold I32; omega) (by unfold I32; omega)]
  refine Ok.eq rfl ?_
  refine Ok.eq rfl ?_
  refine Ok.fits rfl rfl b2i_T (fun h1 => ?_) (fun h1 h2 => ?_) (fun h1 h2 h3 => absurd trivial h3) (fun h1 h2 _ => ?_)
  · exact Ok.so ⟨fun _ => rfl, fun g => absurd g h1, fun g => absurd g h1⟩
  · exact Ok.so ⟨fun g => absurd h1 g, fun _ _ => rfl, fun _ g => absurd g h2⟩
  · refine Ok.iteT rfl ?_
    refine M_keep0 hp hm hH (fun G' g1 g2 g3 => ?_)
    have hm' : MD w (G' 57) := by
      rw [g2 57 (by omega) (by omega)]
      exact hm.1
    refine Ok.ld (276 + p1.toNat) (by omega) (by omega) (by omega) ?_
    refine Ok.sto (276 + p1.toNat) (by omega) (by omega) (by omega) (Ok.so ⟨fun g => absurd h1 g, fun _ g => absurd h2 g, fun _ _ => ⟨hm'.2.2.2.2.2.2 _ (by omega), ⟨?_, ?_⟩, ?_, fun b hb => ?_, ?_⟩⟩)
    · dsimp only
      rw [up2_eq]
      exact MD_up hw hm' (Or.inr (Or.inr (Or.inr (Or.inl ⟨rfl, by omega, rfl⟩))))
    · dsimp only
      refine MPl_w hw hp.2.1 (by rw [up2_ne (by omega)]) (by rw [up2_ne (by omega)]) (by rw [up2_ne (by omega)]) (by rw [up2_ne (by omega)]) (by rw [up2_ne (by omega)]) (fun k hk1 hk2 => ?_) hm.2
      rw [up2_eq, up1_ne (by omega), g2 57 (by omega) (by omega)]
    · dsimp only
      exact MH_fr (by rw [up2_ne (by omega)]) (by rw [up2_ne (by omega)]) g1
    · dsimp only
      rw [up2_ne (by omega)]
      exact g2 b (by omega) (by omega)
    · dsimp only
      rw [up2_ne (by omega)]
      exact g3
theorem C_setWorker {p1 p2 : Int} (i1 : I32 p1) (i2 : I32 p2) : CaseX (P_X10_setWorker p1 p2) (fun E => if E = 2 then 0 else E + 1) (P_X11_setWorker p1 p2) := by
  intro c W hW
  obtain ⟨w, h, len, a, np, G, n, k, rfl, hI, hn, hk⟩ := id hW
  have hp := hI.1
  have hw := hp.1
  have hx := hI.2.1
  have hm := hI.2.2.2.2.1
  have hH := hI.2.2.2.2.2
  have hM := M_setWorker i1 i2 hp hm hH
  have er : ∀ e : Int, IW (c + 1) (rOf a, (tlOf a, (up2 G 56 3 e, (n + 1, k + 6)))) := fun e => hW.kq (KQ.up (by omega)) (Nat.le_refl _) (Nat.le_refl _)
  have ii := i1
  unfold I32 at ii
  unfold P_X10_setWorker
  refine Ok.lk ?_
  refine Ok.cd (ilt_id (by omega) (by omega) (by omega) (by omega)) (fun h1 => ?_) (fun h1 => ?_)
  · refine Ok.so (Or.inr ⟨0, rfl, by decide, by omega, Ok.w hM (fun z hz => ?_)⟩)
    rw [hz.1 (by omega)]
    exact ⟨by rw [up2_eq, up1_eq]; rfl, er 1⟩
  · refine Ok.cd (ilt_id (by omega) (by omega) (by omega) (by omega)) (fun h2 => ?_) (fun h2 => ?_)
    · have h1' : 0 ≤ p1 ∧ p1 ≤ 5 := by omega
      rw [needMachines_eq i2]
      by_cases h3 : 0 ≤ p2 ∧ p2 ≤ 15
      · rw [if_pos h3]
        refine Ok.thr0 rfl ?_
        refine S_rem hI (fun a' np' G' n' k' b1 b2 b3 b4 b5 => ?_)
        have hx' : XS w G' := fun b i hb => by
          have := hb.lo
          rw [b2 b (by omega) (by omega)]
          exact hx b i hb
        have hok : Wok (up2 w 15 p1.toNat p2) := Wok_up hw (Or.inr (Or.inr (Or.inr (Or.inl ⟨rfl, h3⟩))))
        have hpk : Pok (up2 w 15 p1.toNat p2) := Pok_w (by rw [up2_ne (by omega)]) (by rw [up2_ne (by omega)]) (by rw [up2_ne (by omega)]) (by rw [up2_ne (by omega)]) hp.2.1
        refine Ok.ld p1.toNat (by omega) (by omega) (by omega) ?_
        have e15 : G' 15 p1.toNat = w 15 p1.toNat := hx'.at _ (by simp [aok, asz] <;> omega)
        show Ok ((ast G' 15 6 p1 p2).bind _) _
        refine Ok.sto p1.toNat (by omega) (by omega) (by omega) ?_
        refine Ok.so (Or.inl ⟨_, rfl, fun G5 hG5 => ?_⟩)
        have f4 : ∀ b, b = 0 ∨ 26 ≤ b → up2 G' 15 p1.toNat p2 b = G' b := fun b hb => by rw [up2_ne (by omega)]
        have hG5' : ∀ b, 56 ≤ b ∧ b ≤ 73 → G5 b = G b := fun b hb => by
          rw [hG5 b (by omega)]
          show up2 G' 15 p1.toNat p2 b = G b
          rw [f4 b (by omega), b2 b (by omega) (by omega)]
        obtain ⟨hmA, hmH⟩ := M_start hm hH hG5'
        refine Ok.w (M_setWorker (G := G5) i1 i2 hp hmA hmH) (fun z hz => ?_)
        obtain ⟨z1, z2⟩ := hz.2.2 h1' h3
        have hT4 : TT 17 (up2 w 15 p1.toNat p2) D0 (qRw (up2 w 15 p1.toNat p2)) (qLn (up2 w 15 p1.toNat p2)) (up2 G' 15 p1.toNat p2) := by
          rw [qRw_w (by rw [up2_ne (by omega)] : (up2 w 15 p1.toNat p2) 16 = w 16), qLn_w (by rw [up2_ne (by omega)] : (up2 w 15 p1.toNat p2) 1 0 = w 1 0) (by rw [up2_ne (by omega)]) (by rw [up2_ne (by omega)])]
          exact TT_w (fun a ha1 ha2 => up2_ne (by omega)) (TT_fr (fun b hb1 hb2 => by rw [up2_ne (by omega), b2 b (by omega) (by omega)]) hI.2.2.1)
        refine ⟨z2.2.2.2, ?_, z2.2.2.1 74 (by omega), IW_done hI hn hk b1 b2 b3 b4 b5 hok hpk (hx'.up _ _ _) hT4 f4 hG5 z2⟩
        show w32 z.1 = w32 (G' 15 p1.toNat)
        rw [z1, e15]
      · rw [if_neg h3]
        refine Ok.thrE rfl (Or.inr ⟨1, rfl, by decide, by omega, Ok.w hM (fun z hz => ?_)⟩)
        rw [hz.2.1 h1' h3]
        exact ⟨by rw [up2_eq, up1_eq]; rfl, er 2⟩
    · refine Ok.so (Or.inr ⟨0, rfl, by decide, by omega, Ok.w hM (fun z hz => ?_)⟩)
      rw [hz.1 (by omega)]
      exact ⟨by rw [up2_eq, up1_eq]; rfl, er 1⟩
