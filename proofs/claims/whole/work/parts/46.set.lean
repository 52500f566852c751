/-! ===== single cells set: setTool, setSetup, setWorker ===== -/
theorem IW_done {c len a np a' np' n k n' k' : Nat} {w w' : wS} {h : Nat → wS} {G G' G4 G5 G6 : mG} (hI : IV w h len a np G) (hn : n ≤ 1000 + 16 * a + c) (hk : k ≤ 100000 + 203 * a + 6 * c) (b1 : HC (psh w h) (min (len + 1) 8) a' np' G') (b2 : ∀ b, 1 ≤ b → b ≤ 75 → G' b = G b) (b3 : a ≤ a') (b4 : n' + 16 * a = n + 16 * a') (b5 : k' + 203 * a = k + 203 * a') (hok : Wok w') (hpk : Pok w') (hx4 : XS w' G4) (hT4 : TT 17 w' D0 (qRw w') (qLn w') G4) (f4 : ∀ b, b = 0 ∨ 26 ≤ b → G4 b = G' b) (h5 : ∀ b, b ≠ 74 → G5 b = G4 b) (hm : MP' w' (psh w h) (min (len + 1) 8) G5 G6) : IW (c + 1) (rOf a', (tlOf a', (G6, (n', k')))) :=
  ⟨w', psh w h, min (len + 1) 8, a', np', G6, n', k', rfl, IV_of (G0 := G) (G1 := G4) (G2 := G5) (PI_psh hI.1 hok hpk) ⟨hx4, hT4, HC_fr ⟨by rw [f4 0 (by omega)], by rw [f4 0 (by omega)]⟩ (fun b hb => f4 b (by omega)) b1, fun b hb1 hb2 => by rw [f4 b (by omega), b2 b (by omega) (by omega)]⟩ h5 hm, by omega, by omega⟩
theorem M_start {w : wS} {h : Nat → wS} {len : Nat} {G G5 : mG} (hm : MA w (G 57)) (hH : MH h len G) (hG : ∀ b, 56 ≤ b ∧ b ≤ 73 → G5 b = G b) : MA w (G5 57) ∧ MH h len G5 := ⟨by rw [hG 57 (by omega)]; exact hm, MH_fr (by rw [hG 56 (by omega)]) (hG 58 (by omega)) hH⟩
theorem Wok_up {w : wS} (hw : Wok w) {a i : Nat} {x : Int} (ha : (a = 12 ∧ (x = 0 ∨ (50 ≤ x ∧ x ≤ 300))) ∨ (a = 13 ∧ 0 ≤ x ∧ x ≤ 20) ∨ (a = 14 ∧ 0 ≤ x ∧ x ≤ 20) ∨ (a = 15 ∧ 0 ≤ x ∧ x ≤ 15) ∨ (a = 1 ∧ i = 15 ∧ (x = 0 ∨ x = 1)) ∨ a = 16) : Wok (up2 w a i x) := by
  obtain ⟨h1, h2, h3, h4, h5, h6, h7, h8, h9⟩ := hw
  have e : ∀ b j, b ≠ a → up2 w a i x b j = w b j := fun b j hb => by rw [up2_ne hb]
  have e10 : up2 w a i x 1 0 = w 1 0 := by
    rw [up2_if, if_neg (by omega)]
  have eN : qN (up2 w a i x) = qN w := qN_w e10
  have eS : qSt (up2 w a i x) = qSt w := qSt_w (up2_ne (by omega))
  have eC : ∀ m, qCn (up2 w a i x) m = qCn w m := fun m => by
    unfold qCn
    rw [e 9 _ (by omega)]
  refine ⟨?_, fun j hj => ?_, fun j s hj hs => ?_, fun m hm => ?_, fun m c hm hc => ?_, fun j hj => ?_, fun u hu => ?_, ?_, ?_⟩
  · rw [e10]
    exact h1
  · rw [eN] at hj
    rw [e 2 _ (by omega), e 3 _ (by omega), e 4 _ (by omega), e 5 _ (by omega), e 6 _ (by omega)]
    exact h2 j hj
  · rw [eN] at hj
    rw [eS] at hs
    rw [e 7 _ (by omega), e 8 _ (by omega)]
    exact h3 j s hj hs
  · have := h4 m hm
    rw [e 9 _ (by omega), up2_if, up2_if]
    refine ⟨this.1, ?_, ?_⟩
    · split <;> omega
    · split <;> omega
  · rw [eC] at hc
    rw [e 10 _ (by omega), e 11 _ (by omega)]
    exact h5 m c hm hc
  · have := h6 j hj
    rw [up2_if]
    split <;> omega
  · have := h7 u hu
    rw [up2_if]
    split <;> omega
  · rw [up2_if]
    split <;> omega
  · rw [eS]
    exact h9
theorem MD_up {w : wS} (hw : Wok w) {f : Nat → Int} (hf : MD w f) {a i k : Nat} {x : Int} (ha : (a = 12 ∧ i < 4 ∧ k = 1 + 11 * i + 9) ∨ (a = 13 ∧ i < 4 ∧ k = 1 + 11 * i + 10) ∨ (a = 14 ∧ i < 16 ∧ k = 45 + i) ∨ (a = 15 ∧ i < 6 ∧ k = 276 + i) ∨ (a = 1 ∧ i = 15 ∧ k = 151)) : MD (up2 w a i x) (up1 f k x) := by
  obtain ⟨h1, h2, h3, h4, h5, h6, h7⟩ := hf
  have hn := hw.n
  have e : ∀ b j, b ≠ a → up2 w a i x b j = w b j := fun b j hb => by rw [up2_ne hb]
  have e10 : up2 w a i x 1 0 = w 1 0 := by
    rw [up2_if, if_neg (by omega)]
  have eN : qN (up2 w a i x) = qN w := qN_w e10
  have eS : qSt (up2 w a i x) = qSt w := qSt_w (up2_ne (by omega))
  have eC : ∀ m, qCn (up2 w a i x) m = qCn w m := fun m => by
    unfold qCn
    rw [e 9 _ (by omega)]
  refine ⟨?_, fun m hm => ⟨?_, ?_, ?_⟩, fun m c hm hc => ?_, fun j hj => ?_, fun j hj => ?_, fun j s hj hs => ?_, fun u hu => ?_⟩
  · rw [e10, up1_ne (by omega)]
    exact h1
  · rw [e 9 _ (by omega), up1_ne (by omega)]
    exact (h2 m hm).1
  · rw [up2_if, up1_if]
    have := (h2 m hm).2.1
    split <;> split <;> omega
  · rw [up2_if, up1_if]
    have := (h2 m hm).2.2
    split <;> split <;> omega
  · rw [eC] at hc
    have := (hw.cn hm).2
    rw [e 10 _ (by omega), e 11 _ (by omega), up1_ne (by omega), up1_ne (by omega)]
    exact h3 m c hm hc
  · rw [up2_if, up1_if]
    have := h4 j hj
    split <;> split <;> omega
  · rw [eN] at hj
    rw [e 2 _ (by omega), e 3 _ (by omega), e 4 _ (by omega), e 5 _ (by omega), e 6 _ (by omega), up1_ne (by omega), up1_ne (by omega), up1_ne (by omega), up1_ne (by omega), up1_ne (by omega)]
    exact h5 j hj
  · rw [eN] at hj
    rw [eS] at hs
    have := (hw.st hj).2
    rw [e 7 _ (by omega), e 8 _ (by omega), up1_ne (by omega), up1_ne (by omega)]
    exact h6 j s hj hs
  · rw [up2_if, up1_if]
    have := h7 u hu
    split <;> split <;> omega
theorem M_noPlan {G : mG} : Ok (P_X11_noPlan G) (fun G' => G' 57 151 = 0 ∧ (∀ m, m < 4 → G' 57 (152 + 31 * m) = 0) ∧ (∀ k, k < 151 ∨ 276 ≤ k → G' 57 k = G 57 k) ∧ (∀ b, b ≠ 57 → G' b = G b)) := by
  unfold P_X11_noPlan
  refine Ok.sto 151 rfl (by omega) (by omega) ?_
  refine Ok.forC (fun k G' => G' 57 151 = 0 ∧ (∀ m, m < k → G' 57 (152 + 31 * m) = 0) ∧ (∀ k, k < 151 ∨ 276 ≤ k → G' 57 k = G 57 k) ∧ (∀ b, b ≠ 57 → G' b = G b)) 4 LF (LF_lt (by omega)) ⟨?_, fun m hm => absurd hm (Nat.not_lt_zero _), fun k hk => ?_, fun b hb => up2_ne hb⟩ (fun k hk again G' hI hag => ?_) (fun again G' hI => ?_)
  · rw [up2_eq, up1_eq]
  · rw [up2_eq, up1_ne (by omega)]
  · refine Ok.iteT ((ilt_id (by omega) (by omega) (by omega) (by omega)).trans (decide_eq_true (by omega))) ?_
    refine Ok.sto (152 + 31 * k) (by omega) (by omega) (by omega) ?_
    refine hag _ ⟨?_, fun m hm => ?_, fun k' hk' => ?_, fun b hb => ?_⟩
    · rw [up2_eq, up1_ne (by omega)]
      exact hI.1
    · rw [up2_eq, up1_if]
      split
      · rfl
      · exact hI.2.1 m (by omega)
    · rw [up2_eq, up1_ne (by omega)]
      exact hI.2.2.1 k' hk'
    · rw [up2_ne hb]
      exact hI.2.2.2 b hb
  · refine Ok.iteF ((ilt_id (by omega) (by omega) (by omega) (by omega)).trans (decide_eq_false (by omega))) (Ok.so hI)
/-! setTool -/
theorem M_setTool {w : wS} {h : Nat → wS} {len : Nat} {G : mG} {p1 p2 p3 : Int} (i1 : I32 p1) (i2 : I32 p2) (i3 : I32 p3) (hp : PI w h len) (hm : MA w (G 57)) (hH : MH h len G) : Ok (P_X11_setTool p1 p2 p3 G) (fun z =>
    (¬ (0 ≤ p1 ∧ p1 ≤ 3) → z.2 = up2 G 56 3 1) ∧ ((0 ≤ p1 ∧ p1 ≤ 3) → ¬ ((p2 = 0 ∨ (50 ≤ p2 ∧ p2 ≤ 300)) ∧ 0 ≤ p3 ∧ p3 ≤ 20) → z.2 = up2 G 56 3 2) ∧
    ((0 ≤ p1 ∧ p1 ≤ 3) → ((p2 = 0 ∨ (50 ≤ p2 ∧ p2 ≤ 300)) ∧ 0 ≤ p3 ∧ p3 ≤ 20) → z.1 = qLf w p1.toNat ∧ MP' (up2 (up2 w 12 p1.toNat p2) 13 p1.toNat p3) (psh w h) (min (len + 1) 8) G z.2)) := by
  have hw := hp.1
  unfold P_X11_setTool
  rw [M_in i1 (by unfold I32; omega) (by unfold I32; omega)]
  refine Ok.eq rfl ?_
  refine Ok.jn1 (fun y => y = b2i (decide ((p2 = 0 ∨ (50 ≤ p2 ∧ p2 ≤ 300)) ∧ 0 ≤ p3 ∧ p3 ≤ 20))) (fun y hy => ?_) (fun k12 hk12 => ?_)
  · refine Ok.fits rfl hy b2i_T (fun h1 => ?_) (fun h1 h2 => ?_) (fun h1 h2 h3 => absurd trivial h3) (fun h1 h2 _ => ?_)
    · exact Ok.so ⟨fun _ => rfl, fun g => absurd g h1, fun g => absurd g h1⟩
    · exact Ok.so ⟨fun g => absurd h1 g, fun _ _ => rfl, fun _ g => absurd g h2⟩
    · refine Ok.iteT rfl ?_
      refine M_keep0 hp hm hH (fun G' g1 g2 g3 => ?_)
      have hm' : MD w (G' 57) := by
        rw [g2 57 (by omega) (by omega)]
        exact hm.1
      have hp4 : p1.toNat < 4 := by omega
      refine Ok.ld (1 + 11 * p1.toNat + 9) (by omega) (by omega) (by omega) ?_
      rw [hm'.lf hw hp4]
      refine Ok.sto (1 + 11 * p1.toNat + 9) (by omega) (by omega) (by omega) ?_
      refine Ok.sto (1 + 11 * p1.toNat + 10) (by omega) (by omega) (by omega) (Ok.so ⟨fun g => absurd h1 g, fun _ g => absurd h2 g, fun _ _ => ⟨rfl, ⟨?_, ?_⟩, ?_, fun b hb => ?_, ?_⟩⟩)
      · dsimp only
        rw [up2_eq, up2_eq]
        exact MD_up (Wok_up hw (Or.inl ⟨rfl, h2.1⟩)) (MD_up hw hm' (Or.inl ⟨rfl, hp4, rfl⟩)) (Or.inr (Or.inl ⟨rfl, hp4, rfl⟩))
      · dsimp only
        refine MPl_w hw hp.2.1 (by rw [up2_ne (by omega), up2_ne (by omega)]) (by rw [up2_ne (by omega), up2_ne (by omega)]) (by rw [up2_ne (by omega), up2_ne (by omega)]) (by rw [up2_ne (by omega), up2_ne (by omega)]) (by rw [up2_ne (by omega), up2_ne (by omega)]) (fun k hk1 hk2 => ?_) hm.2
        rw [up2_eq, up1_ne (by omega), up2_eq, up1_ne (by omega), g2 57 (by omega) (by omega)]
      · dsimp only
        exact MH_fr (by rw [up2_ne (by omega), up2_ne (by omega)]) (by rw [up2_ne (by omega), up2_ne (by omega)]) g1
      · dsimp only
        rw [up2_ne (by omega), up2_ne (by omega)]
        exact g2 b (by omega) (by omega)
      · dsimp only
        rw [up2_ne (by omega), up2_ne (by omega)]
        exact g3
  · unfold I32 at i2
    refine Ok.lk ?_
    refine Ok.lk ?_
    have hin3 : ∀ (q2 : p2 = 0 ∨ (50 ≤ p2 ∧ p2 ≤ 300)), Ok ((P_X11_in p3 0 20).bind fun v16 => bif v16 then k12 1 else k12 0) (fun z => (¬ (0 ≤ p1 ∧ p1 ≤ 3) → z.2 = up2 G 56 3 1) ∧ ((0 ≤ p1 ∧ p1 ≤ 3) → ¬ ((p2 = 0 ∨ (50 ≤ p2 ∧ p2 ≤ 300)) ∧ 0 ≤ p3 ∧ p3 ≤ 20) → z.2 = up2 G 56 3 2) ∧ ((0 ≤ p1 ∧ p1 ≤ 3) → ((p2 = 0 ∨ (50 ≤ p2 ∧ p2 ≤ 300)) ∧ 0 ≤ p3 ∧ p3 ≤ 20) → z.1 = qLf w p1.toNat ∧ MP' (up2 (up2 w 12 p1.toNat p2) 13 p1.toNat p3) (psh w h) (min (len + 1) 8) G z.2)) := fun q2 => by
      rw [M_in i3 (by unfold I32; omega) (by unfold I32; omega)]
      refine Ok.eq rfl ?_
      refine Ok.it (fun h1 => ?_) (fun h1 => ?_)
      · have h1 := of_decide_eq_true h1
        exact hk12 _ (by rw [decide_eq_true ⟨q2, h1⟩]; rfl)
      · have h1 := of_decide_eq_false h1
        exact hk12 _ (by rw [decide_eq_false (fun g => h1 g.2)]; rfl)
    refine Ok.cd (ieq_id (by omega) (by omega) (by omega) (by omega)) (fun h1 => hin3 (Or.inl h1)) (fun h1 => ?_)
    rw [M_in (by unfold I32; omega) (by unfold I32; omega) (by unfold I32; omega)]
    refine Ok.eq rfl ?_
    refine Ok.it (fun h2 => ?_) (fun h2 => ?_)
    · exact hin3 (Or.inr (of_decide_eq_true h2))
    · have h2 := of_decide_eq_false h2
      exact hk12 _ (by rw [decide_eq_false (by omega)]; rfl)
theorem C_setTool {p1 p2 p3 : Int} (i1 : I32 p1) (i2 : I32 p2) (i3 : I32 p3) : CaseX (P_X10_setTool p1 p2 p3) (fun E => if E = 2 then 0 else E + 1) (P_X11_setTool p1 p2 p3) := by
  intro c W hW
  obtain ⟨w, h, len, a, np, G, n, k, rfl, hI, hn, hk⟩ := id hW
  have hp := hI.1
  have hw := hp.1
  have hx := hI.2.1
  have hm := hI.2.2.2.2.1
  have hH := hI.2.2.2.2.2
  have hM := M_setTool i1 i2 i3 hp hm hH
  have er : ∀ e : Int, IW (c + 1) (rOf a, (tlOf a, (up2 G 56 3 e, (n + 1, k + 6)))) := fun e => hW.kq (KQ.up (by omega)) (Nat.le_refl _) (Nat.le_refl _)
  unfold P_X10_setTool
  rw [needMachine_eq i1]
  by_cases h1 : 0 ≤ p1 ∧ p1 < 4
  · have h1' : 0 ≤ p1 ∧ p1 ≤ 3 := by omega
    rw [if_pos h1]
    refine Ok.thr0 rfl ?_
    refine Ok.jn1 (fun W' => W' = (rOf a, (tlOf a, (G, (n, k)))) ∧ (p2 = 0 ∨ (50 ≤ p2 ∧ p2 ≤ 300))) (fun W' hW' => ?_) (fun k16 hk16 => ?_)
    · obtain ⟨rfl, h2⟩ := hW'
      rw [needRange_eq i3 (by unfold I32; omega) (by unfold I32; omega)]
      by_cases h3 : 0 ≤ p3 ∧ p3 ≤ 20
      · rw [if_pos h3]
        refine Ok.thr0 rfl ?_
        have hp4 : p1.toNat < 4 := by omega
        refine S_rem hI (fun a' np' G' n' k' b1 b2 b3 b4 b5 => ?_)
        have hx' : XS w G' := fun b i hb => by
          have := hb.lo
          rw [b2 b (by omega) (by omega)]
          exact hx b i hb
        have hok : Wok (up2 (up2 w 12 p1.toNat p2) 13 p1.toNat p3) := Wok_up (Wok_up hw (Or.inl ⟨rfl, h2⟩)) (Or.inr (Or.inl ⟨rfl, h3⟩))
        have hpk : Pok (up2 (up2 w 12 p1.toNat p2) 13 p1.toNat p3) := Pok_w (by rw [up2_ne (by omega), up2_ne (by omega)]) (by rw [up2_ne (by omega), up2_ne (by omega)]) (by rw [up2_ne (by omega), up2_ne (by omega)]) (by rw [up2_ne (by omega), up2_ne (by omega)]) hp.2.1
        refine Ok.ld p1.toNat (by omega) hp4 (by omega) ?_
        have e12 : G' 12 p1.toNat = qLf w p1.toNat := hx'.at _ (by simp [aok, asz] <;> omega)
        show Ok ((ast G' 12 4 p1 p2).bind _) _
        refine Ok.sto p1.toNat (by omega) hp4 (by omega) ?_
        refine Ok.sto p1.toNat (by omega) hp4 (by omega) ?_
        have hxn : XS (up2 (up2 w 12 p1.toNat p2) 13 p1.toNat p3) (up2 (up2 G' 12 p1.toNat p2) 13 p1.toNat p3) := (hx'.up _ _ _).up _ _ _
        refine Ok.bind (S_replay (t := 17) hok hxn (by omega) hpk) (fun G4 hG4 => ?_)
        refine Ok.so (Or.inl ⟨_, rfl, fun G5 hG5 => ?_⟩)
        have f4 : ∀ b, b = 0 ∨ 26 ≤ b → G4 b = G' b := fun b hb => by rw [hG4.2 b (by omega), up2_ne (by omega), up2_ne (by omega)]
        have hG5' : ∀ b, 56 ≤ b ∧ b ≤ 73 → G5 b = G b := fun b hb => by
          rw [hG5 b (by omega)]
          show G4 b = G b
          rw [f4 b (by omega), b2 b (by omega) (by omega)]
        obtain ⟨hmA, hmH⟩ := M_start hm hH hG5'
        refine Ok.w (M_setTool (G := G5) i1 i2 i3 hp hmA hmH) (fun z hz => ?_)
        obtain ⟨z1, z2⟩ := hz.2.2 h1' ⟨h2, h3⟩
        refine ⟨z2.2.2.2, ?_, z2.2.2.1 74 (by omega), IW_done hI hn hk b1 b2 b3 b4 b5 hok hpk (hG4.2.xs (by omega) hxn) hG4.1 f4 hG5 z2⟩
        show w32 z.1 = w32 (G' 12 p1.toNat)
        rw [z1, e12]
      · rw [if_neg h3]
        refine Ok.thrE rfl (Or.inr ⟨1, rfl, by decide, by omega, Ok.w hM (fun z hz => ?_)⟩)
        rw [hz.2.1 h1' (fun g => h3 g.2)]
        exact ⟨by rw [up2_eq, up1_eq]; rfl, er 2⟩
    · have hi2 := i2
      unfold I32 at hi2
      refine Ok.cd (ieq_id (by omega) (by omega) (by omega) (by omega)) (fun h2 => hk16 _ ⟨rfl, Or.inl h2⟩) (fun h2 => ?_)
      rw [needRange_eq i2 (by unfold I32; omega) (by unfold I32; omega)]
      by_cases h3 : 50 ≤ p2 ∧ p2 ≤ 300
      · rw [if_pos h3]
        exact Ok.thr0 rfl (hk16 _ ⟨rfl, Or.inr h3⟩)
      · rw [if_neg h3]
        refine Ok.thrE rfl (Or.inr ⟨1, rfl, by decide, by omega, Ok.w hM (fun z hz => ?_)⟩)
        rw [hz.2.1 h1' (by omega)]
        exact ⟨by rw [up2_eq, up1_eq]; rfl, er 2⟩
  · rw [if_neg h1]
    refine Ok.thrE rfl (Or.inr ⟨0, rfl, by decide, by omega, Ok.w hM (fun z hz => ?_)⟩)
    rw [hz.1 (by omega)]
    exact ⟨by rw [up2_eq, up1_eq]; rfl, er 1⟩
