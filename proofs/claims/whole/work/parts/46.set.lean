/-! ===== single cells set: setTool, setSetup, setWorker ===== -/
theorem IW_done {c len a np a' np' n k n' k' : Nat} {w w' : wS} {h : Nat → wS} {G G' G4 G5 G6 : mG} (hI : IV w h len a np G) (hn : n ≤ 1000 + 16 * a + c) (hk : k ≤ 100000 + 203 * a + 6 * c) (b1 : HC (psh w h) (min (len + 1) 8) a' np' G') (b2 : ∀ b, 1 ≤ b → b ≤ 75 → G' b = G b) (b3 : a ≤ a') (b4 : n' + 16 * a = n + 16 * a') (b5 : k' + 203 * a = k + 203 * a') (hok : Wok w') (hpk : Pok w') (hx4 : XS w' G4) (hT4 : TT 17 w' D0 (qRw w') (qLn w') G4) (f4 : ∀ b, b = 0 ∨ 26 ≤ b → G4 b = G' b) (h5 : ∀ b, b ≠ 74 → G5 b = G4 b) (hm : MP' w' (psh w h) (min (len + 1) 8) G5 G6) : IW (c + 1) (rOf a', (tlOf a', (G6, (n', k')))) :=
  ⟨w', psh w h, min (len + 1) 8, a', np', G6, n', k', rfl, IV_of (G0 := G) (G1 := G4) (G2 := G5) (PI_psh hI.1 hok hpk) ⟨hx4, hT4, HC_fr ⟨by rw [f4 0 (by omega)], by rw [f4 0 (by omega)]⟩ (fun b hb => f4 b (by omega)) b1, fun b hb1 hb2 => by rw [f4 b (by omega), b2 b (by omega) (by omega)]⟩ h5 hm, by omega, by omega⟩
theorem M_start {w : wS} {h : Nat → wS} {len : Nat} {G G5 : mG} (hm : MA w (G 57)) (hH : MH h len G) (hG : ∀ b, 56 ≤ b ∧ b ≤ 73 → G5 b = G b) : MA w (G5 57) ∧ MH h len G5 := ⟨by rw [hG 57 (by omega)]; exact hm, MH_fr (by rw [hG 56 (by omega)]) (hG 58 (by omega)) hH⟩
theorem Wok_up {w : wS} (hw : Wok w) {a i : Nat} {x : Int} (ha : (a = 12 ∧ (x = 0 ∨ (50 ≤ x ∧ x ≤ 300))) ∨ (a = 13 ∧ 0 ≤ x ∧ x ≤ 20) ∨ (a = 14 ∧ 0 ≤ x ∧ x ≤ 20) ∨ (a = 15 ∧ 0 ≤ x ∧ x ≤ 15) ∨ (a = 1 ∧ i = 15 ∧ (x = 0 ∨ x = 1)) ∨ a = 16) : Wok (up2 w a i x) := by
  obtain ⟨h1, h2, h3, h4, h5, h6, h7, h8, h9⟩ := hw
  have e : ∀ b j, b ≠ a → up2 w a i x b j = w b j := fun b j hb => by rw [up2_ne hb]
  have e10 : up2 w a i x 1 0 = w 1 0 := by
    rw [up2_if, if_neg (by omega)]
  have eN : qN (up2 w a i x) = qN w := qN_w e10
  have eS : qSt (up2 w a i x) = qSt w := qSt_w (up2_ne (by omega))
  have eC : ∀ m, qCn (up2 w a i x) m = qCn w m := fun m => by
    unfold qCn
    rw [e 9 _ (by omega)]
  refine ⟨?_, fun j hj => ?_, fun j s hj hs => ?_, fun m hm => ?_, fun m c hm hc => ?_, fun j hj => ?_, fun u hu => ?_, ?_, ?_⟩
  · rw [e10]
    exact h1
  · rw [eN] at hj
    rw [e 2 _ (by omega), e 3 _ (by omega), e 4 _ (by omega), e 5 _ (by omega), e 6 _ (by omega)]
    exact h2 j hj
  · rw [eN] at hj
    rw [eS] at hs
    rw [e 7 _ (by omega), e 8 _ (by omega)]
    exact h3 j s hj hs
  · have := h4 m hm
    rw [e 9 _ (by omega), up2_if, up2_if]
    refine ⟨this.1, ?_, ?_⟩
    · split <;> omega
    · split <;> omega
  · rw [eC] at hc
    rw [e 10 _ (by omega), e 11 _ (by omega)]
    exact h5 m c hm hc
  · have := h6 j hj
    rw [up2_if]
    split <;> omega
  · have := h7 u hu
    rw [up2_if]
    split <;> omega
  · rw [up2_if]
    split <;> omega
  · rw [eS]
    exact h9
theorem MD_up {w : wS} (hw : Wok w) {f : Nat → Int} (hf : MD w f) {a i k : Nat} {x : Int} (ha : (a = 12 ∧ i < 4 ∧ k = 1 + 11 * i + 9) ∨ (a = 13 ∧ i < 4 ∧ k = 1 + 11 * i + 10) ∨ (a = 14 ∧ i < 16 ∧ k = 45 + i) ∨ (a = 15 ∧ i < 6 ∧ k = 276 + i) ∨ (a = 1 ∧ i = 15 ∧ k = 151)) : MD (up2 w a i x) (up1 f k x) := by
  obtain ⟨h1, h2, h3, h4, h5, h6, h7⟩ := hf
  have hn := hw.n
  have e : ∀ b j, b ≠ a → up2 w a i x b j = w b j := fun b j hb => by rw [up2_ne hb]
  have e10 : up2 w a i x 1 0 = w 1 0 := by
    rw [up2_if, if_neg (by omega)]
  have eN : qN (up2 w a i x) = qN w := qN_w e10
  have eS : qSt (up2 w a i x) = qSt w := qSt_w (up2_ne (by omega))
  have eC : ∀ m, qCn (up2 w a i x) m = qCn w m := fun m => by
    unfold qCn
    rw [e 9 _ (by omega)]
  refine ⟨?_, fun m hm => ⟨?_, ?_, ?_⟩, fun m c hm hc => ?_, fun j hj => ?_, fun j hj => ?_, fun j s hj hs => ?_, fun u hu => ?_⟩
  · rw [e10, up1_ne (by omega)]
    exact h1
  · rw [e 9 _ (by omega), up1_ne (by omega)]
    exact (h2 m hm).1
  · rw [up2_if, up1_if]
    have := (h2 m hm).2.1
    split <;> split <;> omega
  · rw [up2_if, up1_if]
    have := (h2 m hm).2.2
    split <;> split <;> omega
  · rw [eC] at hc
    have := (hw.cn hm).2
    rw [e 10 _ (by omega), e 11 _ (by omega), up1_ne (by omega), up1_ne (by omega)]
    exact h3 m c hm hc
  · rw [up2_if, up1_if]
    have := h4 j hj
    split <;> split <;> omega
  · rw [eN] at hj
    rw [e 2 _ (by omega), e 3 _ (by omega), e 4 _ (by omega), e 5 _ (by omega), e 6 _ (by omega), up1_ne (by omega), up1_ne (by omega), up1_ne (by omega), up1_ne (by omega), up1_ne (by omega)]
    exact h5 j hj
  · rw [eN] at hj
    rw [eS] at hs
    have := (hw.st hj).2
    rw [e 7 _ (by omega), e 8 _ (by omega), up1_ne (by omega), up1_ne (by omega)]
    exact h6 j s hj hs
  · rw [up2_if, up1_if]
    have := h7 u hu
    split <;> split <;> omega
