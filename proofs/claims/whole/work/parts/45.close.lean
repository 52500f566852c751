/-! ===== close ===== -/
theorem MH_fr {h : Nat → wS} {len : Nat} {G G' : mG} (h1 : G' 56 2 = G 56 2) (h2 : G' 58 = G 58) (hH : MH h len G) : MH h len G' := by
  refine ⟨h1.trans hH.1, hH.2.1, fun i hi => ?_⟩
  rw [h2]
  exact hH.2.2 i hi
/-- the state kept by the model, ahead of a change -/
theorem M_keep0 {w : wS} {h : Nat → wS} {len : Nat} {G : mG} (hp : PI w h len) (hm : MA w (G 57)) (hH : MH h len G) {X : Type} {Q : X → Prop} {f : mG → Option X} (hk : ∀ G', MH (psh w h) (min (len + 1) 8) G' → (∀ b, b ≠ 56 → b ≠ 58 → G' b = G b) → G' 56 3 = 0 → Ok (f G') Q) : Ok ((P_X11_keeps (up2 G 56 3 0)).bind f) Q := by
  refine Ok.bind (M_keeps (h := h) (len := len) hp.1 hp.2.1 (by rw [up2_ne (by omega)]; exact hm) (MH_fr (by rw [up2_eq, up1_ne (by omega)]) (up2_ne (by omega)) hH) hp.2.2) (fun G' hG' => hk G' hG'.1 (fun b hb1 hb2 => ?_) ?_)
  · rw [hG'.2.1 b hb1 hb2, up2_ne hb1]
  · rw [hG'.2.2 3 (by omega), up2_eq, up1_eq]
def wCl (w : wS) (m : Nat) (from_ to_ : Int) : wS := up2 (up2 (up2 w 10 (4 * m + qCn w m) from_) 11 (4 * m + qCn w m) to_) 9 m ((qCn w m : Int) + 1)
theorem wCl_ne {w : wS} {m b : Nat} {x y : Int} (h : b ≠ 9 ∧ b ≠ 10 ∧ b ≠ 11) : wCl w m x y b = w b := by
  unfold wCl
  rw [up2_ne h.1, up2_ne h.2.2, up2_ne h.2.1]
theorem wCl_cn {w : wS} {m : Nat} {x y : Int} (j : Nat) : qCn (wCl w m x y) j = if j = m then qCn w m + 1 else qCn w j := by
  unfold wCl
  have e : ∀ i, (up2 (up2 (up2 w 10 (4 * m + qCn w m) x) 11 (4 * m + qCn w m) y) 9 m ((qCn w m : Int) + 1)) 9 i = if i = m then (qCn w m : Int) + 1 else w 9 i := fun i => by
    rw [up2_eq, up1_if, up2_ne (by omega), up2_ne (by omega)]
  show ((up2 (up2 (up2 w 10 (4 * m + qCn w m) x) 11 (4 * m + qCn w m) y) 9 m ((qCn w m : Int) + 1)) 9 j).toNat = _
  rw [e]
  split
  · omega
  · rfl
theorem wCl_cell {w : wS} {m i : Nat} {x y : Int} : wCl w m x y 10 i = (if i = 4 * m + qCn w m then x else w 10 i) ∧ wCl w m x y 11 i = (if i = 4 * m + qCn w m then y else w 11 i) := by
  unfold wCl
  rw [up2_ne (by omega), up2_ne (by omega), up2_eq, up1_if, up2_ne (by omega), up2_eq, up1_if, up2_ne (by omega)]
  exact ⟨rfl, rfl⟩
theorem wCl_ok {w : wS} (hw : Wok w) {m : Nat} {x y : Int} (hm : m < 4) (hc : qCn w m < 4) (hx : 0 ≤ x ∧ x < y ∧ y ≤ 2000) : Wok (wCl w m x y) := by
  have e0 : ∀ b, b ≠ 9 ∧ b ≠ 10 ∧ b ≠ 11 → wCl w m x y b = w b := fun b hb => wCl_ne hb
  obtain ⟨h1, h2, h3, h4, h5, h6, h7, h8, h9⟩ := hw
  have eN : qN (wCl w m x y) = qN w := qN_w (by rw [e0 1 (by omega)])
  have eS : qSt (wCl w m x y) = qSt w := qSt_w (e0 6 (by omega))
  refine ⟨?_, fun j hj => ?_, fun j s hj hs => ?_, fun m' hm' => ?_, fun m' c hm' hc' => ?_, fun i hi => ?_, fun u hu => ?_, ?_, ?_⟩
  · rw [e0 1 (by omega)]
    exact h1
  · rw [eN] at hj
    rw [e0 2 (by omega), e0 3 (by omega), e0 4 (by omega), e0 5 (by omega), e0 6 (by omega)]
    exact h2 j hj
  · rw [eN] at hj
    rw [eS] at hs
    rw [e0 7 (by omega), e0 8 (by omega)]
    exact h3 j s hj hs
  · rw [e0 12 (by omega), e0 13 (by omega)]
    refine ⟨?_, (h4 m' hm').2⟩
    have := (h4 m' hm').1
    unfold wCl
    rw [up2_eq, up1_if, up2_ne (by omega), up2_ne (by omega)]
    split <;> omega
  · rw [wCl_cn] at hc'
    rw [wCl_cell.1, wCl_cell.2]
    by_cases h : m' = m
    · subst h
      rw [if_pos rfl] at hc'
      by_cases h10 : c = qCn w m'
      · rw [h10, if_pos rfl, if_pos rfl]
        exact hx
      · rw [if_neg (by omega), if_neg (by omega)]
        exact h5 m' c hm' (by omega)
    · rw [if_neg h] at hc'
      have h11 : qCn w m' ≤ 4 := by
        have := (h4 m' hm').1
        unfold qCn
        omega
      rw [if_neg (by omega), if_neg (by omega)]
      exact h5 m' c hm' hc'
  · rw [e0 14 (by omega)]
    exact h6 i hi
  · rw [e0 15 (by omega)]
    exact h7 u hu
  · rw [e0 1 (by omega)]
    exact h8
  · rw [eS]
    exact h9
theorem wCl_md {w : wS} (hw : Wok w) {m : Nat} {x y : Int} (hm : m < 4) (hc : qCn w m < 4) {f : Nat → Int} (hf : MD w f) : MD (wCl w m x y) (up1 (up1 (up1 f (1 + 11 * m + 1 + 2 * qCn w m) x) (1 + 11 * m + 1 + 2 * qCn w m + 1) y) (1 + 11 * m) ((qCn w m : Int) + 1)) := by
  have e0 : ∀ b, b ≠ 9 ∧ b ≠ 10 ∧ b ≠ 11 → wCl w m x y b = w b := fun b hb => wCl_ne hb
  obtain ⟨h1, h2, h3, h4, h5, h6, h7⟩ := hf
  have hn := hw.n
  have eN : qN (wCl w m x y) = qN w := qN_w (by rw [e0 1 (by omega)])
  have eS : qSt (wCl w m x y) = qSt w := qSt_w (e0 6 (by omega))
  have k0 : ∀ k, (k < 1 ∨ 45 ≤ k) → up1 (up1 (up1 f (1 + 11 * m + 1 + 2 * qCn w m) x) (1 + 11 * m + 1 + 2 * qCn w m + 1) y) (1 + 11 * m) ((qCn w m : Int) + 1) k = f k := fun k hk => by
    rw [up1_ne (by omega), up1_ne (by omega), up1_ne (by omega)]
  refine ⟨?_, fun m' hm' => ⟨?_, ?_, ?_⟩, fun m' c hm' hc' => ?_, fun i hi => ?_, fun j hj => ?_, fun j s hj hs => ?_, fun u hu => ?_⟩
  · rw [k0 0 (by omega), e0 1 (by omega)]
    exact h1
  · unfold wCl
    rw [up2_eq, up2_ne (by omega), up2_ne (by omega)]
    by_cases h : m' = m
    · rw [h, up1_eq, up1_eq]
    · rw [up1_ne (by omega), up1_ne (by omega), up1_ne (by omega), up1_ne h]
      exact (h2 m' hm').1
  · rw [e0 12 (by omega), up1_ne (by omega), up1_ne (by omega), up1_ne (by omega)]
    exact (h2 m' hm').2.1
  · rw [e0 13 (by omega), up1_ne (by omega), up1_ne (by omega), up1_ne (by omega)]
    exact (h2 m' hm').2.2
  · have hc4 := (hw.cn hm').2
    rw [wCl_cn] at hc'
    rw [wCl_cell.1, wCl_cell.2]
    by_cases h : m' = m
    · subst h
      rw [if_pos rfl] at hc'
      by_cases h10 : c = qCn w m'
      · rw [h10, if_pos rfl, if_pos rfl, up1_ne (by omega), up1_ne (by omega), up1_eq, up1_ne (by omega), up1_eq]
        exact ⟨rfl, rfl⟩
      · rw [if_neg (by omega), if_neg (by omega), up1_ne (by omega), up1_ne (by omega), up1_ne (by omega), up1_ne (by omega), up1_ne (by omega), up1_ne (by omega)]
        exact h3 m' c hm' (by omega)
    · rw [if_neg h] at hc'
      rw [if_neg (by omega), if_neg (by omega), up1_ne (by omega), up1_ne (by omega), up1_ne (by omega), up1_ne (by omega), up1_ne (by omega), up1_ne (by omega)]
      exact h3 m' c hm' hc'
  · rw [k0 _ (by omega), e0 14 (by omega)]
    exact h4 i hi
  · rw [eN] at hj
    rw [k0 _ (by omega), k0 _ (by omega), k0 _ (by omega), k0 _ (by omega), k0 _ (by omega), e0 2 (by omega), e0 3 (by omega), e0 4 (by omega), e0 5 (by omega), e0 6 (by omega)]
    exact h5 j hj
  · rw [eN] at hj
    rw [eS] at hs
    rw [k0 _ (by omega), k0 _ (by omega), e0 7 (by omega), e0 8 (by omega)]
    exact h6 j s hj hs
  · rw [k0 _ (by omega), e0 15 (by omega)]
    exact h7 u hu
theorem M_close {w : wS} {h : Nat → wS} {len : Nat} {G : mG} {p1 p2 p3 : Int} (i1 : I32 p1) (i2 : I32 p2) (i3 : I32 p3) (hp : PI w h len) (hm : MA w (G 57)) (hH : MH h len G) : Ok (P_X11_close p1 p2 p3 G) (fun z =>
    (¬ (0 ≤ p1 ∧ p1 ≤ 3) → z.2 = up2 G 56 3 1) ∧ ((0 ≤ p1 ∧ p1 ≤ 3) → ¬ ((0 ≤ p2 ∧ p2 ≤ 2000) ∧ p2 < p3 ∧ p3 ≤ 2000) → z.2 = up2 G 56 3 2) ∧
    ((0 ≤ p1 ∧ p1 ≤ 3) → ((0 ≤ p2 ∧ p2 ≤ 2000) ∧ p2 < p3 ∧ p3 ≤ 2000) → ¬ qCn w p1.toNat < 4 → z.2 = up2 G 56 3 3) ∧
    ((0 ≤ p1 ∧ p1 ≤ 3) → ((0 ≤ p2 ∧ p2 ≤ 2000) ∧ p2 < p3 ∧ p3 ≤ 2000) → qCn w p1.toNat < 4 → z.1 = (qCn w p1.toNat : Int) + 1 ∧ MP' (wCl w p1.toNat p2 p3) (psh w h) (min (len + 1) 8) G z.2)) := by
  have hw := hp.1
  unfold P_X11_close
  rw [M_in i1 (by unfold I32; omega) (by unfold I32; omega), M_in i2 (by unfold I32; omega) (by unfold I32; omega)]
  refine Ok.eq rfl ?_
  refine Ok.eq rfl ?_
  refine Ok.jn1 (fun y => y = b2i (decide ((0 ≤ p2 ∧ p2 ≤ 2000) ∧ p2 < p3 ∧ p3 ≤ 2000))) (fun y hy => ?_) (fun k23 hk23 => ?_)
  · refine Ok.jn1 (fun y => y = b2i (decide ((0 ≤ p1 ∧ p1 ≤ 3) ∧ qCn w p1.toNat < 4))) (fun y2 hy2 => ?_) (fun k19 hk19 => ?_)
    · refine Ok.fits rfl hy hy2 (fun h1 => ?_) (fun h1 h2 => ?_) (fun h1 h2 h3 => ?_) (fun h1 h2 h3 => ?_)
      · exact Ok.so ⟨fun _ => rfl, fun g => absurd g h1, fun g => absurd g h1, fun g => absurd g h1⟩
      · exact Ok.so ⟨fun g => absurd h1 g, fun _ _ => rfl, fun _ g => absurd g h2, fun _ g => absurd g h2⟩
      · exact Ok.so ⟨fun g => absurd h1 g, fun _ g => absurd h2 g, fun _ _ _ => rfl, fun _ _ g => absurd ⟨h1, g⟩ h3⟩
      · refine Ok.iteT rfl ?_
        refine M_keep0 hp hm hH (fun G' g1 g2 g3 => ?_)
        have hm' : MD w (G' 57) := by
          rw [g2 57 (by omega) (by omega)]
          exact hm.1
        have hp4 : p1.toNat < 4 := by omega
        have hc4 := h3.2
        have ecn := hm'.cn hw hp4
        refine Ok.ld (1 + 11 * p1.toNat) (by omega) (by omega) (by omega) ?_
        rw [ecn]
        refine Ok.sto (1 + 11 * p1.toNat + 1 + 2 * qCn w p1.toNat) (by omega) (by omega) (by omega) ?_
        refine Ok.ld (1 + 11 * p1.toNat) (by omega) (by omega) (by omega) ?_
        rw [up2_eq, up1_ne (by omega), ecn]
        refine Ok.sto (1 + 11 * p1.toNat + 1 + 2 * qCn w p1.toNat + 1) (by omega) (by omega) (by omega) ?_
        refine Ok.ld (1 + 11 * p1.toNat) (by omega) (by omega) (by omega) ?_
        rw [up2_eq, up1_ne (by omega), up2_eq, up1_ne (by omega), ecn]
        refine Ok.sto (1 + 11 * p1.toNat) (by omega) (by omega) (by omega) ?_
        refine Ok.ld (1 + 11 * p1.toNat) (by omega) (by omega) (by omega) (Ok.so ⟨fun g => absurd h1 g, fun _ g => absurd h2 g, fun _ _ g => absurd hc4 g, fun _ _ _ => ⟨?_, ⟨?_, ?_⟩, ?_, fun b hb => ?_, ?_⟩⟩)
        · dsimp only
          rw [up2_eq, up1_eq]
        · dsimp only
          rw [up2_eq, up2_eq, up2_eq]
          exact wCl_md hw hp4 hc4 hm'
        · dsimp only
          have hc6 := (hw.cn hp4).2
          refine MPl_w hw hp.2.1 (by rw [wCl_ne (by omega)]) (by rw [wCl_ne (by omega)]) (wCl_ne (by omega)) (wCl_ne (by omega)) (wCl_ne (by omega)) (fun k hk1 hk2 => ?_) hm.2
          rw [up2_eq, up1_ne (by omega), up2_eq, up1_ne (by omega), up2_eq, up1_ne (by omega), g2 57 (by omega) (by omega)]
        · dsimp only
          exact MH_fr (by rw [up2_ne (by omega), up2_ne (by omega), up2_ne (by omega)]) (by rw [up2_ne (by omega), up2_ne (by omega), up2_ne (by omega)]) g1
        · dsimp only
          rw [up2_ne (by omega), up2_ne (by omega), up2_ne (by omega)]
          exact g2 b (by omega) (by omega)
        · dsimp only
          rw [up2_ne (by omega), up2_ne (by omega), up2_ne (by omega)]
          exact g3
    · refine Ok.lk ?_
      refine Ok.it (fun h1 => ?_) (fun h1 => ?_)
      · have h1 := of_decide_eq_true h1
        have hp4 : p1.toNat < 4 := by omega
        have hc4 := (hw.cn hp4).2
        refine Ok.ld (1 + 11 * p1.toNat) (by omega) (by omega) (by omega) ?_
        rw [hm.1.cn hw hp4]
        refine Ok.cd (ilt_id (by omega) (by omega) (by omega) (by omega)) (fun h2 => ?_) (fun h2 => ?_)
        · exact hk19 _ (by rw [decide_eq_true ⟨h1, by omega⟩]; rfl)
        · exact hk19 _ (by rw [decide_eq_false (by omega)]; rfl)
      · have h1 := of_decide_eq_false h1
        exact hk19 _ (by rw [decide_eq_false (by omega)]; rfl)
  · unfold I32 at i2 i3
    refine Ok.lk ?_
    refine Ok.it (fun h1 => ?_) (fun h1 => ?_)
    · have h1 := of_decide_eq_true h1
      refine Ok.cd (ilt_id (by omega) (by omega) (by omega) (by omega)) (fun h2 => ?_) (fun h2 => ?_)
      · refine Ok.cd (ilt_id (by omega) (by omega) (by omega) (by omega)) (fun h3 => ?_) (fun h3 => ?_)
        · exact hk23 _ (by rw [decide_eq_false (by omega)]; rfl)
        · exact hk23 _ (by rw [decide_eq_true (by omega)]; rfl)
      · exact hk23 _ (by rw [decide_eq_false (by omega)]; rfl)
    · have h1 := of_decide_eq_false h1
      exact hk23 _ (by rw [decide_eq_false (by omega)]; rfl)
theorem C_close {p1 p2 p3 : Int} (i1 : I32 p1) (i2 : I32 p2) (i3 : I32 p3) : CaseX (P_X10_close p1 p2 p3) (fun E => E + 1) (P_X11_close p1 p2 p3) := by
  intro c W hW
  obtain ⟨w, h, len, a, np, G, n, k, rfl, hI, hn, hk⟩ := id hW
  have hp := hI.1
  have hw := hp.1
  have hx := hI.2.1
  have hm := hI.2.2.2.2.1
  have hH := hI.2.2.2.2.2
  have hM := M_close i1 i2 i3 hp hm hH
  have er : ∀ e : Int, IW (c + 1) (rOf a, (tlOf a, (up2 G 56 3 e, (n + 1, k + 6)))) := fun e => hW.kq (KQ.up (by omega)) (Nat.le_refl _) (Nat.le_refl _)
  unfold P_X10_close
  rw [needMachine_eq i1]
  by_cases h1 : 0 ≤ p1 ∧ p1 < 4
  · have h1' : 0 ≤ p1 ∧ p1 ≤ 3 := by omega
    rw [if_pos h1]
    refine Ok.thr0 rfl ?_
    rw [needRange_eq i2 (by unfold I32; omega) (by unfold I32; omega)]
    by_cases h2 : 0 ≤ p2 ∧ p2 ≤ 2000
    · rw [if_pos h2]
      refine Ok.thr0 rfl ?_
      rw [needRange_eq i3 (by unfold I32; omega) (by unfold I32; omega)]
      by_cases h3 : p2 + 1 ≤ p3 ∧ p3 ≤ 2000
      · have h3' : (0 ≤ p2 ∧ p2 ≤ 2000) ∧ p2 < p3 ∧ p3 ≤ 2000 := by omega
        rw [if_pos h3]
        refine Ok.thr0 rfl ?_
        have hp4 : p1.toNat < 4 := by omega
        have hc4 := (hw.cn hp4).2
        have ecn : G 9 p1.toNat = (qCn w p1.toNat : Int) := hx.cn hw hp4
        refine Ok.ld p1.toNat (by omega) hp4 (by omega) ?_
        show Ok (bif ilt (G 9 p1.toNat) 4 then _ else _) _
        rw [ecn]
        refine Ok.cd (ilt_id (by omega) (by omega) (by omega) (by omega)) (fun h4 => ?_) (fun h4 => ?_)
        · refine S_rem hI (fun a' np' G' n' k' b1 b2 b3 b4 b5 => ?_)
          have hx' : XS w G' := fun b i hb => by
            have := hb.lo
            rw [b2 b (by omega) (by omega)]
            exact hx b i hb
          have ecn' : G' 9 p1.toNat = (qCn w p1.toNat : Int) := hx'.cn hw hp4
          have hc5 : qCn w p1.toNat < 4 := by omega
          have hok := wCl_ok hw hp4 hc5 (x := p2) (y := p3) (by omega)
          have e0 : ∀ b, b ≠ 9 ∧ b ≠ 10 ∧ b ≠ 11 → wCl w p1.toNat p2 p3 b = w b := fun b hb => wCl_ne hb
          have hpk : Pok (wCl w p1.toNat p2 p3) := Pok_w (by rw [e0 1 (by omega)]) (by rw [e0 1 (by omega)]) (e0 6 (by omega)) (e0 16 (by omega)) hp.2.1
          have hnc : P_X7_newClosure p1 p2 p3 G' = some (up2 (up2 (up2 G' 10 (4 * p1.toNat + qCn w p1.toNat) p2) 11 (4 * p1.toNat + qCn w p1.toNat) p3) 9 p1.toNat ((qCn w p1.toNat : Int) + 1)) := by
            refine Ok.get ?_
            unfold P_X7_newClosure
            refine Ok.ld p1.toNat (by omega) hp4 (by omega) ?_
            rw [ecn']
            refine Ok.condT (ilt_id (by omega) (by omega) (by omega) (by omega)) h4 ?_
            refine Ok.sto (4 * p1.toNat + qCn w p1.toNat) (by omega) (by omega) (by omega) ?_
            refine Ok.sto (4 * p1.toNat + qCn w p1.toNat) (by omega) (by omega) (by omega) ?_
            refine Ok.ld p1.toNat (by omega) hp4 (by omega) ?_
            rw [up2_ne (by omega), up2_ne (by omega), ecn']
            refine Ok.sto p1.toNat (by omega) hp4 (by omega) (Ok.so rfl)
          refine Ok.eq hnc ?_
          have hxn : XS (wCl w p1.toNat p2 p3) (up2 (up2 (up2 G' 10 (4 * p1.toNat + qCn w p1.toNat) p2) 11 (4 * p1.toNat + qCn w p1.toNat) p3) 9 p1.toNat ((qCn w p1.toNat : Int) + 1)) := ((hx'.up _ _ _).up _ _ _).up _ _ _
          refine Ok.bind (S_replay (t := 17) hok hxn (by omega) hpk) (fun G4 hG4 => ?_)
          refine Ok.ld p1.toNat (by omega) hp4 (by omega) (Ok.so (Or.inl ⟨_, rfl, fun G5 hG5 => ?_⟩))
          have e4 : G4 9 p1.toNat = (qCn w p1.toNat : Int) + 1 := by rw [hG4.2 9 (by omega), up2_eq, up1_eq]
          have f4 : ∀ b, b = 0 ∨ 26 ≤ b → G4 b = G' b := fun b hb => by rw [hG4.2 b (by omega), up2_ne (by omega), up2_ne (by omega), up2_ne (by omega)]
          have hG5' : ∀ b, 56 ≤ b ∧ b ≤ 73 → G5 b = G b := fun b hb => by
            rw [hG5 b (by omega)]
            show G4 b = G b
            rw [f4 b (by omega), b2 b (by omega) (by omega)]
          have hM5 := M_close (G := G5) i1 i2 i3 hp (by rw [hG5' 57 (by omega)]; exact hm) (MH_fr (by rw [hG5' 56 (by omega)]) (hG5' 58 (by omega)) hH)
          refine Ok.w hM5 (fun z hz => ?_)
          obtain ⟨z1, z2⟩ := hz.2.2.2 h1' h3' hc5
          refine ⟨z2.2.2.2, ?_, z2.2.2.1 74 (by omega), ?_⟩
          · show w32 z.1 = w32 (G4 9 p1.toNat)
            rw [z1, e4]
          · refine ⟨wCl w p1.toNat p2 p3, psh w h, min (len + 1) 8, a', np', z.2, n', k', rfl, IV_of (G0 := G) (G1 := G4) (G2 := G5) (PI_psh hp hok hpk) ⟨hG4.2.xs (by omega) hxn, hG4.1, HC_fr ⟨by rw [f4 0 (by omega)], by rw [f4 0 (by omega)]⟩ (fun b hb => f4 b (by omega)) b1, fun b hb1 hb2 => by rw [f4 b (by omega), b2 b (by omega) (by omega)]⟩ hG5 z2, by omega, by omega⟩
        · refine Ok.so (Or.inr ⟨2, rfl, by decide, by omega, Ok.w hM (fun z hz => ?_)⟩)
          rw [hz.2.2.1 h1' h3' (by omega)]
          exact ⟨by rw [up2_eq, up1_eq]; rfl, er 3⟩
      · rw [if_neg h3]
        refine Ok.thrE rfl (Or.inr ⟨1, rfl, by decide, by omega, Ok.w hM (fun z hz => ?_)⟩)
        rw [hz.2.1 h1' (by omega)]
        exact ⟨by rw [up2_eq, up1_eq]; rfl, er 2⟩
    · rw [if_neg h2]
      refine Ok.thrE rfl (Or.inr ⟨1, rfl, by decide, by omega, Ok.w hM (fun z hz => ?_)⟩)
      rw [hz.2.1 h1' (by omega)]
      exact ⟨by rw [up2_eq, up1_eq]; rfl, er 2⟩
  · rw [if_neg h1]
    refine Ok.thrE rfl (Or.inr ⟨0, rfl, by decide, by omega, Ok.w hM (fun z hz => ?_)⟩)
    rw [hz.1 (by omega)]
    exact ⟨by rw [up2_eq, up1_eq]; rfl, er 1⟩
