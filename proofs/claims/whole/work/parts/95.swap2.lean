/-! ===== swap: the model ===== -/
theorem qLnP {w : wS} (h : w 1 15 = 1) : qLn w = (qTot w).toNat := by
  unfold qLn
  rw [if_neg (by omega)]
theorem M_exchanges {G : mG} {a : Nat} (ha : a + 1 < 282) : Ok (P_X11_exchanges (a : Int) G) (fun G' => G' 57 = up1 (up1 (G 57) a (G 57 (a + 1))) (a + 1) (G 57 a) ∧ ∀ b, b ≠ 57 → G' b = G b) := by
  unfold P_X11_exchanges
  refine Ok.ld a rfl (by omega) (by omega) ?_
  refine Ok.ld (a + 1) (by omega) (by omega) (by omega) ?_
  refine Ok.sto a rfl (by omega) (by omega) ?_
  refine Ok.sto (a + 1) (by omega) (by omega) (by omega) (Ok.so ⟨?_, fun b hb => by rw [up2_ne hb, up2_ne hb]⟩)
  rw [up2_eq, up2_eq]
/-- told orders, by their codes -/
def OD (cnt : Nat → Nat) (od : Nat → Nat → Nat) (f : Nat → Int) : Prop := ∀ m, m < 4 → f (152 + 31 * m) = (cnt m : Int) ∧ ∀ k, k < cnt m → f (152 + 31 * m + 1 + k) = (cd (od m k) : Int)
theorem OD_sw {cnt : Nat → Nat} {od : Nat → Nat → Nat} {f : Nat → Int} {m0 pl : Nat} (h : OD cnt od f) (h30 : ∀ m, m < 4 → cnt m ≤ 30) (hm : m0 < 4) (hp : pl + 1 < cnt m0) : OD cnt (fun m k => od m (tpo m0 pl m k)) (up1 (up1 f (152 + 31 * m0 + 1 + pl) (f (152 + 31 * m0 + 1 + pl + 1))) (152 + 31 * m0 + 1 + pl + 1) (f (152 + 31 * m0 + 1 + pl))) := by
  intro m hm4
  have h3 := h30 m hm4
  have h33 := h30 m0 hm
  obtain ⟨h1, h2⟩ := h m hm4
  obtain ⟨-, h5⟩ := h m0 hm
  refine ⟨by rw [up1_ne (by omega), up1_ne (by omega)]; exact h1, fun k hk => ?_⟩
  rw [up1_if, up1_if]
  unfold tpo
  by_cases e : m = m0
  · subst e
    dsimp only
    rw [if_pos rfl]
    by_cases e1 : k = pl + 1
    · rw [if_pos (by omega), if_neg (by omega), if_pos e1]
      exact h5 pl (by omega)
    · by_cases e2 : k = pl
      · rw [if_neg (by omega), if_pos (by omega), if_pos e2]
        exact h5 (pl + 1) hp
      · rw [if_neg (by omega), if_neg (by omega), if_neg e2, if_neg e1]
        exact h2 k hk
  · dsimp only
    rw [if_neg (by omega), if_neg (by omega), if_neg e]
    exact h2 k hk
theorem sw_back {f : Nat → Int} {a : Nat} : up1 (up1 (up1 (up1 f a (f (a + 1))) (a + 1) (f a)) a (up1 (up1 f a (f (a + 1))) (a + 1) (f a) (a + 1))) (a + 1) (up1 (up1 f a (f (a + 1))) (a + 1) (f a) a) = f := by
  funext k
  simp only [up1_if]
  by_cases h1 : k = a + 1
  · subst h1
    simp
  · by_cases h2 : k = a
    · subst h2
      simp
    · simp [h1, h2]
/-- the model can't do all steps, where the class can't -/
theorem M_stuck {w : wS} {G : mG} {cnt : Nat → Nat} {od : Nat → Nat → Nat} {r : Nat → Nat} {n : Nat} (hw : Wok w) (hm : MD w (G 57)) (hO : OF w cnt od) (hD : OD cnt od (G 57)) (hP : SwP w cnt od r n) (hS : SwS w od r n) (hN : (n : Int) < qTot w) : Ok (P_X11_works G) (fun z => z.1 = false ∧ FrM G z.2) := by
  have hn := hw.n
  have hv := hP.1
  have hSo := So_of hw hv
  unfold P_X11_works
  refine Ok.bind (P := fun z => z.1 = false ∧ FrM G z.2) ?_ (fun z hz => Ok.so hz)
  refine Ok.w (M_worksOutG (a := 57) (an := 282) (p := 152) (p2 := -1) (p3 := 0) hw (by omega) (by omega) (by omega) (cnt := cnt) (od := od) hO.2.2.2 (fun m k hm4 hk => ?_) (fun dn cm G' => PF w r n dn cm ∧ MT w dn cm (tOd (qS w D0 r n)) (tBg (qS w D0 r n)) (tWr (qS w D0 r n)) G' ∧ FrM G G' ∧ (∀ m, m < 4 → G' 65 m = (cm m : Int))) ?_ (fun dn cm G' hJ => ?_) (fun dn cm G' m j s hJ hm4 hlt he hj hs hd => ?_)) (fun z hz => ?_)
  · obtain ⟨j, s, a1, a2, a3, a4, a5⟩ := hO.1 m k hm4 hk
    exact ⟨j, s, a1, a2, a3⟩
  · exact Ok.w (M_startsPlan hw hm _ _ _) (fun G' h => ⟨PF0 hw hv, h.1, h.2.1, h.2.2⟩)
  · obtain ⟨h1, h2, h3, h4⟩ := hJ
    rw [h3 57 (by omega)]
    exact ⟨hm, h2.1, h4, fun m hm4 => Nat.le_trans (h1.2.1 m) (hP.2.2 m hm4), hD⟩
  · obtain ⟨h1, h2, h3, h4⟩ := hJ
    have hm' : MD w (G' 57) := by
      rw [h3 57 (by omega)]
      exact hm
    have hC := PF.cs hw hv hSo h1
    have hst := (hw.st hj).2
    have hq : qMc w (5 * j + s) = m := by
      obtain ⟨j', s', a1, a2, a3, a4, a5⟩ := hO.1 m _ hm4 hlt
      have : j' = j ∧ s' = s := by omega
      rw [← this.1, ← this.2]
      exact a5
    have hsr : s < rD r n j := by
      refine Classical.byContradiction fun g => ?_
      have g1 := h1.1 j
      have g2 : rD r n j = s := by omega
      have g3 := h1.2.1 m
      by_cases g4 : cm m = rC w r n m
      · refine hS j hj (by omega) ?_
        rw [g2, hq, ← g4]
        exact he
      · have g5 := hP.2.1 m (cm m) hm4 (by omega)
        obtain ⟨j', s', a1, a2, a3, a4, a5⟩ := qS_mk (D := D0) hw hv (show cm m < rC w r n m by omega)
        have : 5 * j' + s' = 5 * j + s := by rw [← a1, g5, he]
        have : j' = j ∧ s' = s := by omega
        rw [this.1, this.2] at a3
        omega
    obtain ⟨i, a1, ej, es, e0⟩ := rX_of hsr
    have a2 : rM w r i = m := by
      unfold rM
      rw [e0]
      exact hq
    have a3 : rK w r i = cm m := by
      have k1 := rK_lt (w := w) (r := r) a1
      have k2 := qS_od (D := D0) hw hv a1
      rw [a2] at k1 k2
      have k3 := hP.2.1 m _ hm4 k1
      have k4 := hP.2.2 m hm4
      exact hO.2.1 m _ _ hm4 (by omega) hlt ((k3.symm.trans (k2.trans e0)).trans he.symm)
    have hd' : dn (r i) = rS r i := by rw [ej, es, hd]
    have hk' : rK w r i = cm (rM w r i) := by rw [a3, a2]
    obtain ⟨b1, b2, b3, b4⟩ := So.hour hw hv hSo a1 hd' hk'
    obtain ⟨c1, c2, c3⟩ := M_beginOf hw hm' hC h2 hj (by omega)
    have e1 : 5 * j + dn j = rX r i := by rw [hd, e0]
    have em : qMc w (rX r i) = m := a2
    rw [e1, b2] at c1 c2 c3
    refine ⟨_, tBg (qS w D0 r n) (rX r i), c1, ?_, ?_⟩
    · rw [if_neg (by omega), (hSo i a1).2.1]
      unfold qAd
      rw [if_neg]
      have h5 := rS_lt5 hw hv a1
      have h6 := (hv i a1).1
      unfold rX
      omega
    · have hdo := M_does hw hm' hC h2 (j := j) hj (by omega) (hour := tBg (qS w D0 r n) (rX r i)) (by rw [e1]) (by rw [e1]; exact b3.symm) (by rw [e1]; exact b4)
      rw [e1, em] at hdo
      refine Ok.w hdo (fun G2 hG2 => ⟨?_, hG2.1, h3.tr hG2.2.1, fun m' hm' => ?_⟩)
      · have := PF.ex hw hv h1 a1 hd' hk'
        rw [ej, a2] at this
        exact this
      · rw [hG2.2.2, up1_if]
        by_cases h7 : m' = m
        · rw [if_pos h7, h7, upf_eq, h4 m hm4]
          rfl
        · rw [if_neg h7, upf_ne h7]
          exact h4 m' hm'
  · obtain ⟨dn, cm, ⟨h1, h2, h3, h4⟩, h5, h6, h7⟩ := hz
    refine ⟨?_, h3⟩
    rw [h6]
    refine decide_eq_false (fun g => ?_)
    have h8 : sm (fun j => (dn j : Int)) (qN w) ≤ n := by
      rw [← rD_sum (r := r) (n := n) (N := qN w) (fun i hi => (hv i hi).1)]
      exact sm_le (fun j _ => by have := h1.1 j; omega)
    omega
section SWM
variable {w : wS} {h : Nat → wS} {len : Nat} {G : mG} {p1 p2 : Int}
/-- the place is there -/
def SwC (w : wS) (p1 p2 : Int) : Prop := (0 ≤ p1 ∧ p1 < 4) ∧ (0 ≤ p2 ∧ p2 ≤ (rC w (qRw w) (qLn w) p1.toNat : Int) - 2)
theorem M_swap0 (i1 : I32 p1) (i2 : I32 p2) (hw : Wok w) (hp : Pok w) (hm : MA w (G 57)) (hc : ¬ SwC w p1 p2) : Ok (P_X11_swap p1 p2 G) (fun z => z.2 = up2 G 56 3 1) := by
  unfold SwC at hc
  unfold P_X11_swap
  rw [M_in i1 (by unfold I32; omega) (by unfold I32; omega)]
  refine Ok.eq rfl ?_
  refine Ok.jn1 (fun y => y = 0) (fun y hy => ?_) (fun k18 hk18 => ?_)
  · subst hy
    refine Ok.jn2 (fun y G' => y = 0 ∧ G' = G) (fun y G' hy => ?_) (fun k14 hk14 => ?_)
    · obtain ⟨rfl, rfl⟩ := hy
      refine Ok.fits (c1 := False) (c2 := False) (c3 := True) rfl rfl b2i_T (fun _ => ?_) (fun g => g.elim) (fun g => g.elim) (fun g => g.elim)
      exact Ok.so rfl
    · exact Ok.iteT rfl (hk14 _ _ ⟨rfl, rfl⟩)
  · refine Ok.jnP True (fun _ => hk18 _ rfl) (fun k20 hk20 => ?_)
    refine Ok.it (fun g1 => ?_) (fun g1 => hk20 trivial)
    have g1 := of_decide_eq_true g1
    obtain ⟨m, rfl⟩ := Int.eq_ofNat_of_zero_le g1.1
    have h30 := rC_30 hw (Pok.v hw hp) m
    rw [Int.toNat_natCast] at hc
    refine Ok.ld (152 + 31 * m) (by omega) (by omega) (by omega) ?_
    rw [(hm.2.2 m (by omega)).1, M_in i2 (by unfold I32; omega) (by unfold I32; omega)]
    refine Ok.eq rfl ?_
    refine Ok.it (fun g2 => ?_) (fun g2 => hk20 trivial)
    have g2 := of_decide_eq_true g2
    exact absurd ⟨by omega, g2⟩ hc
theorem M_swapX (i1 : I32 p1) (i2 : I32 p2) (hw : Wok w) (hp : Pok w) (hm : MA w (G 57)) (hc : SwC w p1 p2) {b : Bool} {Q : Int × mG → Prop} (hwk : ∀ G15, G15 57 = up1 (up1 (G 57) (152 + 31 * p1.toNat + 1 + p2.toNat) (G 57 (152 + 31 * p1.toNat + 1 + p2.toNat + 1))) (152 + 31 * p1.toNat + 1 + p2.toNat + 1) (G 57 (152 + 31 * p1.toNat + 1 + p2.toNat)) → (∀ b, b ≠ 57 → G15 b = G b) → Ok (P_X11_works G15) (fun z => z.1 = b ∧ FrM G15 z.2))
    (hk : ∀ G17, (∀ c, ¬ (59 ≤ c ∧ c ≤ 65) → G17 c = G c) → Ok ((P_X11_fits 1 (b2i b) 1 G17).bind fun z9 => bif z9.1 then (P_X11_keeps z9.2).bind fun G10 => (P_X11_exchanges (((152 + (p1 * 31)) + 1) + p2) G10).bind fun G11 => (P_X11_works G11).bind fun z12 => (P_X11_planEnd z12.2).bind fun v13 => some (v13, z12.2) else some (0, z9.2)) Q) : Ok (P_X11_swap p1 p2 G) Q := by
  unfold SwC at hc
  obtain ⟨⟨h1, h2⟩, h3, h4⟩ := hc
  obtain ⟨m, rfl⟩ := Int.eq_ofNat_of_zero_le h1
  obtain ⟨pl, rfl⟩ := Int.eq_ofNat_of_zero_le h3
  rw [Int.toNat_natCast] at h4 hwk
  rw [Int.toNat_natCast] at hwk
  have h30 := rC_30 hw (Pok.v hw hp) m
  have ea : ((152 + ((m : Int) * 31)) + 1) + (pl : Int) = ((152 + 31 * m + 1 + pl : Nat) : Int) := by omega
  unfold P_X11_swap
  rw [M_in i1 (by unfold I32; omega) (by unfold I32; omega)]
  refine Ok.eq rfl ?_
  refine Ok.jn1 (fun y => y = 1) (fun y hy => ?_) (fun k18 hk18 => ?_)
  · subst hy
    refine Ok.jn2 (fun y G' => y = b2i b ∧ ∀ c, ¬ (59 ≤ c ∧ c ≤ 65) → G' c = G c) (fun y G' hy => ?_) (fun k14 hk14 => ?_)
    · obtain ⟨rfl, hG'⟩ := hy
      exact hk G' hG'
    · refine Ok.iteF rfl ?_
      rw [ea]
      refine Ok.bind (M_exchanges (by omega)) (fun G15 hG15 => ?_)
      refine Ok.bind (hwk G15 hG15.1 hG15.2) (fun z16 hz16 => ?_)
      refine Ok.bind (M_exchanges (by omega)) (fun G17 hG17 => ?_)
      rw [hz16.1]
      refine hk14 _ _ ⟨rfl, fun c hc => ?_⟩
      by_cases e : c = 57
      · subst e
        rw [hG17.1, hz16.2 57 (by omega), hG15.1]
        exact sw_back
      · rw [hG17.2 c e, hz16.2 c hc, hG15.2 c e]
  · refine Ok.jnP False (fun g => g.elim) (fun k20 hk20 => ?_)
    refine Ok.iteT (decide_eq_true ⟨by omega, by omega⟩) ?_
    refine Ok.ld (152 + 31 * m) (by omega) (by omega) (by omega) ?_
    rw [(hm.2.2 m (by omega)).1, M_in i2 (by unfold I32; omega) (by unfold I32; omega)]
    refine Ok.eq rfl ?_
    exact Ok.iteT (decide_eq_true ⟨by omega, h4⟩) (hk18 _ rfl)
theorem SwC.p {w : wS} {p1 p2 : Int} (hc : SwC w p1 p2) (hw : Wok w) : w 1 15 = 1 := by
  have hz := hw.2.2.2.2.2.2.2.1
  refine Classical.byContradiction fun g => ?_
  have e : qLn w = 0 := by
    unfold qLn
    rw [if_pos (by omega)]
  unfold SwC at hc
  rw [e] at hc
  have : rC w (qRw w) 0 p1.toNat = 0 := rfl
  omega
theorem OD_of {w : wS} {r : Nat → Nat} {n : Nat} {f : Nat → Int} (h : OT w r n (tOd (qS w D0 r n)) f 152) : OD (rC w r n) (tOd (qS w D0 r n)) f := h
theorem M_swapF (i1 : I32 p1) (i2 : I32 p2) (hw : Wok w) (hp : Pok w) (hm : MA w (G 57)) (hc : SwC w p1 p2) {r2 : Nat → Nat} {n : Nat} (hP : SwP w (rC w (qRw w) (qTot w).toNat) (fun m k => tOd (qS w D0 (qRw w) (qTot w).toNat) m (tpo p1.toNat p2.toNat m k)) r2 n) (hn : n < (qTot w).toNat) (hS : SwS w (fun m k => tOd (qS w D0 (qRw w) (qTot w).toNat) m (tpo p1.toNat p2.toNat m k)) r2 n) : Ok (P_X11_swap p1 p2 G) (fun z => z.2 56 3 = 2 ∧ KQ G z.2) := by
  have h1 := hc.p hw
  have hF := (hp h1).1
  have hln := qLnP h1
  have hc' := hc
  unfold SwC at hc'
  rw [hln] at hc'
  have h30 := fun m (_ : m < 4) => rC_30 hw hF.1 m
  have htot := qTot_le hw
  refine M_swapX i1 i2 hw hp hm hc (b := false) (fun G15 h57 hfr => ?_) (fun G17 hG17 => ?_)
  · have hm15 : MD w (G15 57) := by
      rw [h57]
      refine MD_cong hw (fun k hk1 hk2 => ?_) hm.1
      have := h30 p1.toNat (by omega)
      rw [up1_ne (by omega), up1_ne (by omega)]
    refine M_stuck hw hm15 (OF_sw (OF_row hw hF) (m0 := p1.toNat) (pl := p2.toNat) (by omega)) ?_ hP hS (by omega)
    rw [h57]
    exact OD_sw (OD_of (hm.plan h1)) h30 (by omega) (by omega)
  · refine Ok.fits (c1 := True) (c2 := False) (c3 := True) b2i_T rfl b2i_T (fun g => absurd trivial g) (fun _ _ => ?_) (fun _ g => g.elim) (fun _ g => g.elim)
    refine Ok.so ⟨by dsimp only; rw [up2_eq, up1_eq], ?_⟩
    exact KQ.tr (KQ.of (fun b hb => hG17 b (by omega))) (KQ.up3 _ _)
theorem M_swapT {r2 : Nat → Nat} {f : Nat → Int} (i1 : I32 p1) (i2 : I32 p2) (hpi : PI w h len) (hm : MA w (G 57)) (hH : MH h len G) (hc : SwC w p1 p2) (hP : SwP w (rC w (qRw w) (qTot w).toNat) (fun m k => tOd (qS w D0 (qRw w) (qTot w).toNat) m (tpo p1.toNat p2.toNat m k)) r2 (qTot w).toNat) (hf : ∀ i, i < (qTot w).toNat → f i = (r2 i : Int)) : Ok (P_X11_swap p1 p2 G) (fun z => z.1 = qEnd w r2 ∧ MP' (wP w f) (psh w h) (min (len + 1) 8) G z.2) := by
  have hw := hpi.1
  have hp := hpi.2.1
  have h1 := hc.p hw
  have hF := (hp h1).1
  have hln := qLnP h1
  have hc' := hc
  unfold SwC at hc'
  rw [hln] at hc'
  have h30 := fun m (_ : m < 4) => rC_30 hw hF.1 m
  have h300 := h30 p1.toNat (by omega)
  have htot := qTot_le hw
  have hO := OF_sw (OF_row hw hF) (m0 := p1.toNat) (pl := p2.toNat) (by omega)
  obtain ⟨hF2, hC2⟩ := SwP.full hw hO hP (by omega)
  have hD2 := OD_sw (OD_of (hm.plan h1)) h30 (m0 := p1.toNat) (pl := p2.toNat) (by omega) (by omega)
  have hO2 : OT w r2 (qTot w).toNat (tOd (qS w D0 r2 (qTot w).toNat)) (up1 (up1 (G 57) (152 + 31 * p1.toNat + 1 + p2.toNat) (G 57 (152 + 31 * p1.toNat + 1 + p2.toNat + 1))) (152 + 31 * p1.toNat + 1 + p2.toNat + 1) (G 57 (152 + 31 * p1.toNat + 1 + p2.toNat))) 152 := by
    intro m hm4
    obtain ⟨d1, d2⟩ := hD2 m hm4
    rw [hC2 m hm4]
    refine ⟨d1, fun k hk => ?_⟩
    rw [d2 k hk, hP.2.1 m k hm4 (by rw [hC2 m hm4]; exact hk)]
  have hmd : ∀ g : Nat → Int, g = up1 (up1 (G 57) (152 + 31 * p1.toNat + 1 + p2.toNat) (G 57 (152 + 31 * p1.toNat + 1 + p2.toNat + 1))) (152 + 31 * p1.toNat + 1 + p2.toNat + 1) (G 57 (152 + 31 * p1.toNat + 1 + p2.toNat)) → MD w g := fun g hg => by
    rw [hg]
    refine MD_cong hw (fun k hk1 hk2 => ?_) hm.1
    rw [up1_ne (by omega), up1_ne (by omega)]
  have ea : ((152 + (p1 * 31)) + 1) + p2 = ((152 + 31 * p1.toNat + 1 + p2.toNat : Nat) : Int) := by omega
  refine M_swapX i1 i2 hw hp hm hc (b := true) (fun G15 h57 hfr => ?_) (fun G17 hG17 => ?_)
  · refine Ok.w (M_works hw (hmd _ h57) hF2 (by rw [h57]; exact hO2)) (fun z hz => ⟨hz.1, hz.2.2.1⟩)
  · have hm17 : MA w (G17 57) := by
      rw [hG17 57 (by omega)]
      exact hm
    have hH17 : MH h len G17 := MH_fr (by rw [hG17 56 (by omega)]) (hG17 58 (by omega)) hH
    refine Ok.fits (c1 := True) (c2 := True) (c3 := True) b2i_T b2i_T b2i_T (fun g => absurd trivial g) (fun _ g => absurd trivial g) (fun _ _ g => absurd trivial g) (fun _ _ _ => ?_)
    refine Ok.iteT rfl ?_
    refine M_keep0 hpi hm17 hH17 (fun G' g1 g2 g3 => ?_)
    rw [ea]
    refine Ok.bind (M_exchanges (by omega)) (fun G11 hG11 => ?_)
    have e57 : G' 57 = G 57 := by rw [g2 57 (by omega) (by omega), hG17 57 (by omega)]
    have h57 := hG11.1
    rw [e57] at h57
    have hm11 := hmd _ h57
    refine Ok.bind (M_works hw hm11 hF2 (by rw [h57]; exact hO2)) (fun z12 hz => ?_)
    obtain ⟨y1, y2, y3, y4⟩ := hz
    have hm12 : MD w (z12.2 57) := by
      rw [y3 57 (by omega)]
      exact hm11
    obtain ⟨E1, E2⟩ := MK_E hw hm12 hF2 y2
    refine Ok.eq (M_planEnd hw hm12 E1 E2) (Ok.so ⟨rfl, ?_⟩)
    have hm' : MD w (G' 57) := by
      rw [e57]
      exact hm.1
    have hMP := MP_plan (G0 := G17) (G' := G') (G7 := G') (G8 := z12.2) hw hF2 hf hm' g1 g2 g3 (fun b _ => rfl) (fun k hk => ?_) ?_ ?_ (fun b hb1 hb2 => ?_)
    · refine ⟨hMP.1, hMP.2.1, fun b hb => ?_, hMP.2.2.2⟩
      rw [hMP.2.2.1 b hb, hG17 b (by omega)]
    · rw [y3 57 (by omega), h57, up1_ne (by omega), up1_ne (by omega), e57]
    · rw [y3 57 (by omega), h57, up1_ne (by omega), up1_ne (by omega), hm.2.1, h1]
    · rw [y3 57 (by omega), h57]
      exact hO2
    · rw [y3 b (by omega), hG11.2 b hb1]
end SWM
theorem C_swap {p1 p2 : Int} (i1 : I32 p1) (i2 : I32 p2) : CaseX (P_X10_swap p1 p2) (fun E => if E = 0 then 1 else if E = 2 then 2 else 0) (P_X11_swap p1 p2) := by
  intro c W hW
  obtain ⟨w, h, len, a, np, G, n, k, rfl, hI, hn, hk⟩ := id hW
  have hp := hI.1
  have hw := hp.1
  have hx := hI.2.1
  have hm := hI.2.2.2.2.1
  have hH := hI.2.2.2.2.2
  have hbad : ¬ SwC w p1 p2 → Ok (P_X11_swap p1 p2 G) (fun z => z.2 56 3 = 1 ∧ IW (c + 1) (rOf a, (tlOf a, (z.2, (n + 1, k + 6))))) := fun g => Ok.w (M_swap0 i1 i2 hw hp.2.1 hm g) (fun z hz => by
    rw [hz]
    exact ⟨by rw [up2_eq, up1_eq], hW.kq (KQ.up (by omega)) (Nat.le_refl _) (Nat.le_refl _)⟩)
  unfold P_X10_swap
  rw [needMachine_eq i1]
  by_cases h1 : 0 ≤ p1 ∧ p1 < 4
  · rw [if_pos h1]
    refine Ok.thr0 rfl ?_
    have h30 := rC_30 hw (Pok.v hw hp.2.1) p1.toNat
    refine Ok.jnP (¬ SwC w p1 p2) (fun g => Ok.so (Or.inr ⟨0, rfl, by decide, by omega, hbad g⟩)) (fun k6 hk6 => ?_)
    refine Ok.cd (ilt_id i2.1 i2.2 (by omega) (by omega)) (fun g => hk6 (fun e => by unfold SwC at e; omega)) (fun g => ?_)
    refine Ok.ld p1.toNat (by omega) (by omega) (by omega) ?_
    dsimp only
    rw [hI.2.2.1.cm (m := p1.toNat) (by omega)]
    refine Ok.cd (ilt_id i2.1 i2.2 (by omega) (by omega)) (fun g2 => ?_) (fun g2 => hk6 (fun e => by unfold SwC at e; omega))
    have hc : SwC w p1 p2 := ⟨h1, by omega, by omega⟩
    have h3 := hc.p hw
    have hln := qLnP h3
    rw [hln] at g2
    obtain ⟨hF, hr, hO, hT17⟩ := hI.plan h3
    have hps := S_putSwapped hw hx hF hT17 (m0 := p1.toNat) (pl := p2.toNat) (by omega) (by omega)
    rw [show ((p1.toNat : Nat) : Int) = p1 by omega, show ((p2.toNat : Nat) : Int) = p2 by omega] at hps
    refine Ok.bind hps (fun z8 hz8 => ?_)
    obtain ⟨hf8, r2, n2, hP, hcase⟩ := hz8
    have hI8 := IV_trial hI hf8
    rcases hcase with ⟨e1, rfl, hT2⟩ | ⟨e1, e2, e3⟩
    · rw [e1]
      refine Ok.iteT rfl ?_
      have hF2 := qF_of hP.1 (by have := qTot_le hw; omega)
      refine S_adopt hI8 hF2 hT2 (fun a' np' G' G6 n' k' f b1 b2 b3 b4 b5 hf hx6 hT6 f6 => ?_)
      refine Ok.so (Or.inl ⟨_, rfl, fun G7 hG7 => ?_⟩)
      have hG7' : ∀ b, 56 ≤ b ∧ b ≤ 73 → G7 b = z8.2 b := fun b hb => by
        rw [hG7 b (by omega)]
        show G6 b = z8.2 b
        rw [f6 b (by omega), b2 b (by omega) (by omega)]
      obtain ⟨hmA, hmH⟩ := M_start hI8.2.2.2.2.1 hI8.2.2.2.2.2 hG7'
      refine Ok.w (M_swapT (G := G7) (f := f) i1 i2 hp hmA hmH hc hP hf) (fun z hz => ?_)
      obtain ⟨z1, z2⟩ := hz
      exact ⟨z2.2.2.2, by rw [z1], z2.2.2.1 74 (by omega), IW_done hI8 hn hk b1 b2 b3 b4 b5 (wP_ok hw) (wP_pok hw hF2 hf) hx6 hT6 f6 hG7 z2⟩
    · rw [e1]
      refine Ok.iteF rfl (Ok.so (Or.inr ⟨2, rfl, by decide, by omega, ?_⟩))
      refine Ok.w (M_swapF (G := z8.2) i1 i2 hw hp.2.1 hI8.2.2.2.2.1 hc hP e2 e3) (fun z hz => ⟨hz.1, ?_⟩)
      exact ⟨w, h, len, a, np, z.2, n + 1, k + 6, rfl, hI8.kq hz.2, by omega, by omega⟩
  · rw [if_neg h1]
    exact Ok.thrE rfl (Or.inr ⟨0, rfl, by decide, by omega, hbad (fun g => h1 g.1)⟩)
