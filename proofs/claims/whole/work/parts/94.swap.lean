/-! ===== orders of which two neighbours are exchanged; a row that tells them ===== -/
def tpo (m0 pl m k : Nat) : Nat := if m = m0 then (if k = pl then pl + 1 else if k = pl + 1 then pl else k) else k
theorem tpo_tpo {m0 pl m k : Nat} : tpo m0 pl m (tpo m0 pl m k) = k := by
  unfold tpo
  by_cases h : m = m0
  · simp only [if_pos h]
    split
    · next h1 => rw [if_neg (by omega), if_pos rfl, h1]
    · next h1 =>
      split
      · next h2 => rw [if_pos rfl, h2]
      · rfl
  · simp only [if_neg h]
theorem tpo_lt {m0 pl m k : Nat} {cnt : Nat → Nat} (h : pl + 1 < cnt m0) (hk : k < cnt m) : tpo m0 pl m k < cnt m := by
  unfold tpo
  by_cases h1 : m = m0
  · subst h1
    rw [if_pos rfl]
    split
    · exact h
    · split <;> omega
  · rw [if_neg h1]
    exact hk
/-- orders that hold each step once -/
def OF (w : wS) (cnt : Nat → Nat) (od : Nat → Nat → Nat) : Prop :=
  (∀ m k, m < 4 → k < cnt m → ∃ j s, od m k = 5 * j + s ∧ j < qN w ∧ s < qSt w j ∧ s < 5 ∧ qMc w (5 * j + s) = m) ∧
  (∀ m k k', m < 4 → k < cnt m → k' < cnt m → od m k = od m k' → k = k') ∧
  (∀ j s, j < qN w → s < qSt w j → ∃ k, k < cnt (qMc w (5 * j + s)) ∧ od (qMc w (5 * j + s)) k = 5 * j + s) ∧
  ∀ m, m < 4 → cnt m ≤ 30
theorem OF_row {w : wS} {r : Nat → Nat} {n : Nat} (hw : Wok w) (hF : qF w r n) : OF w (rC w r n) (tOd (qS w D0 r n)) := by
  have hv := hF.1
  refine ⟨fun m k hm hk => ?_, fun m k k' hm hk hk' he => ?_, fun j s hj hs => ?_, fun m _ => rC_30 hw hv m⟩
  · obtain ⟨j, s, h1, h2, h3, h4, h5⟩ := qS_mk (D := D0) hw hv hk
    rw [hF.2 j h2] at h3
    exact ⟨j, s, h1, h2, h3, h4, h5⟩
  · obtain ⟨i, a1, a2, a3⟩ := rK_of hk
    obtain ⟨i', b1, b2, b3⟩ := rK_of hk'
    have h1 := qS_od (D := D0) hw hv a1
    have h2 := qS_od (D := D0) hw hv b1
    rw [a2, a3] at h1
    rw [b2, b3] at h2
    have := rX_inj hw hv a1 b1 (h1.symm.trans (he.trans h2))
    rw [← a3, ← b3, this]
  · obtain ⟨i, a1, a2, a3, a4⟩ := rX_of (r := r) (n := n) (j := j) (s := s) (by rw [hF.2 j hj]; exact hs)
    have h1 := qS_od (D := D0) hw hv a1
    have hM : rM w r i = qMc w (5 * j + s) := by
      unfold rM
      rw [a4]
    have h2 := rK_lt (w := w) (r := r) a1
    rw [hM] at h1 h2
    rw [a4] at h1
    exact ⟨_, h2, h1⟩
theorem OF_sw {w : wS} {cnt : Nat → Nat} {od : Nat → Nat → Nat} {m0 pl : Nat} (h : OF w cnt od) (hp : pl + 1 < cnt m0) : OF w cnt (fun m k => od m (tpo m0 pl m k)) := by
  obtain ⟨h1, h2, h3, h4⟩ := h
  refine ⟨fun m k hm hk => h1 m _ hm (tpo_lt hp hk), fun m k k' hm hk hk' he => ?_, fun j s hj hs => ?_, h4⟩
  · have := h2 m _ _ hm (tpo_lt hp hk) (tpo_lt hp hk') he
    rw [← tpo_tpo (m0 := m0) (pl := pl) (m := m) (k := k), this, tpo_tpo]
  · obtain ⟨k, a1, a2⟩ := h3 j s hj hs
    exact ⟨tpo m0 pl (qMc w (5 * j + s)) k, tpo_lt hp a1, by dsimp only; rw [tpo_tpo]; exact a2⟩
/-- a row's beginning that keeps to told orders -/
def SwP (w : wS) (cnt : Nat → Nat) (od : Nat → Nat → Nat) (r : Nat → Nat) (n : Nat) : Prop :=
  qV w r n ∧ (∀ m k, m < 4 → k < rC w r n m → tOd (qS w D0 r n) m k = od m k) ∧ ∀ m, m < 4 → rC w r n m ≤ cnt m
section SP
variable {w : wS} {cnt : Nat → Nat} {od : Nat → Nat → Nat} {r : Nat → Nat} {n : Nat}
theorem SwP.hd (hw : Wok w) (hO : OF w cnt od) (hP : SwP w cnt od r n) {j : Nat} (hj : j < qN w) (hl : rD r n j < qSt w j) : rC w r n (qMc w (5 * j + rD r n j)) < cnt (qMc w (5 * j + rD r n j)) := by
  have hm4 := (hw.mc hj hl).2
  have h5 := (hw.st hj).2
  obtain ⟨k, a1, a2⟩ := hO.2.2.1 j _ hj hl
  by_cases g : rC w r n (qMc w (5 * j + rD r n j)) ≤ k
  · omega
  · have g : k < rC w r n (qMc w (5 * j + rD r n j)) := by omega
    have h1 := hP.2.1 _ _ hm4 g
    obtain ⟨j', s', b1, b2, b3, b4, b5⟩ := qS_mk (D := D0) hw hP.1 g
    have e : 5 * j' + s' = 5 * j + rD r n j := by rw [← b1, h1, a2]
    have e2 : j' = j := by omega
    subst e2
    omega
theorem SwP.ex (hw : Wok w) (hO : OF w cnt od) (hP : SwP w cnt od r n) {j : Nat} (hj : j < qN w) (hl : rD r n j < qSt w j) (he : od (qMc w (5 * j + rD r n j)) (rC w r n (qMc w (5 * j + rD r n j))) = 5 * j + rD r n j) : SwP w cnt od (upf r n j) (n + 1) := by
  have hh := SwP.hd hw hO hP hj hl
  have hc : ∀ i, i < n → r i = upf r n j i := fun i hi => (upf_ne (by omega)).symm
  have hv := qV_upf hP.1 hj hl
  have hXn : rX (upf r n j) n = 5 * j + rD r n j := by
    unfold rX rS
    rw [upf_eq, ← rD_cong hc]
  have hMn : rM w (upf r n j) n = qMc w (5 * j + rD r n j) := by
    unfold rM
    rw [hXn]
  refine ⟨hv, fun m k hm hk => ?_, fun m hm => ?_⟩
  · obtain ⟨i, a1, a2, a3⟩ := rK_of hk
    have h1 := qS_od (D := D0) hw hv a1
    rw [a2, a3] at h1
    rw [h1]
    by_cases g : i = n
    · rw [g] at a2 a3 ⊢
      rw [hMn] at a2
      rw [hXn, ← he, a2]
      unfold rK at a3
      rw [hMn, a2, ← rC_cong hc] at a3
      rw [a3]
    · have hi : i < n := by omega
      have eX : rX (upf r n j) i = rX r i := (rX_cong hc hi).symm
      have eM : rM w (upf r n j) i = rM w r i := by
        unfold rM
        rw [eX]
      have eK : rK w (upf r n j) i = rK w r i := by
        unfold rK
        rw [eM, rC_cong (w := w) (r := r) (r' := upf r n j) (n := i) (fun a ha => hc a (by omega))]
      rw [eM] at a2
      rw [eK] at a3
      have h2 := hP.2.1 m k hm (by rw [← a2, ← a3]; exact rK_lt hi)
      rw [← h2, eX, ← a2, ← a3]
      exact (qS_od hw hP.1 hi).symm
  · rw [rC_succ, ← funext (fun m => rC_cong (w := w) hc m), hMn]
    by_cases g : m = qMc w (5 * j + rD r n j)
    · rw [g, upf_eq]
      exact hh
    · rw [upf_ne g]
      exact hP.2.2 m hm
theorem SwP.full (hw : Wok w) (hO : OF w cnt od) (hP : SwP w cnt od r n) (hN : (n : Int) = qTot w) : qF w r n ∧ ∀ m, m < 4 → rC w r n m = cnt m := by
  have hF := qF_of hP.1 hN
  refine ⟨hF, fun m hm => Nat.le_antisymm (hP.2.2 m hm) ?_⟩
  refine Classical.byContradiction fun g => ?_
  have g : rC w r n m < cnt m := by omega
  obtain ⟨j, s, a1, a2, a3, a4, a5⟩ := hO.1 m _ hm g
  obtain ⟨i, b1, b2, b3, b4⟩ := rX_of (r := r) (n := n) (j := j) (s := s) (by rw [hF.2 j a2]; exact a3)
  have hM : rM w r i = m := by
    unfold rM
    rw [b4]
    exact a5
  have h1 := rK_lt (w := w) (r := r) b1
  have h2 := qS_od (D := D0) hw hP.1 b1
  rw [hM] at h1 h2
  have h3 := hP.2.1 m _ hm h1
  have he : od m (rK w r i) = od m (rC w r n m) := (h3.symm.trans (h2.trans b4)).trans a1.symm
  have := hO.2.1 m _ _ hm (by omega) g he
  omega
/-- the class looks for a job whose step is the next one -/
theorem S_nextOf (hw : Wok w) (hO : OF w cnt od) (hP : SwP w cnt od r n) {G : mG} (hx : XS w G) (hT : TT 26 w D0 r n G) (hG : ∀ m k, m < 4 → k < cnt m → G 37 (30 * m + k) = (od m k : Int)) : Ok (P_X8_nextOf 26 G) (fun v => (v = -1 ∧ ∀ j, j < qN w → rD r n j < qSt w j → od (qMc w (5 * j + rD r n j)) (rC w r n (qMc w (5 * j + rD r n j))) ≠ 5 * j + rD r n j) ∨ ∃ j : Nat, v = (j : Int) ∧ j < qN w ∧ rD r n j < qSt w j ∧ od (qMc w (5 * j + rD r n j)) (rC w r n (qMc w (5 * j + rD r n j))) = 5 * j + rD r n j) := by
  have hn := hw.n
  have hv := hP.1
  unfold P_X8_nextOf
  refine Ok.lp1 (fun M x => ∃ J : Nat, x = (J : Int) ∧ J + M = qN w ∧ ∀ j, j < J → rD r n j < qSt w j → od (qMc w (5 * j + rD r n j)) (rC w r n (qMc w (5 * j + rD r n j))) ≠ 5 * j + rD r n j) (fun M again x hI hk => ?_) LF (qN w) 0 (LF_lt (by omega)) ⟨0, rfl, by omega, fun j hj => absurd hj (Nat.not_lt_zero _)⟩
  obtain ⟨J, rfl, hJM, hno⟩ := hI
  rw [hx.n hw]
  refine Ok.cd (ilt_nat (by omega) (by omega)) (fun hJ => ?_) (fun hJ => ?_)
  · have h5 := (hw.st hJ).2
    refine Ok.eq (S_hasLeftN hw hx hv hT hJ) ?_
    refine Ok.jnP (rD r n J < qSt w J → od (qMc w (5 * J + rD r n J)) (rC w r n (qMc w (5 * J + rD r n J))) ≠ 5 * J + rD r n J) (fun g => ?_) (fun k6 hk6 => ?_)
    · refine hk (M - 1) _ (by omega) ⟨J + 1, rfl, by omega, fun j hj => ?_⟩
      by_cases e : j = J
      · rw [e]
        exact g
      · exact hno j (by omega)
    · refine Ok.it (fun g => ?_) (fun g => ?_)
      · have g := of_decide_eq_true g
        have hm4 := (hw.mc hJ g).2
        have hh := SwP.hd hw hO hP hJ g
        have h30 := hO.2.2.2 _ hm4
        refine Ok.eq (S_nextStep hw hx hv hT (by omega)) ?_
        refine Ok.ld (5 * J + rD r n J) rfl (by omega) (by omega) ?_
        rw [hx.mc hw hJ g]
        refine Ok.ld (qMc w (5 * J + rD r n J)) rfl (by omega) (by omega) ?_
        rw [hT.cm hm4]
        refine Ok.ld (30 * qMc w (5 * J + rD r n J) + rC w r n (qMc w (5 * J + rD r n J))) (by omega) (by omega) (by omega) ?_
        rw [hG _ _ hm4 hh]
        obtain ⟨j', s', b1, b2, b3, b4, b5⟩ := hO.1 _ _ hm4 hh
        rw [b1]
        refine Ok.cd (ieq_nat (by omega) (by omega)) (fun g2 => ?_) (fun g2 => ?_)
        · exact Ok.so (Or.inr ⟨J, rfl, hJ, g, b1.trans g2⟩)
        · exact hk6 (fun _ e => g2 (b1.symm.trans e))
      · have g := of_decide_eq_false g
        exact hk6 (fun e => absurd e g)
  · exact Ok.so (Or.inl ⟨rfl, fun j hj => hno j (by omega)⟩)
end SP
/-- no next step anywhere -/
def SwS (w : wS) (od : Nat → Nat → Nat) (r : Nat → Nat) (n : Nat) : Prop := ∀ j, j < qN w → rD r n j < qSt w j → od (qMc w (5 * j + rD r n j)) (rC w r n (qMc w (5 * j + rD r n j))) ≠ 5 * j + rD r n j
theorem qS_0 {w : wS} {cnt : Nat → Nat} {od : Nat → Nat → Nat} : SwP w cnt od (fun _ => 0) 0 := ⟨fun i hi => absurd hi (Nat.not_lt_zero _), fun m k _ hk => absurd hk (Nat.not_lt_zero _), fun m _ => Nat.zero_le _⟩
theorem S_putSwapped {w : wS} {r : Nat → Nat} {G : mG} {m0 pl : Nat} (hw : Wok w) (hx : XS w G) (hF : qF w r (qTot w).toNat) (hT : TT 17 w D0 r (qTot w).toNat G) (hm0 : m0 < 4) (hpl : pl + 1 < rC w r (qTot w).toNat m0) : Ok (P_X10_putSwapped (m0 : Int) (pl : Int) G) (fun z => (∀ b, ¬ (26 ≤ b ∧ b ≤ 55) → z.2 b = G b) ∧ ∃ r2 n, SwP w (rC w r (qTot w).toNat) (fun m k => tOd (qS w D0 r (qTot w).toNat) m (tpo m0 pl m k)) r2 n ∧ ((z.1 = true ∧ n = (qTot w).toNat ∧ TT 26 w D0 r2 (qTot w).toNat z.2) ∨ (z.1 = false ∧ n < (qTot w).toNat ∧ SwS w (fun m k => tOd (qS w D0 r (qTot w).toNat) m (tpo m0 pl m k)) r2 n))) := by
  have hn := hw.n
  have htot := qTot_le hw
  have hO := OF_sw (OF_row hw hF) hpl
  have h30 := fun m => rC_30 hw hF.1 m
  have h300 := h30 m0
  have hn30 := qV_30 hw hF.1
  unfold P_X10_putSwapped
  refine Ok.ac 0 0 120 rfl rfl rfl (by omega) (by omega) (by omega) (by omega) ?_
  refine Ok.ld (30 * m0 + pl + 1) (by omega) (by omega) (by omega) ?_
  refine Ok.sto (30 * m0 + pl) (by omega) (by omega) (by omega) ?_
  refine Ok.ld (30 * m0 + pl) (by omega) (by omega) (by omega) ?_
  refine Ok.sto (30 * m0 + pl + 1) (by omega) (by omega) (by omega) ?_
  rw [upG_ne (by omega), up2_ne (by omega), upG_ne (by omega)]
  have h37 : ∀ m k, m < 4 → k < rC w r (qTot w).toNat m → (up2 (up2 (upG G 37 (cpyF (G 21) (G 37) 0 0 120)) 37 (30 * m0 + pl) (G 21 (30 * m0 + pl + 1))) 37 (30 * m0 + pl + 1) (G 21 (30 * m0 + pl))) 37 (30 * m + k) = (tOd (qS w D0 r (qTot w).toNat) m (tpo m0 pl m k) : Int) := fun m k hm hk => by
    have h3 := h30 m
    rw [up2_eq, up2_eq, up1_if, up1_if, upG_eq]
    unfold cpyF
    rw [if_pos (by omega : 0 ≤ 30 * m + k ∧ 30 * m + k < 0 + 120), show 0 + (30 * m + k - 0) = 30 * m + k by omega]
    unfold tpo
    by_cases e : m = m0
    · subst e
      rw [if_pos rfl]
      by_cases e1 : k = pl + 1
      · rw [if_pos (by omega), if_neg (by omega), if_pos e1]
        exact hT.od hm (by omega)
      · by_cases e2 : k = pl
        · rw [if_neg (by omega), if_pos (by omega), if_pos e2]
          exact hT.od hm (by omega)
        · rw [if_neg (by omega), if_neg (by omega), if_neg e2, if_neg e1]
          exact hT.od hm hk
    · rw [if_neg (by omega), if_neg (by omega), if_neg e]
      exact hT.od hm hk
  have f37 : ∀ b, b ≠ 37 → (up2 (up2 (upG G 37 (cpyF (G 21) (G 37) 0 0 120)) 37 (30 * m0 + pl) (G 21 (30 * m0 + pl + 1))) 37 (30 * m0 + pl + 1) (G 21 (30 * m0 + pl))) b = G b := fun b hb => by rw [up2_ne hb, up2_ne hb, upG_ne hb]
  generalize up2 (up2 (upG G 37 (cpyF (G 21) (G 37) 0 0 120)) 37 (30 * m0 + pl) (G 21 (30 * m0 + pl + 1))) 37 (30 * m0 + pl + 1) (G 21 (30 * m0 + pl)) = G7 at h37 f37 ⊢
  have hx7 : XS w G7 := fun a b hab => by
    have := hab.lo
    rw [f37 a (by omega)]
    exact hx a b hab
  refine Ok.bind (S_clear (w := w) D0 (fun _ => 0)) (fun G8 hG8 => ?_)
  have hx8 := hG8.2.xs (by omega) hx7
  refine Ok.eq (S_stepTotal hw hx8) ?_
  refine Ok.lp2 (fun M x G' => ∃ (k : Nat) (r2 : Nat → Nat), x = (k : Int) ∧ k + M = (qTot w).toNat ∧ SwP w (rC w r (qTot w).toNat) (fun m k => tOd (qS w D0 r (qTot w).toNat) m (tpo m0 pl m k)) r2 k ∧ TT 26 w D0 r2 k G' ∧ FrT 26 G7 G') (fun M again x G' hI hk => ?_) LF (qTot w).toNat 0 G8 (LF_lt (by omega)) ⟨0, fun _ => 0, rfl, by omega, qS_0, hG8.1, hG8.2⟩
  obtain ⟨k, r2, rfl, hkM, hP, hT2, hF2⟩ := hI
  have hx' := hF2.xs (by omega) hx7
  have hfr : ∀ b, ¬ (26 ≤ b ∧ b ≤ 55) → G' b = G b := fun b hb => by
    rw [hF2 b (by omega), f37 b (by omega)]
  refine Ok.cd (ilt_id (by omega) (by omega) (by omega) (by omega)) (fun g => ?_) (fun g => ?_)
  · refine Ok.bind (S_nextOf hw hO hP hx' hT2 (fun m k hm hk => by rw [hF2 37 (by omega)]; exact h37 m k hm hk)) (fun v hv => ?_)
    rcases hv with ⟨rfl, hno⟩ | ⟨j, rfl, hj, hl, he⟩
    · refine Ok.iteT rfl (Ok.so ⟨hfr, r2, k, hP, Or.inr ⟨rfl, by omega, hno⟩⟩)
    · refine Ok.condF (ieq_id (by omega) (by omega) (by omega) (by omega)) (by omega) ?_
      have hP2 := SwP.ex hw hO hP hj hl he
      have hc : ∀ i, i < k → r2 i = upf r2 k j i := fun i hi => (upf_ne (by omega)).symm
      have hput := S_put (D := D0) (r := upf r2 k j) (n := k) hw (by omega) hx' hP2.1 DB0 (TT_cong hc (fun _ _ => rfl) hT2)
      rw [upf_eq] at hput
      refine Ok.bind hput (fun G15 hG15 => ?_)
      exact hk (M - 1) _ _ (by omega) ⟨k + 1, _, rfl, by omega, hP2, hG15.1, hF2.tr hG15.2⟩
  · have : k = (qTot w).toNat := by omega
    subst this
    exact Ok.so ⟨hfr, r2, (qTot w).toNat, hP, Or.inl ⟨rfl, rfl, hT2⟩⟩
