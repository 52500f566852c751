/-! ===== what begins ahead of an hour keeps its place ===== -/
def bgP (w : wS) (r : Nat → Nat) (n : Nat) (H : Int) (i : Nat) : Bool := decide (tBg (qS w D0 r n) (rX r i) < H)
def rBg (w : wS) (r : Nat → Nat) (n : Nat) (H : Int) : Nat → Nat := fun k => r (sel (bgP w r n H) n k)
section RB
variable {w : wS} {r : Nat → Nat} {n : Nat} {H : Int}
theorem bg_iff {i : Nat} : bgP w r n H i = true ↔ tBg (qS w D0 r n) (rX r i) < H := by
  unfold bgP
  exact decide_eq_true_iff
theorem bg_j (hw : Wok w) (hv : qV w r n) {i i' : Nat} (hi : i < n) (h : i' < i) (hj : r i' = r i) (hp : bgP w r n H i = true) : bgP w r n H i' = true := by
  rw [bg_iff] at hp ⊢
  have h1 := er_seq hw hv i hi i' h hj
  have h2 := rHr hw hv (show i' < n by omega)
  omega
theorem bg_m (hw : Wok w) (hv : qV w r n) {i i' : Nat} (hi : i < n) (h : i' < i) (hj : rM w r i' = rM w r i) (hp : bgP w r n H i = true) : bgP w r n H i' = true := by
  rw [bg_iff] at hp ⊢
  have h1 := qS_seq (D := D0) hw hv i hi i' h hj
  have h2 := rHr hw hv (show i' < n by omega)
  omega
theorem rBg_at {i : Nat} (hi : i < n) (hp : bgP w r n H i = true) : rBg w r n H (ct (bgP w r n H) i) = r i := by
  unfold rBg
  rw [sel_eq hp hi]
theorem rBg_D : ∀ {i : Nat}, i ≤ n → ∀ j, rD (rBg w r n H) (ct (bgP w r n H) i) j = ct (fun k => bgP w r n H k && decide (r k = j)) i
  | 0, _, _ => rfl
  | i + 1, hi, j => by
    have ih := rBg_D (i := i) (by omega) j
    rw [ct_succ, ct_succ]
    by_cases hp : bgP w r n H i = true
    · rw [if_pos hp, rD_succ, rBg_at (by omega) hp, hp, Bool.true_and]
      by_cases hj : r i = j
      · rw [if_pos (decide_eq_true hj), ← hj, upf_eq, hj, ih]
      · rw [if_neg (by simpa using hj), upf_ne (fun e => hj e.symm), ih]
    · rw [if_neg hp, ih, if_neg (by simp [hp])]
theorem rBg_S (hw : Wok w) (hv : qV w r n) {i : Nat} (hi : i < n) (hp : bgP w r n H i = true) : rS (rBg w r n H) (ct (bgP w r n H) i) = rS r i ∧ rX (rBg w r n H) (ct (bgP w r n H) i) = rX r i := by
  have h1 : rS (rBg w r n H) (ct (bgP w r n H) i) = rS r i := by
    unfold rS
    rw [rBg_at hi hp, rBg_D (by omega)]
    unfold rD
    refine ct_cong (fun k hk => ?_)
    by_cases hj : r k = r i
    · rw [bg_j hw hv hi hk hj hp, Bool.true_and]
    · rw [decide_eq_false hj, Bool.and_false]
  refine ⟨h1, ?_⟩
  unfold rX
  rw [h1, rBg_at hi hp]
theorem rBg_C (hw : Wok w) (hv : qV w r n) : ∀ {i : Nat}, i ≤ n → ∀ m, rC w (rBg w r n H) (ct (bgP w r n H) i) m = ct (fun k => bgP w r n H k && decide (rM w r k = m)) i
  | 0, _, _ => rfl
  | i + 1, hi, m => by
    have ih := rBg_C hw hv (i := i) (by omega) m
    rw [ct_succ, ct_succ]
    by_cases hp : bgP w r n H i = true
    · have hM : rM w (rBg w r n H) (ct (bgP w r n H) i) = rM w r i := by
        unfold rM
        rw [(rBg_S hw hv (by omega) hp).2]
      rw [if_pos hp, rC_succ, hM, hp, Bool.true_and]
      by_cases hj : rM w r i = m
      · rw [if_pos (decide_eq_true hj), ← hj, upf_eq, hj, ih]
      · rw [if_neg (by simpa using hj), upf_ne (fun e => hj e.symm), ih]
    · rw [if_neg hp, ih, if_neg (by simp [hp])]
theorem rBg_K (hw : Wok w) (hv : qV w r n) {i : Nat} (hi : i < n) (hp : bgP w r n H i = true) : rM w (rBg w r n H) (ct (bgP w r n H) i) = rM w r i ∧ rK w (rBg w r n H) (ct (bgP w r n H) i) = rK w r i := by
  have hM : rM w (rBg w r n H) (ct (bgP w r n H) i) = rM w r i := by
    unfold rM
    rw [(rBg_S hw hv hi hp).2]
  refine ⟨hM, ?_⟩
  unfold rK
  rw [hM, rBg_C hw hv (by omega)]
  unfold rC
  refine ct_cong (fun k hk => ?_)
  by_cases hj : rM w r k = rM w r i
  · rw [bg_m hw hv hi hk hj hp, Bool.true_and]
  · rw [decide_eq_false hj, Bool.and_false]
theorem rBg_of {k : Nat} (hk : k < ct (bgP w r n H) n) : ∃ i, i < n ∧ bgP w r n H i = true ∧ k = ct (bgP w r n H) i := by
  obtain ⟨i, h1, h2, h3⟩ := ct_inv _ hk
  exact ⟨i, h1, h2, h3.symm⟩
theorem rBg_V (hw : Wok w) (hv : qV w r n) : qV w (rBg w r n H) (ct (bgP w r n H) n) := by
  intro k hk
  obtain ⟨i, h1, h2, rfl⟩ := rBg_of hk
  rw [rBg_at h1 h2, (rBg_S hw hv h1 h2).1]
  exact hv i h1
/-- the class puts them in the row's order -/
theorem S_putBegunIn {G : mG} {t : Nat} (hw : Wok w) (hx : XS w G) (ht : 26 ≤ t) (hv : qV w r n) (hH : 0 ≤ H ∧ H ≤ 2000) (h17 : TT 17 w D0 r n G) (hT : TT t w D0 (rBg w r n H) 0 G) : Ok (P_X8_putBegunIn t H G) (fun G' => TT t w D0 (rBg w r n H) (ct (bgP w r n H) n) G' ∧ FrT t G G') := by
  have hn := hw.n
  have hn30 := qV_30 hw hv
  have hV := rBg_V (H := H) hw hv
  unfold P_X8_putBegunIn
  refine Ok.forC (fun i G' => TT t w D0 (rBg w r n H) (ct (bgP w r n H) i) G' ∧ FrT t G G') n LF (LF_lt (by omega)) ⟨hT, FrT.rf t G⟩ (fun i hi again G3 hI hk => ?_) (fun again G3 hI => ?_)
  · obtain ⟨hT3, hF3⟩ := hI
    have hx3 := hF3.xs (by omega) hx
    have h17' : TT 17 w D0 r n G3 := TT_fr (fun b hb1 hb2 => hF3 b (by omega)) h17
    have hrn := hv i hi
    have h5 := (hw.st hrn.1).2
    have hle : ct (bgP w r n H) i ≤ ct (bgP w r n H) n := ct_mono _ (by omega)
    have hV3 : qV w (rBg w r n H) (ct (bgP w r n H) i) := hV.le hle
    rw [h17'.len]
    refine Ok.condT (ilt_nat (by omega) (by omega)) hi ?_
    refine Ok.ld i rfl (by omega) (by omega) ?_
    rw [h17'.row hi]
    have hq : rD (rBg w r n H) (ct (bgP w r n H) i) (r i) ≤ rS r i := by
      rw [rBg_D (by omega)]
      unfold rS rD
      refine ct_up (fun k _ h => ?_)
      rw [Bool.and_eq_true] at h
      exact h.2
    have hq2 := rX_lt (r := r) hi
    refine Ok.eq (S_hasLeftN hw hx3 hV3 hT3 hrn.1) ?_
    refine Ok.jn1 (fun G' => TT t w D0 (rBg w r n H) (ct (bgP w r n H) (i + 1)) G' ∧ FrT t G G') (fun G' h => hk G' h) (fun k10 hk10 => ?_)
    refine Ok.iteT (decide_eq_true (by omega)) ?_
    refine Ok.eq (S_nextStep hw hx3 hV3 hT3 (by omega)) ?_
    refine Ok.ld (5 * r i + rD (rBg w r n H) (ct (bgP w r n H) i) (r i)) rfl (by omega) (by omega) ?_
    rw [h17'.bg (by omega) (by omega)]
    have hjs := qS_js hw DB0 hv (show rD (rBg w r n H) (ct (bgP w r n H) i) (r i) < rD r n (r i) by omega)
    by_cases hp : bgP w r n H i = true
    · have hS := rBg_S hw hv hi hp
      have e1 : rD (rBg w r n H) (ct (bgP w r n H) i) (r i) = rS r i := by
        have := hS.1
        unfold rS at this ⊢
        rw [rBg_at hi hp] at this
        exact this
      have hlt := bg_iff.mp hp
      rw [e1] at hjs ⊢
      have e2 : 5 * r i + rS r i = rX r i := rfl
      rw [e2] at hjs ⊢
      refine Ok.condT (ilt_id (by omega) (by omega) (by omega) (by omega)) hlt ?_
      have hc : ct (bgP w r n H) (i + 1) = ct (bgP w r n H) i + 1 := by rw [ct_succ, if_pos hp]
      have hle1 : ct (bgP w r n H) (i + 1) ≤ ct (bgP w r n H) n := ct_mono _ (by omega)
      have hput := S_put (D := D0) (r := rBg w r n H) (n := ct (bgP w r n H) i) hw (by omega) hx3 (hV.le (by omega)) DB0 hT3
      rw [rBg_at hi hp] at hput
      refine Ok.bind hput (fun G13 hG13 => ?_)
      refine hk10 _ ⟨?_, hF3.tr hG13.2⟩
      rw [hc]
      exact hG13.1
    · have hc : ct (bgP w r n H) (i + 1) = ct (bgP w r n H) i := by rw [ct_succ, if_neg hp]
      rw [hc] at hk10
      refine Ok.condF (ilt_id (by omega) (by omega) (by omega) (by omega)) ?_ (hk10 _ ⟨hT3, hF3⟩)
      intro hb
      obtain ⟨i2, c1, c2, c3, c4⟩ := rX_of (r := r) (n := n) (j := r i) (s := rD (rBg w r n H) (ct (bgP w r n H) i) (r i)) (by omega)
      have hp2 : bgP w r n H i2 = true := by
        rw [bg_iff, c4]
        exact hb
      have h2i : i2 < i := by
        have g : i2 < i ∨ i2 = i ∨ i < i2 := by omega
        rcases g with g | g | g
        · exact g
        · rw [g] at hp2
          exact absurd hp2 hp
        · have := rS_mono (r := r) c2.symm g
          omega
      have h3 : ct (fun k => bgP w r n H k && decide (r k = r i)) (i2 + 1) ≤ ct (fun k => bgP w r n H k && decide (r k = r i)) i := ct_mono _ (by omega)
      have h4 : ct (fun k => bgP w r n H k && decide (r k = r i)) (i2 + 1) = rD r (i2 + 1) (r i) := by
        unfold rD
        refine ct_cong (fun k hk => ?_)
        by_cases hj : r k = r i
        · have : bgP w r n H k = true := by
            by_cases e : k = i2
            · rw [e]
              exact hp2
            · exact bg_j hw hv c1 (by omega) (by omega) hp2
          rw [this, Bool.true_and]
        · rw [decide_eq_false hj, Bool.and_false]
      have h5 : rD r (i2 + 1) (r i) = rS r i2 + 1 := by
        unfold rS rD
        rw [ct_succ, c2, if_pos (decide_eq_true rfl)]
      have h6 := rBg_D (w := w) (r := r) (n := n) (H := H) (i := i) (by omega) (r i)
      omega
  · have h17' : TT 17 w D0 r n G3 := TT_fr (fun b hb1 hb2 => hI.2 b (by omega)) h17
    rw [h17'.len]
    refine Ok.condF (ilt_nat (by omega) (by omega)) (by omega) ?_
    exact Ok.so hI
end RB
