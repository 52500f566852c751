/-! ===== the way that keeps a plan's end ===== -/
theorem Ok.jnP {X : Type} {Q : X → Prop} {j : Option X} {body : Option X → Option X} (P : Prop) (h1 : P → Ok j Q) (h2 : ∀ k : Option X, (P → Ok k Q) → Ok (body k) Q) : Ok (letK j body) Q := h2 j h1
/-- an end of a step -/
def tE (w : wS) (σ : qT) (x : Nat) : Int := tBg σ x + qHr w x
def wNx (w : wS) (σ : qT) (x : Nat) : Int := if x % 5 ≠ 0 ∧ tE w σ (x - 1) = tBg σ x then (x : Int) - 1 else if tAh σ x = -1 then -1 else if tE w σ (tAh σ x).toNat + tBt σ x = tBg σ x then tAh σ x else -1
def wLat (w : wS) (r : Nat → Nat) (n k : Nat) : Int := it (fun j v => if 0 < rD r n j ∧ (v = -1 ∨ tE w (qS w D0 r n) v.toNat < tE w (qS w D0 r n) (5 * j + rD r n j - 1)) then ((5 * j + rD r n j - 1 : Nat) : Int) else v) k (-1)
def wy (w : wS) (r : Nat → Nat) (n k : Nat) : Int := it (fun _ v => if v = -1 then -1 else wNx w (qS w D0 r n) v.toNat) k (wLat w r n (qN w))
def wL (w : wS) (r : Nat → Nat) (n : Nat) : Nat := ct (fun k => decide (wy w r n k ≠ -1)) 31
def wMc (w : wS) (r : Nat → Nat) (n k : Nat) : Nat := qMc w (wy w r n k).toNat
/-- blocks so far, the longest, the one at hand -/
def wB (w : wS) (r : Nat → Nat) (n k : Nat) : Int × (Int × Int) := it (fun i t => if i ≠ 0 ∧ wMc w r n i = wMc w r n (i - 1) then (t.1, (max t.2.1 (t.2.2 + 1), t.2.2 + 1)) else (t.1 + 1, (max t.2.1 1, 1))) k (0, (0, 0))
theorem wy_succ {w : wS} {r : Nat → Nat} {n k : Nat} : wy w r n (k + 1) = if wy w r n k = -1 then -1 else wNx w (qS w D0 r n) (wy w r n k).toNat := rfl
theorem wB_succ {w : wS} {r : Nat → Nat} {n k : Nat} : wB w r n (k + 1) = if k ≠ 0 ∧ wMc w r n k = wMc w r n (k - 1) then ((wB w r n k).1, (max (wB w r n k).2.1 ((wB w r n k).2.2 + 1), (wB w r n k).2.2 + 1)) else ((wB w r n k).1 + 1, (max (wB w r n k).2.1 1, 1)) := rfl
theorem wB_bd {w : wS} {r : Nat → Nat} {n k : Nat} : (0 ≤ (wB w r n k).1 ∧ (wB w r n k).1 ≤ k) ∧ (0 ≤ (wB w r n k).2.1 ∧ (wB w r n k).2.1 ≤ k) ∧ (0 ≤ (wB w r n k).2.2 ∧ (wB w r n k).2.2 ≤ k) := by
  induction k with
  | zero => exact ⟨⟨Int.le_refl 0, Int.le_refl 0⟩, ⟨Int.le_refl 0, Int.le_refl 0⟩, Int.le_refl 0, Int.le_refl 0⟩
  | succ k ih =>
    rw [wB_succ]
    split
    · dsimp only
      omega
    · dsimp only
      omega
section WY
variable {w : wS} {r : Nat → Nat} {n : Nat}
theorem tAh_eq (hw : Wok w) (hv : qV w r n) {i : Nat} (hi : i < n) : tAh (qS w D0 r n) (rX r i) = if rK w r i = 0 then -1 else (tOd (qS w D0 r n) (rM w r i) (rK w r i - 1) : Int) := by
  rw [(qS_keep hw hv hi).2.2.1]
  unfold tLa
  rw [show qMc w (rX r i) = rM w r i from rfl, qS_cm, show rC w r i (rM w r i) = rK w r i from rfl]
  by_cases h : rK w r i = 0
  · rw [if_pos h, if_pos h]
  · rw [if_neg h, if_neg h]
    obtain ⟨i', q1, q2, q3⟩ := rK_pre h
    have e1 := qS_od (D := D0) hw hv (i := i') (by omega)
    have e2 := qS_od (D := D0) hw (hv.le (by omega : i ≤ n)) (i := i') q1
    rw [q2] at e1 e2
    have hk : rK w r i - 1 = rK w r i' := by omega
    rw [hk, e1]
    rw [e2]
theorem tBt_eq (hw : Wok w) (hv : qV w r n) {i : Nat} (hi : i < n) : tBt (qS w D0 r n) (rX r i) = if rK w r i = 0 then 0 else qBw w (tOd (qS w D0 r n) (rM w r i) (rK w r i - 1)) (tWr (qS w D0 r n) (tOd (qS w D0 r n) (rM w r i) (rK w r i - 1))) (rX r i) := by
  rw [(qS_keep hw hv hi).2.2.2.1]
  unfold tBe
  rw [show qMc w (rX r i) = rM w r i from rfl, qS_cm, show rC w r i (rM w r i) = rK w r i from rfl]
  by_cases h : rK w r i = 0
  · rw [if_pos h, if_pos h]
  · rw [if_neg h, if_neg h]
    obtain ⟨i', q1, q2, q3⟩ := rK_pre h
    have e1 := qS_od (D := D0) hw hv (i := i') (by omega)
    have e2 := qS_od (D := D0) hw (hv.le (by omega : i ≤ n)) (i := i') q1
    rw [q2] at e1 e2
    have hk : rK w r i - 1 = rK w r i' := by omega
    rw [hk, e1, e2, qS_wr hw hv q1 (by omega)]
theorem wNx_in (hw : Wok w) (hv : qV w r n) {i : Nat} (hi : i < n) : wNx w (qS w D0 r n) (rX r i) = -1 ∨ ∃ i', i' < i ∧ wNx w (qS w D0 r n) (rX r i) = (rX r i' : Int) := by
  unfold wNx
  split
  · next h =>
    obtain ⟨i', q1, q2, q3, q4⟩ := rX_pre hw hv hi h.1
    exact Or.inr ⟨i', q1, by omega⟩
  · split
    · exact Or.inl rfl
    · next h =>
      split
      · rw [tAh_eq hw hv hi] at h ⊢
        by_cases hk : rK w r i = 0
        · rw [if_pos hk] at h
          exact absurd rfl h
        · rw [if_neg hk]
          obtain ⟨i', q1, q2, q3⟩ := rK_pre hk
          have e1 := qS_od (D := D0) hw hv (i := i') (by omega)
          rw [q2] at e1
          refine Or.inr ⟨i', q1, ?_⟩
          rw [show rK w r i - 1 = rK w r i' by omega, e1]
      · exact Or.inl rfl
theorem wLat_in (hw : Wok w) (hv : qV w r n) : ∀ k, k ≤ qN w → wLat w r n k = -1 ∨ ∃ i, i < n ∧ wLat w r n k = (rX r i : Int) := by
  intro k
  induction k with
  | zero => exact fun _ => Or.inl rfl
  | succ k ih =>
    intro hk
    show (if 0 < rD r n k ∧ (wLat w r n k = -1 ∨ tE w (qS w D0 r n) (wLat w r n k).toNat < tE w (qS w D0 r n) (5 * k + rD r n k - 1)) then ((5 * k + rD r n k - 1 : Nat) : Int) else wLat w r n k) = -1 ∨ ∃ i, i < n ∧ (if 0 < rD r n k ∧ (wLat w r n k = -1 ∨ tE w (qS w D0 r n) (wLat w r n k).toNat < tE w (qS w D0 r n) (5 * k + rD r n k - 1)) then ((5 * k + rD r n k - 1 : Nat) : Int) else wLat w r n k) = (rX r i : Int)
    split
    · next h =>
      obtain ⟨i, q1, q2, q3, q4⟩ := rX_of (r := r) (n := n) (j := k) (s := rD r n k - 1) (by omega)
      exact Or.inr ⟨i, q1, by rw [q4]; omega⟩
    · exact ih (by omega)
theorem wy_in (hw : Wok w) (hv : qV w r n) : ∀ k, wy w r n k = -1 ∨ ∃ i, i + k < n ∧ wy w r n k = (rX r i : Int) := by
  intro k
  induction k with
  | zero => exact wLat_in hw hv (qN w) (Nat.le_refl _)
  | succ k ih =>
    rw [wy_succ]
    rcases ih with e | ⟨i, h1, e⟩
    · rw [if_pos e]
      exact Or.inl rfl
    · rw [if_neg (by omega), e, Int.toNat_natCast]
      rcases wNx_in hw hv (i := i) (by omega) with e2 | ⟨i', h2, e2⟩
      · exact Or.inl e2
      · exact Or.inr ⟨i', by omega, e2⟩
theorem wy_abs (hw : Wok w) (hv : qV w r n) {k : Nat} (h : wy w r n k = -1) : ∀ m, wy w r n (k + m) = -1 := by
  intro m
  induction m with
  | zero => exact h
  | succ m ih =>
    rw [← Nat.add_assoc, wy_succ, if_pos ih]
theorem wL_eq (hw : Wok w) (hv : qV w r n) {k : Nat} (h1 : wy w r n k = -1) (h2 : ∀ i, i < k → wy w r n i ≠ -1) (h3 : k ≤ 31) : wL w r n = k := by
  have e : ∀ m, m ≤ 31 - k → ct (fun i => decide (wy w r n i ≠ -1)) (k + m) = k := by
    intro m
    induction m with
    | zero =>
      intro _
      have : ∀ m, m ≤ k → ct (fun i => decide (wy w r n i ≠ -1)) m = m := by
        intro m
        induction m with
        | zero => exact fun _ => rfl
        | succ m ih =>
          intro hm
          rw [ct_succ, ih (by omega), if_pos (decide_eq_true (h2 m (by omega)))]
      exact this k (Nat.le_refl k)
    | succ m ih =>
      intro hm
      rw [← Nat.add_assoc, ct_succ, ih (by omega), if_neg]
      rw [decide_eq_false (fun g => g (wy_abs hw hv h1 m))]
      exact Bool.false_ne_true
  unfold wL
  have := e (31 - k) (Nat.le_refl _)
  rwa [show k + (31 - k) = 31 by omega] at this
end WY
section SW
variable {w : wS} {r : Nat → Nat} {n : Nat} {G : mG}
theorem S_latestStep (hw : Wok w) (hx : XS w G) (hv : qV w r n) (hT : TT 17 w D0 r n G) : P_X9_latestStep G = some (wLat w r n (qN w)) := by
  have hn := hw.n
  refine Ok.get ?_
  unfold P_X9_latestStep
  refine Ok.forA (fun j v => v = wLat w r n j) (qN w) LF (LF_lt (by omega)) rfl (fun j hj again v hv' hk => ?_) (fun again v hv' => ?_)
  · subst hv'
    rw [hx.n hw]
    refine Ok.condT (ilt_nat (by omega) (by omega)) (by omega) ?_
    refine Ok.ld j rfl (by omega) (by omega) ?_
    rw [hT.dn (by omega)]
    have hd := rD_le hv hj
    have h5 := (hw.st hj).2
    have hlast : 0 < rD r n j → P_X8_endOfStep 17 (((j : Int) * 5 + (rD r n j : Int)) - 1) G = some (tE w (qS w D0 r n) (5 * j + rD r n j - 1)) := fun h => by
      have := S_endOfStep hw hx hv hT (j := j) (s := rD r n j - 1) (by omega) (by omega) (by omega)
      rw [show ((5 * j + (rD r n j - 1) : Nat) : Int) = ((j : Int) * 5 + (rD r n j : Int)) - 1 by omega] at this
      rw [this]
      unfold tE
      rw [show 5 * j + rD r n j - 1 = 5 * j + (rD r n j - 1) by omega]
    refine Ok.jn1 (fun y => y = wLat w r n (j + 1)) (fun y hy => ?_) (fun k8 hk8 => ?_)
    · subst hy
      exact hk _ rfl
    · have hst : wLat w r n (j + 1) = if 0 < rD r n j ∧ (wLat w r n j = -1 ∨ tE w (qS w D0 r n) (wLat w r n j).toNat < tE w (qS w D0 r n) (5 * j + rD r n j - 1)) then ((5 * j + rD r n j - 1 : Nat) : Int) else wLat w r n j := rfl
      have hin := wLat_in hw hv j (by omega)
      refine Ok.cd (P := 0 < rD r n j) (ilt_nat (a := 0) (by omega) (by omega)) (fun h0 => ?_) (fun h0 => ?_)
      · refine Ok.ld j rfl (by omega) (by omega) ?_
        rw [hT.dn (by omega)]
        refine Ok.lk ?_
        have hyes : (wLat w r n j = -1 ∨ tE w (qS w D0 r n) (wLat w r n j).toNat < tE w (qS w D0 r n) (5 * j + rD r n j - 1)) → Ok (k8 (((j : Int) * 5 + (rD r n j : Int)) - 1)) _ := fun g => hk8 _ (by
          rw [hst, if_pos ⟨by omega, g⟩]
          omega)
        rcases hin with e | ⟨i, hi, e⟩
        · rw [e] at hyes ⊢
          exact Ok.iteT rfl (hyes (Or.inl rfl))
        · have hb := qS_bd hw DB0 hv
          have h30 := qV_30 hw hv
          have hS5 := rS_lt5 hw hv hi
          have hvi := (hv i hi).1
          have hX : rX r i < 30 := by
            unfold rX
            omega
          have hEi : P_X8_endOfStep 17 (rX r i : Int) G = some (tE w (qS w D0 r n) (rX r i)) := S_endOfStep hw hx hv hT (by omega) (rX_lt hi) hS5
          refine Ok.condF (P := (wLat w r n j : Int) = -1) (ieq_id (by omega) (by omega) (by omega) (by omega)) (by omega) ?_
          refine Ok.eq (hlast (by omega)) ?_
          rw [e]
          refine Ok.eq hEi ?_
          obtain ⟨i', c1, c2, c3, c4⟩ := rX_of (r := r) (n := n) (j := j) (s := rD r n j - 1) (by omega)
          have hb1 := hb i hi
          have hb2 := hb i' c1
          have hr1 := rHr hw hv hi
          have hr2 := rHr hw hv c1
          rw [c4, show 5 * j + (rD r n j - 1) = 5 * j + rD r n j - 1 by omega] at hb2 hr2
          refine Ok.cd (P := tE w (qS w D0 r n) (rX r i) < tE w (qS w D0 r n) (5 * j + rD r n j - 1)) (by unfold tE; exact ilt_id (by omega) (by omega) (by omega) (by omega)) (fun g => ?_) (fun g => ?_)
          · refine hyes (Or.inr ?_)
            rw [e, Int.toNat_natCast]
            exact g
          · refine hk8 _ ?_
            rw [hst, if_neg, e]
            intro g2
            rcases g2.2 with g3 | g3
            · omega
            · rw [e, Int.toNat_natCast] at g3
              exact g g3
      · refine hk8 _ ?_
        rw [hst, if_neg (fun g => h0 g.1)]
  · subst hv'
    rw [hx.n hw]
    refine Ok.condF (ilt_nat (by omega) (by omega)) (by omega) ?_
    exact Ok.so rfl
theorem S_stepAheadOf (hw : Wok w) (hx : XS w G) (hv : qV w r n) (hT : TT 17 w D0 r n G) {i : Nat} (hi : i < n) : P_X9_stepAheadOf (rX r i : Int) G = some (wNx w (qS w D0 r n) (rX r i)) := by
  have hn := hw.n
  have hS5 := rS_lt5 hw hv hi
  have hvi := hv i hi
  have hS := rX_lt (r := r) hi
  have hd := rX_div hw hv hi
  have hb := qS_bd hw DB0 hv
  have h30 := qV_30 hw hv
  have hb1 := hb i hi
  have hr1 := rHr hw hv hi
  have hX : rX r i < 30 := by
    unfold rX
    omega
  have hE : ∀ i', i' < n → P_X8_endOfStep 17 (rX r i' : Int) G = some (tE w (qS w D0 r n) (rX r i')) := fun i' hi' => S_endOfStep hw hx hv hT (by have := (hv i' hi').1; omega) (rX_lt hi') (rS_lt5 hw hv hi')
  have hBg : G 22 (rX r i) = tBg (qS w D0 r n) (rX r i) := hT.bg (by omega) hS
  have hAh : G 23 (rX r i) = tAh (qS w D0 r n) (rX r i) := hT.ah (by omega) hS
  have hBt : G 24 (rX r i) = tBt (qS w D0 r n) (rX r i) := hT.bt (by omega) hS
  refine Ok.get ?_
  unfold P_X9_stepAheadOf
  refine Ok.jnP (¬ (rX r i % 5 ≠ 0 ∧ tE w (qS w D0 r n) (rX r i - 1) = tBg (qS w D0 r n) (rX r i))) (fun hA => ?_) (fun k7 hk7 => ?_)
  · unfold wNx
    rw [if_neg hA]
    have eA := tAh_eq hw hv hi
    have eB := tBt_eq hw hv hi
    refine Ok.ld (rX r i) rfl (by omega) (by omega) ?_
    rw [hAh]
    by_cases hk : rK w r i = 0
    · rw [if_pos hk] at eA
      rw [eA]
      exact Ok.iteT rfl (Ok.so rfl)
    · rw [if_neg hk] at eA eB
      obtain ⟨i', q1, q2, q3⟩ := rK_pre hk
      have e1 := qS_od (D := D0) hw hv (i := i') (by omega)
      rw [q2, show rK w r i' = rK w r i - 1 by omega] at e1
      rw [e1] at eA eB
      have hX' : rX r i' < 30 := by
        have := (hv i' (by omega)).1
        have := rS_lt5 hw hv (i := i') (by omega)
        unfold rX
        omega
      have hb2 := hb i' (by omega)
      have hr2 := rHr hw hv (i := i') (by omega)
      have hvi' := hv i' (by omega)
      have h3 := qBw_bd (p := rX r i') (x := rX r i) (wp := tWr (qS w D0 r n) (rX r i')) hw (by rw [(rX_div hw hv (by omega)).1]; exact hvi'.1) (by rw [hd.1]; exact hvi.1) (rM_lt hw hv hi)
      refine Ok.condF (P := (tAh (qS w D0 r n) (rX r i) : Int) = -1) (ieq_id (by omega) (by omega) (by omega) (by omega)) (by omega) ?_
      rw [if_neg (by omega), eA, Int.toNat_natCast]
      refine Ok.eq (hE i' (by omega)) ?_
      refine Ok.ld (rX r i) rfl (by omega) (by omega) ?_
      rw [hBt]
      refine Ok.ld (rX r i) rfl (by omega) (by omega) ?_
      rw [hBg]
      refine Ok.cd (P := tE w (qS w D0 r n) (rX r i') + tBt (qS w D0 r n) (rX r i) = tBg (qS w D0 r n) (rX r i)) (by unfold tE; exact ieq_id (by omega) (by omega) (by omega) (by omega)) (fun g => ?_) (fun g => ?_)
      · rw [if_pos g]
        exact Ok.so rfl
      · rw [if_neg g]
        exact Ok.so rfl
  · rw [iRem_id (by omega) (by omega) (by omega) (by omega)]
    refine Ok.cd (P := rX r i % 5 ≠ 0) ((ilt_id (by omega) (by omega) (by omega) (by omega)).trans (decide_eq_decide.mpr (by omega))) (fun g => ?_) (fun g => ?_)
    · obtain ⟨i', q1, q2, q3, q4⟩ := rX_pre hw hv hi g
      have hX' : (rX r i : Int) - 1 = (rX r i' : Int) := by omega
      have hb2 := hb i' (by omega)
      have hr2 := rHr hw hv (i := i') (by omega)
      rw [hX']
      refine Ok.eq (hE i' (by omega)) ?_
      refine Ok.ld (rX r i) rfl (by omega) (by omega) ?_
      rw [hBg]
      refine Ok.cd (P := tE w (qS w D0 r n) (rX r i') = tBg (qS w D0 r n) (rX r i)) (by unfold tE; exact ieq_id (by omega) (by omega) (by omega) (by omega)) (fun g2 => ?_) (fun g2 => ?_)
      · unfold wNx
        rw [if_pos ⟨g, by rw [← q4]; exact g2⟩, hX']
        exact Ok.so rfl
      · exact hk7 (fun g3 => g2 (by rw [q4]; exact g3.2))
    · exact hk7 (fun g3 => g g3.1)
theorem S_trace (hw : Wok w) (hx : XS w G) (hv : qV w r n) (hT : TT 17 w D0 r n G) : Ok (P_X9_trace G) (fun G' => G' 40 3 = (wL w r n : Int) ∧ (∀ k, k < wL w r n → G' 41 k = wy w r n k) ∧ G' 40 4 = (wB w r n (wL w r n)).1 ∧ G' 40 5 = (wB w r n (wL w r n)).2.1 ∧ ∀ b, b ≠ 40 → b ≠ 41 → G' b = G b) := by
  have hn := hw.n
  have h30 := qV_30 hw hv
  unfold P_X9_trace
  refine Ok.pu ?_
  refine Ok.pu ?_
  refine Ok.pu ?_
  have hfr : ∀ G' : mG, (∀ b, b ≠ 40 → b ≠ 41 → G' b = G b) → XS w G' ∧ TT 17 w D0 r n G' := fun G' h => ⟨fun a i ha => by
    have := ha.lo
    rw [h a (by omega) (by omega)]
    exact hx a i ha, TT_fr (fun b hb1 hb2 => h b (by omega) (by omega)) hT⟩
  have hf0 : ∀ b, b ≠ 40 → b ≠ 41 → (up2 (up2 (up2 G 40 3 0) 40 4 0) 40 5 0) b = G b := fun b hb _ => by rw [up2_ne hb, up2_ne hb, up2_ne hb]
  obtain ⟨hx0, hT0⟩ := hfr _ hf0
  refine Ok.eq (S_latestStep hw hx0 hv hT0) ?_
  refine Ok.lp4 (fun M run pm x G8 => ∃ k : Nat, k + M = 30 ∧ x = wy w r n k ∧ (∀ i, i < k → wy w r n i ≠ -1) ∧ pm = (if k = 0 then -1 else (wMc w r n (k - 1) : Int)) ∧ run = (wB w r n k).2.2 ∧ G8 40 3 = (k : Int) ∧ (∀ i, i < k → G8 41 i = wy w r n i) ∧ G8 40 4 = (wB w r n k).1 ∧ G8 40 5 = (wB w r n k).2.1 ∧ ∀ b, b ≠ 40 → b ≠ 41 → G8 b = G b) (fun M again run pm x G8 hI hk => ?_) LF 30 0 (-1) (wLat w r n (qN w)) _ (LF_lt (by omega)) ⟨0, by omega, rfl, fun i hi => absurd hi (Nat.not_lt_zero _), rfl, rfl, ?_, fun i hi => absurd hi (Nat.not_lt_zero _), ?_, ?_, hf0⟩
  · obtain ⟨k, hkM, rfl, hne, rfl, rfl, e3, e41, e4, e5, hf⟩ := hI
    rcases wy_in hw hv k with e | ⟨i, hi, e⟩
    · rw [e]
      refine Ok.iteT rfl (Ok.so ?_)
      have hL := wL_eq hw hv e hne (by omega)
      rw [hL]
      exact ⟨e3, e41, e4, e5, hf⟩
    · have hS5 := rS_lt5 hw hv (i := i) (by omega)
      have hvi := hv i (by omega)
      have hX : rX r i < 30 := by
        unfold rX
        omega
      have hmc := hw.mc hvi.1 hvi.2
      have hmk : wMc w r n k = qMc w (rX r i) := by
        unfold wMc
        rw [e, Int.toNat_natCast]
      have h40 : rM w r i < 4 := rM_lt hw hv (by omega)
      have h4 : wMc w r n k < 4 := by
        rw [hmk]
        exact h40
      have hbb := wB_bd (w := w) (r := r) (n := n) (k := k)
      refine Ok.condF (P := wy w r n k = -1) (ieq_id (by omega) (by omega) (by omega) (by omega)) (by omega) ?_
      rw [e3]
      refine Ok.condT (ilt_nat (b := 30) (by omega) (by omega)) (by omega) ?_
      refine Ok.sto k rfl (by omega) (by omega) ?_
      refine Ok.pu ?_
      rw [up2_ne (by omega), e3, e]
      obtain ⟨hx8, hT8⟩ := hfr _ hf
      refine Ok.ld (rX r i) rfl (by omega) (by omega) ?_
      rw [show up2 (up2 G8 41 k (rX r i : Int)) 40 3 ((k : Int) + 1) 7 (rX r i) = w 7 (rX r i) by
        rw [up2_ne (by omega), up2_ne (by omega)]
        exact hx8.at (rX r i) (by simp [aok, asz]; omega)]
      have e7 : w 7 (rX r i) = (wMc w r n k : Int) := by
        rw [hmk]
        exact hmc.1
      rw [e7]
      refine Ok.jn1 (fun y => y = if k ≠ 0 ∧ wMc w r n k = wMc w r n (k - 1) then 1 else 0) (fun x14 h14 => ?_) (fun k26 hk26 => ?_)
      · refine Ok.jn1 (fun y => y = if k ≠ 0 ∧ wMc w r n k = wMc w r n (k - 1) then 0 else 1) (fun x16 h16 => ?_) (fun k25 hk25 => ?_)
        · refine Ok.pu ?_
          refine Ok.jn1 (fun y => y = (wB w r n (k + 1)).2.2) (fun x19 h19 => ?_) (fun k24 hk24 => ?_)
          · refine Ok.pu ?_
            have hbb2 := wB_bd (w := w) (r := r) (n := n) (k := k + 1)
            have hf2 : ∀ b, b ≠ 40 → b ≠ 41 → (up2 (up2 (up2 (up2 G8 41 k (rX r i : Int)) 40 3 ((k : Int) + 1)) 40 4 (up2 (up2 G8 41 k (rX r i : Int)) 40 3 ((k : Int) + 1) 40 4 + x16)) 40 5 (iMax ((up2 (up2 (up2 G8 41 k (rX r i : Int)) 40 3 ((k : Int) + 1)) 40 4 (up2 (up2 G8 41 k (rX r i : Int)) 40 3 ((k : Int) + 1) 40 4 + x16)) 40 5) x19)) b = G b := fun b hb1 hb2 => by
              rw [up2_ne hb1, up2_ne hb1, up2_ne hb1, up2_ne hb2, hf b hb1 hb2]
            obtain ⟨hx9, hT9⟩ := hfr _ hf2
            refine Ok.ld (rX r i) rfl (by omega) (by omega) ?_
            rw [hf2 7 (by omega) (by omega), hx.at (rX r i) (by simp [aok, asz]; omega), e7]
            refine Ok.eq (S_stepAheadOf hw hx9 hv hT9 (i := i) (by omega)) ?_
            refine hk (M - 1) _ _ _ _ (by omega) ⟨k + 1, by omega, ?_, fun i' hi' => ?_, ?_, h19, ?_, fun i' hi' => ?_, ?_, ?_, hf2⟩
            · rw [wy_succ, if_neg (by omega), e, Int.toNat_natCast]
            · by_cases g : i' = k
              · subst g
                omega
              · exact hne i' (by omega)
            · rw [if_neg (by omega), Nat.add_sub_cancel]
            · rw [up2_if, if_neg (by omega), up2_if, if_neg (by omega), up2_eq, up1_eq]
              omega
            · rw [up2_ne (by omega), up2_ne (by omega), up2_ne (by omega), up2_eq, up1_if]
              by_cases g : i' = k
              · rw [if_pos g, g, e]
              · rw [if_neg g, e41 i' (by omega)]
            · rw [up2_if, if_neg (by omega), up2_eq, up1_eq, up2_if, if_neg (by omega), up2_ne (by omega), e4, wB_succ, h16]
              split
              · exact Int.add_zero _
              · rfl
            · rw [up2_eq, up1_eq, up2_if, if_neg (by omega), up2_if, if_neg (by omega), up2_ne (by omega), e5, h19, iMax_id (by omega) (by omega) (by omega) (by omega), wB_succ]
              split <;> rfl
          · rw [h14]
            by_cases g : k ≠ 0 ∧ wMc w r n k = wMc w r n (k - 1)
            · rw [if_pos g]
              refine Ok.iteF rfl (hk24 _ ?_)
              rw [wB_succ, if_pos g]
            · rw [if_neg g]
              refine Ok.iteT rfl (hk24 _ ?_)
              rw [wB_succ, if_neg g]
        · rw [h14]
          by_cases g : k ≠ 0 ∧ wMc w r n k = wMc w r n (k - 1)
          · rw [if_pos g]
            exact Ok.iteF rfl (hk25 _ (by rw [if_pos g]))
          · rw [if_neg g]
            exact Ok.iteT rfl (hk25 _ (by rw [if_neg g]))
      · by_cases h0 : k = 0
        · rw [if_pos h0]
          refine Ok.condF (P := (wMc w r n k : Int) = -1) (ieq_id (by omega) (by omega) (by omega) (by omega)) (by omega) ?_
          exact hk26 _ (by rw [if_neg (fun g => g.1 h0)])
        · rw [if_neg h0]
          have hpm : wMc w r n (k - 1) < 4 := by
            rcases wy_in hw hv (k - 1) with e2 | ⟨i2, hi2, e2⟩
            · exact absurd e2 (hne (k - 1) (by omega))
            · unfold wMc
              rw [e2, Int.toNat_natCast]
              exact rM_lt hw hv (by omega)
          refine Ok.cd (ieq_nat (by omega) (by omega)) (fun g => ?_) (fun g => ?_)
          · exact hk26 _ (by rw [if_pos ⟨h0, g⟩])
          · exact hk26 _ (by rw [if_neg (fun g2 => g g2.2)])
  · rw [up2_if, if_neg (by omega), up2_if, if_neg (by omega), up2_eq, up1_eq]
    rfl
  · rw [up2_if, if_neg (by omega), up2_eq, up1_eq]
    rfl
  · rw [up2_eq, up1_eq]
    rfl
end SW
