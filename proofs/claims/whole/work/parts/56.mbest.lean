/-! ===== best plans, the model: all rows by steps forth and back ===== -/
theorem bEx_cg {w : wS} {a tot : Nat} : ∀ {m : Nat} {r r' : Nat → Nat} {acc : bAcc}, m ≤ tot → (∀ i, i < tot - m ∨ tot ≤ i → r i = r' i) → bEx w a tot m r acc = bEx w a tot m r' acc
  | 0, r, r', acc, _, h => by
    have : r = r' := funext fun i => h i (by omega)
    rw [this]
  | m + 1, r, r', acc, hm, h => by
    rw [bEx_succ, bEx_succ]
    refine it_cong (fun j hj x => ?_)
    unfold bF
    have e : rD r (tot - (m + 1)) j = rD r' (tot - (m + 1)) j := rD_cong (fun i hi => h i (by omega)) j
    rw [e]
    split
    · refine bEx_cg (by omega) (fun i hi => ?_)
      by_cases h1 : i = tot - (m + 1)
      · rw [h1, upf_eq, upf_eq]
      · rw [upf_ne h1, upf_ne h1]
        exact h i (by omega)
    · rfl
theorem bF_cg {w : wS} {a tot m j : Nat} {r r' : Nat → Nat} {acc : bAcc} (hm : m + 1 ≤ tot) (h : ∀ i, i < tot - (m + 1) ∨ tot ≤ i → r i = r' i) : bF w a tot m r j acc = bF w a tot m r' j acc := by
  unfold bF
  have e : rD r (tot - (m + 1)) j = rD r' (tot - (m + 1)) j := rD_cong (fun i hi => h i (by omega)) j
  rw [e]
  split
  · refine bEx_cg (by omega) (fun i hi => ?_)
    by_cases h1 : i = tot - (m + 1)
    · rw [h1, upf_eq, upf_eq]
    · rw [upf_ne h1, upf_ne h1]
      exact h i (by omega)
  · rfl
/-- what the levels above come to, when one is through -/
def bUp (w : wS) (a tot : Nat) : Nat → (Nat → Nat) → bAcc → bAcc
  | 0, _, x => x
  | k + 1, r, x => bUp w a tot k r (bFrom (bF w a tot (tot - k - 1) r) (qN w) (r k + 1) x)
theorem bUp_cg {w : wS} {a tot : Nat} : ∀ {k : Nat} {r r' : Nat → Nat} {x : bAcc}, k ≤ tot → (∀ i, i < k ∨ tot ≤ i → r i = r' i) → bUp w a tot k r x = bUp w a tot k r' x
  | 0, _, _, _, _, _ => rfl
  | k + 1, r, r', x, hk, h => by
    show bUp w a tot k r (bFrom (bF w a tot (tot - k - 1) r) (qN w) (r k + 1) x) = bUp w a tot k r' (bFrom (bF w a tot (tot - k - 1) r') (qN w) (r' k + 1) x)
    have e : bFrom (bF w a tot (tot - k - 1) r) (qN w) (r k + 1) x = bFrom (bF w a tot (tot - k - 1) r') (qN w) (r' k + 1) x := by
      rw [h k (by omega)]
      unfold bFrom
      exact it_cong (fun i _ y => bF_cg (by omega) (fun i hi => h i (by omega)))
    rw [e]
    exact bUp_cg (by omega) (fun i hi => h i (by omega))
/-- how far the search has still to go -/
def bMu (tot : Nat) : Nat → (Nat → Nat) → Nat → Nat
  | 0, _, j0 => (6 - j0) * 7 ^ tot + 1
  | k + 1, r, j0 => bMu tot k r (r k + 1) + (6 - j0) * 7 ^ (tot - (k + 1)) + 1
theorem bMu_cg {tot : Nat} : ∀ {k : Nat} {r r' : Nat → Nat} {j0 : Nat}, (∀ i, i < k → r i = r' i) → bMu tot k r j0 = bMu tot k r' j0
  | 0, _, _, _, _ => rfl
  | k + 1, r, r', j0, h => by
    show bMu tot k r (r k + 1) + _ + 1 = bMu tot k r' (r' k + 1) + _ + 1
    rw [h k (by omega), bMu_cg (fun i hi => h i (by omega))]
theorem bMu_dec {tot : Nat} : ∀ {k : Nat} {r : Nat → Nat} {j0 j1 : Nat}, j0 ≤ j1 → j1 < 6 → bMu tot k r (j1 + 1) + 7 ^ (tot - k) ≤ bMu tot k r j0
  | 0, r, j0, j1, h, h6 => by
    show (6 - (j1 + 1)) * 7 ^ tot + 1 + 7 ^ (tot - 0) ≤ (6 - j0) * 7 ^ tot + 1
    have h1 : (6 - (j1 + 1) + 1) * 7 ^ tot ≤ (6 - j0) * 7 ^ tot := Nat.mul_le_mul_right _ (by omega)
    rw [Nat.add_mul, Nat.one_mul] at h1
    rw [Nat.sub_zero]
    omega
  | k + 1, r, j0, j1, h, h6 => by
    show bMu tot k r (r k + 1) + (6 - (j1 + 1)) * 7 ^ (tot - (k + 1)) + 1 + 7 ^ (tot - (k + 1)) ≤ bMu tot k r (r k + 1) + (6 - j0) * 7 ^ (tot - (k + 1)) + 1
    have h1 : (6 - (j1 + 1) + 1) * 7 ^ (tot - (k + 1)) ≤ (6 - j0) * 7 ^ (tot - (k + 1)) := Nat.mul_le_mul_right _ (by omega)
    rw [Nat.add_mul, Nat.one_mul] at h1
    omega
section MK2
variable {w : wS} {r : Nat → Nat} {n k : Nat} {G : mG}
/-- later steps don't change what stands -/
theorem MK_ext (hw : Wok w) (hv : qV w r n) (hk : k ≤ n) (hT : MK w r k k G) : MK w r n k G := by
  have hvk := hv.le hk
  obtain ⟨a1, a2, a3, a4⟩ := hT
  have hod : ∀ m, rC w r k m ≠ 0 → ∃ i', i' < k ∧ tOd (qS w D0 r k) m (rC w r k m - 1) = rX r i' ∧ tOd (qS w D0 r n) m (rC w r k m - 1) = rX r i' := fun m h0 => by
    obtain ⟨i', b1, b2, b3⟩ := rK_of (w := w) (r := r) (n := k) (m := m) (k := rC w r k m - 1) (by omega)
    have e1 := qS_od (D := D0) hw hvk b1
    have e2 := qS_od (D := D0) hw hv (show i' < n by omega)
    rw [b2, b3] at e1 e2
    exact ⟨i', b1, e1, e2⟩
  refine ⟨a1, fun j hj => ?_, fun m hm => ?_, fun j s hj hs => ?_⟩
  · rw [a2 j hj]
    unfold mEn
    by_cases h0 : rD r k j = 0
    · rw [if_pos h0, if_pos h0]
    · rw [if_neg h0, if_neg h0]
      obtain ⟨i', b1, b2, b3, b4⟩ := rX_of (r := r) (n := k) (j := j) (s := rD r k j - 1) (by omega)
      rw [show 5 * j + rD r k j - 1 = rX r i' by omega, qS_bg hw hv b1 hk]
  · rw [(a3 m hm).1, (a3 m hm).2.1, (a3 m hm).2.2]
    by_cases h0 : rC w r k m = 0
    · rw [if_pos h0, if_pos h0, if_pos h0, if_pos h0, if_pos h0, if_pos h0]
      exact ⟨rfl, rfl, rfl⟩
    · obtain ⟨i', b1, b2, b3⟩ := hod m h0
      rw [if_neg h0, if_neg h0, if_neg h0, if_neg h0, if_neg h0, if_neg h0, b2, b3, qS_bg hw hv b1 hk, qS_wr hw hv b1 hk]
      exact ⟨rfl, rfl, rfl⟩
  · rw [a4 j s hj hs]
    obtain ⟨i', b1, b2, b3, b4⟩ := rX_of hs
    rw [← b4, qS_bg hw hv b1 hk]
theorem MK_cg (hw : Wok w) {r' : Nat → Nat} (h : ∀ i, i < k → r i = r' i) (hT : MK w r k k G) : MK w r' k k G := by
  have e1 : rD r k = rD r' k := funext fun j => rD_cong h j
  have e2 : rC w r k = rC w r' k := funext fun m => rC_cong h m
  have e3 : qS w D0 r k = qS w D0 r' k := qS_cong h (fun _ _ => rfl)
  unfold MK at hT ⊢
  rw [← e1, ← e2, ← e3]
  exact hT
end MK2
/-- what a place of the stack keeps -/
def mLa (w : wS) (r : Nat → Nat) (i : Nat) : Int := if rC w r i (rM w r i) = 0 then -1 else (cd (tOd (qS w D0 r i) (rM w r i) (rC w r i (rM w r i) - 1)) : Int)
def mFr (w : wS) (r : Nat → Nat) (i : Nat) : Int := if rC w r i (rM w r i) = 0 then 0 else tBg (qS w D0 r i) (tOd (qS w D0 r i) (rM w r i) (rC w r i (rM w r i) - 1)) + qHr w (tOd (qS w D0 r i) (rM w r i) (rC w r i (rM w r i) - 1))
def mWo (w : wS) (r : Nat → Nat) (i : Nat) : Int := if rC w r i (rM w r i) = 0 then 0 else tWr (qS w D0 r i) (tOd (qS w D0 r i) (rM w r i) (rC w r i (rM w r i) - 1))
def ST1 (w : wS) (r : Nat → Nat) (G : mG) (i : Nat) : Prop := G 67 i = (r i : Int) ∧ G 68 (4 * i) = mLa w r i ∧ G 68 (4 * i + 1) = mFr w r i ∧ G 68 (4 * i + 2) = mWo w r i ∧ G 68 (4 * i + 3) = mEn w (rD r i) (tBg (qS w D0 r i)) (r i)
theorem ST1_cg {w : wS} {r r' : Nat → Nat} {G G' : mG} {i : Nat} (h : ∀ i', i' ≤ i → r i' = r' i') (h67 : G' 67 i = G 67 i) (h68 : ∀ k, k < 4 → G' 68 (4 * i + k) = G 68 (4 * i + k)) (hs : ST1 w r G i) : ST1 w r' G' i := by
  have e0 : ∀ i', i' < i → r i' = r' i' := fun i' hi' => h i' (by omega)
  have e1 : rD r i = rD r' i := funext fun j => rD_cong e0 j
  have e2 : rC w r i = rC w r' i := funext fun m => rC_cong e0 m
  have e3 : qS w D0 r i = qS w D0 r' i := qS_cong e0 (fun _ _ => rfl)
  have e4 : rX r i = rX r' i := by
    unfold rX rS
    rw [h i (Nat.le_refl i), e1]
  have e5 : rM w r i = rM w r' i := by
    unfold rM
    rw [e4]
  obtain ⟨a1, a2, a3, a4, a5⟩ := hs
  unfold ST1 mLa mFr mWo at *
  rw [← e1, ← e2, ← e3, ← e5, ← h i (Nat.le_refl i), h67]
  have k0 := h68 0 (by omega)
  rw [Nat.add_zero] at k0
  rw [k0, h68 1 (by omega), h68 2 (by omega), h68 3 (by omega)]
  exact ⟨a1, a2, a3, a4, a5⟩
section MB
variable {w : wS} {r : Nat → Nat} {k : Nat} {G : mG}
theorem M_nextJob (hw : Wok w) (hm : MD w (G 57)) (hv : qV w r k) (hT : MK w r k k G) {j0 : Nat} (hj0 : j0 ≤ qN w) {p1 : Int} (hp1 : p1 = (j0 : Int) - 1) : Ok (P_X11_nextJob p1 G) (fun y => ∃ j1, j0 ≤ j1 ∧ j1 ≤ qN w ∧ (∀ j, j0 ≤ j → j < j1 → rD r k j = qSt w j) ∧ ((j1 < qN w ∧ rD r k j1 ≠ qSt w j1 ∧ y = (j1 : Int)) ∨ (j1 = qN w ∧ y = -1))) := by
  have hn := hw.n
  subst hp1
  unfold P_X11_nextJob
  refine Ok.jn1 (fun x => ∃ j1 : Nat, x = (j1 : Int) ∧ j0 ≤ j1 ∧ j1 ≤ qN w ∧ (∀ j, j0 ≤ j → j < j1 → rD r k j = qSt w j) ∧ (j1 < qN w → rD r k j1 ≠ qSt w j1)) (fun x hx => ?_) (fun k5 hk5 => ?_)
  · obtain ⟨j1, rfl, h1, h2, h3, h4⟩ := hx
    refine Ok.ld 0 rfl (by omega) (by omega) ?_
    rw [hm.n hw]
    refine Ok.cd (ilt_nat (by omega) (by omega)) (fun h5 => ?_) (fun h5 => ?_)
    · exact Ok.so ⟨j1, h1, h2, h3, Or.inl ⟨h5, h4 h5, rfl⟩⟩
    · exact Ok.so ⟨j1, h1, h2, h3, Or.inr ⟨by omega, rfl⟩⟩
  · rw [show (j0 : Int) - 1 + 1 = (j0 : Int) by omega]
    refine Ok.lp1 (fun m x => ∃ j1 : Nat, x = (j1 : Int) ∧ j0 ≤ j1 ∧ j1 ≤ qN w ∧ m = qN w - j1 ∧ (∀ j, j0 ≤ j → j < j1 → rD r k j = qSt w j)) (fun m again x hI hag => ?_) LF (qN w - j0) _ (LF_lt (by omega)) ⟨j0, rfl, Nat.le_refl _, hj0, rfl, fun j h1 h2 => by omega⟩
    obtain ⟨j1, rfl, h1, h2, h3, h4⟩ := hI
    refine Ok.ld 0 rfl (by omega) (by omega) ?_
    rw [hm.n hw]
    refine Ok.cd (ilt_nat (by omega) (by omega)) (fun h5 => ?_) (fun h5 => ?_)
    · refine Ok.ld j1 rfl (by omega) (by omega) ?_
      rw [hT.1 j1 (by omega)]
      refine Ok.eq (M_st hw hm h5) ?_
      have h6 := (hw.st h5).2
      have h7 := rD_le hv h5
      refine Ok.cd (ieq_nat (by omega) (by omega)) (fun h8 => ?_) (fun h8 => ?_)
      · refine hag (qN w - (j1 + 1)) _ (by omega) ⟨j1 + 1, rfl, by omega, by omega, rfl, fun j h9 h10 => ?_⟩
        by_cases h11 : j = j1
        · rw [h11]
          exact h8
        · exact h4 j h9 (by omega)
      · exact hk5 _ ⟨j1, rfl, h1, h2, h4, fun _ => h8⟩
    · exact hk5 _ ⟨j1, rfl, h1, h2, h4, fun h6 => absurd h6 h5⟩
theorem M_remembers (hw : Wok w) (hm : MD w (G 57)) (hv : qV w r k) (hT : MK w r k k G) (hk8 : k < 9) {j : Nat} (hj : j < qN w) (hl : rD r k j < qSt w j) : Ok (P_X11_remembers (k : Int) (j : Int) G) (fun G' => (∀ b, b ≠ 68 → G' b = G b) ∧ (∀ i, ¬ (4 * k ≤ i ∧ i < 4 * k + 4) → G' 68 i = G 68 i) ∧ G' 68 (4 * k) = G 62 (qMc w (5 * j + rD r k j)) ∧ G' 68 (4 * k + 1) = G 63 (qMc w (5 * j + rD r k j)) ∧ G' 68 (4 * k + 2) = G 64 (qMc w (5 * j + rD r k j)) ∧ G' 68 (4 * k + 3) = G 61 j) := by
  have hn := hw.n
  have h5 := (hw.st hj).2
  have hmc := hw.mc hj hl
  unfold P_X11_remembers
  refine Ok.ld j rfl (by omega) (by omega) ?_
  rw [hT.1 j (by omega)]
  refine Ok.eq (M_machineOf hw hm hj hl) ?_
  refine Ok.ld (qMc w (5 * j + rD r k j)) rfl hmc.2 (by omega) ?_
  refine Ok.sto (4 * k) (by omega) (by omega) (by omega) ?_
  refine Ok.ld (qMc w (5 * j + rD r k j)) rfl hmc.2 (by omega) ?_
  refine Ok.sto (4 * k + 1) (by omega) (by omega) (by omega) ?_
  refine Ok.ld (qMc w (5 * j + rD r k j)) rfl hmc.2 (by omega) ?_
  refine Ok.sto (4 * k + 2) (by omega) (by omega) (by omega) ?_
  refine Ok.ld j rfl (by omega) (by omega) ?_
  refine Ok.sto (4 * k + 3) (by omega) (by omega) (by omega) (Ok.so ⟨fun b hb => ?_, fun i hi => ?_, ?_, ?_, ?_, ?_⟩)
  · rw [up2_ne hb, up2_ne hb, up2_ne hb, up2_ne hb]
  · rw [up2_eq, up1_ne (by omega), up2_eq, up1_ne (by omega), up2_eq, up1_ne (by omega), up2_eq, up1_ne (by omega)]
  · rw [up2_eq, up1_ne (by omega), up2_eq, up1_ne (by omega), up2_eq, up1_ne (by omega), up2_eq, up1_eq]
  · rw [up2_eq, up1_ne (by omega), up2_eq, up1_ne (by omega), up2_eq, up1_eq, up2_ne (by omega)]
  · rw [up2_eq, up1_ne (by omega), up2_eq, up1_eq, up2_ne (by omega), up2_ne (by omega)]
  · rw [up2_eq, up1_eq, up2_ne (by omega), up2_ne (by omega), up2_ne (by omega)]
end MB
theorem M_takesBack {w : wS} {r : Nat → Nat} {k : Nat} {G : mG} (hw : Wok w) (hm : MD w (G 57)) (hv : qV w r (k + 1)) (hk8 : k < 9) (hT : MK w r (k + 1) (k + 1) G) (hs : ST1 w r G k) : Ok (P_X11_takesBack (k : Int) G) (fun G' => MK w r k k G' ∧ (∀ b, ¬ (60 ≤ b ∧ b ≤ 64) → G' b = G b)) := by
  have hn := hw.n
  have hvk : qV w r k := hv.le (by omega)
  obtain ⟨hj, hl⟩ := hv k (by omega)
  have h5 := (hw.st hj).2
  have hm4 := rM_lt hw hv (show k < k + 1 by omega)
  obtain ⟨s1, s2, s3, s4, s5⟩ := hs
  obtain ⟨a1, a2, a3, a4⟩ := hT
  have hl' : rD r k (r k) < qSt w (r k) := hl
  have ed : ∀ j, rD r (k + 1) j = if j = r k then rD r k j + 1 else rD r k j := fun j => by
    rw [rD_succ]
    by_cases h : j = r k
    · rw [h, upf_eq, if_pos rfl]
    · rw [upf_ne h, if_neg h]
  have ec : ∀ m, rC w r (k + 1) m = if m = rM w r k then rC w r k m + 1 else rC w r k m := fun m => by
    rw [rC_succ]
    by_cases h : m = rM w r k
    · rw [h, upf_eq, if_pos rfl]
    · rw [upf_ne h, if_neg h]
  unfold P_X11_takesBack
  refine Ok.ld k rfl (by omega) (by omega) ?_
  rw [s1]
  refine Ok.ld (r k) rfl (by omega) (by omega) ?_
  rw [a1 _ (by omega), ed (r k), if_pos rfl]
  refine Ok.sto (r k) rfl (by omega) (by omega) ?_
  refine Ok.ld (r k) rfl (by omega) (by omega) ?_
  rw [up2_eq, up1_eq]
  have e60 : ((rD r k (r k) + 1 : Nat) : Int) - 1 = (rD r k (r k) : Int) := by omega
  rw [e60]
  have hm' : MD w ((up2 G 60 (r k) (rD r k (r k) : Int)) 57) := by
    rw [up2_ne (by omega)]
    exact hm
  refine Ok.eq (M_machineOf hw hm' hj hl') ?_
  have ex : 5 * r k + rD r k (r k) = rX r k := rfl
  rw [ex]
  have em : qMc w (rX r k) = rM w r k := rfl
  rw [em]
  refine Ok.ld (4 * k) (by omega) (by omega) (by omega) ?_
  rw [up2_ne (by omega), s2]
  refine Ok.sto (rM w r k) rfl hm4 (by omega) ?_
  refine Ok.ld (4 * k + 1) (by omega) (by omega) (by omega) ?_
  rw [up2_ne (b := 68) (by omega), up2_ne (b := 68) (by omega), s3]
  refine Ok.sto (rM w r k) rfl hm4 (by omega) ?_
  refine Ok.ld (4 * k + 2) (by omega) (by omega) (by omega) ?_
  rw [up2_ne (b := 68) (by omega), up2_ne (b := 68) (by omega), up2_ne (b := 68) (by omega), s4]
  refine Ok.sto (rM w r k) rfl hm4 (by omega) ?_
  refine Ok.ld (4 * k + 3) (by omega) (by omega) (by omega) ?_
  rw [up2_ne (b := 68) (by omega), up2_ne (b := 68) (by omega), up2_ne (b := 68) (by omega), up2_ne (b := 68) (by omega), s5]
  refine Ok.sto (r k) rfl (by omega) (by omega) (Ok.so ⟨⟨fun j hj6 => ?_, fun j hjN => ?_, fun m hm9 => ⟨?_, ?_, ?_⟩, fun j s hjN hss => ?_⟩, fun b hb => ?_⟩)
  · rw [up2_ne (by omega), up2_ne (by omega), up2_ne (by omega), up2_ne (by omega), up2_eq, up1_if]
    by_cases h : j = r k
    · rw [if_pos h, h]
    · rw [if_neg h, a1 j hj6, ed j, if_neg h]
  · rw [up2_eq, up1_if]
    by_cases h : j = r k
    · rw [if_pos h, h]
    · rw [if_neg h, up2_ne (by omega), up2_ne (by omega), up2_ne (by omega), up2_ne (by omega), a2 j hjN, mEn_tRd, mEn_tRd]
      exact (tEn_other hw hv h).1
  · rw [up2_ne (b := 62) (by omega), up2_ne (b := 62) (by omega), up2_ne (b := 62) (by omega), up2_eq, up1_if]
    by_cases h : m = rM w r k
    · rw [if_pos h, h]
      rfl
    · rw [if_neg h, up2_ne (by omega), (a3 m hm9).1, ec m, if_neg h]
      by_cases h0 : rC w r k m = 0
      · rw [if_pos h0, if_pos h0]
      · obtain ⟨i', b1, b2, b3⟩ := rK_of (w := w) (r := r) (n := k) (m := m) (k := rC w r k m - 1) (by omega)
        have e1 := qS_od (D := D0) hw hvk b1
        have e2 := qS_od (D := D0) hw hv (show i' < k + 1 by omega)
        rw [b2, b3] at e1 e2
        rw [if_neg h0, if_neg h0, e1, e2]
  · rw [up2_ne (b := 63) (by omega), up2_ne (b := 63) (by omega), up2_eq, up1_if]
    by_cases h : m = rM w r k
    · rw [if_pos h, h]
      rfl
    · rw [if_neg h, up2_ne (by omega), up2_ne (by omega), (a3 m hm9).2.1, ec m, if_neg h]
      by_cases h0 : rC w r k m = 0
      · rw [if_pos h0, if_pos h0]
      · obtain ⟨i', b1, b2, b3⟩ := rK_of (w := w) (r := r) (n := k) (m := m) (k := rC w r k m - 1) (by omega)
        have e1 := qS_od (D := D0) hw hvk b1
        have e2 := qS_od (D := D0) hw hv (show i' < k + 1 by omega)
        rw [b2, b3] at e1 e2
        rw [if_neg h0, if_neg h0, e1, e2, qS_bg hw hv b1 (by omega)]
  · rw [up2_ne (b := 64) (by omega), up2_eq, up1_if]
    by_cases h : m = rM w r k
    · rw [if_pos h, h]
      rfl
    · rw [if_neg h, up2_ne (by omega), up2_ne (by omega), up2_ne (by omega), (a3 m hm9).2.2, ec m, if_neg h]
      by_cases h0 : rC w r k m = 0
      · rw [if_pos h0, if_pos h0]
      · obtain ⟨i', b1, b2, b3⟩ := rK_of (w := w) (r := r) (n := k) (m := m) (k := rC w r k m - 1) (by omega)
        have e1 := qS_od (D := D0) hw hvk b1
        have e2 := qS_od (D := D0) hw hv (show i' < k + 1 by omega)
        rw [b2, b3] at e1 e2
        rw [if_neg h0, if_neg h0, e1, e2, qS_wr hw hv b1 (by omega)]
  · rw [up2_ne (b := 59) (by omega), up2_ne (b := 59) (by omega), up2_ne (b := 59) (by omega), up2_ne (b := 59) (by omega), up2_ne (b := 59) (by omega), a4 j s hjN (by rw [ed]; split <;> omega)]
    obtain ⟨i', b1, b2, b3, b4⟩ := rX_of hss
    rw [← b4, qS_bg hw hv b1 (by omega)]
  · rw [up2_ne (by omega), up2_ne (by omega), up2_ne (by omega), up2_ne (by omega), up2_ne (by omega)]
