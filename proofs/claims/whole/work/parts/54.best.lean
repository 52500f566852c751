/-! ===== best plans, pure: all rows in their order; nothing gets less by a further step ===== -/
theorem qAim_mono {w : wS} (hw : Wok w) {a j : Nat} (hj : j < qN w) {e e' v v' : Int} (he : e ≤ e') (hv : v ≤ v') : qAim a j e (qDu w j) (qWt w j) v ≤ qAim a j e' (qDu w j) (qWt w j) v' := by
  have hm : qWt w j * max (e - qDu w j) 0 ≤ qWt w j * max (e' - qDu w j) 0 := Int.mul_le_mul_of_nonneg_left (by omega) (by have := hw.wt hj; omega)
  unfold qAim
  split
  · omega
  · split
    · omega
    · split
      · split <;> omega
      · split
        · split <;> split <;> omega
        · omega
theorem qValK_mono {w : wS} (hw : Wok w) {a : Nat} {E E' : Nat → Int} (h : ∀ j, j < qN w → E j ≤ E' j) : ∀ {k : Nat}, k ≤ qN w → qValK w a E k ≤ qValK w a E' k
  | 0, _ => Int.le_refl _
  | k + 1, hk => qAim_mono hw (by omega) (h k (by omega)) (qValK_mono hw h (k := k) (by omega))
theorem qVal_mono {w : wS} (hw : Wok w) {a : Nat} {E E' : Nat → Int} (h : ∀ j, j < qN w → E j ≤ E' j) : qVal w a E ≤ qVal w a E' := qValK_mono hw h (Nat.le_refl _)
theorem qHo_ge {w : wS} {B W : Nat → Int} {od : Nat → Nat} {k x : Nat} {le : Int} : qRd w B x ≤ qHo w B W od k x le := by
  unfold qHo
  split
  · have := qOpen_le w (qMc w x) (max (qRd w B x) le) (qHr w x)
    omega
  · have := qOpen_le w (qMc w x) (max (max (qRd w B x) le) (B (od (k - 1)) + qHr w (od (k - 1)) + qBw w (od (k - 1)) (W (od (k - 1))) x)) (qHr w x)
    omega
theorem tEn_other {w : wS} {r : Nat → Nat} {k j : Nat} {D : Nat → Int} (hw : Wok w) (hv : qV w r (k + 1)) (hj : j ≠ r k) : tRd w (qS w D r (k + 1)) j = tRd w (qS w D r k) j ∧ tEn w (qS w D r (k + 1)) j = tEn w (qS w D r k) j := by
  have ed : rD r (k + 1) j = rD r k j := by rw [rD_succ, upf_ne hj]
  have er : tRd w (qS w D r (k + 1)) j = tRd w (qS w D r k) j := by
    unfold tRd
    rw [qS_dn, qS_dn, ed]
    by_cases h0 : rD r k j = 0
    · rw [if_pos h0, if_pos h0]
    · rw [if_neg h0, if_neg h0]
      obtain ⟨i', a1, a2, a3, a4⟩ := rX_of (r := r) (n := k) (j := j) (s := rD r k j - 1) (by omega)
      rw [show 5 * j + rD r k j - 1 = rX r i' by omega, qS_bg hw hv a1 (by omega)]
  refine ⟨er, ?_⟩
  unfold tEn
  rw [er, qS_dn, qS_dn, ed]
theorem tEn_mono {w : wS} {r : Nat → Nat} {k j : Nat} {D : Nat → Int} (hw : Wok w) (hv : qV w r (k + 1)) (hj : j < qN w) : tEn w (qS w D r k) j ≤ tEn w (qS w D r (k + 1)) j := by
  by_cases h : j = r k
  · subst h
    obtain ⟨-, hl⟩ := hv k (by omega)
    have hl' : rD r k (r k) < qSt w (r k) := hl
    have h5 := (hw.st hj).2
    have ed : rD r (k + 1) (r k) = rD r k (r k) + 1 := by rw [rD_succ, upf_eq]
    have eb : tBg (qS w D r (k + 1)) (rX r k) = tHo w (qS w D r k) (rX r k) (D (rX r k)) := (qS_keep hw hv (Nat.lt_succ_self k)).1
    have hge : qRd w (tBg (qS w D r k)) (rX r k) ≤ tHo w (qS w D r k) (rX r k) (D (rX r k)) := qHo_ge
    have er : qRd w (tBg (qS w D r k)) (rX r k) = tRd w (qS w D r k) (r k) := by
      rw [tRd_eq (by rw [qS_dn]; omega), qS_dn]
      rfl
    have hst := qHf_step (w := w) hl'
    have e1 : tRd w (qS w D r (k + 1)) (r k) = tBg (qS w D r (k + 1)) (rX r k) + qHr w (rX r k) := by
      unfold tRd
      rw [qS_dn, ed, if_neg (by omega)]
      rfl
    have e2 : qHr w (rX r k) = qHr w (5 * r k + rD r k (r k)) := rfl
    unfold tEn
    rw [e1, qS_dn, qS_dn, ed, eb]
    omega
  · rw [(tEn_other hw hv h).2]
    exact Int.le_refl _
def bV (w : wS) (a : Nat) (r : Nat → Nat) (k : Nat) : Int := qVal w a (tEn w (qS w D0 r k))
theorem bV_mono {w : wS} {a : Nat} {r : Nat → Nat} {k : Nat} (hw : Wok w) (hv : qV w r (k + 1)) : bV w a r k ≤ bV w a r (k + 1) := qVal_mono hw (fun _ hj => tEn_mono hw hv hj)
theorem bV_cong {w : wS} {a : Nat} {r r' : Nat → Nat} {k : Nat} (h : ∀ i, i < k → r i = r' i) : bV w a r k = bV w a r' k := by
  unfold bV
  rw [qS_cong h (fun _ _ => rfl)]
abbrev bAcc : Type := Option (Int × (Nat → Nat))
def bLeaf (w : wS) (a tot : Nat) (r : Nat → Nat) (acc : bAcc) : bAcc := match acc with
  | none => some (bV w a r tot, r)
  | some p => if bV w a r tot < p.1 then some (bV w a r tot, r) else some p
def bEx (w : wS) (a tot : Nat) : Nat → (Nat → Nat) → bAcc → bAcc
  | 0, r, acc => bLeaf w a tot r acc
  | m + 1, r, acc => it (fun j acc => if rD r (tot - (m + 1)) j < qSt w j then bEx w a tot m (upf r (tot - (m + 1)) j) acc else acc) (qN w) acc
def bF (w : wS) (a tot m : Nat) (r : Nat → Nat) (j : Nat) (acc : bAcc) : bAcc := if rD r (tot - (m + 1)) j < qSt w j then bEx w a tot m (upf r (tot - (m + 1)) j) acc else acc
theorem bEx_succ {w : wS} {a tot m : Nat} {r : Nat → Nat} {acc : bAcc} : bEx w a tot (m + 1) r acc = it (bF w a tot m r) (qN w) acc := rfl
theorem it_front {α : Type} {f : Nat → α → α} : ∀ {n : Nat} {x : α}, it f (n + 1) x = it (fun i => f (i + 1)) n (f 0 x)
  | 0, _ => rfl
  | n + 1, x => by
    show f (n + 1) (it f (n + 1) x) = f (n + 1) (it (fun i => f (i + 1)) n (f 0 x))
    rw [it_front (n := n)]
def bFrom {α : Type} (F : Nat → α → α) (N j0 : Nat) (acc : α) : α := it (fun i => F (j0 + i)) (N - j0) acc
theorem bFrom_0 {α : Type} {F : Nat → α → α} {N : Nat} {acc : α} : bFrom F N 0 acc = it F N acc := by
  unfold bFrom
  rw [Nat.sub_zero]
  exact it_cong (fun k _ x => by rw [Nat.zero_add])
theorem bFrom_step {α : Type} {F : Nat → α → α} {N j0 : Nat} {acc : α} (h : j0 < N) : bFrom F N j0 acc = bFrom F N (j0 + 1) (F j0 acc) := by
  unfold bFrom
  rw [show N - j0 = (N - (j0 + 1)) + 1 by omega, it_front]
  exact it_cong (fun k _ x => by rw [show j0 + (k + 1) = j0 + 1 + k by omega])
theorem bFrom_end {α : Type} {F : Nat → α → α} {N j0 : Nat} {acc : α} (h : N ≤ j0) : bFrom F N j0 acc = acc := by
  unfold bFrom
  rw [show N - j0 = 0 by omega]
  rfl
theorem bFrom_skip {α : Type} {F : Nat → α → α} {N j1 : Nat} {acc : α} : ∀ {d j0 : Nat}, j1 = j0 + d → j1 ≤ N → (∀ j, j0 ≤ j → j < j1 → F j acc = acc) → bFrom F N j0 acc = bFrom F N j1 acc
  | 0, j0, h, _, _ => by rw [h]; rfl
  | d + 1, j0, h, hN, hs => by
    rw [bFrom_step (by omega), hs j0 (by omega) (by omega)]
    exact bFrom_skip (d := d) (by omega) hN (fun j h1 h2 => hs j (by omega) h2)
/-- no row behind this one is better than what is found -/
theorem bEx_prune {w : wS} {a tot : Nat} (hw : Wok w) : ∀ {m : Nat} {r : Nat → Nat} {p : Int × (Nat → Nat)}, m ≤ tot → qV w r (tot - m) → p.1 ≤ bV w a r (tot - m) → bEx w a tot m r (some p) = some p
  | 0, r, p, _, _, h => by
    show bLeaf w a tot r (some p) = some p
    unfold bLeaf
    rw [Nat.sub_zero] at h
    show (if bV w a r tot < p.1 then _ else _) = _
    rw [if_neg (by omega)]
  | m + 1, r, p, hm, hv, h => by
    rw [bEx_succ]
    refine it_inv (fun _ x => x = some p) rfl (fun j hj x hx => ?_)
    subst hx
    unfold bF
    split
    · next hl =>
      have hv' := qV_upf hv hj hl
      have e : tot - (m + 1) + 1 = tot - m := by omega
      rw [e] at hv'
      refine bEx_prune hw (by omega) hv' (Int.le_trans h ?_)
      rw [bV_cong (r' := upf r (tot - (m + 1)) j) (fun i hi => (upf_ne (by omega)).symm), ← e]
      rw [← e] at hv'
      exact bV_mono hw hv'
    · rfl
/-- what is found is a whole row with its value -/
def bGood (w : wS) (a tot : Nat) (acc : bAcc) : Prop := ∀ p, acc = some p → qF w p.2 tot ∧ p.1 = bV w a p.2 tot
theorem bEx_good {w : wS} {a tot : Nat} (hw : Wok w) (ht : (tot : Int) = qTot w) : ∀ {m : Nat} {r : Nat → Nat} {acc : bAcc}, m ≤ tot → qV w r (tot - m) → bGood w a tot acc → bGood w a tot (bEx w a tot m r acc) ∧ bEx w a tot m r acc ≠ none
  | 0, r, acc, _, hv, hg => by
    rw [Nat.sub_zero] at hv
    show bGood w a tot (bLeaf w a tot r acc) ∧ bLeaf w a tot r acc ≠ none
    have hnew : bGood w a tot (some (bV w a r tot, r)) := fun p hp => by
      cases hp
      exact ⟨qF_of hv ht, rfl⟩
    cases acc with
    | none => exact ⟨hnew, fun h => nomatch h⟩
    | some p =>
      unfold bLeaf
      show bGood w a tot (if _ then _ else _) ∧ (if _ then _ else _) ≠ _
      split
      · exact ⟨hnew, fun h => nomatch h⟩
      · exact ⟨hg, fun h => nomatch h⟩
  | m + 1, r, acc, hm, hv, hg => by
    rw [bEx_succ]
    have hstep : ∀ j, j < qN w → ∀ x : bAcc, bGood w a tot x → bGood w a tot (bF w a tot m r j x) ∧ (rD r (tot - (m + 1)) j < qSt w j → bF w a tot m r j x ≠ none) ∧ (x ≠ none → bF w a tot m r j x ≠ none) := fun j hj x hx => by
      unfold bF
      split
      · next hl =>
        have hv' := qV_upf hv hj hl
        have e : tot - (m + 1) + 1 = tot - m := by omega
        rw [e] at hv'
        have := bEx_good hw ht (show m ≤ tot by omega) hv' hx
        exact ⟨this.1, fun _ => this.2, fun _ => this.2⟩
      · next hl => exact ⟨hx, fun h => absurd h hl, fun h => h⟩
    obtain ⟨j1, hj1, hl1⟩ := qLeft hw hv (by omega)
    have key := it_inv (f := bF w a tot m r) (a := acc) (fun k x => bGood w a tot x ∧ (j1 < k → x ≠ none)) ⟨hg, fun h => absurd h (Nat.not_lt_zero _)⟩ (n := qN w) (fun k hk x hx => by
      obtain ⟨s1, s2, s3⟩ := hstep k hk x hx.1
      refine ⟨s1, fun h => ?_⟩
      by_cases hk1 : j1 = k
      · subst hk1
        exact s2 hl1
      · exact s3 (hx.2 (by omega)))
    exact ⟨key.1, key.2 hj1⟩
/-- the row ahead of the place counts alone -/
theorem bEx_cong {w : wS} {a tot : Nat} : ∀ {m : Nat} {r r' : Nat → Nat} {acc : bAcc}, m ≤ tot → (∀ i, r i = r' i) → bEx w a tot m r acc = bEx w a tot m r' acc := fun _ h => by
  have : ∀ {m : Nat} {r r' : Nat → Nat} {acc : bAcc}, r = r' → bEx w a tot m r acc = bEx w a tot m r' acc := fun h => by rw [h]
  exact this (funext h)
