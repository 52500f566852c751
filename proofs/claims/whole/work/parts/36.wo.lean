/-! ===== the model works out orders that a row tells ===== -/
section SP
variable {w : wS} {G : mG}
theorem M_startsPlan (hw : Wok w) (hm : MD w (G 57)) (od : Nat → Nat → Nat) (B W : Nat → Int) : Ok (P_X11_startsPlan G) (fun G' => MT w (fun _ => 0) (fun _ => 0) od B W G' ∧ FrM G G' ∧ (∀ m, m < 4 → G' 65 m = 0)) := by
  have hn := hw.n
  unfold P_X11_startsPlan
  refine Ok.jn1 (fun G1 => (∀ j, j < 6 → G1 60 j = 0) ∧ (∀ j, j < qN w → G1 61 j = qRel w j) ∧ FrM G G1) (fun G1 h1 => ?_) (fun k hk => ?_)
  · refine Ok.forC (fun k G' => (∀ j, j < 6 → G' 60 j = 0) ∧ (∀ j, j < qN w → G' 61 j = qRel w j) ∧ FrM G G' ∧ (∀ m, m < k → G' 62 m = -1 ∧ G' 63 m = 0 ∧ G' 64 m = 0 ∧ G' 65 m = 0)) 4 LF (LF_lt (by omega)) ⟨h1.1, h1.2.1, h1.2.2, fun m hm => absurd hm (Nat.not_lt_zero _)⟩ (fun k hk again a hI hag => ?_) (fun again a hI => ?_)
    · refine Ok.iteT ((ilt_id (by omega) (by omega) (by omega) (by omega)).trans (decide_eq_true (by omega))) ?_
      refine Ok.sto k rfl hk (by omega) ?_
      refine Ok.sto k rfl hk (by omega) ?_
      refine Ok.sto k rfl hk (by omega) ?_
      refine Ok.sto k rfl hk (by omega) ?_
      refine hag _ ⟨fun j hj => ?_, fun j hj => ?_, ?_, fun m hm => ?_⟩
      · simp only [up2_if]
        simp [hI.1 j hj]
      · simp only [up2_if]
        simp [hI.2.1 j hj]
      · exact hI.2.2.1.tr ((FrM.up2 _ _ _ (by omega)).tr ((FrM.up2 _ _ _ (by omega)).tr ((FrM.up2 _ _ _ (by omega)).tr (FrM.up2 _ _ _ (by omega)))))
      · simp only [up2_if]
        by_cases h : m = k
        · simp [h]
        · have := hI.2.2.2 m (by omega)
          simp [h, this]
    · refine Ok.iteF ((ilt_id (by omega) (by omega) (by omega) (by omega)).trans (decide_eq_false (by omega))) (Ok.so ?_)
      refine ⟨⟨hI.1, fun j hj => ?_, fun m hm => ?_, fun j s hj hs => absurd hs (Nat.not_lt_zero _)⟩, hI.2.2.1, fun m hm => (hI.2.2.2 m hm).2.2.2⟩
      · unfold mEn
        rw [if_pos rfl]
        exact hI.2.1 j hj
      · have := hI.2.2.2 m hm
        exact ⟨this.1, this.2.1, this.2.2.1⟩
  · refine Ok.forC (fun k G' => (∀ j, j < k → G' 60 j = 0) ∧ (∀ j, j < k → j < qN w → G' 61 j = qRel w j) ∧ FrM G G') 6 LF (LF_lt (by omega)) ⟨fun j hj => absurd hj (Nat.not_lt_zero _), fun j hj => absurd hj (Nat.not_lt_zero _), FrM.rf G⟩ (fun k hk2 again a hI hag => ?_) (fun again a hI => ?_)
    · refine Ok.iteT ((ilt_id (by omega) (by omega) (by omega) (by omega)).trans (decide_eq_true (by omega))) ?_
      refine Ok.sto k rfl hk2 (by omega) ?_
      have F1 := hI.2.2.tr (FrM.up2 60 k 0 (by omega))
      have m1 : MD w ((up2 a 60 k 0) 57) := by
        rw [F1 57 (by omega)]
        exact hm
      refine Ok.ld 0 rfl (by omega) (by omega) ?_
      rw [m1.n hw]
      refine Ok.jn1 (fun y => k < qN w → y = qRel w k) (fun y hy => ?_) (fun k21 hk21 => ?_)
      · refine Ok.sto k rfl hk2 (by omega) ?_
        refine hag _ ⟨fun j hj => ?_, fun j hj hj2 => ?_, F1.tr (FrM.up2 _ _ _ (by omega))⟩
        · simp only [up2_if]
          by_cases h : j = k
          · simp [h]
          · simp [h, hI.1 j (by omega)]
        · simp only [up2_if]
          by_cases h : j = k
          · subst h
            simp [hy hj2]
          · simp [h, hI.2.1 j (by omega) hj2]
      · refine Ok.cd (ilt_nat (by omega) (by omega)) (fun h => ?_) (fun h => ?_)
        · refine Ok.eq (M_rel hw m1 h) ?_
          exact hk21 _ (fun _ => rfl)
        · exact hk21 _ (fun h2 => absurd h2 h)
    · refine Ok.iteF ((ilt_id (by omega) (by omega) (by omega) (by omega)).trans (decide_eq_false (by omega))) ?_
      exact hk _ ⟨hI.1, fun j hj => hI.2.1 j (by omega) hj, hI.2.2⟩
end SP
/-- counts of steps that are done, in any order that the orders allow -/
def PF (w : wS) (r : Nat → Nat) (n : Nat) (dn cm : Nat → Nat) : Prop :=
  (∀ j, dn j ≤ rD r n j) ∧ (∀ m, cm m ≤ rC w r n m) ∧ (∀ i, i < n → (rS r i < dn (r i) ↔ rK w r i < cm (rM w r i)))
/-- a table of orders -/
def OT (w : wS) (r : Nat → Nat) (n : Nat) (od : Nat → Nat → Nat) (f : Nat → Int) (p : Nat) : Prop :=
  ∀ m, m < 4 → f (p + 31 * m) = (rC w r n m : Int) ∧ ∀ k, k < rC w r n m → f (p + 31 * m + 1 + k) = (cd (od m k) : Int)
/-- begins, wear and orders by a row's rules; lat begins later by some hours -/
def qAd (w : wS) (lat : Nat) (by_ : Int) (x : Nat) (h : Int) : Int := if x = lat then qOpen w (qMc w x) (h + by_) (qHr w x) else h
def So (w : wS) (r : Nat → Nat) (n : Nat) (lat : Nat) (by_ : Int) (od : Nat → Nat → Nat) (B W : Nat → Int) : Prop :=
  ∀ i, i < n → od (rM w r i) (rK w r i) = rX r i ∧ B (rX r i) = qAd w lat by_ (rX r i) (qHo w B W (od (rM w r i)) (rK w r i) (rX r i) 0) ∧ W (rX r i) = qWe w W (od (rM w r i)) (rK w r i) (rX r i) ∧ (0 ≤ B (rX r i) ∧ B (rX r i) ≤ 30000) ∧ (0 ≤ W (rX r i) ∧ W (rX r i) ≤ 3000)
section PF1
variable {w : wS} {r : Nat → Nat} {n lat : Nat} {by_ : Int} {od : Nat → Nat → Nat} {B W : Nat → Int} {dn cm : Nat → Nat}
theorem PF0 (hw : Wok w) (hv : qV w r n) : PF w r n (fun _ => 0) (fun _ => 0) := ⟨fun _ => Nat.zero_le _, fun _ => Nat.zero_le _, fun _ _ => ⟨fun h => absurd h (Nat.not_lt_zero _), fun h => absurd h (Nat.not_lt_zero _)⟩⟩
theorem PF.ex (hw : Wok w) (hv : qV w r n) (hP : PF w r n dn cm) {i : Nat} (hi : i < n) (hj : dn (r i) = rS r i) : rK w r i = cm (rM w r i) → PF w r n (upf dn (r i) (dn (r i) + 1)) (upf cm (rM w r i) (cm (rM w r i) + 1)) := by
  intro hk
  refine ⟨fun j => ?_, fun m => ?_, fun i' hi' => ?_⟩
  · by_cases h : j = r i
    · rw [h, upf_eq, hj]
      exact rX_lt hi
    · rw [upf_ne h]
      exact hP.1 j
  · by_cases h : m = rM w r i
    · rw [h, upf_eq, ← hk]
      exact rK_lt hi
    · rw [upf_ne h]
      exact hP.2.1 m
  · have h0 := hP.2.2 i' hi'
    by_cases h : i' = i
    · rw [h, upf_eq, upf_eq, hj, hk]
      exact ⟨fun _ => by omega, fun _ => by omega⟩
    · have e1 : rS r i' < upf dn (r i) (dn (r i) + 1) (r i') ↔ rS r i' < dn (r i') := by
        by_cases h2 : r i' = r i
        · rw [h2, upf_eq, hj]
          have : rS r i' ≠ rS r i := fun e => h (rS_inj h2 e)
          omega
        · rw [upf_ne h2]
      have e2 : rK w r i' < upf cm (rM w r i) (cm (rM w r i) + 1) (rM w r i') ↔ rK w r i' < cm (rM w r i') := by
        by_cases h2 : rM w r i' = rM w r i
        · rw [h2, upf_eq, ← hk]
          have : rK w r i' ≠ rK w r i := fun e => h (rK_inj h2 e)
          omega
        · rw [upf_ne h2]
      rw [e1, e2]
      exact h0
/-- all that is ahead is done: the step can be done -/
theorem PF.next (hw : Wok w) (hv : qV w r n) (hP : PF w r n dn cm) {i : Nat} (hi : i < n) (hpre : ∀ i', i' < i → rS r i' < dn (r i')) (hnot : ¬ rS r i < dn (r i)) : dn (r i) = rS r i ∧ rK w r i = cm (rM w r i) := by
  constructor
  · refine Classical.byContradiction fun h => ?_
    obtain ⟨i', a1, a2, a3, a4⟩ := rX_of (r := r) (n := i) (j := r i) (s := dn (r i)) (show dn (r i) < rS r i by omega)
    have := hpre i' a1
    rw [a2, a3] at this
    omega
  · have h1 := mt (hP.2.2 i hi).mpr hnot
    refine Classical.byContradiction fun h => ?_
    obtain ⟨i', a1, a2, a3⟩ := rK_of (w := w) (r := r) (n := i) (m := rM w r i) (k := cm (rM w r i)) (show cm (rM w r i) < rK w r i by omega)
    have h2 := (hP.2.2 i' (by omega)).mp (hpre i' a1)
    rw [a2, a3] at h2
    omega
theorem PF.all (hw : Wok w) (hv : qV w r n) (hP : PF w r n dn cm) (hno : ∀ i, i < n → ¬ (dn (r i) = rS r i ∧ rK w r i = cm (rM w r i))) : dn = rD r n ∧ cm = rC w r n := by
  have h1 : ∀ i, i < n → rS r i < dn (r i) := by
    intro i
    induction i using Nat.strongRecOn with
    | ind i ih =>
      intro hi
      refine Classical.byContradiction fun h => hno i hi (PF.next hw hv hP hi (fun i' hi' => ih i' hi' (by omega)) h)
  constructor
  · funext j
    have h2 := hP.1 j
    refine Classical.byContradiction fun h => ?_
    obtain ⟨i, a1, a2, a3, a4⟩ := rX_of (r := r) (n := n) (j := j) (s := dn j) (by omega)
    have := h1 i a1
    rw [a2, a3] at this
    omega
  · funext m
    have h2 := hP.2.1 m
    refine Classical.byContradiction fun h => ?_
    obtain ⟨i, a1, a2, a3⟩ := rK_of (w := w) (r := r) (n := n) (m := m) (k := cm m) (by omega)
    have := (hP.2.2 i a1).mp (h1 i a1)
    rw [a2, a3] at this
    omega
theorem PF.cs (hw : Wok w) (hv : qV w r n) (hS : So w r n lat by_ od B W) (hP : PF w r n dn cm) : Cs w dn cm od B W := by
  refine ⟨fun j hj => Nat.le_trans (hP.1 j) (rD_le hv hj), fun j hj => ?_, fun m k hm hk => ?_, fun j s hs => ?_, fun m => Nat.le_trans (hP.2.1 m) (rC_30 hw hv m)⟩
  · have h1 := hP.1 j
    rw [rD_out hv hj] at h1
    omega
  · obtain ⟨i, a1, a2, a3⟩ := rK_of (w := w) (r := r) (n := n) (m := m) (k := k) (Nat.lt_of_lt_of_le hk (hP.2.1 m))
    refine ⟨r i, rS r i, ?_, (hv i a1).1, ?_, rS_lt5 hw hv a1⟩
    · rw [← a2, ← a3]
      exact (hS i a1).1
    · refine (hP.2.2 i a1).mpr ?_
      rw [a2, a3]
      exact hk
  · obtain ⟨i, a1, a2, a3, a4⟩ := rX_of (r := r) (n := n) (j := j) (s := s) (Nat.lt_of_lt_of_le hs (hP.1 j))
    have := hS i a1
    rw [a4] at this
    exact this.2.2.2
end PF1
theorem sm_upf {dn : Nat → Nat} {j : Nat} : ∀ {N : Nat}, sm (fun i => ((upf dn j (dn j + 1) i : Nat) : Int)) N = sm (fun i => (dn i : Int)) N + (if j < N then 1 else 0)
  | 0 => rfl
  | N + 1 => by
    rw [sm_succ, sm_succ, sm_upf (N := N)]
    by_cases h : N = j
    · subst h
      rw [upf_eq, if_neg (by omega), if_pos (by omega)]
      omega
    · rw [upf_ne h]
      by_cases h2 : j < N
      · rw [if_pos h2, if_pos (by omega)]
        omega
      · rw [if_neg h2, if_neg (by omega)]
        omega
section WO
variable {w : wS} {G : mG}
theorem M_worksOutG (hw : Wok w) {a an p : Nat} {p2 p3 : Int} (hp : p + 124 ≤ an) (han : an ≤ 100000) (hp2 : -1 ≤ p2 ∧ p2 ≤ 1000) {cnt : Nat → Nat} {od : Nat → Nat → Nat} (hcnt : ∀ m, m < 4 → cnt m ≤ 30) (hod : ∀ m k, m < 4 → k < cnt m → ∃ j s, od m k = 5 * j + s ∧ j < qN w ∧ s < qSt w j)
    (J : (Nat → Nat) → (Nat → Nat) → mG → Prop)
    (h0 : Ok (P_X11_startsPlan G) (fun G' => J (fun _ => 0) (fun _ => 0) G'))
    (hJ : ∀ dn cm G, J dn cm G → MD w (G 57) ∧ (∀ j, j < 6 → G 60 j = (dn j : Int)) ∧ (∀ m, m < 4 → G 65 m = (cm m : Int)) ∧ (∀ m, m < 4 → cm m ≤ cnt m) ∧ (∀ m, m < 4 → G a (p + 31 * m) = (cnt m : Int) ∧ ∀ k, k < cnt m → G a (p + 31 * m + 1 + k) = (cd (od m k) : Int)))
    (hstep : ∀ dn cm G m j s, J dn cm G → m < 4 → cm m < cnt m → od m (cm m) = 5 * j + s → j < qN w → s < qSt w j → dn j = s → ∃ h h', P_X11_beginOf (j : Int) G = some h ∧ (if (cd (5 * j + s) : Int) = p2 then P_X11_open (m : Int) (h + p3) (qHr w (5 * j + s)) G = some h' else h' = h) ∧ Ok (P_X11_does (j : Int) h' G) (fun G' => J (upf dn j (dn j + 1)) (upf cm m (cm m + 1)) G')) :
    Ok (P_X11_worksOut a an (p : Int) p2 p3 G) (fun z => ∃ dn cm, J dn cm z.2 ∧ (∀ m, m < 4 → cm m < cnt m → ∀ j s, od m (cm m) = 5 * j + s → s < 5 → dn j ≠ s) ∧ z.1 = decide (sm (fun j => (dn j : Int)) (qN w) = qTot w) ∧ (∀ j, j < qN w → dn j ≤ qSt w j)) := by
  have hn := hw.n
  have htot := qTot_le hw
  unfold P_X11_worksOut
  refine Ok.bind h0 (fun G4 hG4 => ?_)
  refine Ok.jn2 (fun y G' => ∃ dn cm, J dn cm G' ∧ (∀ m, m < 4 → cm m < cnt m → ∀ j s, od m (cm m) = 5 * j + s → s < 5 → dn j ≠ s) ∧ y = sm (fun j => (dn j : Int)) (qN w) ∧ (∀ j, j < qN w → dn j ≤ qSt w j)) (fun y G' hy => ?_) (fun k9 hk9 => ?_)
  · obtain ⟨dn, cm, g1, g2, rfl, g4⟩ := hy
    have g5 := sm_le (f := fun j => (dn j : Int)) (g := fun j => (qSt w j : Int)) (n := qN w) (fun j hj => by have := g4 j hj; omega)
    have g6 := sm_le (f := fun _ => 0) (g := fun j => (dn j : Int)) (n := qN w) (fun j hj => by omega)
    have g7 := sm_bd (f := fun _ => 0) (a := 0) (b := 0) (n := qN w) (fun _ _ => by omega)
    have g8 : sm (fun j => (qSt w j : Int)) (qN w) = qTot w := rfl
    refine Ok.eq (M_allSteps hw (hJ _ _ _ g1).1) ?_
    refine Ok.cd (ieq_id (by omega) (by omega) (by omega) (by omega)) (fun h => ?_) (fun h => ?_)
    · exact Ok.so ⟨dn, cm, g1, g2, (decide_eq_true h).symm, g4⟩
    · exact Ok.so ⟨dn, cm, g1, g2, (decide_eq_false h).symm, g4⟩
  · refine Ok.lp3 (fun k x10 x11 G12 => ∃ dn cm, J dn cm G12 ∧ x11 = sm (fun j => (dn j : Int)) (qN w) ∧ (∀ j, j < qN w → dn j ≤ qSt w j) ∧ ((x10 = 1 ∧ (k : Int) = qTot w + 1 - x11) ∨ (x10 = 0 ∧ (∀ m, m < 4 → cm m < cnt m → ∀ j s, od m (cm m) = 5 * j + s → s < 5 → dn j ≠ s)))) (fun k again x10 x11 G12 hI hag => ?_) LF (qTot w + 1).toNat 1 0 G4 (LF_lt (by omega)) ⟨fun _ => 0, fun _ => 0, hG4, ?_, fun _ _ => Nat.zero_le _, Or.inl ⟨rfl, by omega⟩⟩
    · obtain ⟨dn, cm, g1, g2, g3, g4⟩ := hI
      rcases g4 with ⟨rfl, g5⟩ | ⟨rfl, g5⟩
      · refine Ok.condF (ieq_id (by omega) (by omega) (by omega) (by omega)) (by omega) ?_
        have hx11 : 0 ≤ x11 ∧ x11 ≤ qTot w := by
          have g6 := sm_le (f := fun j => (dn j : Int)) (g := fun j => (qSt w j : Int)) (n := qN w) (fun j hj => by have := g3 j hj; omega)
          have g7 := sm_le (f := fun _ => 0) (g := fun j => (dn j : Int)) (n := qN w) (fun j hj => by omega)
          have g8 := sm_bd (f := fun _ => 0) (a := 0) (b := 0) (n := qN w) (fun _ _ => by omega)
          have g9 : sm (fun j => (qSt w j : Int)) (qN w) = qTot w := rfl
          omega
        refine Ok.jn3 (fun y z G' => ∃ dn cm, J dn cm G' ∧ z = sm (fun j => (dn j : Int)) (qN w) ∧ (∀ j, j < qN w → dn j ≤ qSt w j) ∧ ((y = 1 ∧ x11 < z) ∨ (y = 0 ∧ (∀ m, m < 4 → cm m < cnt m → ∀ j s, od m (cm m) = 5 * j + s → s < 5 → dn j ≠ s)))) (fun y z G' hy => ?_) (fun k19 hk19 => ?_)
        · obtain ⟨dn', cm', b1, b2, b3, b4⟩ := hy
          have hz : z ≤ qTot w := by
            rw [b2]
            exact sm_le (f := fun j => (dn' j : Int)) (g := fun j => (qSt w j : Int)) (n := qN w) (fun j hj => by have := b3 j hj; omega)
          rcases b4 with ⟨rfl, b5⟩ | ⟨rfl, b5⟩
          · exact hag (qTot w + 1 - z).toNat _ _ _ (by omega) ⟨dn', cm', b1, b2, b3, Or.inl ⟨rfl, by omega⟩⟩
          · exact hag 0 _ _ _ (by omega) ⟨dn', cm', b1, b2, b3, Or.inr ⟨rfl, b5⟩⟩
        · refine Ok.lp4 (fun k x20 x21 x22 G23 => k ≤ 4 ∧ x22 = ((4 - k : Nat) : Int) ∧ ∃ dn cm, J dn cm G23 ∧ x21 = sm (fun j => (dn j : Int)) (qN w) ∧ (∀ j, j < qN w → dn j ≤ qSt w j) ∧ ((x20 = 1 ∧ x11 < x21) ∨ (x20 = 0 ∧ x21 = x11 ∧ (∀ m, m < 4 - k → cm m < cnt m → ∀ j s, od m (cm m) = 5 * j + s → s < 5 → dn j ≠ s)))) (fun k' again2 x20 x21 x22 G23 hI2 hag2 => ?_) LF 4 0 x11 0 G12 (LF_lt (by omega)) ⟨by omega, by omega, dn, cm, g1, g2, g3, Or.inr ⟨rfl, rfl, fun m hm => absurd hm (by omega)⟩⟩
          obtain ⟨c1, rfl, dn', cm', c2, c3, c4, c5⟩ := hI2
          obtain ⟨j1, j2, j3, j4, j5⟩ := hJ _ _ _ c2
          by_cases hk0 : k' = 0
          · subst hk0
            refine Ok.iteF ((ilt_id (by omega) (by omega) (by omega) (by omega)).trans (decide_eq_false (by omega))) ?_
            refine hk19 _ _ _ ⟨dn', cm', c2, c3, c4, ?_⟩
            rcases c5 with c6 | ⟨c6, -, c7⟩
            · exact Or.inl c6
            · exact Or.inr ⟨c6, fun m hm => c7 m (by omega)⟩
          · have hmm : 4 - k' < 4 := by omega
            generalize hm : 4 - k' = m at *
            have hcm := hcnt m hmm
            have hcl := j4 m hmm
            refine Ok.iteT ((ilt_id (by omega) (by omega) (by omega) (by omega)).trans (decide_eq_true (by omega))) ?_
            refine Ok.ld m rfl hmm (by omega) ?_
            rw [j3 m hmm]
            refine Ok.ld (p + 31 * m) (by omega) (by omega) han ?_
            rw [(j5 m hmm).1]
            refine Ok.jn3 (fun y z G' => ∃ dn cm, J dn cm G' ∧ z = sm (fun j => (dn j : Int)) (qN w) ∧ (∀ j, j < qN w → dn j ≤ qSt w j) ∧ ((y = 1 ∧ x11 < z) ∨ (y = 0 ∧ z = x11 ∧ (∀ m', m' < m + 1 → cm m' < cnt m' → ∀ j s, od m' (cm m') = 5 * j + s → s < 5 → dn j ≠ s)))) (fun y z G' hy => ?_) (fun k32 hk32 => ?_)
            · refine hag2 (k' - 1) _ _ _ _ (by omega) ⟨by omega, by omega, ?_⟩
              rw [show 4 - (k' - 1) = m + 1 by omega]
              exact hy
            · refine Ok.cd (ieq_nat (by omega) (by omega)) (fun h => ?_) (fun h => ?_)
              · refine hk32 _ _ _ ⟨dn', cm', c2, c3, c4, ?_⟩
                rcases c5 with c6 | ⟨c6, c7, c8⟩
                · exact Or.inl c6
                · refine Or.inr ⟨c6, c7, fun m' hm' hlt => ?_⟩
                  by_cases h2 : m' = m
                  · subst h2
                    omega
                  · exact c8 m' (by omega) hlt
              · refine Ok.ld m rfl hmm (by omega) ?_
                rw [j3 m hmm]
                refine Ok.ld (p + 31 * m + 1 + cm' m) (by omega) (by omega) han ?_
                rw [(j5 m hmm).2 (cm' m) (by omega)]
                obtain ⟨j, s, d1, d2, d3⟩ := hod m (cm' m) hmm (by omega)
                have h5 := (hw.st d2).2
                rw [d1, cd_js (by omega)]
                have e1 : iDiv ((10 * j + s : Nat) : Int) 10 = (j : Int) := by
                  rw [iDiv_id (by omega) (by omega) (by omega) (by omega)]
                  omega
                have e2 : iRem ((10 * j + s : Nat) : Int) 10 = (s : Int) := by
                  rw [iRem_id (by omega) (by omega) (by omega) (by omega)]
                  omega
                rw [e1, e2]
                refine Ok.ld j rfl (by omega) (by omega) ?_
                rw [j2 j (by omega)]
                have hdj := c4 j d2
                refine Ok.cd (ieq_nat (by omega) (by omega)) (fun h2 => ?_) (fun h2 => ?_)
                · obtain ⟨hh, hh', f1, f2, f3⟩ := hstep dn' cm' G23 m j s c2 hmm (by omega) d1 d2 d3 h2
                  refine Ok.eq f1 ?_
                  refine Ok.jn1 (fun y => y = hh') (fun y hy => ?_) (fun k40 hk40 => ?_)
                  · subst hy
                    refine Ok.bind f3 (fun G39 hG39 => ?_)
                    refine hk32 _ _ _ ⟨_, _, hG39, ?_, fun j' hj' => ?_, Or.inl ⟨rfl, ?_⟩⟩
                    · rw [sm_upf, if_pos d2, c3]
                    · by_cases h3 : j' = j
                      · rw [h3, upf_eq]
                        omega
                      · rw [upf_ne h3]
                        exact c4 j' hj'
                    · rcases c5 with c6 | c6 <;> omega
                  · rw [cd_js (by omega)] at f2
                    refine Ok.cd (ieq_id (by omega) (by omega) (by omega) (by omega)) (fun h3 => ?_) (fun h3 => ?_)
                    · rw [if_pos h3] at f2
                      refine Ok.eq (M_hoursOf hw j1 d2 d3) ?_
                      refine Ok.eq f2 ?_
                      exact hk40 _ rfl
                    · rw [if_neg h3] at f2
                      exact hk40 _ f2.symm
                · refine hk32 _ _ _ ⟨dn', cm', c2, c3, c4, ?_⟩
                  rcases c5 with c6 | ⟨c6, c7, c8⟩
                  · exact Or.inl c6
                  · refine Or.inr ⟨c6, c7, fun m' hm' hlt j' s' e' hs' => ?_⟩
                    by_cases h3 : m' = m
                    · subst h3
                      rw [d1] at e'
                      have e3 : j' = j := by omega
                      subst e3
                      omega
                    · exact c8 m' (by omega) hlt j' s' e' hs'
      · refine Ok.condT (ieq_id (by omega) (by omega) (by omega) (by omega)) rfl ?_
        exact hk9 _ _ ⟨dn, cm, g1, g5, g2, g3⟩
    · have g7 := sm_bd (f := fun _ => ((0 : Nat) : Int)) (a := 0) (b := 0) (n := qN w) (fun _ _ => by omega)
      exact Eq.symm (show sm (fun _ => ((0 : Nat) : Int)) (qN w) = 0 from by omega)
end WO
section WO2
variable {w : wS} {G : mG} {r : Nat → Nat} {n lat : Nat} {by_ : Int} {od : Nat → Nat → Nat} {B W : Nat → Int}
theorem So.hour (hw : Wok w) (hv : qV w r n) (hS : So w r n lat by_ od B W) {i : Nat} (hi : i < n) {dn cm : Nat → Nat} (hd : dn (r i) = rS r i) (hk : rK w r i = cm (rM w r i)) : 5 * r i + dn (r i) = rX r i ∧ qHo w B W (od (qMc w (rX r i))) (cm (qMc w (rX r i))) (rX r i) 0 = qHo w B W (od (rM w r i)) (rK w r i) (rX r i) 0 ∧ qWe w W (od (qMc w (rX r i))) (cm (qMc w (rX r i))) (rX r i) = W (rX r i) ∧ od (qMc w (rX r i)) (cm (qMc w (rX r i))) = rX r i := by
  have e : qMc w (rX r i) = rM w r i := rfl
  have e2 : 5 * r i + dn (r i) = rX r i := by
    rw [hd]
    rfl
  rw [e, ← hk]
  exact ⟨e2, rfl, ((hS i hi).2.2.1).symm, (hS i hi).1⟩
theorem M_worksOut (hw : Wok w) (hv : qV w r n) (hF : ∀ j, j < qN w → rD r n j = qSt w j) (hS : So w r n lat by_ od B W) (hm : MD w (G 57)) {a an p : Nat} {p2 : Int} (ha : ¬ (59 ≤ a ∧ a ≤ 65)) (hp : p + 124 ≤ an) (han : an ≤ 100000) (hp2 : -1 ≤ p2 ∧ p2 ≤ 1000) (hlat : ∀ i, i < n → ((cd (rX r i) : Int) = p2 ↔ rX r i = lat)) (hby : 0 ≤ by_ ∧ by_ ≤ 5000) (hO : OT w r n od (G a) p) : Ok (P_X11_worksOut a an (p : Int) p2 by_ G) (fun z => z.1 = true ∧ MT w (rD r n) (rC w r n) od B W z.2 ∧ FrM G z.2 ∧ (∀ m, m < 4 → z.2 65 m = (rC w r n m : Int))) := by
  have hn := hw.n
  have hfull : qF w r n := ⟨hv, hF⟩
  refine Ok.w (M_worksOutG hw hp han hp2 (cnt := rC w r n) (od := od) (fun m _ => rC_30 hw hv m) (fun m k hm4 hk => ?_) (fun dn cm G' => PF w r n dn cm ∧ MT w dn cm od B W G' ∧ FrM G G' ∧ (∀ m, m < 4 → G' 65 m = (cm m : Int))) ?_ (fun dn cm G' hJ => ?_) (fun dn cm G' m j s hJ hm4 hlt he hj hs hd => ?_)) (fun z hz => ?_)
  · obtain ⟨i, a1, a2, a3⟩ := rK_of hk
    refine ⟨r i, rS r i, ?_, (hv i a1).1, (hv i a1).2⟩
    rw [← a2, ← a3]
    exact (hS i a1).1
  · exact Ok.w (M_startsPlan hw hm od B W) (fun G' h => ⟨PF0 hw hv, h.1, h.2.1, h.2.2⟩)
  · obtain ⟨h1, h2, h3, h4⟩ := hJ
    rw [h3 57 (by omega), h3 a ha]
    exact ⟨hm, h2.1, h4, fun m _ => h1.2.1 m, hO⟩
  · obtain ⟨h1, h2, h3, h4⟩ := hJ
    have hm' : MD w (G' 57) := by
      rw [h3 57 (by omega)]
      exact hm
    have hC := PF.cs hw hv hS h1
    obtain ⟨i, a1, a2, a3⟩ := rK_of (w := w) (r := r) (n := n) (m := m) (k := cm m) hlt
    have h5 := rS_lt5 hw hv a1
    have e0 : rX r i = 5 * j + s := by
      rw [← he, ← a2, ← (hS i a1).1, a3, a2]
    have hst := (hw.st hj).2
    have hrd := rX_div hw hv a1
    have ej : r i = j := by omega
    have es : rS r i = s := by omega
    have hd' : dn (r i) = rS r i := by rw [ej, es, hd]
    have hk' : rK w r i = cm (rM w r i) := by rw [a3, a2]
    obtain ⟨b1, b2, b3, b4⟩ := So.hour hw hv hS a1 hd' hk'
    obtain ⟨c1, c2, c3⟩ := M_beginOf hw hm' hC h2 hj (by omega)
    have e1 : 5 * j + dn j = rX r i := by rw [hd, e0]
    have em : qMc w (rX r i) = m := a2
    rw [e1, b2] at c1 c2 c3
    have hhr := rHr hw hv a1
    refine ⟨_, B (rX r i), c1, ?_, ?_⟩
    · rw [← e0, (hS i a1).2.1]
      unfold qAd
      by_cases h6 : (cd (rX r i) : Int) = p2
      · rw [if_pos h6, if_pos ((hlat i a1).mp h6), em]
        exact M_open hw hm' hm4 (by omega) (by omega)
      · rw [if_neg h6, if_neg (mt (hlat i a1).mpr h6)]
    · have hdo := M_does hw hm' hC h2 (j := j) hj (by omega) (hour := B (rX r i)) (by rw [e1]) (by rw [e1]; exact b3.symm) (by rw [e1]; exact b4)
      rw [e1, em] at hdo
      refine Ok.w hdo (fun G2 hG2 => ⟨?_, hG2.1, h3.tr hG2.2.1, fun m' hm' => ?_⟩)
      · have := PF.ex hw hv h1 a1 hd' hk'
        rw [ej, a2] at this
        exact this
      · rw [hG2.2.2, up1_if]
        by_cases h7 : m' = m
        · rw [if_pos h7, h7, upf_eq, h4 m hm4]
          rfl
        · rw [if_neg h7, upf_ne h7]
          exact h4 m' hm'
  · obtain ⟨dn, cm, ⟨h1, h2, h3, h4⟩, h5, h6, h7⟩ := hz
    obtain ⟨rfl, rfl⟩ := PF.all hw hv h1 (fun i hi hh => by
      have hm4 := rM_lt hw hv hi
      have hlt : cm (rM w r i) < rC w r n (rM w r i) := by
        rw [← hh.2]
        exact rK_lt hi
      refine h5 _ hm4 hlt (r i) (rS r i) ?_ (rS_lt5 hw hv hi) hh.1
      rw [← hh.2]
      exact (hS i hi).1)
    refine ⟨?_, h2, h3, h4⟩
    rw [h6]
    refine decide_eq_true ?_
    rw [rD_sum (fun i hi => (hv i hi).1)]
    exact qF_n hfull
end WO2
