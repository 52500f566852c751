/-! ===== timetables, pure ===== -/
def upf {α : Type} (f : Nat → α) (i : Nat) (x : α) : Nat → α := fun j => if j = i then x else f j
theorem upf_eq {α : Type} {f : Nat → α} {i : Nat} {x : α} : upf f i x i = x := if_pos rfl
theorem upf_ne {α : Type} {f : Nat → α} {i j : Nat} {x : α} (h : j ≠ i) : upf f i x j = f j := if_neg h
abbrev qT : Type := (Nat → Nat) × ((Nat → Nat) × ((Nat → Nat → Nat) × ((Nat → Int) × ((Nat → Int) × ((Nat → Int) × (Nat → Int))))))
abbrev tDn (σ : qT) : Nat → Nat := σ.1
abbrev tCm (σ : qT) : Nat → Nat := σ.2.1
abbrev tOd (σ : qT) : Nat → Nat → Nat := σ.2.2.1
abbrev tBg (σ : qT) : Nat → Int := σ.2.2.2.1
abbrev tWr (σ : qT) : Nat → Int := σ.2.2.2.2.1
abbrev tAh (σ : qT) : Nat → Int := σ.2.2.2.2.2.1
abbrev tBt (σ : qT) : Nat → Int := σ.2.2.2.2.2.2
def t0 : qT := (fun _ => 0, (fun _ => 0, (fun _ _ => 0, (fun _ => 0, (fun _ => 0, (fun _ => 0, fun _ => 0))))))
/-- whether the tool is changed ahead of x, behind a step at whose end it was worn wp -/
def qTl (w : wS) (wp : Int) (x : Nat) : Bool := decide (qLf w (qMc w x) ≠ 0 ∧ qLf w (qMc w x) < wp + qHr w x)
def qBw (w : wS) (p : Nat) (wp : Int) (x : Nat) : Int := qSu w (qKd w (p / 5)) (qKd w (x / 5)) + (if qTl w wp x then qCg w (qMc w x) else 0)
def qRd (w : wS) (B : Nat → Int) (x : Nat) : Int := if x % 5 = 0 then qRel w (x / 5) else B (x - 1) + qHr w (x - 1)
def qHo (w : wS) (B W : Nat → Int) (od : Nat → Nat) (k : Nat) (x : Nat) (le : Int) : Int :=
  qOpen w (qMc w x) (if k = 0 then max (qRd w B x) le else max (max (qRd w B x) le) (B (od (k - 1)) + qHr w (od (k - 1)) + qBw w (od (k - 1)) (W (od (k - 1))) x)) (qHr w x)
def qWe (w : wS) (W : Nat → Int) (od : Nat → Nat) (k : Nat) (x : Nat) : Int := if k = 0 then qHr w x else if qTl w (W (od (k - 1))) x then qHr w x else W (od (k - 1)) + qHr w x
def qx (σ : qT) (j : Nat) : Nat := 5 * j + tDn σ j
def tHo (w : wS) (σ : qT) (x : Nat) (le : Int) : Int := qHo w (tBg σ) (tWr σ) (tOd σ (qMc w x)) (tCm σ (qMc w x)) x le
def tWe (w : wS) (σ : qT) (x : Nat) : Int := qWe w (tWr σ) (tOd σ (qMc w x)) (tCm σ (qMc w x)) x
def tLa (w : wS) (σ : qT) (x : Nat) : Int := if tCm σ (qMc w x) = 0 then -1 else (tOd σ (qMc w x) (tCm σ (qMc w x) - 1) : Int)
def tBe (w : wS) (σ : qT) (x : Nat) : Int := if tCm σ (qMc w x) = 0 then 0 else qBw w (tOd σ (qMc w x) (tCm σ (qMc w x) - 1)) (tWr σ (tOd σ (qMc w x) (tCm σ (qMc w x) - 1))) x
def tPut (w : wS) (σ : qT) (j : Nat) (le : Int) : qT :=
  (upf (tDn σ) j (tDn σ j + 1), (upf (tCm σ) (qMc w (qx σ j)) (tCm σ (qMc w (qx σ j)) + 1), (upf (tOd σ) (qMc w (qx σ j)) (upf (tOd σ (qMc w (qx σ j))) (tCm σ (qMc w (qx σ j))) (qx σ j)), (upf (tBg σ) (qx σ j) (tHo w σ (qx σ j) le), (upf (tWr σ) (qx σ j) (tWe w σ (qx σ j)), (upf (tAh σ) (qx σ j) (tLa w σ (qx σ j)), upf (tBt σ) (qx σ j) (tBe w σ (qx σ j))))))))
def qS (w : wS) (D : Nat → Int) (r : Nat → Nat) (n : Nat) : qT := it (fun i σ => tPut w σ (r i) (D (qx σ (r i)))) n t0
theorem qS_succ (w : wS) (D : Nat → Int) (r : Nat → Nat) (n : Nat) : qS w D r (n + 1) = tPut w (qS w D r n) (r n) (D (qx (qS w D r n) (r n))) := rfl
/-! what a row says of its places: job r i, step rS, number rX, machine rM, place there rK -/
def rD (r : Nat → Nat) (n j : Nat) : Nat := ct (fun i => decide (r i = j)) n
def rS (r : Nat → Nat) (i : Nat) : Nat := rD r i (r i)
def rX (r : Nat → Nat) (i : Nat) : Nat := 5 * r i + rS r i
def rM (w : wS) (r : Nat → Nat) (i : Nat) : Nat := qMc w (rX r i)
def rC (w : wS) (r : Nat → Nat) (n m : Nat) : Nat := ct (fun i => decide (rM w r i = m)) n
def rK (w : wS) (r : Nat → Nat) (i : Nat) : Nat := rC w r i (rM w r i)
def qV (w : wS) (r : Nat → Nat) (n : Nat) : Prop := ∀ i, i < n → r i < qN w ∧ rS r i < qSt w (r i)
theorem qV.le {w : wS} {r : Nat → Nat} {n m : Nat} (h : qV w r n) (hm : m ≤ n) : qV w r m := fun i hi => h i (Nat.lt_of_lt_of_le hi hm)
theorem qS_dn (w : wS) (D : Nat → Int) (r : Nat → Nat) (n j : Nat) : tDn (qS w D r n) j = rD r n j := by
  induction n with
  | zero => rfl
  | succ n ih =>
    show upf (tDn (qS w D r n)) (r n) (tDn (qS w D r n) (r n) + 1) j = _
    unfold rD at ih ⊢
    rw [ct_succ]
    by_cases h : r n = j
    · subst h
      rw [upf_eq, if_pos (decide_eq_true rfl), ih]
    · rw [upf_ne (fun e => h e.symm), if_neg (by simpa using h), ih]
theorem qS_qx (w : wS) (D : Nat → Int) (r : Nat → Nat) (i : Nat) : qx (qS w D r i) (r i) = rX r i := by
  unfold qx rX rS
  rw [qS_dn]
theorem qS_cm (w : wS) (D : Nat → Int) (r : Nat → Nat) (n m : Nat) : tCm (qS w D r n) m = rC w r n m := by
  induction n with
  | zero => rfl
  | succ n ih =>
    show upf (tCm (qS w D r n)) (qMc w (qx (qS w D r n) (r n))) (tCm (qS w D r n) (qMc w (qx (qS w D r n) (r n))) + 1) m = _
    rw [qS_qx]
    unfold rC at ih ⊢
    rw [ct_succ]
    by_cases h : rM w r n = m
    · rw [if_pos (decide_eq_true h)]
      unfold rM at h
      rw [h, upf_eq, ih]
    · rw [if_neg (by simpa using h), upf_ne (i := qMc w (rX r n)) (fun e => h e.symm), ih]
section RX
variable {w : wS} {r : Nat → Nat} {n : Nat}
theorem rS_lt5 (hw : Wok w) (hv : qV w r n) {i : Nat} (hi : i < n) : rS r i < 5 := by
  have h1 := hv i hi
  have h2 := (hw.st h1.1).2
  omega
theorem rX_inj (hw : Wok w) (hv : qV w r n) {a b : Nat} (ha : a < n) (hb : b < n) (h : rX r a = rX r b) : a = b := by
  have h1 := rS_lt5 hw hv ha
  have h2 := rS_lt5 hw hv hb
  unfold rX at h
  have h3 : r a = r b := by omega
  have h4 : rS r a = rS r b := by omega
  unfold rS rD at h4
  rw [← h3] at h4
  exact ct_inj (fun i => decide (r i = r a)) (decide_eq_true rfl) (decide_eq_true h3.symm) h4
theorem rX_div (hw : Wok w) (hv : qV w r n) {i : Nat} (hi : i < n) : rX r i / 5 = r i ∧ rX r i % 5 = rS r i := by
  have h1 := rS_lt5 hw hv hi
  unfold rX
  omega
/-- the place of a job's step -/
theorem rX_of {j s : Nat} (h : s < rD r n j) : ∃ i, i < n ∧ r i = j ∧ rS r i = s ∧ rX r i = 5 * j + s := by
  obtain ⟨i, h1, h2, h3⟩ := ct_inv (fun i => decide (r i = j)) h
  have h2 := of_decide_eq_true h2
  refine ⟨i, h1, h2, ?_, ?_⟩
  · unfold rS rD
    rw [h2]
    exact h3
  · unfold rX rS rD
    rw [h2, h3]
theorem rX_lt {i : Nat} (hi : i < n) : rS r i < rD r n (r i) := ct_lt _ hi (decide_eq_true rfl)
theorem rK_lt {i : Nat} (hi : i < n) : rK w r i < rC w r n (rM w r i) := ct_lt _ hi (decide_eq_true rfl)
theorem rK_of {m k : Nat} (h : k < rC w r n m) : ∃ i, i < n ∧ rM w r i = m ∧ rK w r i = k := by
  obtain ⟨i, h1, h2, h3⟩ := ct_inv (fun i => decide (rM w r i = m)) h
  have h2 := of_decide_eq_true h2
  refine ⟨i, h1, h2, ?_⟩
  unfold rK rC
  rw [h2]
  exact h3
theorem rK_inj {a b : Nat} (h1 : rM w r a = rM w r b) (h2 : rK w r a = rK w r b) : a = b := by
  unfold rK rC at h2
  rw [← h1] at h2
  exact ct_inj (fun i => decide (rM w r i = rM w r a)) (decide_eq_true rfl) (decide_eq_true h1.symm) h2
theorem rS_inj {a b : Nat} (h1 : r a = r b) (h2 : rS r a = rS r b) : a = b := by
  unfold rS rD at h2
  rw [← h1] at h2
  exact ct_inj (fun i => decide (r i = r a)) (decide_eq_true rfl) (decide_eq_true h1.symm) h2
theorem rK_mono {a b : Nat} (h1 : rM w r a = rM w r b) (h : a < b) : rK w r a < rK w r b := by
  have := rK_lt (w := w) (r := r) h
  unfold rK at this ⊢
  rw [← h1]
  exact this
theorem rS_mono {a b : Nat} (h1 : r a = r b) (h : a < b) : rS r a < rS r b := by
  have := rX_lt (r := r) h
  unfold rS at this ⊢
  rw [h1] at this ⊢
  exact this
theorem rD_le (hv : qV w r n) {j : Nat} (hj : j < qN w) : rD r n j ≤ qSt w j := by
  by_cases h0 : rD r n j = 0
  · omega
  · obtain ⟨i, h1, h2, h3, -⟩ := rX_of (show rD r n j - 1 < rD r n j by omega)
    have := (hv i h1).2
    rw [h2] at this
    omega
theorem rD_out (hv : qV w r n) {j : Nat} (hj : qN w ≤ j) : rD r n j = 0 := by
  refine Classical.byContradiction fun h0 => ?_
  obtain ⟨i, h1, h2, -⟩ := rX_of (show 0 < rD r n j by omega)
  have := (hv i h1).1
  omega
theorem rD_sum {N : Nat} : (∀ i, i < n → r i < N) → sm (fun j => (rD r n j : Int)) N = n := by
  induction n with
  | zero =>
    intro _
    have := sm_bd (f := fun j => (rD r 0 j : Int)) (a := 0) (b := 0) (n := N) (fun i _ => ⟨by show (0:Int) ≤ (0 : Nat); omega, by show ((0 : Nat) : Int) ≤ 0; omega⟩)
    omega
  | succ n ih =>
    intro h
    have h1 := ih (fun i hi => h i (by omega))
    have key : ∀ N', sm (fun j => (rD r (n + 1) j : Int)) N' = sm (fun j => (rD r n j : Int)) N' + (if r n < N' then 1 else 0) := by
      intro N'
      induction N' with
      | zero => rfl
      | succ N' ih2 =>
        rw [sm_succ, sm_succ, ih2]
        have h3 : (rD r (n + 1) N' : Int) = rD r n N' + (if r n = N' then 1 else 0) := by
          unfold rD
          rw [ct_succ]
          by_cases h4 : r n = N'
          · rw [if_pos (decide_eq_true h4), if_pos h4]
            omega
          · rw [if_neg (by simpa using h4), if_neg h4]
            omega
        rw [h3]
        split <;> split <;> split <;> omega
    rw [key N, h1, if_pos (h n (Nat.lt_succ_self n))]
    omega
def qTot (w : wS) : Int := sm (fun j => (qSt w j : Int)) (qN w)
theorem sm_le {f g : Nat → Int} : ∀ {n : Nat}, (∀ i, i < n → f i ≤ g i) → sm f n ≤ sm g n
  | 0, _ => Int.le_refl _
  | n + 1, h => by
    have h1 := sm_le (n := n) (fun i hi => h i (by omega))
    have h2 := h n (by omega)
    rw [sm_succ, sm_succ]
    omega
theorem qTot_le (hw : Wok w) : 0 ≤ qTot w ∧ qTot w ≤ 30 := by
  have h1 := sm_bd (f := fun j => (qSt w j : Int)) (a := 0) (b := 5) (n := qN w) (fun i hi => by have := (hw.st hi).2; omega)
  have h2 := hw.n
  unfold qTot
  omega
theorem qV_tot (hw : Wok w) (hv : qV w r n) : (n : Int) ≤ qTot w := by
  rw [← rD_sum (r := r) (n := n) (N := qN w) (fun i hi => (hv i hi).1)]
  exact sm_le (fun j hj => by have := rD_le hv hj; omega)
theorem qV_30 (hw : Wok w) (hv : qV w r n) : n ≤ 30 := by
  have h1 := qV_tot hw hv
  have h2 := qTot_le hw
  omega
/-- all steps are in the row -/
def qF (w : wS) (r : Nat → Nat) (n : Nat) : Prop := qV w r n ∧ ∀ j, j < qN w → rD r n j = qSt w j
theorem sm_eqlt {f g : Nat → Int} : ∀ {n : Nat}, (∀ i, i < n → f i ≤ g i) → sm f n = sm g n → ∀ i, i < n → f i = g i
  | 0, _, _, i, hi => absurd hi (Nat.not_lt_zero _)
  | n + 1, h, h1, i, hi => by
    have h2 := sm_le (n := n) (fun i hi => h i (by omega))
    have h3 := h n (by omega)
    rw [sm_succ, sm_succ] at h1
    by_cases hin : i = n
    · rw [hin]
      omega
    · exact sm_eqlt (n := n) (fun i hi => h i (by omega)) (by omega) i (by omega)
theorem qF_of (hv : qV w r n) (hn : (n : Int) = qTot w) : qF w r n := by
  refine ⟨hv, fun j hj => ?_⟩
  have h1 := rD_sum (r := r) (n := n) (N := qN w) (fun i hi => (hv i hi).1)
  have h2 := sm_eqlt (f := fun j => (rD r n j : Int)) (g := fun j => (qSt w j : Int)) (fun j hj => by have := rD_le hv hj; omega) (h1.trans hn) j hj
  omega
theorem qF_n (h : qF w r n) : (n : Int) = qTot w := by
  rw [← rD_sum (r := r) (n := n) (N := qN w) (fun i hi => (h.1 i hi).1)]
  exact sm_cong (fun j hj => by rw [h.2 j hj])
/-- a job has a step left -/
theorem qV.succ (hv : qV w r n) (h1 : r n < qN w) (h2 : rD r n (r n) < qSt w (r n)) : qV w r (n + 1) := by
  intro i hi
  by_cases h : i = n
  · subst h
    exact ⟨h1, h2⟩
  · exact hv i (by omega)
/-! what stands, stands -/
variable {D : Nat → Int}
theorem qS_keep (hw : Wok w) {i : Nat} : ∀ {n : Nat}, qV w r n → i < n →
    tBg (qS w D r n) (rX r i) = tHo w (qS w D r i) (rX r i) (D (rX r i)) ∧ tWr (qS w D r n) (rX r i) = tWe w (qS w D r i) (rX r i) ∧ tAh (qS w D r n) (rX r i) = tLa w (qS w D r i) (rX r i) ∧ tBt (qS w D r n) (rX r i) = tBe w (qS w D r i) (rX r i) ∧ tOd (qS w D r n) (rM w r i) (rK w r i) = rX r i
  | 0, _, hi => absurd hi (Nat.not_lt_zero _)
  | n + 1, hv, hi => by
    rw [qS_succ]
    unfold tPut
    rw [qS_qx]
    by_cases h : i = n
    · subst h
      refine ⟨upf_eq, upf_eq, upf_eq, upf_eq, ?_⟩
      show upf (tOd (qS w D r i)) (rM w r i) (upf _ (tCm (qS w D r i) (rM w r i)) (rX r i)) (rM w r i) (rK w r i) = rX r i
      rw [upf_eq, qS_cm]
      exact upf_eq
    · have hx : rX r i ≠ rX r n := fun e => h (rX_inj hw hv (by omega) (by omega) e)
      obtain ⟨a1, a2, a3, a4, a5⟩ := qS_keep hw (i := i) (n := n) (hv.le (by omega)) (by omega)
      refine ⟨(upf_ne hx).trans a1, (upf_ne hx).trans a2, (upf_ne hx).trans a3, (upf_ne hx).trans a4, ?_⟩
      show upf (tOd (qS w D r n)) (rM w r n) (upf _ (tCm (qS w D r n) (rM w r n)) (rX r n)) (rM w r i) (rK w r i) = rX r i
      by_cases hm : rM w r i = rM w r n
      · have hk : rK w r i ≠ rC w r n (rM w r n) := fun e => h (rK_inj hm e)
        rw [hm, upf_eq, qS_cm, upf_ne hk]
        rw [hm] at a5
        exact a5
      · rw [upf_ne hm]
        exact a5
theorem qS_bg (hw : Wok w) (hv : qV w r n) {i a : Nat} (hi : i < a) (ha : a ≤ n) : tBg (qS w D r a) (rX r i) = tBg (qS w D r n) (rX r i) := (qS_keep hw (hv.le ha) hi).1.trans (qS_keep hw hv (by omega)).1.symm
theorem qS_wr (hw : Wok w) (hv : qV w r n) {i a : Nat} (hi : i < a) (ha : a ≤ n) : tWr (qS w D r a) (rX r i) = tWr (qS w D r n) (rX r i) := (qS_keep hw (hv.le ha) hi).2.1.trans (qS_keep hw hv (by omega)).2.1.symm
theorem qS_od (hw : Wok w) (hv : qV w r n) {i : Nat} (hi : i < n) : tOd (qS w D r n) (rM w r i) (rK w r i) = rX r i := (qS_keep hw hv hi).2.2.2.2
theorem qHo_cong {B B' W W' : Nat → Int} {od od' : Nat → Nat} {k x : Nat} {le : Int} (h1 : x % 5 ≠ 0 → B (x - 1) = B' (x - 1)) (h2 : k ≠ 0 → od (k - 1) = od' (k - 1) ∧ B (od' (k - 1)) = B' (od' (k - 1)) ∧ W (od' (k - 1)) = W' (od' (k - 1))) : qHo w B W od k x le = qHo w B' W' od' k x le := by
  have e1 : qRd w B x = qRd w B' x := by
    unfold qRd
    split
    · rfl
    · next h => rw [h1 h]
  unfold qHo
  rw [e1]
  by_cases hk : k = 0
  · rw [if_pos hk, if_pos hk]
  · obtain ⟨a1, a2, a3⟩ := h2 hk
    rw [if_neg hk, if_neg hk, a1, a2, a3]
/-- the step ahead in the job, ahead on the machine -/
theorem rX_pre (hw : Wok w) (hv : qV w r n) {i : Nat} (hi : i < n) (h : rX r i % 5 ≠ 0) : ∃ i', i' < i ∧ r i' = r i ∧ rS r i' + 1 = rS r i ∧ rX r i' = rX r i - 1 := by
  have h1 := rX_div hw hv hi
  obtain ⟨i', a1, a2, a3, a4⟩ := rX_of (r := r) (n := i) (j := r i) (s := rS r i - 1) (by
    have h2 : rS r i = rD r i (r i) := rfl
    omega)
  refine ⟨i', a1, a2, by omega, ?_⟩
  rw [a4]
  unfold rX
  omega
theorem rK_pre {i : Nat} (h : rK w r i ≠ 0) : ∃ i', i' < i ∧ rM w r i' = rM w r i ∧ rK w r i' + 1 = rK w r i := by
  obtain ⟨i', a1, a2, a3⟩ := rK_of (w := w) (r := r) (n := i) (m := rM w r i) (k := rK w r i - 1) (by
    have h2 : rK w r i = rC w r i (rM w r i) := rfl
    omega)
  exact ⟨i', a1, a2, by omega⟩
/-- begins as the rules say, told of the whole timetable -/
theorem qS_eqB (hw : Wok w) (hv : qV w r n) {i : Nat} (hi : i < n) : tBg (qS w D r n) (rX r i) = qHo w (tBg (qS w D r n)) (tWr (qS w D r n)) (tOd (qS w D r n) (rM w r i)) (rK w r i) (rX r i) (D (rX r i)) := by
  rw [(qS_keep hw hv hi).1]
  unfold tHo
  rw [qS_cm]
  refine qHo_cong (fun h => ?_) (fun h => ?_)
  · obtain ⟨i', a1, a2, a3, a4⟩ := rX_pre hw hv hi h
    rw [← a4]
    exact qS_bg hw hv a1 (by omega)
  · obtain ⟨i', a1, a2, a3⟩ := rK_pre h
    have e1 : rC w r i (qMc w (rX r i)) - 1 = rK w r i' := by
      have : rK w r i = rC w r i (qMc w (rX r i)) := rfl
      omega
    have e3 : rK w r i - 1 = rK w r i' := by omega
    have e2 : qMc w (rX r i) = rM w r i' := a2.symm
    have e4 : tOd (qS w D r i) (rM w r i') (rK w r i') = rX r i' := qS_od hw (hv.le (by omega)) a1
    have e5 : tOd (qS w D r n) (rM w r i') (rK w r i') = rX r i' := qS_od hw hv (by omega)
    rw [show rC w r i (qMc w (rX r i)) - 1 = rK w r i' from e1, e2, e4, ← a2, e5]
    exact ⟨rfl, qS_bg hw hv a1 (by omega), qS_wr hw hv a1 (by omega)⟩
theorem qS_eqW (hw : Wok w) (hv : qV w r n) {i : Nat} (hi : i < n) : tWr (qS w D r n) (rX r i) = qWe w (tWr (qS w D r n)) (tOd (qS w D r n) (rM w r i)) (rK w r i) (rX r i) := by
  rw [(qS_keep hw hv hi).2.1]
  unfold tWe qWe
  rw [qS_cm]
  by_cases h : rK w r i = 0
  · rw [if_pos (show rC w r i (qMc w (rX r i)) = 0 from h), if_pos h]
  · rw [if_neg (show ¬ rC w r i (qMc w (rX r i)) = 0 from h), if_neg h]
    obtain ⟨i', a1, a2, a3⟩ := rK_pre h
    have e1 : rC w r i (qMc w (rX r i)) - 1 = rK w r i' := by
      have : rK w r i = rC w r i (qMc w (rX r i)) := rfl
      omega
    have e2 : qMc w (rX r i) = rM w r i' := a2.symm
    have e4 : tOd (qS w D r i) (rM w r i') (rK w r i') = rX r i' := qS_od hw (hv.le (by omega)) a1
    have e5 : tOd (qS w D r n) (rM w r i') (rK w r i') = rX r i' := qS_od hw hv (by omega)
    rw [show rC w r i (qMc w (rX r i)) - 1 = rK w r i' from e1, e2, e4, ← a2, show rK w r i - 1 = rK w r i' by omega, e5, qS_wr hw hv a1 (by omega)]
end RX
