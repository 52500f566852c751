/-! ===== a timetable breaks no rule ===== -/
section ER
variable {w : wS} {r : Nat → Nat} {n : Nat}
/-- no two steps on a machine in one hour -/
theorem er_m (hw : Wok w) (hv : qV w r n) {i i' : Nat} {h : Int} (hi : i < n) (hi' : i' < n) (hm : rM w r i = rM w r i') (h1 : tBg (qS w D0 r n) (rX r i) ≤ h ∧ h < tBg (qS w D0 r n) (rX r i) + qHr w (rX r i)) (h2 : tBg (qS w D0 r n) (rX r i') ≤ h ∧ h < tBg (qS w D0 r n) (rX r i') + qHr w (rX r i')) : i = i' := by
  have : i < i' ∨ i = i' ∨ i' < i := by omega
  rcases this with g | g | g
  · have := qS_seq (D := D0) hw hv i' hi' i g hm
    omega
  · exact g
  · have := qS_seq (D := D0) hw hv i hi i' g hm.symm
    omega
/-- a job's steps follow each other -/
theorem er_seq (hw : Wok w) (hv : qV w r n) : ∀ b, b < n → ∀ a, a < b → r a = r b → tBg (qS w D0 r n) (rX r a) + qHr w (rX r a) ≤ tBg (qS w D0 r n) (rX r b) := by
  intro b
  induction b using Nat.strongRecOn with
  | ind b ih =>
    intro hb a hab hj
    have h1 := rS_mono hj hab
    have hd := rX_div hw hv hb
    have h5 := rS_lt5 hw hv hb
    obtain ⟨i, q1, q2, q3, q4⟩ := rX_pre hw hv hb (by omega)
    have e := qS_eqB (D := D0) hw hv hb
    have h4 : tBg (qS w D0 r n) (rX r i) + qHr w (rX r i) ≤ tBg (qS w D0 r n) (rX r b) := by
      rw [e, q4]
      refine Int.le_trans (Int.le_of_eq ?_) qHo_ge
      unfold qRd
      rw [if_neg (by omega)]
    by_cases hai : a = i
    · rw [hai]
      exact h4
    · have h6 : a < i := by
        by_cases g : a < i
        · exact g
        · have := rS_mono (r := r) (a := i) (b := a) (by omega) (by omega)
          omega
      have h7 := ih i q1 (by omega) a h6 (by omega)
      have h8 := rHr hw hv (i := i) (by omega)
      omega
theorem er_j (hw : Wok w) (hv : qV w r n) {i i' : Nat} {h : Int} (hi : i < n) (hi' : i' < n) (hj : r i = r i') (h1 : tBg (qS w D0 r n) (rX r i) ≤ h ∧ h < tBg (qS w D0 r n) (rX r i) + qHr w (rX r i)) (h2 : tBg (qS w D0 r n) (rX r i') ≤ h ∧ h < tBg (qS w D0 r n) (rX r i') + qHr w (rX r i')) : i = i' := by
  have : i < i' ∨ i = i' ∨ i' < i := by omega
  rcases this with g | g | g
  · have := er_seq hw hv i' hi' i g hj
    omega
  · exact g
  · have := er_seq hw hv i hi i' g hj.symm
    omega
/-- no step in a closed hour -/
theorem er_c (hw : Wok w) (hv : qV w r n) {i c : Nat} {h : Int} (hi : i < n) (hc : c < qCn w (rM w r i)) (h1 : tBg (qS w D0 r n) (rX r i) ≤ h ∧ h < tBg (qS w D0 r n) (rX r i) + qHr w (rX r i)) : ¬ (qCf w (4 * rM w r i + c) ≤ h ∧ h < qCt w (4 * rM w r i + c)) := by
  have hfree : qFree w (qMc w (rX r i)) (qHr w (rX r i)) (tBg (qS w D0 r n) (rX r i)) := by
    rw [qS_eqB hw hv hi]
    unfold qHo
    exact qOpen_free _ _ _ _
  have := hfree c hc
  have e : qMc w (rX r i) = rM w r i := rfl
  rw [e] at this
  omega
end ER
