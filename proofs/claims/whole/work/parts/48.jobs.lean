/-! ===== new jobs, new steps, hours: the shop's rows and the model's cells ===== -/
def wJ (w : wS) (rel du wt kd : Int) : wS := up2 (up2 (up2 (up2 (up2 (up2 w 2 (qN w) rel) 3 (qN w) du) 4 (qN w) wt) 5 (qN w) kd) 6 (qN w) 0) 1 0 ((qN w : Int) + 1)
def wSt (w : wS) (j : Nat) (m h : Int) : wS := up2 (up2 (up2 w 7 (5 * j + qSt w j) m) 8 (5 * j + qSt w j) h) 6 j ((qSt w j : Int) + 1)
def wHr (w : wS) (j s : Nat) (v : Int) : wS := up2 w 8 (5 * j + s) v
section WJ
variable {w : wS} {rel du wt kd : Int}
theorem wJ_N : qN (wJ w rel du wt kd) = qN w + 1 := by
  unfold wJ
  show (up2 _ 1 0 ((qN w : Int) + 1) 1 0).toNat = _
  rw [up2_eq, up1_eq]
  omega
theorem wJ_ne {b : Nat} (h : b = 0 ∨ 7 ≤ b) : wJ w rel du wt kd b = w b := by
  unfold wJ
  rw [up2_ne (by omega), up2_ne (by omega), up2_ne (by omega), up2_ne (by omega), up2_ne (by omega), up2_ne (by omega)]
theorem wJ_15 : wJ w rel du wt kd 1 15 = w 1 15 := by
  unfold wJ
  rw [up2_eq, up1_ne (by omega), up2_ne (by omega), up2_ne (by omega), up2_ne (by omega), up2_ne (by omega), up2_ne (by omega)]
theorem wJ_2 {j : Nat} : wJ w rel du wt kd 2 j = (if j = qN w then rel else w 2 j) ∧ wJ w rel du wt kd 3 j = (if j = qN w then du else w 3 j) ∧ wJ w rel du wt kd 4 j = (if j = qN w then wt else w 4 j) ∧ wJ w rel du wt kd 5 j = (if j = qN w then kd else w 5 j) ∧ wJ w rel du wt kd 6 j = (if j = qN w then 0 else w 6 j) := by
  unfold wJ
  refine ⟨?_, ?_, ?_, ?_, ?_⟩
  · rw [up2_ne (by omega), up2_ne (by omega), up2_ne (by omega), up2_ne (by omega), up2_ne (by omega), up2_eq, up1_if]
  · rw [up2_ne (by omega), up2_ne (by omega), up2_ne (by omega), up2_ne (by omega), up2_eq, up1_if, up2_ne (by omega)]
  · rw [up2_ne (by omega), up2_ne (by omega), up2_ne (by omega), up2_eq, up1_if, up2_ne (by omega), up2_ne (by omega)]
  · rw [up2_ne (by omega), up2_ne (by omega), up2_eq, up1_if, up2_ne (by omega), up2_ne (by omega), up2_ne (by omega)]
  · rw [up2_ne (by omega), up2_eq, up1_if, up2_ne (by omega), up2_ne (by omega), up2_ne (by omega), up2_ne (by omega)]
theorem wJ_st (j : Nat) : qSt (wJ w rel du wt kd) j = if j = qN w then 0 else qSt w j := by
  unfold qSt
  rw [wJ_2.2.2.2.2]
  split <;> rfl
theorem wJ_cn (m : Nat) : qCn (wJ w rel du wt kd) m = qCn w m := by
  unfold qCn
  rw [wJ_ne (by omega)]
theorem wJ_ok (hw : Wok w) (h6 : qN w < 6) (h2 : 0 ≤ rel ∧ rel ≤ 200) (h3 : 0 ≤ du ∧ du ≤ 1000) (h4 : 1 ≤ wt ∧ wt ≤ 9) (h5 : 0 ≤ kd ∧ kd < 4) : Wok (wJ w rel du wt kd) := by
  have hn := hw.n
  obtain ⟨a1, a2, a3, a4, a5, a6, a7, a8, a9⟩ := hw
  refine ⟨?_, fun j hj => ?_, fun j s hj hs => ?_, fun m hm => ?_, fun m c hm hc => ?_, fun i hi => ?_, fun u hu => ?_, ?_, ?_⟩
  · have : wJ w rel du wt kd 1 0 = (qN w : Int) + 1 := by
      unfold wJ
      rw [up2_eq, up1_eq]
    rw [this]
    omega
  · rw [wJ_N] at hj
    obtain ⟨e2, e3, e4, e5, e6⟩ := wJ_2 (w := w) (rel := rel) (du := du) (wt := wt) (kd := kd) (j := j)
    rw [e2, e3, e4, e5, e6]
    by_cases h : j = qN w
    · rw [if_pos h, if_pos h, if_pos h, if_pos h, if_pos h]
      omega
    · rw [if_neg h, if_neg h, if_neg h, if_neg h, if_neg h]
      exact a2 j (by omega)
  · rw [wJ_N] at hj
    rw [wJ_st] at hs
    rw [wJ_ne (by omega), wJ_ne (by omega)]
    by_cases h : j = qN w
    · rw [if_pos h] at hs
      omega
    · rw [if_neg h] at hs
      exact a3 j s (by omega) hs
  · rw [wJ_ne (by omega), wJ_ne (by omega), wJ_ne (by omega)]
    exact a4 m hm
  · rw [wJ_cn] at hc
    rw [wJ_ne (by omega), wJ_ne (by omega)]
    exact a5 m c hm hc
  · rw [wJ_ne (by omega)]
    exact a6 i hi
  · rw [wJ_ne (by omega)]
    exact a7 u hu
  · rw [wJ_15]
    exact a8
  · rw [wJ_st, if_neg (by omega)]
    exact a9
theorem wJ_md (hw : Wok w) (h6 : qN w < 6) {f f' : Nat → Int} (hf : MD w f) (h0 : f' 0 = (qN w : Int) + 1) (hn : f' (61 + 15 * qN w) = rel ∧ f' (61 + 15 * qN w + 1) = du ∧ f' (61 + 15 * qN w + 2) = wt ∧ f' (61 + 15 * qN w + 3) = kd ∧ f' (61 + 15 * qN w + 4) = 0) (he : ∀ k, k ≠ 0 → ¬ (61 + 15 * qN w ≤ k ∧ k < 61 + 15 * qN w + 15) → f' k = f k) : MD (wJ w rel du wt kd) f' := by
  have hnn := hw.n
  obtain ⟨a1, a2, a3, a4, a5, a6, a7⟩ := hf
  refine ⟨?_, fun m hm => ?_, fun m c hm hc => ?_, fun i hi => ?_, fun j hj => ?_, fun j s hj hs => ?_, fun u hu => ?_⟩
  · rw [h0]
    unfold wJ
    rw [up2_eq, up1_eq]
  · rw [wJ_ne (by omega), wJ_ne (by omega), wJ_ne (by omega), he _ (by omega) (by omega), he _ (by omega) (by omega), he _ (by omega) (by omega)]
    exact a2 m hm
  · rw [wJ_cn] at hc
    have := (hw.cn hm).2
    rw [wJ_ne (by omega), wJ_ne (by omega), he _ (by omega) (by omega), he _ (by omega) (by omega)]
    exact a3 m c hm hc
  · rw [wJ_ne (by omega), he _ (by omega) (by omega)]
    exact a4 i hi
  · rw [wJ_N] at hj
    obtain ⟨e2, e3, e4, e5, e6⟩ := wJ_2 (w := w) (rel := rel) (du := du) (wt := wt) (kd := kd) (j := j)
    rw [e2, e3, e4, e5, e6]
    by_cases h : j = qN w
    · rw [if_pos h, if_pos h, if_pos h, if_pos h, if_pos h, h]
      exact hn
    · rw [if_neg h, if_neg h, if_neg h, if_neg h, if_neg h, he _ (by omega) (by omega), he _ (by omega) (by omega), he _ (by omega) (by omega), he _ (by omega) (by omega), he _ (by omega) (by omega)]
      exact a5 j (by omega)
  · rw [wJ_N] at hj
    rw [wJ_st] at hs
    by_cases h : j = qN w
    · rw [if_pos h] at hs
      omega
    · rw [if_neg h] at hs
      have := (hw.st (show j < qN w by omega)).2
      rw [wJ_ne (by omega), wJ_ne (by omega), he _ (by omega) (by omega), he _ (by omega) (by omega)]
      exact a6 j s (by omega) hs
  · rw [wJ_ne (by omega), he _ (by omega) (by omega)]
    exact a7 u hu
end WJ
section WS
variable {w : wS} {j0 : Nat} {m0 h0 : Int}
theorem wSt_ne {b : Nat} (h : b ≠ 6 ∧ b ≠ 7 ∧ b ≠ 8) : wSt w j0 m0 h0 b = w b := by
  unfold wSt
  rw [up2_ne h.1, up2_ne h.2.2, up2_ne h.2.1]
theorem wSt_c {i : Nat} : wSt w j0 m0 h0 7 i = (if i = 5 * j0 + qSt w j0 then m0 else w 7 i) ∧ wSt w j0 m0 h0 8 i = (if i = 5 * j0 + qSt w j0 then h0 else w 8 i) ∧ wSt w j0 m0 h0 6 i = (if i = j0 then (qSt w j0 : Int) + 1 else w 6 i) := by
  unfold wSt
  refine ⟨?_, ?_, ?_⟩
  · rw [up2_ne (by omega), up2_ne (by omega), up2_eq, up1_if]
  · rw [up2_ne (by omega), up2_eq, up1_if, up2_ne (by omega)]
  · rw [up2_eq, up1_if, up2_ne (by omega), up2_ne (by omega)]
theorem wSt_st (j : Nat) : qSt (wSt w j0 m0 h0) j = if j = j0 then qSt w j0 + 1 else qSt w j := by
  unfold qSt
  rw [wSt_c.2.2]
  split
  · unfold qSt
    omega
  · rfl
theorem wSt_N : qN (wSt w j0 m0 h0) = qN w := qN_w (by rw [wSt_ne (by omega)])
theorem wSt_ok (hw : Wok w) (hj0 : j0 < qN w) (h5 : qSt w j0 < 5) (hm : 0 ≤ m0 ∧ m0 < 4) (hh : 1 ≤ h0 ∧ h0 ≤ 50) : Wok (wSt w j0 m0 h0) := by
  have hst := fun j (hj : j < qN w) => hw.st hj
  obtain ⟨a1, a2, a3, a4, a5, a6, a7, a8, a9⟩ := hw
  have eC : ∀ m, qCn (wSt w j0 m0 h0) m = qCn w m := fun m => by
    unfold qCn
    rw [wSt_ne (by omega)]
  refine ⟨?_, fun j hj => ?_, fun j s hj hs => ?_, fun m hm => ?_, fun m c hm hc => ?_, fun i hi => ?_, fun u hu => ?_, ?_, ?_⟩
  · rw [wSt_ne (by omega)]
    exact a1
  · rw [wSt_N] at hj
    rw [wSt_ne (by omega), wSt_ne (by omega), wSt_ne (by omega), wSt_ne (by omega), wSt_c.2.2]
    have := a2 j hj
    refine ⟨this.1, this.2.1, this.2.2.1, this.2.2.2.1, ?_⟩
    split <;> omega
  · rw [wSt_N] at hj
    rw [wSt_st] at hs
    rw [wSt_c.1, wSt_c.2.1]
    have h6 := (hst j hj).2
    by_cases h : j = j0
    · rw [if_pos h] at hs
      subst h
      by_cases h2 : s = qSt w j
      · rw [if_pos (by omega), if_pos (by omega)]
        exact ⟨hm, hh⟩
      · rw [if_neg (by omega), if_neg (by omega)]
        exact a3 j s hj (by omega)
    · rw [if_neg h] at hs
      rw [if_neg (by omega), if_neg (by omega)]
      exact a3 j s hj hs
  · rw [wSt_ne (by omega), wSt_ne (by omega), wSt_ne (by omega)]
    exact a4 m hm
  · rw [eC] at hc
    rw [wSt_ne (by omega), wSt_ne (by omega)]
    exact a5 m c hm hc
  · rw [wSt_ne (by omega)]
    exact a6 i hi
  · rw [wSt_ne (by omega)]
    exact a7 u hu
  · rw [wSt_ne (by omega)]
    exact a8
  · rw [wSt_st]
    split <;> omega
theorem wSt_md (hw : Wok w) (hj0 : j0 < qN w) (h5 : qSt w j0 < 5) {f f' : Nat → Int} (hf : MD w f) (hn : f' (61 + 15 * j0 + (5 + 2 * qSt w j0)) = m0 ∧ f' (61 + 15 * j0 + (5 + 2 * qSt w j0 + 1)) = h0 ∧ f' (61 + 15 * j0 + 4) = (qSt w j0 : Int) + 1) (he : ∀ k, k ≠ 61 + 15 * j0 + (5 + 2 * qSt w j0) → k ≠ 61 + 15 * j0 + (5 + 2 * qSt w j0 + 1) → k ≠ 61 + 15 * j0 + 4 → f' k = f k) : MD (wSt w j0 m0 h0) f' := by
  have hnn := hw.n
  have eC : ∀ m, qCn (wSt w j0 m0 h0) m = qCn w m := fun m => by
    unfold qCn
    rw [wSt_ne (by omega)]
  obtain ⟨a1, a2, a3, a4, a5, a6, a7⟩ := hf
  refine ⟨?_, fun m hm => ?_, fun m c hm hc => ?_, fun i hi => ?_, fun j hj => ?_, fun j s hj hs => ?_, fun u hu => ?_⟩
  · rw [he _ (by omega) (by omega) (by omega), wSt_ne (by omega)]
    exact a1
  · rw [wSt_ne (by omega), wSt_ne (by omega), wSt_ne (by omega), he _ (by omega) (by omega) (by omega), he _ (by omega) (by omega) (by omega), he _ (by omega) (by omega) (by omega)]
    exact a2 m hm
  · rw [eC] at hc
    have := (hw.cn hm).2
    rw [wSt_ne (by omega), wSt_ne (by omega), he _ (by omega) (by omega) (by omega), he _ (by omega) (by omega) (by omega)]
    exact a3 m c hm hc
  · rw [wSt_ne (by omega), he _ (by omega) (by omega) (by omega)]
    exact a4 i hi
  · rw [wSt_N] at hj
    rw [wSt_ne (by omega), wSt_ne (by omega), wSt_ne (by omega), wSt_ne (by omega), wSt_c.2.2, he _ (by omega) (by omega) (by omega), he _ (by omega) (by omega) (by omega), he _ (by omega) (by omega) (by omega), he _ (by omega) (by omega) (by omega)]
    have := a5 j hj
    refine ⟨this.1, this.2.1, this.2.2.1, this.2.2.2.1, ?_⟩
    by_cases h : j = j0
    · rw [if_pos h, h]
      exact hn.2.2
    · rw [if_neg h, he _ (by omega) (by omega) (by omega)]
      exact this.2.2.2.2
  · rw [wSt_N] at hj
    rw [wSt_st] at hs
    rw [wSt_c.1, wSt_c.2.1]
    have h6 := (hw.st hj).2
    by_cases h : j = j0
    · rw [if_pos h] at hs
      subst h
      by_cases h2 : s = qSt w j
      · rw [if_pos (by omega), if_pos (by omega), h2]
        exact ⟨hn.1, hn.2.1⟩
      · rw [if_neg (by omega), if_neg (by omega), he _ (by omega) (by omega) (by omega), he _ (by omega) (by omega) (by omega)]
        exact a6 j s hj (by omega)
    · rw [if_neg h] at hs
      rw [if_neg (by omega), if_neg (by omega), he _ (by omega) (by omega) (by omega), he _ (by omega) (by omega) (by omega)]
      exact a6 j s hj hs
  · rw [wSt_ne (by omega), he _ (by omega) (by omega) (by omega)]
    exact a7 u hu
end WS
section WH
variable {w : wS} {j0 s0 : Nat} {v : Int}
theorem wHr_ne {b : Nat} (h : b ≠ 8) : wHr w j0 s0 v b = w b := up2_ne h
theorem wHr_c {i : Nat} : wHr w j0 s0 v 8 i = if i = 5 * j0 + s0 then v else w 8 i := by
  unfold wHr
  rw [up2_eq, up1_if]
theorem wHr_ok (hw : Wok w) (hh : 1 ≤ v ∧ v ≤ 50) : Wok (wHr w j0 s0 v) := by
  obtain ⟨a1, a2, a3, a4, a5, a6, a7, a8, a9⟩ := hw
  have e : ∀ b, b ≠ 8 → wHr w j0 s0 v b = w b := fun b hb => wHr_ne hb
  have eN : qN (wHr w j0 s0 v) = qN w := qN_w (by rw [e 1 (by omega)])
  have eS : qSt (wHr w j0 s0 v) = qSt w := qSt_w (e 6 (by omega))
  have eC : ∀ m, qCn (wHr w j0 s0 v) m = qCn w m := fun m => by
    unfold qCn
    rw [e 9 (by omega)]
  refine ⟨?_, fun j hj => ?_, fun j s hj hs => ?_, fun m hm => ?_, fun m c hm hc => ?_, fun i hi => ?_, fun u hu => ?_, ?_, ?_⟩
  · rw [e 1 (by omega)]
    exact a1
  · rw [eN] at hj
    rw [e 2 (by omega), e 3 (by omega), e 4 (by omega), e 5 (by omega), e 6 (by omega)]
    exact a2 j hj
  · rw [eN] at hj
    rw [eS] at hs
    rw [e 7 (by omega), wHr_c]
    refine ⟨(a3 j s hj hs).1, ?_⟩
    split
    · exact hh
    · exact (a3 j s hj hs).2
  · rw [e 9 (by omega), e 12 (by omega), e 13 (by omega)]
    exact a4 m hm
  · rw [eC] at hc
    rw [e 10 (by omega), e 11 (by omega)]
    exact a5 m c hm hc
  · rw [e 14 (by omega)]
    exact a6 i hi
  · rw [e 15 (by omega)]
    exact a7 u hu
  · rw [e 1 (by omega)]
    exact a8
  · rw [eS]
    exact a9
theorem wHr_md (hw : Wok w) (hj0 : j0 < qN w) (h5 : s0 < 5) {f f' : Nat → Int} (hf : MD w f) (hn : f' (61 + 15 * j0 + (5 + 2 * s0 + 1)) = v) (he : ∀ k, k ≠ 61 + 15 * j0 + (5 + 2 * s0 + 1) → f' k = f k) : MD (wHr w j0 s0 v) f' := by
  have hnn := hw.n
  obtain ⟨a1, a2, a3, a4, a5, a6, a7⟩ := hf
  have e : ∀ b, b ≠ 8 → wHr w j0 s0 v b = w b := fun b hb => wHr_ne hb
  have eN : qN (wHr w j0 s0 v) = qN w := qN_w (by rw [e 1 (by omega)])
  have eS : qSt (wHr w j0 s0 v) = qSt w := qSt_w (e 6 (by omega))
  have eC : ∀ m, qCn (wHr w j0 s0 v) m = qCn w m := fun m => by
    unfold qCn
    rw [e 9 (by omega)]
  refine ⟨?_, fun m hm => ?_, fun m c hm hc => ?_, fun i hi => ?_, fun j hj => ?_, fun j s hj hs => ?_, fun u hu => ?_⟩
  · rw [he _ (by omega), e 1 (by omega)]
    exact a1
  · rw [e 9 (by omega), e 12 (by omega), e 13 (by omega), he _ (by omega), he _ (by omega), he _ (by omega)]
    exact a2 m hm
  · rw [eC] at hc
    have := (hw.cn hm).2
    rw [e 10 (by omega), e 11 (by omega), he _ (by omega), he _ (by omega)]
    exact a3 m c hm hc
  · rw [e 14 (by omega), he _ (by omega)]
    exact a4 i hi
  · rw [eN] at hj
    rw [e 2 (by omega), e 3 (by omega), e 4 (by omega), e 5 (by omega), e 6 (by omega), he _ (by omega), he _ (by omega), he _ (by omega), he _ (by omega), he _ (by omega)]
    exact a5 j hj
  · rw [eN] at hj
    rw [eS] at hs
    have h6 := (hw.st hj).2
    rw [e 7 (by omega), wHr_c, he _ (by omega)]
    refine ⟨(a6 j s hj hs).1, ?_⟩
    by_cases h : 5 * j + s = 5 * j0 + s0
    · rw [if_pos h, show j = j0 by omega, show s = s0 by omega]
      exact hn
    · rw [if_neg h, he _ (by omega)]
      exact (a6 j s hj hs).2
  · rw [e 15 (by omega), he _ (by omega)]
    exact a7 u hu
end WH
