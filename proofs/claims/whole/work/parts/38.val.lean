/-! ===== the model's values; a row's timetable is a solution ===== -/
section VA
variable {w : wS} {G : mG}
theorem M_left (hw : Wok w) (hm : MD w (G 57)) {j s : Nat} (hj : j < qN w) (hs : s ≤ 5) : P_X11_left (j : Int) (s : Int) G = some (qHf w j s) := by
  have h5 := (hw.st hj).2
  refine Ok.get ?_
  unfold P_X11_left
  by_cases h0 : s ≤ qSt w j
  · refine Ok.seq2 (fun k => sm (fun i => qHr w (5 * j + (s + i))) k) (fun k => ((s + k : Nat) : Int)) (qSt w j - s) LF (LF_lt (by omega)) (fun k hk again hag => ?_) (fun again => ?_)
    · refine Ok.eq (M_st hw hm hj) ?_
      refine Ok.condT (ilt_nat (by omega) (by omega)) (by omega) ?_
      refine Ok.eq (M_hoursOf hw hm hj (s := s + k) (by omega)) ?_
      exact hag
    · refine Ok.eq (M_st hw hm hj) ?_
      refine Ok.condF (ilt_nat (by omega) (by omega)) (by omega) ?_
      exact Ok.so rfl
  · refine Ok.seq2 (fun _ => 0) (fun k => ((s + k : Nat) : Int)) 0 LF (LF_lt (by omega)) (fun k hk again hag => absurd hk (Nat.not_lt_zero _)) (fun again => ?_)
    refine Ok.eq (M_st hw hm hj) ?_
    refine Ok.condF (ilt_nat (by omega) (by omega)) (by omega) ?_
    rw [qHf_end (by omega)]
    exact Ok.so rfl
theorem M_length (hw : Wok w) (hm : MD w (G 57)) {j : Nat} (hj : j < qN w) : P_X11_length (j : Int) G = some (qHf w j 0) := by
  refine Ok.get ?_
  unfold P_X11_length
  exact Ok.eq (M_left hw hm hj (s := 0) (by omega)) (Ok.so rfl)
theorem M_valueOf (hw : Wok w) (hm : MD w (G 57)) {a : Nat} (ha : a ≤ 4) {E : Nat → Int} (hE : ∀ j, j < qN w → G 61 j = E j) (hb : ∀ j, j < qN w → 0 ≤ E j ∧ E j ≤ 40000) : P_X11_valueOf (a : Int) G = some (qVal w a E) := by
  have hn := hw.n
  refine Ok.get ?_
  unfold P_X11_valueOf
  refine Ok.seq2 (fun k => qValK w a E k) (fun k => (k : Int)) (qN w) LF (LF_lt (by omega)) (fun k hk again hag => ?_) (fun again => ?_)
  · have hb2 := qValK_bd hw (a := a) hb (k := k) (by omega)
    have he := hb k hk
    have hdu := hw.du hk
    have hwt := hw.wt hk
    have ev : qValK w a E (k + 1) = qAim a k (E k) (qDu w k) (qWt w k) (qValK w a E k) := rfl
    refine Ok.ld 0 rfl (by omega) (by omega) ?_
    rw [hm.n hw]
    refine Ok.condT (ilt_nat (by omega) (by omega)) hk ?_
    refine Ok.ld k rfl (by omega) (by omega) ?_
    rw [hE k hk]
    refine Ok.eq (M_du hw hm hk) ?_
    have hEk := hE k hk
    generalize E k = e at *
    generalize qValK w a E k = v at *
    refine Ok.jn1 (fun y => y = qAim a k e (qDu w k) (qWt w k) v) (fun y hy => ?_) (fun k10 hk10 => ?_)
    · subst hy
      rw [ev] at hag
      exact hag
    · have ea : w32 (a : Int) = (a : Int) := w32_id (by omega) (by omega)
      rw [ea]
      unfold qAim at hk10
      refine Ok.it (fun h => ?_) (fun h => ?_)
      · have h := of_decide_eq_true h
        refine Ok.ld k rfl (by omega) (by omega) ?_
        rw [hEk, iMax_id (by omega) (by omega) (by omega) (by omega)]
        exact hk10 _ (by rw [if_pos (by omega)])
      · have h := of_decide_eq_false h
        rw [if_neg (by omega)] at hk10
        refine Ok.it (fun h => ?_) (fun h => ?_)
        · have h := of_decide_eq_true h
          refine Ok.ld k rfl (by omega) (by omega) ?_
          rw [hEk]
          exact hk10 _ (by rw [if_pos (by omega)])
        · have h := of_decide_eq_false h
          rw [if_neg (by omega)] at hk10
          refine Ok.it (fun h => ?_) (fun h => ?_)
          · have h := of_decide_eq_true h
            rw [if_pos (by omega)] at hk10
            refine Ok.lk ?_
            refine Ok.cd (ieq_id (by omega) (by omega) (by omega) (by omega)) (fun h2 => ?_) (fun h2 => ?_)
            · exact hk10 _ (by rw [if_pos (by omega)])
            · rw [iMax_id (by omega) (by omega) (by omega) (by omega)]
              exact hk10 _ (by rw [if_neg (by omega)])
          · have h := of_decide_eq_false h
            rw [if_neg (by omega)] at hk10
            refine Ok.it (fun h => ?_) (fun h => ?_)
            · have h := of_decide_eq_true h
              rw [if_pos (by omega)] at hk10
              refine Ok.lk ?_
              refine Ok.cd (ilt_id (by omega) (by omega) (by omega) (by omega)) (fun h2 => ?_) (fun h2 => ?_)
              · exact hk10 _ (by rw [if_pos h2])
              · exact hk10 _ (by rw [if_neg h2])
            · have h := of_decide_eq_false h
              rw [if_neg (by omega)] at hk10
              refine Ok.lk ?_
              refine Ok.cd (ilt_id (by omega) (by omega) (by omega) (by omega)) (fun h2 => ?_) (fun h2 => ?_)
              · refine Ok.eq (M_wt hw hm hk) ?_
                exact hk10 _ (by rw [show max (e - qDu w k) 0 = e - qDu w k by omega])
              · exact hk10 _ (by rw [show max (e - qDu w k) 0 = 0 by omega, Int.mul_zero])
  · refine Ok.ld 0 rfl (by omega) (by omega) ?_
    rw [hm.n hw]
    refine Ok.condF (ilt_nat (by omega) (by omega)) (Nat.lt_irrefl _) ?_
    exact Ok.so rfl
theorem M_planEnd (hw : Wok w) (hm : MD w (G 57)) {E : Nat → Int} (hE : ∀ j, j < qN w → G 61 j = E j) (hb : ∀ j, j < qN w → 0 ≤ E j ∧ E j ≤ 40000) : P_X11_planEnd G = some (qVal w 0 E) := by
  have hn := hw.n
  refine Ok.get ?_
  unfold P_X11_planEnd
  refine Ok.seq2 (fun k => qValK w 0 E k) (fun k => (k : Int)) (qN w) LF (LF_lt (by omega)) (fun k hk again hag => ?_) (fun again => ?_)
  · have hb2 := qValK_bd hw (a := 0) hb (k := k) (by omega)
    have he := hb k hk
    have ev : qValK w 0 E (k + 1) = max (qValK w 0 E k) (E k) := rfl
    refine Ok.ld 0 rfl (by omega) (by omega) ?_
    rw [hm.n hw]
    refine Ok.condT (ilt_nat (by omega) (by omega)) hk ?_
    refine Ok.ld k rfl (by omega) (by omega) ?_
    rw [hE k hk, iMax_id (by omega) (by omega) (by omega) (by omega), ← ev]
    exact hag
  · refine Ok.ld 0 rfl (by omega) (by omega) ?_
    rw [hm.n hw]
    refine Ok.condF (ilt_nat (by omega) (by omega)) (Nat.lt_irrefl _) ?_
    exact Ok.so rfl
end VA
section SO
variable {w : wS} {r : Nat → Nat} {n : Nat}
theorem So_of (hw : Wok w) (hv : qV w r n) : So w r n 1000 0 (tOd (qS w D0 r n)) (tBg (qS w D0 r n)) (tWr (qS w D0 r n)) := by
  intro i hi
  have h1 := qS_bd hw DB0 hv i hi
  have h2 := qV_30 hw hv
  have h3 := rHr hw hv hi
  have h4 := rS_lt5 hw hv hi
  have h5 := hw.n
  have h6 := (hv i hi).1
  refine ⟨qS_od hw hv hi, ?_, qS_eqW hw hv hi, by omega, by omega⟩
  rw [qS_eqB hw hv hi]
  unfold qAd
  rw [if_neg]
  · rfl
  · unfold rX
    omega
/-- orders don't hang on hours -/
theorem qS_same {w' : wS} {D D' : Nat → Int} : ∀ {n : Nat}, (∀ i, i < n → qMc w (rX r i) = qMc w' (rX r i)) → tOd (qS w D r n) = tOd (qS w' D' r n) ∧ tCm (qS w D r n) = tCm (qS w' D' r n)
  | 0, _ => ⟨rfl, rfl⟩
  | n + 1, h => by
    obtain ⟨h1, h2⟩ := qS_same (n := n) (D := D) (D' := D') (fun i hi => h i (by omega))
    have h3 := h n (by omega)
    rw [qS_succ, qS_succ]
    unfold tPut
    rw [qS_qx, qS_qx]
    show upf (tOd (qS w D r n)) (qMc w (rX r n)) (upf (tOd (qS w D r n) (qMc w (rX r n))) (tCm (qS w D r n) (qMc w (rX r n))) (rX r n)) = upf (tOd (qS w' D' r n)) (qMc w' (rX r n)) (upf (tOd (qS w' D' r n) (qMc w' (rX r n))) (tCm (qS w' D' r n) (qMc w' (rX r n))) (rX r n)) ∧ upf (tCm (qS w D r n)) (qMc w (rX r n)) (tCm (qS w D r n) (qMc w (rX r n)) + 1) = upf (tCm (qS w' D' r n)) (qMc w' (rX r n)) (tCm (qS w' D' r n) (qMc w' (rX r n)) + 1)
    rw [h1, h2, h3]
    exact ⟨rfl, rfl⟩
theorem qS_odD {D D' : Nat → Int} : tOd (qS w D r n) = tOd (qS w D' r n) := (qS_same (w' := w) (fun _ _ => rfl)).1
theorem So_later (hw : Wok w) (hv : qV w r n) {lat : Nat} {b : Int} (hb : 0 ≤ b ∧ b ≤ 1500) {i0 : Nat} (hi0 : i0 < n) (hx0 : rX r i0 = lat) (hlo : tBg (qS w D0 r n) lat + b ≤ 20000) : So w r n lat b (tOd (qS w (fun x => if (x : Int) = (lat : Int) then tBg (qS w D0 r n) lat + b else 0) r n)) (tBg (qS w (fun x => if (x : Int) = (lat : Int) then tBg (qS w D0 r n) lat + b else 0) r n)) (tWr (qS w (fun x => if (x : Int) = (lat : Int) then tBg (qS w D0 r n) lat + b else 0) r n)) := by
  have hb0 := qS_bd hw DB0 hv i0 hi0
  rw [hx0] at hb0
  generalize hD : (fun x : Nat => if (x : Int) = (lat : Int) then tBg (qS w D0 r n) lat + b else 0) = D
  have hDat : D lat = tBg (qS w D0 r n) lat + b := by rw [← hD]; exact if_pos rfl
  have hDne : ∀ x, x ≠ lat → D x = 0 := fun x hx => by rw [← hD]; exact if_neg (by omega)
  have hDB : DB D := fun x => by
    by_cases h : x = lat
    · rw [h, hDat]
      omega
    · rw [hDne x h]
      omega
  intro i hi
  have h1 := qS_bd hw hDB hv i hi
  have h2 := qV_30 hw hv
  have h3 := rHr hw hv hi
  refine ⟨qS_od hw hv hi, ?_, qS_eqW hw hv hi, by omega, by omega⟩
  rw [qS_eqB hw hv hi]
  unfold qAd
  by_cases h : rX r i = lat
  · rw [if_pos h, h, hDat]
    have hii : i = i0 := rX_inj hw hv hi hi0 (h.trans hx0.symm)
    -- ahead of lat nothing differs
    have hpre : qS w D r i = qS w D0 r i := qS_cong (fun _ _ => rfl) (fun i' hi' => by
      have : rX r i' ≠ lat := fun e => by
        have := rX_inj hw hv (by omega) hi (e.trans h.symm)
        omega
      rw [hDne _ this]
      rfl)
    have e0 : tBg (qS w D0 r n) lat = qHo w (tBg (qS w D r n)) (tWr (qS w D r n)) (tOd (qS w D r n) (rM w r i)) (rK w r i) lat 0 := by
      have e1 := (qS_keep hw (D := D0) hv hi).1
      have e2 := qS_eqB (D := D0) hw hv hi
      rw [h] at e2
      rw [e2]
      show qHo w _ _ _ _ _ (0 : Int) = _
      refine qHo_cong (fun h9 => ?_) (fun h9 => ?_)
      · obtain ⟨i', a1, a2, a3, a4⟩ := rX_pre hw hv hi (by rw [h]; exact h9)
        rw [h] at a4
        rw [← a4, ← qS_bg hw hv a1 (by omega), ← qS_bg hw hv a1 (by omega), hpre]
      · obtain ⟨i', a1, a2, a3⟩ := rK_pre h9
        have e3 : rK w r i - 1 = rK w r i' := by omega
        rw [e3, ← a2, qS_od hw hv (show i' < n by omega), qS_od hw hv (show i' < n by omega)]
        refine ⟨rfl, ?_, ?_⟩
        · rw [← qS_bg hw hv a1 (by omega), ← qS_bg hw hv a1 (by omega), hpre]
        · rw [← qS_wr hw hv a1 (by omega), ← qS_wr hw hv a1 (by omega), hpre]
    have em : qMc w lat = rM w r i := by rw [← h]; rfl
    rw [← e0]
    unfold qHo
    unfold qHo at e0
    by_cases hk : rK w r i = 0
    · rw [if_pos hk] at e0 ⊢
      have e5 := qOpen_le w (qMc w lat) (max (qRd w (tBg (qS w D r n)) lat) 0) (qHr w lat)
      rw [show max (qRd w (tBg (qS w D r n)) lat) (tBg (qS w D0 r n) lat + b) = tBg (qS w D0 r n) lat + b by omega]
    · rw [if_neg hk] at e0 ⊢
      have e5 := qOpen_le w (qMc w lat) (max (max (qRd w (tBg (qS w D r n)) lat) 0) (tBg (qS w D r n) (tOd (qS w D r n) (rM w r i) (rK w r i - 1)) + qHr w (tOd (qS w D r n) (rM w r i) (rK w r i - 1)) + qBw w (tOd (qS w D r n) (rM w r i) (rK w r i - 1)) (tWr (qS w D r n) (tOd (qS w D r n) (rM w r i) (rK w r i - 1))) lat)) (qHr w lat)
      rw [show max (max (qRd w (tBg (qS w D r n)) lat) (tBg (qS w D0 r n) lat + b)) (tBg (qS w D r n) (tOd (qS w D r n) (rM w r i) (rK w r i - 1)) + qHr w (tOd (qS w D r n) (rM w r i) (rK w r i - 1)) + qBw w (tOd (qS w D r n) (rM w r i) (rK w r i - 1)) (tWr (qS w D r n) (tOd (qS w D r n) (rM w r i) (rK w r i - 1))) lat) = tBg (qS w D0 r n) lat + b by omega]
  · rw [if_neg h, hDne _ h]
end SO
