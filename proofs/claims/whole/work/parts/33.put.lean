/-! ===== the class puts a step, takes one back ===== -/
section PU
variable {w : wS} {r : Nat → Nat} {n t : Nat} {D : Nat → Int} {G : mG}
/-- a cell of a step that isn't put yet may be written -/
theorem TT_new (hw : Wok w) (hv : qV w r n) (hT : TT t w D r n G) {a j : Nat} {v : Int} (ha : t + 5 ≤ a ∧ a ≤ t + 8) (h5 : rD r n j < 5) : TT t w D r n (up2 G a (5 * j + rD r n j) v) := by
  obtain ⟨a1, a2, a3, a4, a5, a6⟩ := hT
  refine ⟨?_, fun i hi => ?_, fun j hj => ?_, fun m hm => ?_, fun m k hm hk => ?_, fun j' s hj hs => ?_⟩
  · rw [up2_ne (by omega)]
    exact a1
  · rw [up2_ne (by omega)]
    exact a2 i hi
  · rw [up2_ne (by omega)]
    exact a3 j hj
  · rw [up2_ne (by omega)]
    exact a4 m hm
  · rw [up2_ne (by omega)]
    exact a5 m k hm hk
  · have h1 := a6 j' s hj hs
    have hne : ¬ (5 * j' + s = 5 * j + rD r n j) := by
      obtain ⟨i, b1, b2, b3, b4⟩ := rX_of hs
      have b5 := rS_lt5 hw hv b1
      intro e
      have e1 : j' = j := by omega
      subst e1
      omega
    simp only [up2_if, hne, and_false, if_false]
    exact h1
end PU
section PU2
variable {w : wS} {r : Nat → Nat} {n t : Nat} {D : Nat → Int} {G : mG}
theorem S_put (hw : Wok w) (ht : 17 ≤ t) (hx : XS w G) (hv : qV w r (n + 1)) (hD : DB D) (hT : TT t w D r n G) : Ok (P_X8_put t (r n : Int) (D (rX r n)) G) (fun G' => TT t w D r (n + 1) G' ∧ FrT t G G') := by
  have hn := hw.n
  have hv' : qV w r n := hv.le (by omega)
  obtain ⟨hj, hl⟩ := hv n (by omega)
  have hl' : rD r n (r n) < qSt w (r n) := hl
  have h5 := (hw.st hj).2
  have hmc := hw.mc hj hl'
  have hhr := hw.hr hj hl'
  have h30 := qV_30 hw hv
  have hcm30 := rC_30 hw hv' (rM w r n)
  have hDx := hD (rX r n)
  have ex : 5 * r n + rD r n (r n) = rX r n := rfl
  have em : qMc w (rX r n) = rM w r n := rfl
  have hm4 : rM w r n < 4 := hmc.2
  have hx30 : rX r n < 30 := by omega
  have hn30 : n < 30 := by omega
  have hc30 : rC w r n (rM w r n) < 30 := by
    have h1 : rC w r (n + 1) (rM w r n) ≤ 30 := rC_30 hw hv _
    have h2 : rC w r n (rM w r n) < rC w r (n + 1) (rM w r n) := ct_lt _ (Nat.lt_succ_self n) (decide_eq_true rfl)
    omega
  unfold P_X8_put
  refine Ok.eq (S_hasLeftN hw hx hv' hT hj) ?_
  refine Ok.iteT (decide_eq_true hl') ?_
  rw [hT.len]
  refine Ok.iteT ((ilt_id (by omega) (by omega) (by omega) (by omega)).trans (decide_eq_true (by omega))) ?_
  refine Ok.eq (S_nextStep hw hx hv' hT (by omega)) ?_
  rw [ex]
  refine Ok.ld (rX r n) rfl hx30 (by omega) ?_
  have e7 : G 7 (rX r n) = (rM w r n : Int) := hx.mc hw hj hl'
  rw [e7]
  refine Ok.eq (S_lastOn hw hx hv' hT hm4) ?_
  refine Ok.eq (S_firstHour hw hx hv' hD hT hj hl' hDx) ?_
  rw [ex]
  refine Ok.sto (rX r n) rfl hx30 (by omega) ?_
  have T8 := TT_new hw hv' hT (a := t + 5) (j := r n) (v := tHo w (qS w D r n) (rX r n) (D (rX r n))) (by omega) (by omega)
  rw [ex] at T8
  have la : (if rC w r n (rM w r n) = 0 then (-1 : Int) else (tOd (qS w D r n) (rM w r n) (rC w r n (rM w r n) - 1) : Int)) = tLa w (qS w D r n) (rX r n) := by
    unfold tLa
    rw [qS_cm, em]
  rw [la]
  refine Ok.sto (rX r n) rfl hx30 (by omega) ?_
  have T9 := TT_new hw hv' T8 (a := t + 6) (j := r n) (v := tLa w (qS w D r n) (rX r n)) (by omega) (by omega)
  rw [ex] at T9
  have F9 := (FrT.up2 (t := t) (G := G) (t + 5) (rX r n) (tHo w (qS w D r n) (rX r n) (D (rX r n))) (by omega)).tr (FrT.up2 (t := t) (t + 6) (rX r n) (tLa w (qS w D r n) (rX r n)) (by omega))
  generalize hG9 : up2 (up2 G (t + 5) (rX r n) (tHo w (qS w D r n) (rX r n) (D (rX r n)))) (t + 6) (rX r n) (tLa w (qS w D r n) (rX r n)) = G9 at T9 F9 ⊢
  have X9 := F9.xs ht hx
  have la0 : rC w r n (rM w r n) = 0 → tLa w (qS w D r n) (rX r n) = -1 := fun h => by
    rw [← la, if_pos h]
  have la1 : rC w r n (rM w r n) ≠ 0 → ∃ jp sp, tOd (qS w D r n) (rM w r n) (rC w r n (rM w r n) - 1) = 5 * jp + sp ∧ tLa w (qS w D r n) (rX r n) = ((5 * jp + sp : Nat) : Int) ∧ jp < qN w ∧ sp < rD r n jp ∧ sp < 5 := fun h => by
    obtain ⟨jp, sp, b1, b2, b3, b4, b5⟩ := qS_mk (D := D) hw hv' (show rC w r n (rM w r n) - 1 < rC w r n (rM w r n) by omega)
    refine ⟨jp, sp, b1, ?_, b2, b3, b4⟩
    rw [← la, if_neg h, b1]
  refine Ok.jn1 (fun y => y = tBe w (qS w D r n) (rX r n)) (fun y hy => ?_) (fun k34 hk34 => ?_)
  · subst hy
    refine Ok.sto (rX r n) rfl hx30 (by omega) ?_
    have T12 := TT_new hw hv' T9 (a := t + 7) (j := r n) (v := tBe w (qS w D r n) (rX r n)) (by omega) (by omega)
    rw [ex] at T12
    have F12 := F9.tr (FrT.up2 (t := t) (t + 7) (rX r n) (tBe w (qS w D r n) (rX r n)) (by omega))
    have X12 := F12.xs ht hx
    refine Ok.jn1 (fun y => (y = 1 ∧ tWe w (qS w D r n) (rX r n) = qHr w (rX r n)) ∨ (y = 0 ∧ rC w r n (rM w r n) ≠ 0 ∧ tWe w (qS w D r n) (rX r n) = tWr (qS w D r n) (tOd (qS w D r n) (rM w r n) (rC w r n (rM w r n) - 1)) + qHr w (rX r n))) (fun x13 h13 => ?_) (fun k30 hk30 => ?_)
    · refine Ok.jn1 (fun y => y = tWe w (qS w D r n) (rX r n)) (fun y hy => ?_) (fun k26 hk26 => ?_)
      · subst hy
        refine Ok.sto (rX r n) rfl hx30 (by omega) ?_
        have F17 := F12.tr (FrT.up2 (t := t) (t + 8) (rX r n) (tWe w (qS w D r n) (rX r n)) (by omega))
        refine Ok.ld (rM w r n) rfl hm4 (by omega) ?_
        rw [up2_ne (by omega), up2_ne (by omega), T9.cm hm4]
        refine Ok.sto (30 * rM w r n + rC w r n (rM w r n)) (by omega) (by omega) (by omega) ?_
        refine Ok.ld (rM w r n) rfl hm4 (by omega) ?_
        rw [up2_ne (by omega), up2_ne (by omega), up2_ne (by omega), T9.cm hm4]
        refine Ok.sto (rM w r n) rfl hm4 (by omega) ?_
        refine Ok.ld (r n) rfl (by omega) (by omega) ?_
        rw [up2_ne (by omega), up2_ne (by omega), up2_ne (by omega), up2_ne (by omega), T9.dn (by omega)]
        refine Ok.sto (r n) rfl (by omega) (by omega) ?_
        rw [up2_ne (b := t) (by omega), up2_ne (b := t) (by omega), up2_ne (b := t) (by omega), up2_ne (b := t) (by omega), up2_ne (b := t) (by omega), T9.len]
        refine Ok.sto n rfl hn30 (by omega) ?_
        refine Ok.pu ?_
        rw [up2_ne (b := t) (by omega), up2_ne (b := t) (by omega), up2_ne (b := t) (by omega), up2_ne (b := t) (by omega), up2_ne (b := t) (by omega), up2_ne (b := t) (by omega), T9.len]
        refine Ok.so ?_
        have g9 : ∀ a, a ≠ t + 5 → a ≠ t + 6 → G9 a = G a := fun a h1 h2 => by rw [← hG9, up2_ne h2, up2_ne h1]
        have g95 : G9 (t + 5) = up1 (G (t + 5)) (rX r n) (tHo w (qS w D r n) (rX r n) (D (rX r n))) := by rw [← hG9, up2_ne (by omega), up2_eq]
        have g96 : G9 (t + 6) = up1 (G (t + 6)) (rX r n) (tLa w (qS w D r n) (rX r n)) := by rw [← hG9, up2_eq, up2_ne (by omega)]
        generalize hG' : up2 (up2 (up2 (up2 (up2 (up2 (up2 G9 (t + 7) (rX r n) (tBe w (qS w D r n) (rX r n))) (t + 8) (rX r n) (tWe w (qS w D r n) (rX r n))) (t + 4) (30 * rM w r n + rC w r n (rM w r n)) (rX r n : Int)) (t + 3) (rM w r n) ((rC w r n (rM w r n) : Int) + 1)) (t + 2) (r n) ((rD r n (r n) : Int) + 1)) (t + 1) n (r n : Int)) t 1 ((n : Int) + 1) = G'
        have f0 : G' t = up1 (G t) 1 ((n : Int) + 1) := by
          rw [← hG', up2_eq, up2_ne (by omega), up2_ne (by omega), up2_ne (by omega), up2_ne (by omega), up2_ne (by omega), up2_ne (by omega), g9 t (by omega) (by omega)]
        have f1 : G' (t + 1) = up1 (G (t + 1)) n (r n : Int) := by
          rw [← hG', up2_ne (by omega), up2_eq, up2_ne (by omega), up2_ne (by omega), up2_ne (by omega), up2_ne (by omega), up2_ne (by omega), g9 _ (by omega) (by omega)]
        have f2 : G' (t + 2) = up1 (G (t + 2)) (r n) ((rD r n (r n) : Int) + 1) := by
          rw [← hG', up2_ne (by omega), up2_ne (by omega), up2_eq, up2_ne (by omega), up2_ne (by omega), up2_ne (by omega), up2_ne (by omega), g9 _ (by omega) (by omega)]
        have f3 : G' (t + 3) = up1 (G (t + 3)) (rM w r n) ((rC w r n (rM w r n) : Int) + 1) := by
          rw [← hG', up2_ne (by omega), up2_ne (by omega), up2_ne (by omega), up2_eq, up2_ne (by omega), up2_ne (by omega), up2_ne (by omega), g9 _ (by omega) (by omega)]
        have f4 : G' (t + 4) = up1 (G (t + 4)) (30 * rM w r n + rC w r n (rM w r n)) (rX r n : Int) := by
          rw [← hG', up2_ne (by omega), up2_ne (by omega), up2_ne (by omega), up2_ne (by omega), up2_eq, up2_ne (by omega), up2_ne (by omega), g9 _ (by omega) (by omega)]
        have f5 : G' (t + 5) = up1 (G (t + 5)) (rX r n) (tHo w (qS w D r n) (rX r n) (D (rX r n))) := by
          rw [← hG', up2_ne (by omega), up2_ne (by omega), up2_ne (by omega), up2_ne (by omega), up2_ne (by omega), up2_ne (by omega), up2_ne (by omega), g95]
        have f6 : G' (t + 6) = up1 (G (t + 6)) (rX r n) (tLa w (qS w D r n) (rX r n)) := by
          rw [← hG', up2_ne (by omega), up2_ne (by omega), up2_ne (by omega), up2_ne (by omega), up2_ne (by omega), up2_ne (by omega), up2_ne (by omega), g96]
        have f7 : G' (t + 7) = up1 (G (t + 7)) (rX r n) (tBe w (qS w D r n) (rX r n)) := by
          rw [← hG', up2_ne (by omega), up2_ne (by omega), up2_ne (by omega), up2_ne (by omega), up2_ne (by omega), up2_ne (by omega), up2_eq, g9 _ (by omega) (by omega)]
        have f8 : G' (t + 8) = up1 (G (t + 8)) (rX r n) (tWe w (qS w D r n) (rX r n)) := by
          rw [← hG', up2_ne (by omega), up2_ne (by omega), up2_ne (by omega), up2_ne (by omega), up2_ne (by omega), up2_eq, up2_ne (by omega), g9 _ (by omega) (by omega)]
        have eS : qS w D r (n + 1) = tPut w (qS w D r n) (r n) (D (rX r n)) := by rw [qS_succ, qS_qx]
        have eq := qS_qx w D r n
        refine ⟨⟨?_, fun i hi => ?_, fun j' hj' => ?_, fun m hm => ?_, fun m k hm hk => ?_, fun j' s hj' hs => ?_⟩, ?_⟩
        · rw [f0, up1_eq]
          omega
        · rw [f1, up1_if]
          by_cases h : i = n
          · rw [if_pos h, h]
          · rw [if_neg h]
            exact hT.row (by omega)
        · rw [f2, up1_if]
          unfold rD
          rw [ct_succ]
          by_cases h : j' = r n
          · rw [if_pos h, h, if_pos (decide_eq_true rfl)]
            rfl
          · rw [if_neg h, if_neg (by simpa using fun e => h e.symm)]
            exact hT.dn hj'
        · rw [f3, up1_if]
          unfold rC
          rw [ct_succ]
          by_cases h : m = rM w r n
          · rw [if_pos h, h, if_pos (decide_eq_true rfl)]
            rfl
          · rw [if_neg h, if_neg (by simpa using fun e => h e.symm)]
            exact hT.cm hm
        · rw [f4, up1_if, eS]
          unfold tPut
          rw [eq]
          show _ = ((upf (tOd (qS w D r n)) (rM w r n) (upf (tOd (qS w D r n) (rM w r n)) (tCm (qS w D r n) (rM w r n)) (rX r n)) m k : Nat) : Int)
          rw [qS_cm]
          unfold rC at hk
          rw [ct_succ] at hk
          by_cases h : m = rM w r n
          · subst h
            rw [if_pos (decide_eq_true rfl)] at hk
            rw [upf_eq]
            have hk' : k < rC w r n (rM w r n) + 1 := hk
            by_cases h2 : k = rC w r n (rM w r n)
            · rw [h2, if_pos rfl, upf_eq]
            · rw [if_neg (by omega), upf_ne h2]
              exact hT.od hm (by omega)
          · rw [upf_ne h]
            rw [if_neg (by simpa using fun e => h e.symm)] at hk
            have hk' : k < rC w r n m := hk
            have := rC_30 hw hv' m
            rw [if_neg (by omega)]
            exact hT.od hm hk'
        · rw [f5, f6, f7, f8, up1_if, up1_if, up1_if, up1_if, eS]
          unfold tPut
          rw [eq]
          show _ = upf (tBg (qS w D r n)) (rX r n) (tHo w (qS w D r n) (rX r n) (D (rX r n))) (5 * j' + s) ∧ _ = upf (tAh (qS w D r n)) (rX r n) (tLa w (qS w D r n) (rX r n)) (5 * j' + s) ∧ _ = upf (tBt (qS w D r n)) (rX r n) (tBe w (qS w D r n) (rX r n)) (5 * j' + s) ∧ _ = upf (tWr (qS w D r n)) (rX r n) (tWe w (qS w D r n) (rX r n)) (5 * j' + s)
          by_cases h : 5 * j' + s = rX r n
          · rw [h, if_pos rfl, if_pos rfl, if_pos rfl, if_pos rfl, upf_eq, upf_eq, upf_eq, upf_eq]
            exact ⟨rfl, rfl, rfl, rfl⟩
          · rw [if_neg h, if_neg h, if_neg h, if_neg h, upf_ne h, upf_ne h, upf_ne h, upf_ne h]
            have hs' : s < rD r n j' := by
              unfold rD at hs
              rw [ct_succ] at hs
              by_cases h2 : r n = j'
              · rw [if_pos (decide_eq_true h2)] at hs
                have hs2 : s < rD r n j' + 1 := hs
                have : s ≠ rD r n j' := by
                  intro e
                  apply h
                  rw [e, ← h2]
                  rfl
                omega
              · rw [if_neg (by simpa using h2)] at hs
                exact hs
            exact ⟨hT.bg hj' hs', hT.ah hj' hs', hT.bt hj' hs', hT.wr hj' hs'⟩
        · rw [← hG']
          exact F17.tr ((FrT.up2 _ _ _ (by omega)).tr ((FrT.up2 _ _ _ (by omega)).tr ((FrT.up2 _ _ _ (by omega)).tr ((FrT.up2 _ _ _ (by omega)).tr (FrT.up2 _ _ _ (by omega))))))
      · have e8 : (up2 G9 (t + 7) (rX r n) (tBe w (qS w D r n) (rX r n))) 8 (rX r n) = qHr w (rX r n) := X12.at _ (by simp [aok, asz] <;> omega)
        rcases h13 with ⟨rfl, h14⟩ | ⟨rfl, h15, h14⟩
        · refine Ok.condF (ieq_id (by omega) (by omega) (by omega) (by omega)) (by omega) ?_
          refine Ok.ld (rX r n) rfl hx30 (by omega) ?_
          rw [e8]
          exact hk26 _ h14.symm
        · refine Ok.condT (ieq_id (by omega) (by omega) (by omega) (by omega)) rfl ?_
          obtain ⟨jp, sp, b1, b2, b3, b4, b5⟩ := la1 h15
          rw [b2]
          refine Ok.ld (5 * jp + sp) rfl (by omega) (by omega) ?_
          rw [T12.wr (by omega) b4]
          refine Ok.ld (rX r n) rfl hx30 (by omega) ?_
          rw [e8]
          refine hk26 _ ?_
          rw [h14, b1]
    · refine Ok.lk ?_
      by_cases h0 : rC w r n (rM w r n) = 0
      · rw [la0 h0]
        refine Ok.condT (ieq_id (by omega) (by omega) (by omega) (by omega)) rfl ?_
        refine hk30 _ (Or.inl ⟨rfl, ?_⟩)
        unfold tWe qWe
        rw [qS_cm, em, if_pos h0]
      · obtain ⟨jp, sp, b1, b2, b3, b4, b5⟩ := la1 h0
        rw [b2]
        refine Ok.condF (ieq_id (by omega) (by omega) (by omega) (by omega)) (by omega) ?_
        have hnt := S_needsTool hw X12 hv' hD T12 b4 hj hl'
        rw [ex] at hnt
        refine Ok.eq hnt ?_
        have we : tWe w (qS w D r n) (rX r n) = if qTl w (tWr (qS w D r n) (5 * jp + sp)) (rX r n) then qHr w (rX r n) else tWr (qS w D r n) (5 * jp + sp) + qHr w (rX r n) := by
          unfold tWe qWe
          rw [qS_cm, em, if_neg h0, b1]
        refine Ok.it (fun h => ?_) (fun h => ?_)
        · refine hk30 _ (Or.inl ⟨rfl, ?_⟩)
          rw [we, if_pos h]
        · refine hk30 _ (Or.inr ⟨rfl, h0, ?_⟩)
          rw [we, if_neg (by rw [h]; exact Bool.false_ne_true), b1]
  · by_cases h0 : rC w r n (rM w r n) = 0
    · rw [la0 h0]
      refine Ok.condT (ieq_id (by omega) (by omega) (by omega) (by omega)) rfl ?_
      refine hk34 _ ?_
      unfold tBe
      rw [qS_cm, em, if_pos h0]
    · obtain ⟨jp, sp, b1, b2, b3, b4, b5⟩ := la1 h0
      rw [b2]
      refine Ok.condF (ieq_id (by omega) (by omega) (by omega) (by omega)) (by omega) ?_
      have hhb := S_hoursBetween hw X9 hv' hD T9 b4 hj hl'
      rw [ex] at hhb
      refine Ok.eq hhb (hk34 _ ?_)
      unfold tBe
      rw [qS_cm, em, if_neg h0, b1]
end PU2
