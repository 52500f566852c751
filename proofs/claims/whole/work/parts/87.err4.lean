/-! ===== the class finds no closed hour ===== -/
theorem S_isClosedIn {w : wS} {G : mG} {m : Nat} {h : Int} (ih : I32 h) (hw : Wok w) (hx : XS w G) (h4 : m < 4) (hno : ∀ c, c < qCn w m → ¬ (qCf w (4 * m + c) ≤ h ∧ h < qCt w (4 * m + c))) : P_X7_isClosedIn (m : Int) h G = some false := by
  have hcn := (hw.cn h4).2
  refine Ok.get ?_
  unfold P_X7_isClosedIn
  refine Ok.seq1 (fun c => (c : Int)) (qCn w m) LF (LF_lt (by omega)) (fun c hc again hag => ?_) (fun again => ?_)
  · have hcl := hw.cl h4 hc
    refine Ok.ld m rfl (by omega) (by omega) ?_
    rw [hx.cn hw h4]
    refine Ok.condT (ilt_nat (by omega) (by omega)) hc ?_
    refine Ok.ld (4 * m + c) (by omega) (by omega) (by omega) ?_
    have e1 : G 10 (4 * m + c) = qCf w (4 * m + c) := hx.at _ (by simp [aok, asz]; omega)
    have e2 : G 11 (4 * m + c) = qCt w (4 * m + c) := hx.at _ (by simp [aok, asz]; omega)
    rw [e1]
    refine Ok.lk ?_
    refine Ok.cd (ilt_id ih.1 ih.2 (by omega) (by omega)) (fun g => hag) (fun g => ?_)
    refine Ok.ld (4 * m + c) (by omega) (by omega) (by omega) ?_
    rw [e2]
    refine Ok.cd (ilt_id ih.1 ih.2 (by omega) (by omega)) (fun g2 => absurd ⟨by omega, g2⟩ (hno c hc)) (fun g2 => hag)
  · refine Ok.ld m rfl (by omega) (by omega) ?_
    rw [hx.cn hw h4]
    refine Ok.condF (ilt_nat (by omega) (by omega)) (by omega) ?_
    exact Ok.so rfl
