/-! ===== bound; hours on a machine ===== -/
def hJs (w : wS) (m j s : Nat) : Int := it (fun s v => if qMc w (5 * j + s) = m then v + qHr w (5 * j + s) else v) s 0
def hOn (w : wS) (m k : Nat) : Int := it (fun j v => v + hJs w m j (qSt w j)) k 0
theorem hJs_s {w : wS} {m j s : Nat} : hJs w m j (s + 1) = if qMc w (5 * j + s) = m then hJs w m j s + qHr w (5 * j + s) else hJs w m j s := rfl
theorem hOn_s {w : wS} {m k : Nat} : hOn w m (k + 1) = hOn w m k + hJs w m k (qSt w k) := rfl
def vB1 (w : wS) (k : Nat) : Int := it (fun j v => max v (qRel w j + qHf w j 0)) k 0
def vB2 (w : wS) (k : Nat) : Int := it (fun m v => max v (hOn w m (qN w))) k (vB1 w (qN w))
def vBound (w : wS) : Int := vB2 w 4
theorem hJs_bd {w : wS} (hw : Wok w) {m j : Nat} (hj : j < qN w) : ∀ {s : Nat}, s ≤ qSt w j → 0 ≤ hJs w m j s ∧ hJs w m j s ≤ 50 * s
  | 0, _ => ⟨Int.le_refl 0, Int.le_refl 0⟩
  | s + 1, hs => by
    have ih := hJs_bd hw (m := m) hj (s := s) (by omega)
    have h := hw.hr hj (show s < qSt w j by omega)
    rw [hJs_s]
    split <;> omega
theorem hOn_bd {w : wS} (hw : Wok w) {m : Nat} : ∀ {k : Nat}, k ≤ qN w → 0 ≤ hOn w m k ∧ hOn w m k ≤ 250 * k
  | 0, _ => ⟨Int.le_refl 0, Int.le_refl 0⟩
  | k + 1, hk => by
    have ih := hOn_bd hw (m := m) (k := k) (by omega)
    have h := hJs_bd hw (m := m) (show k < qN w by omega) (Nat.le_refl (qSt w k))
    have h5 := (hw.st (show k < qN w by omega)).2
    rw [hOn_s]
    omega
theorem vB1_bd {w : wS} (hw : Wok w) : ∀ {k : Nat}, k ≤ qN w → 0 ≤ vB1 w k ∧ vB1 w k ≤ 2000
  | 0, _ => ⟨Int.le_refl 0, by show (0 : Int) ≤ 2000; omega⟩
  | k + 1, hk => by
    have ih := vB1_bd hw (k := k) (by omega)
    have h1 := hw.rel (show k < qN w by omega)
    have h2 := qHf_bd hw (show k < qN w by omega) (s := 0)
    show 0 ≤ max (vB1 w k) (qRel w k + qHf w k 0) ∧ max (vB1 w k) (qRel w k + qHf w k 0) ≤ 2000
    omega
theorem vB2_bd {w : wS} (hw : Wok w) : ∀ {k : Nat}, 0 ≤ vB2 w k ∧ vB2 w k ≤ 2000
  | 0 => vB1_bd hw (Nat.le_refl _)
  | k + 1 => by
    have ih := vB2_bd hw (k := k)
    have h1 := hOn_bd hw (m := k) (Nat.le_refl (qN w))
    have hn := hw.n
    show 0 ≤ max (vB2 w k) (hOn w k (qN w)) ∧ max (vB2 w k) (hOn w k (qN w)) ≤ 2000
    omega
section HB
variable {w : wS} {G : mG}
theorem S_hoursOn (hw : Wok w) (hx : XS w G) {m : Nat} (hm : m < 4) : P_X7_hoursOn (m : Int) G = some (hOn w m (qN w)) := by
  have hn := hw.n
  refine Ok.get ?_
  unfold P_X7_hoursOn
  refine Ok.forA (fun k v => v = hOn w m k) (qN w) LF (LF_lt (by omega)) rfl (fun j hj again v hv hk => ?_) (fun again v hv => ?_)
  · subst hv
    have h5 := (hw.st hj).2
    rw [hx.n hw]
    refine Ok.condT (ilt_nat (by omega) (by omega)) hj ?_
    refine Ok.lk ?_
    refine Ok.forA (fun s v => v = hOn w m j + hJs w m j s) (qSt w j) LF (LF_lt (by omega)) (Int.add_zero _).symm (fun s hs again2 v hv hk2 => ?_) (fun again2 v hv => ?_)
    · subst hv
      refine Ok.ld j rfl (by omega) (by omega) ?_
      rw [hx.st hw hj]
      refine Ok.condT (ilt_nat (by omega) (by omega)) hs ?_
      refine Ok.ld (5 * j + s) (by omega) (by omega) (by omega) ?_
      rw [hx.mc hw hj hs]
      have h4 := (hw.mc hj hs).2
      refine Ok.lk ?_
      refine Ok.cd (ieq_nat (by omega) (by omega)) (fun g => ?_) (fun g => ?_)
      · refine Ok.ld (5 * j + s) (by omega) (by omega) (by omega) ?_
        rw [hx.hr hw (by omega)]
        refine hk2 _ ?_
        rw [hJs_s, if_pos g]
        omega
      · refine hk2 _ ?_
        rw [hJs_s, if_neg g]
    · subst hv
      refine Ok.ld j rfl (by omega) (by omega) ?_
      rw [hx.st hw hj]
      refine Ok.condF (ilt_nat (by omega) (by omega)) (by omega) ?_
      exact hk _ hOn_s.symm
  · subst hv
    rw [hx.n hw]
    refine Ok.condF (ilt_nat (by omega) (by omega)) (by omega) ?_
    exact Ok.so rfl
theorem M_hoursOn (hw : Wok w) (hm' : MD w (G 57)) {m : Nat} (hm : m < 4) : P_X11_hoursOn (m : Int) G = some (hOn w m (qN w)) := by
  have hn := hw.n
  refine Ok.get ?_
  unfold P_X11_hoursOn
  refine Ok.forA (fun k v => v = hOn w m k) (qN w) LF (LF_lt (by omega)) rfl (fun j hj again v hv hk => ?_) (fun again v hv => ?_)
  · subst hv
    have h5 := (hw.st hj).2
    refine Ok.ld 0 rfl (by omega) (by omega) ?_
    rw [hm'.1, hn.1]
    refine Ok.condT (ilt_nat (by omega) (by omega)) hj ?_
    refine Ok.lk ?_
    refine Ok.forA (fun s v => v = hOn w m j + hJs w m j s) (qSt w j) LF (LF_lt (by omega)) (Int.add_zero _).symm (fun s hs again2 v hv hk2 => ?_) (fun again2 v hv => ?_)
    · subst hv
      refine Ok.eq (M_of hw hm' hj (k := 4) rfl (by omega)) ?_
      rw [hm'.st hw hj]
      refine Ok.condT (ilt_nat (by omega) (by omega)) hs ?_
      refine Ok.eq (M_machineOf hw hm' hj hs) ?_
      have h4 := (hw.mc hj hs).2
      refine Ok.lk ?_
      refine Ok.cd (ieq_nat (by omega) (by omega)) (fun g => ?_) (fun g => ?_)
      · refine Ok.eq (M_hoursOf hw hm' hj hs) ?_
        refine hk2 _ ?_
        rw [hJs_s, if_pos g]
        omega
      · refine hk2 _ ?_
        rw [hJs_s, if_neg g]
        omega
    · subst hv
      refine Ok.eq (M_of hw hm' hj (k := 4) rfl (by omega)) ?_
      rw [hm'.st hw hj]
      refine Ok.condF (ilt_nat (by omega) (by omega)) (by omega) ?_
      exact hk _ hOn_s.symm
  · subst hv
    refine Ok.ld 0 rfl (by omega) (by omega) ?_
    rw [hm'.1, hn.1]
    refine Ok.condF (ilt_nat (by omega) (by omega)) (by omega) ?_
    exact Ok.so rfl
theorem S_leastHours (hw : Wok w) (hx : XS w G) : P_X7_leastHours G = some (vBound w) := by
  have hn := hw.n
  refine Ok.get ?_
  unfold P_X7_leastHours
  refine Ok.jn1 (fun y => y = vB1 w (qN w)) (fun y hy => ?_) (fun k8 hk8 => ?_)
  · subst hy
    refine Ok.forA (fun k v => v = vB2 w k) 4 LF (LF_lt (by omega)) rfl (fun m hm again v hv hk => ?_) (fun again v hv => ?_)
    · subst hv
      refine Ok.condT (ilt_nat (b := 4) (by omega) (by omega)) hm ?_
      refine Ok.eq (S_hoursOn hw hx hm) ?_
      have h1 := vB2_bd hw (k := m)
      have h2 := hOn_bd hw (m := m) (Nat.le_refl (qN w))
      rw [iMax_id (by omega) (by omega) (by omega) (by omega)]
      exact hk _ rfl
    · subst hv
      exact Ok.iteF rfl (Ok.so rfl)
  · refine Ok.forA (fun k v => v = vB1 w k) (qN w) LF (LF_lt (by omega)) rfl (fun j hj again v hv hk => ?_) (fun again v hv => ?_)
    · subst hv
      rw [hx.n hw]
      refine Ok.condT (ilt_nat (by omega) (by omega)) hj ?_
      refine Ok.ld j rfl (by omega) (by omega) ?_
      have e2 : G 2 j = qRel w j := hx.at _ (by simp [aok, asz]; omega)
      rw [e2]
      refine Ok.eq (S_hoursFrom hw hx hj (s := 0) (by omega)) ?_
      have h1 := vB1_bd hw (k := j) (by omega)
      have h2 := hw.rel hj
      have h3 := qHf_bd hw hj (s := 0)
      rw [iMax_id (by omega) (by omega) (by omega) (by omega)]
      exact hk _ rfl
    · subst hv
      rw [hx.n hw]
      refine Ok.condF (ilt_nat (by omega) (by omega)) (by omega) ?_
      exact hk8 _ rfl
theorem M_bound (hw : Wok w) (hm : MD w (G 57)) : P_X11_bound G = some (vBound w, up2 G 56 3 0) := by
  have hn := hw.n
  refine Ok.get ?_
  unfold P_X11_bound
  refine Ok.pu ?_
  have hm1 : MD w ((up2 G 56 3 0) 57) := by
    rw [up2_ne (by omega)]
    exact hm
  refine Ok.jn1 (fun y => y = vB1 w (qN w)) (fun y hy => ?_) (fun k8 hk8 => ?_)
  · subst hy
    refine Ok.forA (fun k v => v = vB2 w k) 4 LF (LF_lt (by omega)) rfl (fun m hm4 again v hv hk => ?_) (fun again v hv => ?_)
    · subst hv
      refine Ok.condT (ilt_nat (b := 4) (by omega) (by omega)) hm4 ?_
      refine Ok.eq (M_hoursOn hw hm1 hm4) ?_
      have h1 := vB2_bd hw (k := m)
      have h2 := hOn_bd hw (m := m) (Nat.le_refl (qN w))
      rw [iMax_id (by omega) (by omega) (by omega) (by omega)]
      exact hk _ rfl
    · subst hv
      exact Ok.iteF rfl (Ok.so rfl)
  · refine Ok.forA (fun k v => v = vB1 w k) (qN w) LF (LF_lt (by omega)) rfl (fun j hj again v hv hk => ?_) (fun again v hv => ?_)
    · subst hv
      refine Ok.ld 0 rfl (by omega) (by omega) ?_
      rw [hm1.1, hn.1]
      refine Ok.condT (ilt_nat (by omega) (by omega)) hj ?_
      refine Ok.eq (M_of hw hm1 hj (k := 0) rfl (by omega)) ?_
      rw [Nat.add_zero, hm1.rel hw hj]
      refine Ok.eq (M_length hw hm1 hj) ?_
      have h1 := vB1_bd hw (k := j) (by omega)
      have h2 := hw.rel hj
      have h3 := qHf_bd hw hj (s := 0)
      rw [iMax_id (by omega) (by omega) (by omega) (by omega)]
      exact hk _ rfl
    · subst hv
      refine Ok.ld 0 rfl (by omega) (by omega) ?_
      rw [hm1.1, hn.1]
      refine Ok.condF (ilt_nat (by omega) (by omega)) (by omega) ?_
      exact hk8 _ rfl
end HB
theorem Q_bound : CaseQ (fun G => (P_X10_bound G).bind fun v => some (v, G)) P_X11_bound := by
  refine Q_of (fun w => vBound w) (fun w h len a np G hI => ?_) (fun w G hw hp hm => ?_)
  · unfold P_X10_bound
    rw [S_leastHours hI.1.1 hI.2.1]
    exact Ok.so ⟨KQ.rf G, rfl⟩
  · rw [M_bound hw hm.1]
    exact Ok.so ⟨KQ.up3 G 0, rfl⟩
