/-! ===== the model's readings of its row of numbers ===== -/
def cd (x : Nat) : Nat := 10 * (x / 5) + x % 5
theorem cd_js {j s : Nat} (hs : s < 5) : cd (5 * j + s) = 10 * j + s := by
  unfold cd
  omega
/-- the model's cells of machines, set-ups, jobs and workers -/
def MD (w : wS) (f : Nat → Int) : Prop :=
  f 0 = w 1 0 ∧
  (∀ m, m < 4 → f (1 + 11 * m) = w 9 m ∧ f (1 + 11 * m + 9) = w 12 m ∧ f (1 + 11 * m + 10) = w 13 m) ∧
  (∀ m c, m < 4 → c < qCn w m → f (1 + 11 * m + 1 + 2 * c) = w 10 (4 * m + c) ∧ f (1 + 11 * m + 1 + 2 * c + 1) = w 11 (4 * m + c)) ∧
  (∀ i, i < 16 → f (45 + i) = w 14 i) ∧
  (∀ j, j < qN w → f (61 + 15 * j) = w 2 j ∧ f (61 + 15 * j + 1) = w 3 j ∧ f (61 + 15 * j + 2) = w 4 j ∧ f (61 + 15 * j + 3) = w 5 j ∧ f (61 + 15 * j + 4) = w 6 j) ∧
  (∀ j s, j < qN w → s < qSt w j → f (61 + 15 * j + (5 + 2 * s)) = w 7 (5 * j + s) ∧ f (61 + 15 * j + (5 + 2 * s + 1)) = w 8 (5 * j + s)) ∧
  (∀ u, u < 6 → f (276 + u) = w 15 u)
section MD1
variable {w : wS} {G : mG}
theorem MD.n (hw : Wok w) (hm : MD w (G 57)) : G 57 0 = (qN w : Int) := hm.1.trans hw.n.1
theorem MD.cn (hw : Wok w) (hm : MD w (G 57)) {m : Nat} (h : m < 4) : G 57 (1 + 11 * m) = (qCn w m : Int) := (hm.2.1 m h).1.trans (hw.cn h).1
theorem MD.lf (hw : Wok w) (hm : MD w (G 57)) {m : Nat} (h : m < 4) : G 57 (1 + 11 * m + 9) = qLf w m := (hm.2.1 m h).2.1
theorem MD.cg (hw : Wok w) (hm : MD w (G 57)) {m : Nat} (h : m < 4) : G 57 (1 + 11 * m + 10) = qCg w m := (hm.2.1 m h).2.2
theorem MD.cf (hw : Wok w) (hm : MD w (G 57)) {m c : Nat} (h : m < 4) (hc : c < qCn w m) : G 57 (1 + 11 * m + 1 + 2 * c) = qCf w (4 * m + c) := (hm.2.2.1 m c h hc).1
theorem MD.ct (hw : Wok w) (hm : MD w (G 57)) {m c : Nat} (h : m < 4) (hc : c < qCn w m) : G 57 (1 + 11 * m + 1 + 2 * c + 1) = qCt w (4 * m + c) := (hm.2.2.1 m c h hc).2
theorem MD.su (hw : Wok w) (hm : MD w (G 57)) {a b : Nat} (ha : a < 4) (hb : b < 4) : G 57 (45 + (4 * a + b)) = qSu w a b := hm.2.2.2.1 _ (by omega)
theorem MD.rel (hw : Wok w) (hm : MD w (G 57)) {j : Nat} (hj : j < qN w) : G 57 (61 + 15 * j) = qRel w j := (hm.2.2.2.2.1 j hj).1
theorem MD.du (hw : Wok w) (hm : MD w (G 57)) {j : Nat} (hj : j < qN w) : G 57 (61 + 15 * j + 1) = qDu w j := (hm.2.2.2.2.1 j hj).2.1
theorem MD.wt (hw : Wok w) (hm : MD w (G 57)) {j : Nat} (hj : j < qN w) : G 57 (61 + 15 * j + 2) = qWt w j := (hm.2.2.2.2.1 j hj).2.2.1
theorem MD.kd (hw : Wok w) (hm : MD w (G 57)) {j : Nat} (hj : j < qN w) : G 57 (61 + 15 * j + 3) = (qKd w j : Int) := (hm.2.2.2.2.1 j hj).2.2.2.1.trans (hw.kd hj).1
theorem MD.st (hw : Wok w) (hm : MD w (G 57)) {j : Nat} (hj : j < qN w) : G 57 (61 + 15 * j + 4) = (qSt w j : Int) := (hm.2.2.2.2.1 j hj).2.2.2.2.trans (hw.st hj).1
theorem MD.mc (hw : Wok w) (hm : MD w (G 57)) {j s : Nat} (hj : j < qN w) (hs : s < qSt w j) : G 57 (61 + 15 * j + (5 + 2 * s)) = (qMc w (5 * j + s) : Int) := (hm.2.2.2.2.2.1 j s hj hs).1.trans (hw.mc hj hs).1
theorem MD.hr (hw : Wok w) (hm : MD w (G 57)) {j s : Nat} (hj : j < qN w) (hs : s < qSt w j) : G 57 (61 + 15 * j + (5 + 2 * s + 1)) = qHr w (5 * j + s) := (hm.2.2.2.2.2.1 j s hj hs).2
theorem M_of (hw : Wok w) (hm : MD w (G 57)) {j : Nat} (hj : j < qN w) {q : Int} {k : Nat} (hq : q = (k : Int)) (hk : k < 15) : P_X11_of (j : Int) q G = some (G 57 (61 + 15 * j + k)) := by
  have hn := hw.n
  refine Ok.get ?_
  unfold P_X11_of
  exact Ok.ld (61 + 15 * j + k) (by omega) (by omega) (by omega) (Ok.so rfl)
theorem M_rel (hw : Wok w) (hm : MD w (G 57)) {j : Nat} (hj : j < qN w) : P_X11_of (j : Int) 0 G = some (qRel w j) := (M_of hw hm hj (k := 0) rfl (by omega)).trans (congrArg some (hm.rel hw hj))
theorem M_du (hw : Wok w) (hm : MD w (G 57)) {j : Nat} (hj : j < qN w) : P_X11_of (j : Int) 1 G = some (qDu w j) := (M_of hw hm hj (k := 1) rfl (by omega)).trans (congrArg some (hm.du hw hj))
theorem M_wt (hw : Wok w) (hm : MD w (G 57)) {j : Nat} (hj : j < qN w) : P_X11_of (j : Int) 2 G = some (qWt w j) := (M_of hw hm hj (k := 2) rfl (by omega)).trans (congrArg some (hm.wt hw hj))
theorem M_kd (hw : Wok w) (hm : MD w (G 57)) {j : Nat} (hj : j < qN w) : P_X11_of (j : Int) 3 G = some (qKd w j : Int) := (M_of hw hm hj (k := 3) rfl (by omega)).trans (congrArg some (hm.kd hw hj))
theorem M_st (hw : Wok w) (hm : MD w (G 57)) {j : Nat} (hj : j < qN w) : P_X11_of (j : Int) 4 G = some (qSt w j : Int) := (M_of hw hm hj (k := 4) rfl (by omega)).trans (congrArg some (hm.st hw hj))
theorem M_machineOf (hw : Wok w) (hm : MD w (G 57)) {j s : Nat} (hj : j < qN w) (hs : s < qSt w j) : P_X11_machineOf (j : Int) (s : Int) G = some (qMc w (5 * j + s) : Int) := by
  have h5 := (hw.st hj).2
  refine Ok.get ?_
  unfold P_X11_machineOf
  refine Ok.eq (M_of hw hm hj (k := 5 + 2 * s) (by omega) (by omega)) (Ok.so ?_)
  exact hm.mc hw hj hs
theorem M_hoursOf (hw : Wok w) (hm : MD w (G 57)) {j s : Nat} (hj : j < qN w) (hs : s < qSt w j) : P_X11_hoursOf (j : Int) (s : Int) G = some (qHr w (5 * j + s)) := by
  have h5 := (hw.st hj).2
  refine Ok.get ?_
  unfold P_X11_hoursOf
  refine Ok.eq (M_of hw hm hj (k := 5 + 2 * s + 1) (by omega) (by omega)) (Ok.so ?_)
  exact hm.hr hw hj hs
theorem M_allSteps (hw : Wok w) (hm : MD w (G 57)) : P_X11_allSteps G = some (qTot w) := by
  have hn := hw.n
  refine Ok.get ?_
  unfold P_X11_allSteps
  refine Ok.seq2 (fun k => sm (fun j => (qSt w j : Int)) k) (fun k => (k : Int)) (qN w) LF (LF_lt (by omega)) (fun k hk again hag => ?_) (fun again => ?_)
  · refine Ok.ld 0 rfl (by omega) (by omega) ?_
    rw [hm.n hw]
    refine Ok.condT (ilt_nat (by omega) (by omega)) hk ?_
    refine Ok.eq (M_st hw hm hk) ?_
    exact hag
  · refine Ok.ld 0 rfl (by omega) (by omega) ?_
    rw [hm.n hw]
    refine Ok.condF (ilt_nat (by omega) (by omega)) (Nat.lt_irrefl _) ?_
    exact Ok.so rfl
theorem M_open (hw : Wok w) (hm : MD w (G 57)) {m : Nat} (h4 : m < 4) {h len : Int} (h1 : 0 ≤ h ∧ h ≤ 100000) (h2 : 0 ≤ len ∧ len ≤ 1000) : P_X11_open (m : Int) h len G = some (qOpen w m h len) := by
  have hc4 := (hw.cn h4).2
  have hcn := hm.cn hw h4
  refine Ok.get ?_
  unfold P_X11_open
  refine Ok.lp2 (fun k x5 x4 => (x4 = 1 ∧ h ≤ x5 ∧ x5 ≤ 100000 ∧ (∀ r, h ≤ r → qFree w m len r → x5 ≤ r) ∧ k = qCn w m + 2 - qPs w m x5) ∨ (x4 = 0 ∧ x5 = qOpen w m h len)) (fun k again x5 x4 hI hag => ?_) LF (qCn w m + 2 - qPs w m h) h 1 (LF_lt (by omega)) (Or.inl ⟨rfl, Int.le_refl h, h1.2, fun r hr _ => hr, rfl⟩)
  rcases hI with ⟨rfl, g1, g2, g3, g4⟩ | ⟨rfl, g1⟩
  · refine Ok.condF (ieq_id (by omega) (by omega) (by omega) (by omega)) (by omega) ?_
    have hps := qPs_le w m x5
    refine Ok.jn2 (fun y z => y = qRo w m len x5 ∧ z = (if qRo w m len x5 = x5 then 0 else 1)) (fun y z hy => ?_) (fun k11 hk11 => ?_)
    · obtain ⟨rfl, rfl⟩ := hy
      by_cases hf : qFree w m len x5
      · have e1 := qRo_id hf
        rw [if_pos e1]
        refine hag 0 _ _ (by omega) (Or.inr ⟨rfl, ?_⟩)
        rw [e1]
        exact (qOpen_of g1 hf g3).symm
      · have e1 := qRo_ps hf
        have e2 : qRo w m len x5 ≠ x5 := fun e => by
          rw [e] at e1
          omega
        rw [if_neg e2]
        have e3 := qPs_le w m (qRo w m len x5)
        have e4 := qRo_le w m len x5
        have e5 := qRo_hi hw h4 (len := len) g2 (by omega)
        exact hag _ _ _ (by omega) (Or.inl ⟨rfl, by omega, e5, fun r hr hfr => qRo_least (g3 r hr hfr) hfr, rfl⟩)
    · refine Ok.for3 (fun c a b => a = it (qO1 w m len) c x5 ∧ b = (if it (qO1 w m len) c x5 = x5 then 0 else 1)) (qCn w m) LF (LF_lt (by omega)) ⟨rfl, (if_pos rfl).symm⟩ (fun c hc again2 a b hab hag2 => ?_) (fun again2 a b hab => ?_)
      · obtain ⟨rfl, rfl⟩ := hab
        have hag2 := hag2 _ _ ⟨rfl, rfl⟩
        have b3 : x5 ≤ it (qO1 w m len) c x5 := qRoK_le w m len c x5
        have b4 : it (qO1 w m len) c x5 ≤ 100000 := it_inv (fun _ x => x ≤ 100000) g2 (fun _ hk _ hx => qO1_hi hw h4 (by omega) hx (by omega))
        have e5 : it (qO1 w m len) (c + 1) x5 = qO1 w m len c (it (qO1 w m len) c x5) := rfl
        rw [e5] at hag2
        generalize it (qO1 w m len) c x5 = H2 at b3 b4 hag2 ⊢
        have hcl := hw.cl h4 hc
        refine Ok.ld (1 + 11 * m) (by omega) (by omega) (by omega) ?_
        rw [hcn]
        refine Ok.condT (ilt_nat (by omega) (by omega)) hc ?_
        refine Ok.ld (1 + 11 * m + 1 + 2 * c + 1) (by omega) (by omega) (by omega) ?_
        rw [hm.ct hw h4 hc]
        refine Ok.jn2 (fun y z => y = qO1 w m len c H2 ∧ z = (if qO1 w m len c H2 = x5 then 0 else 1)) (fun y z hy => ?_) (fun k22 hk22 => ?_)
        · obtain ⟨rfl, rfl⟩ := hy
          exact hag2
        · refine Ok.cd (ilt_id (by omega) (by omega) (by omega) (by omega)) (fun q1 => ?_) (fun q1 => ?_)
          · refine Ok.ld (1 + 11 * m + 1 + 2 * c) (by omega) (by omega) (by omega) ?_
            rw [hm.cf hw h4 hc]
            refine Ok.cd (ilt_id (by omega) (by omega) (by omega) (by omega)) (fun q2 => ?_) (fun q2 => ?_)
            · refine Ok.ld (1 + 11 * m + 1 + 2 * c + 1) (by omega) (by omega) (by omega) ?_
              rw [hm.ct hw h4 hc]
              have e6 : qO1 w m len c H2 = qCt w (4 * m + c) := by
                unfold qO1
                rw [if_pos ⟨q1, q2⟩]
              refine hk22 _ _ ⟨e6.symm, ?_⟩
              rw [e6, if_neg (by omega)]
            · have e6 : qO1 w m len c H2 = H2 := by
                unfold qO1
                rw [if_neg (fun h => q2 h.2)]
              refine hk22 _ _ ⟨e6.symm, ?_⟩
              rw [e6]
          · have e6 : qO1 w m len c H2 = H2 := by
              unfold qO1
              rw [if_neg (fun h => q1 h.1)]
            refine hk22 _ _ ⟨e6.symm, ?_⟩
            rw [e6]
      · obtain ⟨rfl, rfl⟩ := hab
        refine Ok.ld (1 + 11 * m) (by omega) (by omega) (by omega) ?_
        rw [hcn]
        refine Ok.condF (ilt_nat (by omega) (by omega)) (Nat.lt_irrefl _) ?_
        exact hk11 _ _ ⟨rfl, rfl⟩
  · refine Ok.condT (ieq_id (by omega) (by omega) (by omega) (by omega)) rfl ?_
    exact Ok.so g1
end MD1
