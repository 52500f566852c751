/-! ===== the model works a timetable out ===== -/
def mEn (w : wS) (dn : Nat → Nat) (B : Nat → Int) (j : Nat) : Int := if dn j = 0 then qRel w j else B (5 * j + dn j - 1) + qHr w (5 * j + dn j - 1)
def MT (w : wS) (dn cm : Nat → Nat) (od : Nat → Nat → Nat) (B W : Nat → Int) (G : mG) : Prop :=
  (∀ j, j < 6 → G 60 j = (dn j : Int)) ∧ (∀ j, j < qN w → G 61 j = mEn w dn B j) ∧
  (∀ m, m < 4 → G 62 m = (if cm m = 0 then -1 else (cd (od m (cm m - 1)) : Int)) ∧ G 63 m = (if cm m = 0 then 0 else B (od m (cm m - 1)) + qHr w (od m (cm m - 1))) ∧ G 64 m = (if cm m = 0 then 0 else W (od m (cm m - 1)))) ∧
  (∀ j s, j < qN w → s < dn j → G 59 (5 * j + s) = B (5 * j + s))
/-- jobs' and machines' counts that belong together, small numbers -/
def Cs (w : wS) (dn cm : Nat → Nat) (od : Nat → Nat → Nat) (B W : Nat → Int) : Prop :=
  (∀ j, j < qN w → dn j ≤ qSt w j) ∧ (∀ j, qN w ≤ j → dn j = 0) ∧ (∀ m k, m < 4 → k < cm m → ∃ j s, od m k = 5 * j + s ∧ j < qN w ∧ s < dn j ∧ s < 5) ∧
  (∀ j s, s < dn j → (0 ≤ B (5 * j + s) ∧ B (5 * j + s) ≤ 30000) ∧ (0 ≤ W (5 * j + s) ∧ W (5 * j + s) ≤ 3000)) ∧ (∀ m, cm m ≤ 30)
def FrM (G G' : mG) : Prop := ∀ a, ¬ (59 ≤ a ∧ a ≤ 65) → G' a = G a
theorem FrM.rf (G : mG) : FrM G G := fun _ _ => rfl
theorem FrM.tr {A B C : mG} (h1 : FrM A B) (h2 : FrM B C) : FrM A C := fun a h => (h2 a h).trans (h1 a h)
theorem FrM.up2 {G : mG} (a i : Nat) (x : Int) (h : 59 ≤ a ∧ a ≤ 65) : FrM G (up2 G a i x) := fun b hb => up2_ne (fun e => hb (e ▸ h))
theorem mEn_eq {w : wS} {dn : Nat → Nat} {B : Nat → Int} {j : Nat} (h : dn j < 5) : mEn w dn B j = qRd w B (5 * j + dn j) := by
  have e1 : (5 * j + dn j) % 5 = dn j := by omega
  have e2 : (5 * j + dn j) / 5 = j := by omega
  unfold mEn qRd
  rw [e1, e2]
section MT1
variable {w : wS} {G : mG} {dn cm : Nat → Nat} {od : Nat → Nat → Nat} {B W : Nat → Int}
theorem Cs.hr (hw : Wok w) (hC : Cs w dn cm od B W) {j s : Nat} (hs : s < dn j) : j < qN w ∧ 1 ≤ qHr w (5 * j + s) ∧ qHr w (5 * j + s) ≤ 50 := by
  have hj : j < qN w := by
    refine Classical.byContradiction fun h => ?_
    have := hC.2.1 j (by omega)
    omega
  have := hC.1 j hj
  exact ⟨hj, hw.hr hj (by omega)⟩
theorem mEn_bd (hw : Wok w) (hC : Cs w dn cm od B W) {j : Nat} (hj : j < qN w) : 0 ≤ mEn w dn B j ∧ mEn w dn B j ≤ 30100 := by
  have h1 := hw.rel hj
  unfold mEn
  by_cases h : dn j = 0
  · rw [if_pos h]
    omega
  · rw [if_neg h, show 5 * j + dn j - 1 = 5 * j + (dn j - 1) by omega]
    have h2 := hC.2.2.2.1 j (dn j - 1) (by omega)
    have h3 := Cs.hr hw hC (j := j) (s := dn j - 1) (by omega)
    omega
theorem M_isChanged (hw : Wok w) (hm : MD w (G 57)) (hC : Cs w dn cm od B W) (hT : MT w dn cm od B W G) {m : Nat} (h4 : m < 4) {j s : Nat} (hj : j < qN w) (hs : s < qSt w j) (he : qMc w (5 * j + s) = m) : P_X11_isChanged (m : Int) (qHr w (5 * j + s)) G = some (if cm m = 0 then false else qTl w (W (od m (cm m - 1))) (5 * j + s)) := by
  have hr := hw.hr hj hs
  have hlf := hw.lf h4
  refine Ok.get ?_
  unfold P_X11_isChanged
  refine Ok.ld (1 + 11 * m + 9) (by omega) (by omega) (by omega) ?_
  rw [hm.lf hw h4]
  refine Ok.ld m rfl h4 (by omega) ?_
  rw [(hT.2.2.1 m h4).1]
  refine Ok.lk ?_
  by_cases h0 : cm m = 0
  · rw [if_pos h0, if_pos h0]
    refine Ok.condT (ieq_id (by omega) (by omega) (by omega) (by omega)) rfl ?_
    exact Ok.so rfl
  · rw [if_neg h0, if_neg h0]
    obtain ⟨jp, sp, b1, b2, b3, b4⟩ := hC.2.2.1 m (cm m - 1) h4 (by omega)
    have hn := hw.n
    have hB := hC.2.2.2.1 jp sp b3
    rw [b1, cd_js b4]
    refine Ok.condF (ieq_id (by omega) (by omega) (by omega) (by omega)) (by omega) ?_
    unfold qTl
    rw [he]
    refine Ok.cd (ilt_id (by omega) (by omega) (by omega) (by omega)) (fun h1 => ?_) (fun h1 => ?_)
    · refine Ok.ld m rfl h4 (by omega) ?_
      rw [(hT.2.2.1 m h4).2.2, if_neg h0, b1]
      refine Ok.cd (ilt_id (by omega) (by omega) (by omega) (by omega)) (fun h2 => ?_) (fun h2 => ?_)
      · exact Ok.so (decide_eq_true ⟨by omega, h2⟩).symm
      · exact Ok.so (decide_eq_false (fun h => h2 h.2)).symm
    · exact Ok.so (decide_eq_false (fun h => by omega)).symm
theorem M_between (hw : Wok w) (hm : MD w (G 57)) (hC : Cs w dn cm od B W) (hT : MT w dn cm od B W G) {m : Nat} (h4 : m < 4) {j s : Nat} (hj : j < qN w) (hs : s < qSt w j) (he : qMc w (5 * j + s) = m) : P_X11_between (m : Int) (j : Int) (qHr w (5 * j + s)) G = some (if cm m = 0 then 0 else qBw w (od m (cm m - 1)) (W (od m (cm m - 1))) (5 * j + s)) := by
  have hr := hw.hr hj hs
  have h5 := (hw.st hj).2
  refine Ok.get ?_
  unfold P_X11_between
  refine Ok.ld m rfl h4 (by omega) ?_
  rw [(hT.2.2.1 m h4).1]
  by_cases h0 : cm m = 0
  · rw [if_pos h0, if_pos h0]
    refine Ok.condT (ieq_id (by omega) (by omega) (by omega) (by omega)) rfl ?_
    exact Ok.so rfl
  · rw [if_neg h0, if_neg h0]
    obtain ⟨jp, sp, b1, b2, b3, b4⟩ := hC.2.2.1 m (cm m - 1) h4 (by omega)
    have hn := hw.n
    have hic := M_isChanged hw hm hC hT h4 hj hs he
    rw [if_neg h0] at hic
    have hcell : G 62 m = ((10 * jp + sp : Nat) : Int) := by rw [(hT.2.2.1 m h4).1, if_neg h0, b1, cd_js b4]
    rw [b1, cd_js b4]
    rw [b1] at hic
    refine Ok.condF (ieq_id (by omega) (by omega) (by omega) (by omega)) (by omega) ?_
    refine Ok.ld m rfl h4 (by omega) ?_
    rw [hcell]
    have e1 : iDiv ((10 * jp + sp : Nat) : Int) 10 = (jp : Int) := by
      rw [iDiv_id (by omega) (by omega) (by omega) (by omega)]
      omega
    rw [e1]
    refine Ok.eq (M_kd hw hm b2) ?_
    refine Ok.eq (M_kd hw hm hj) ?_
    have k1 := hw.kd b2
    have k2 := hw.kd hj
    refine Ok.ld (45 + (4 * qKd w jp + qKd w j)) (by omega) (by omega) (by omega) ?_
    rw [hm.su hw k1.2 k2.2]
    refine Ok.eq hic ?_
    have d1 : (5 * jp + sp) / 5 = jp := by omega
    have d2 : (5 * j + s) / 5 = j := by omega
    unfold qBw
    rw [d1, d2, he]
    refine Ok.lk ?_
    refine Ok.it (fun h => ?_) (fun h => ?_)
    · refine Ok.ld (1 + 11 * m + 10) (by omega) (by omega) (by omega) (Ok.so ?_)
      rw [if_pos h, hm.cg hw h4]
    · refine Ok.so ?_
      rw [if_neg (by rw [h]; exact Bool.false_ne_true)]
theorem M_beginOf (hw : Wok w) (hm : MD w (G 57)) (hC : Cs w dn cm od B W) (hT : MT w dn cm od B W G) {j : Nat} (hj : j < qN w) (hs : dn j < qSt w j) : P_X11_beginOf (j : Int) G = some (qHo w B W (od (qMc w (5 * j + dn j))) (cm (qMc w (5 * j + dn j))) (5 * j + dn j) 0) ∧ 0 ≤ qHo w B W (od (qMc w (5 * j + dn j))) (cm (qMc w (5 * j + dn j))) (5 * j + dn j) 0 ∧ qHo w B W (od (qMc w (5 * j + dn j))) (cm (qMc w (5 * j + dn j))) (5 * j + dn j) 0 ≤ 32000 := by
  have hn := hw.n
  have hr := hw.hr hj hs
  have h5 := (hw.st hj).2
  have hmc := hw.mc hj hs
  have hen := mEn_bd hw hC hj
  have hee := mEn_eq (w := w) (dn := dn) (B := B) (j := j) (by omega)
  have hbt := M_between hw hm hC hT hmc.2 hj hs rfl
  generalize he : qMc w (5 * j + dn j) = m at hmc hbt ⊢
  have key : 0 ≤ (if cm m = 0 then 0 else B (od m (cm m - 1)) + qHr w (od m (cm m - 1))) ∧ (if cm m = 0 then 0 else B (od m (cm m - 1)) + qHr w (od m (cm m - 1))) ≤ 30100 ∧ 0 ≤ (if cm m = 0 then 0 else qBw w (od m (cm m - 1)) (W (od m (cm m - 1))) (5 * j + dn j)) ∧ (if cm m = 0 then 0 else qBw w (od m (cm m - 1)) (W (od m (cm m - 1))) (5 * j + dn j)) ≤ 40 := by
    by_cases h0 : cm m = 0
    · rw [if_pos h0, if_pos h0]
      omega
    · rw [if_neg h0, if_neg h0]
      obtain ⟨jp, sp, b1, b2, b3, b4⟩ := hC.2.2.1 m (cm m - 1) hmc.2 (by omega)
      have hB := hC.2.2.2.1 jp sp b3
      have hr2 := Cs.hr hw hC b3
      rw [b1]
      have h7 := qBw_bd hw (p := 5 * jp + sp) (wp := W (5 * jp + sp)) (x := 5 * j + dn j) (by omega) (by omega) (by omega)
      omega
  have ev : (if cm m = 0 then max (qRd w B (5 * j + dn j)) 0 else max (max (qRd w B (5 * j + dn j)) 0) (B (od m (cm m - 1)) + qHr w (od m (cm m - 1)) + qBw w (od m (cm m - 1)) (W (od m (cm m - 1))) (5 * j + dn j))) = max (mEn w dn B j) ((if cm m = 0 then 0 else B (od m (cm m - 1)) + qHr w (od m (cm m - 1))) + (if cm m = 0 then 0 else qBw w (od m (cm m - 1)) (W (od m (cm m - 1))) (5 * j + dn j))) := by
    rw [← hee]
    by_cases h0 : cm m = 0
    · rw [if_pos h0, if_pos h0, if_pos h0]
      omega
    · rw [if_neg h0, if_neg h0, if_neg h0]
      omega
  have hl := qOpen_le w m (max (mEn w dn B j) ((if cm m = 0 then 0 else B (od m (cm m - 1)) + qHr w (od m (cm m - 1))) + (if cm m = 0 then 0 else qBw w (od m (cm m - 1)) (W (od m (cm m - 1))) (5 * j + dn j)))) (qHr w (5 * j + dn j))
  have hh := qOpen_hi hw hmc.2 (len := qHr w (5 * j + dn j)) (h := max (mEn w dn B j) ((if cm m = 0 then 0 else B (od m (cm m - 1)) + qHr w (od m (cm m - 1))) + (if cm m = 0 then 0 else qBw w (od m (cm m - 1)) (W (od m (cm m - 1))) (5 * j + dn j)))) (b := 32000) (by omega) (by omega)
  refine ⟨?_, ?_, ?_⟩
  · refine Ok.get ?_
    unfold P_X11_beginOf qHo
    rw [he, ev]
    refine Ok.ld j rfl (by omega) (by omega) ?_
    rw [hT.1 j (by omega)]
    refine Ok.eq (M_machineOf hw hm hj hs) ?_
    rw [he]
    refine Ok.ld j rfl (by omega) (by omega) ?_
    rw [hT.1 j (by omega)]
    refine Ok.eq (M_hoursOf hw hm hj hs) ?_
    refine Ok.ld j rfl (by omega) (by omega) ?_
    rw [hT.2.1 j hj]
    refine Ok.ld m rfl hmc.2 (by omega) ?_
    rw [(hT.2.2.1 m hmc.2).2.1]
    refine Ok.eq hbt ?_
    rw [iMax_id (by omega) (by omega) (by omega) (by omega)]
    refine Ok.eq (M_open hw hm hmc.2 (by omega) (by omega)) (Ok.so rfl)
  · unfold qHo
    rw [he, ev]
    omega
  · unfold qHo
    rw [he, ev]
    exact hh
theorem M_does (hw : Wok w) (hm : MD w (G 57)) (hC : Cs w dn cm od B W) (hT : MT w dn cm od B W G) {j : Nat} (hj : j < qN w) (hs : dn j < qSt w j) {hour : Int} (hB : B (5 * j + dn j) = hour) (hW : W (5 * j + dn j) = qWe w W (od (qMc w (5 * j + dn j))) (cm (qMc w (5 * j + dn j))) (5 * j + dn j)) (ho : od (qMc w (5 * j + dn j)) (cm (qMc w (5 * j + dn j))) = 5 * j + dn j) : Ok (P_X11_does (j : Int) hour G) (fun G' => MT w (upf dn j (dn j + 1)) (upf cm (qMc w (5 * j + dn j)) (cm (qMc w (5 * j + dn j)) + 1)) od B W G' ∧ FrM G G' ∧ G' 65 = up1 (G 65) (qMc w (5 * j + dn j)) (G 65 (qMc w (5 * j + dn j)) + 1)) := by
  have hn := hw.n
  have hr := hw.hr hj hs
  have h5 := (hw.st hj).2
  have hmc := hw.mc hj hs
  have hic := M_isChanged hw hm hC hT hmc.2 hj hs rfl
  unfold P_X11_does
  refine Ok.ld j rfl (by omega) (by omega) ?_
  rw [hT.1 j (by omega)]
  refine Ok.eq (M_machineOf hw hm hj hs) ?_
  refine Ok.eq (M_hoursOf hw hm hj hs) ?_
  refine Ok.eq hic ?_
  generalize he : qMc w (5 * j + dn j) = m at *
  refine Ok.jn1 (fun y => y = W (5 * j + dn j)) (fun y hy => ?_) (fun k hk => ?_)
  · subst hy
    refine Ok.sto m rfl hmc.2 (by omega) ?_
    refine Ok.sto (5 * j + dn j) (by omega) (by omega) (by omega) ?_
    refine Ok.sto m rfl hmc.2 (by omega) ?_
    refine Ok.sto m rfl hmc.2 (by omega) ?_
    refine Ok.sto j rfl (by omega) (by omega) ?_
    refine Ok.ld j rfl (by omega) (by omega) ?_
    rw [up2_ne (by omega), up2_ne (by omega), up2_ne (by omega), up2_ne (by omega), up2_ne (by omega), hT.1 j (by omega)]
    refine Ok.sto j rfl (by omega) (by omega) ?_
    refine Ok.ld m rfl hmc.2 (by omega) ?_
    rw [up2_ne (b := 65) (by omega), up2_ne (b := 65) (by omega), up2_ne (b := 65) (by omega), up2_ne (b := 65) (by omega), up2_ne (b := 65) (by omega), up2_ne (b := 65) (by omega)]
    refine Ok.sto m rfl hmc.2 (by omega) (Ok.so ?_)
    have ecd : (10 * (j : Int) + (dn j : Int)) = (cd (od m (cm m)) : Int) := by
      rw [ho, cd_js (by omega)]
      omega
    rw [ecd]
    refine ⟨⟨fun j' hj' => ?_, fun j' hj' => ?_, fun m' hm' => ⟨?_, ?_, ?_⟩, fun j' s hj' hs' => ?_⟩, ?_, ?_⟩
    · simp only [up2_if, upf]
      by_cases h : j' = j
      · simp [h]
      · simp [h, hT.1 j' hj']
    · simp only [up2_if]
      unfold mEn upf
      by_cases h : j' = j
      · subst h
        simp [hB]
      · have := hT.2.1 j' hj'
        unfold mEn at this
        simp [h, this]
    · simp only [up2_if, upf]
      by_cases h : m' = m
      · simp [h]
      · simp [h, (hT.2.2.1 m' hm').1]
    · simp only [up2_if, upf]
      by_cases h : m' = m
      · simp [h, ho, hB]
      · simp [h, (hT.2.2.1 m' hm').2.1]
    · simp only [up2_if, upf]
      by_cases h : m' = m
      · simp [h, ho]
      · simp [h, (hT.2.2.1 m' hm').2.2]
    · simp only [up2_if]
      unfold upf at hs'
      by_cases h : 5 * j' + s = 5 * j + dn j
      · simp [h, hB]
      · have hs2 : s < dn j' := by
          by_cases h2 : j' = j
          · rw [if_pos h2] at hs'
            subst h2
            omega
          · rw [if_neg h2] at hs'
            exact hs'
        simp [h, hT.2.2.2 j' s hj' hs2]
    · exact (FrM.up2 _ _ _ (by omega)).tr ((FrM.up2 _ _ _ (by omega)).tr ((FrM.up2 _ _ _ (by omega)).tr ((FrM.up2 _ _ _ (by omega)).tr ((FrM.up2 _ _ _ (by omega)).tr ((FrM.up2 _ _ _ (by omega)).tr (FrM.up2 _ _ _ (by omega)))))))
    · rw [up2_eq, up2_ne (b := 65) (by omega), up2_ne (b := 65) (by omega), up2_ne (b := 65) (by omega), up2_ne (b := 65) (by omega), up2_ne (b := 65) (by omega), up2_ne (b := 65) (by omega)]
  · by_cases h0 : cm m = 0
    · rw [if_pos h0]
      refine Ok.iteF rfl ?_
      refine Ok.ld m rfl hmc.2 (by omega) ?_
      rw [(hT.2.2.1 m hmc.2).2.2, if_pos h0]
      refine hk _ ?_
      rw [hW]
      unfold qWe
      rw [if_pos h0, Int.zero_add]
    · rw [if_neg h0]
      unfold qWe at hW
      rw [if_neg h0] at hW
      refine Ok.it (fun h => ?_) (fun h => ?_)
      · refine hk _ ?_
        rw [hW, if_pos h]
      · refine Ok.ld m rfl hmc.2 (by omega) ?_
        rw [(hT.2.2.1 m hmc.2).2.2, if_neg h0]
        refine hk _ ?_
        rw [hW, if_neg (by rw [h]; exact Bool.false_ne_true)]
end MT1
