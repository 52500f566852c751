/-! ===== the class's timetable at t holds the row's timetable ===== -/
def FrT (t : Nat) (G G' : mG) : Prop := ∀ a, ¬ (t ≤ a ∧ a ≤ t + 8) → G' a = G a
theorem FrT.rf (t : Nat) (G : mG) : FrT t G G := fun _ _ => rfl
theorem FrT.tr {t : Nat} {A B C : mG} (h1 : FrT t A B) (h2 : FrT t B C) : FrT t A C := fun a h => (h2 a h).trans (h1 a h)
theorem FrT.xs {t : Nat} {w : wS} {G G' : mG} (h : FrT t G G') (ht : 17 ≤ t) (hx : XS w G) : XS w G' := fun a i h1 => by
  rw [h a (by have := h1.lo; omega)]
  exact hx a i h1
theorem FrT.up2 {t : Nat} {G : mG} (a i : Nat) (x : Int) (h : t ≤ a ∧ a ≤ t + 8) : FrT t G (up2 G a i x) := fun b hb => up2_ne (fun e => hb (e ▸ h))
def TT (t : Nat) (w : wS) (D : Nat → Int) (r : Nat → Nat) (n : Nat) (G : mG) : Prop :=
  G t 1 = (n : Int) ∧ (∀ i, i < n → G (t + 1) i = (r i : Int)) ∧ (∀ j, j < 6 → G (t + 2) j = (rD r n j : Int)) ∧ (∀ m, m < 4 → G (t + 3) m = (rC w r n m : Int)) ∧
  (∀ m k, m < 4 → k < rC w r n m → G (t + 4) (30 * m + k) = (tOd (qS w D r n) m k : Int)) ∧
  (∀ j s, j < 6 → s < rD r n j → G (t + 5) (5 * j + s) = tBg (qS w D r n) (5 * j + s) ∧ G (t + 6) (5 * j + s) = tAh (qS w D r n) (5 * j + s) ∧ G (t + 7) (5 * j + s) = tBt (qS w D r n) (5 * j + s) ∧ G (t + 8) (5 * j + s) = tWr (qS w D r n) (5 * j + s))
/-- begins and wear stay small -/
def DB (D : Nat → Int) : Prop := ∀ x, 0 ≤ D x ∧ D x ≤ 20000
section TT1
variable {w : wS} {r : Nat → Nat} {n : Nat} {D : Nat → Int}
theorem rM_lt (hw : Wok w) (hv : qV w r n) {i : Nat} (hi : i < n) : rM w r i < 4 := (hw.mc (hv i hi).1 (hv i hi).2).2
theorem rHr (hw : Wok w) (hv : qV w r n) {i : Nat} (hi : i < n) : 1 ≤ qHr w (rX r i) ∧ qHr w (rX r i) ≤ 50 := hw.hr (hv i hi).1 (hv i hi).2
theorem qBw_bd (hw : Wok w) {p x : Nat} {wp : Int} (hp : p / 5 < qN w) (hx : x / 5 < qN w) (hm : qMc w x < 4) : 0 ≤ qBw w p wp x ∧ qBw w p wp x ≤ 40 := by
  have h1 := hw.su (hw.kd hp).2 (hw.kd hx).2
  have h2 := hw.cg hm
  unfold qBw
  split <;> omega
theorem qS_bd (hw : Wok w) (hD : DB D) : ∀ {n : Nat}, qV w r n → ∀ i, i < n → (0 ≤ tBg (qS w D r n) (rX r i) ∧ tBg (qS w D r n) (rX r i) + qHr w (rX r i) ≤ 20000 + 100 * (i + 1)) ∧ (0 ≤ tWr (qS w D r n) (rX r i) ∧ tWr (qS w D r n) (rX r i) ≤ 100 * (i + 1)) := by
  intro n hv i
  induction i using Nat.strongRecOn with
  | ind i ih =>
    intro hi
    have h5 := rS_lt5 hw hv hi
    have hm := rM_lt hw hv hi
    have hr := rHr hw hv hi
    have hd := rX_div hw hv hi
    have hj := (hv i hi).1
    have hrel := hw.rel hj
    rw [qS_eqB hw hv hi, qS_eqW hw hv hi]
    have e1 : 0 ≤ qRd w (tBg (qS w D r n)) (rX r i) ∧ qRd w (tBg (qS w D r n)) (rX r i) ≤ 20000 + 100 * i := by
      unfold qRd
      split
      · rw [hd.1]
        omega
      · next h0 =>
        obtain ⟨i', a1, a2, a3, a4⟩ := rX_pre hw hv hi h0
        have h1 := (ih i' a1 (by omega)).1
        have h2 := rHr hw hv (show i' < n by omega)
        rw [a4] at h1 h2
        omega
    have hDx := hD (rX r i)
    have hm' : qMc w (rX r i) < 4 := hm
    constructor
    · unfold qHo
      by_cases hk : rK w r i = 0
      · rw [if_pos hk]
        have h1 := qOpen_le w (qMc w (rX r i)) (max (qRd w (tBg (qS w D r n)) (rX r i)) (D (rX r i))) (qHr w (rX r i))
        have h2 := qOpen_hi hw hm' (len := qHr w (rX r i)) (h := max (qRd w (tBg (qS w D r n)) (rX r i)) (D (rX r i))) (b := 20000 + 100 * (i : Int)) (by omega) (by omega)
        omega
      · rw [if_neg hk]
        obtain ⟨i', a1, a2, a3⟩ := rK_pre hk
        have e5 : tOd (qS w D r n) (rM w r i) (rK w r i - 1) = rX r i' := by
          rw [← a2, show rK w r i - 1 = rK w r i' by omega]
          exact qS_od hw hv (by omega)
        rw [e5]
        have h1 := ih i' a1 (by omega)
        have h2 := rHr hw hv (show i' < n by omega)
        have h3 := qBw_bd hw (p := rX r i') (wp := tWr (qS w D r n) (rX r i')) (x := rX r i) (by rw [(rX_div hw hv (show i' < n by omega)).1]; exact (hv i' (by omega)).1) (by rw [hd.1]; exact hj) hm'
        have h4 := qOpen_le w (qMc w (rX r i)) (max (max (qRd w (tBg (qS w D r n)) (rX r i)) (D (rX r i))) (tBg (qS w D r n) (rX r i') + qHr w (rX r i') + qBw w (rX r i') (tWr (qS w D r n) (rX r i')) (rX r i))) (qHr w (rX r i))
        have h6 := qOpen_hi hw hm' (len := qHr w (rX r i)) (h := max (max (qRd w (tBg (qS w D r n)) (rX r i)) (D (rX r i))) (tBg (qS w D r n) (rX r i') + qHr w (rX r i') + qBw w (rX r i') (tWr (qS w D r n) (rX r i')) (rX r i))) (b := 20000 + 100 * (i : Int) + 40) (by omega) (by omega)
        omega
    · unfold qWe
      by_cases hk : rK w r i = 0
      · rw [if_pos hk]
        omega
      · rw [if_neg hk]
        obtain ⟨i', a1, a2, a3⟩ := rK_pre hk
        have e5 : tOd (qS w D r n) (rM w r i) (rK w r i - 1) = rX r i' := by
          rw [← a2, show rK w r i - 1 = rK w r i' by omega]
          exact qS_od hw hv (by omega)
        rw [e5]
        have h1 := (ih i' a1 (by omega)).2
        split <;> omega
/-- what a step that is put says of itself -/
theorem qS_js (hw : Wok w) (hD : DB D) (hv : qV w r n) {j s : Nat} (hs : s < rD r n j) : j < qN w ∧ s < qSt w j ∧ s < 5 ∧ (0 ≤ tBg (qS w D r n) (5 * j + s) ∧ tBg (qS w D r n) (5 * j + s) ≤ 23000) ∧ (0 ≤ tWr (qS w D r n) (5 * j + s) ∧ tWr (qS w D r n) (5 * j + s) ≤ 3000) ∧ (1 ≤ qHr w (5 * j + s) ∧ qHr w (5 * j + s) ≤ 50) ∧ qMc w (5 * j + s) < 4 := by
  obtain ⟨i, h1, h2, h3, h4⟩ := rX_of hs
  have h5 := qV_30 hw hv
  have h6 := qS_bd hw hD hv i h1
  have h7 := rHr hw hv h1
  have h8 := hv i h1
  have h9 := rS_lt5 hw hv h1
  have h10 := rM_lt hw hv h1
  unfold rM at h10
  rw [h4] at h6 h7 h10
  rw [h2, h3] at h8
  rw [h3] at h9
  exact ⟨h8.1, h8.2, h9, by omega, by omega, h7, h10⟩
/-- what an order's place says of itself -/
theorem qS_mk (hw : Wok w) (hv : qV w r n) {m k : Nat} (hk : k < rC w r n m) : ∃ j s, tOd (qS w D r n) m k = 5 * j + s ∧ j < qN w ∧ s < rD r n j ∧ s < 5 ∧ qMc w (5 * j + s) = m := by
  obtain ⟨i, h1, h2, h3⟩ := rK_of hk
  refine ⟨r i, rS r i, ?_, (hv i h1).1, rX_lt h1, rS_lt5 hw hv h1, h2⟩
  rw [← h2, ← h3]
  exact qS_od hw hv h1
theorem rC_30 (hw : Wok w) (hv : qV w r n) (m : Nat) : rC w r n m ≤ 30 := Nat.le_trans (ct_le _ _) (qV_30 hw hv)
/-- only the row's places up to n count -/
theorem rD_cong {r' : Nat → Nat} (h : ∀ i, i < n → r i = r' i) (j : Nat) : rD r n j = rD r' n j := ct_cong (fun i hi => by rw [h i hi])
theorem rS_cong {r' : Nat → Nat} (h : ∀ i, i < n → r i = r' i) {i : Nat} (hi : i < n) : rS r i = rS r' i := by
  unfold rS
  rw [h i hi]
  exact rD_cong (fun k hk => h k (by omega)) _
theorem rX_cong {r' : Nat → Nat} (h : ∀ i, i < n → r i = r' i) {i : Nat} (hi : i < n) : rX r i = rX r' i := by
  unfold rX
  rw [h i hi, rS_cong h hi]
theorem rC_cong {r' : Nat → Nat} (h : ∀ i, i < n → r i = r' i) (m : Nat) : rC w r n m = rC w r' n m := ct_cong (fun i hi => by
  unfold rM
  rw [rX_cong h hi])
theorem qV_cong {r' : Nat → Nat} (h : ∀ i, i < n → r i = r' i) (hv : qV w r n) : qV w r' n := fun i hi => by
  rw [← h i hi, ← rS_cong h hi]
  exact hv i hi
theorem qS_cong {r' : Nat → Nat} {D' : Nat → Int} : ∀ {n : Nat}, (∀ i, i < n → r i = r' i) → (∀ i, i < n → D (rX r i) = D' (rX r i)) → qS w D r n = qS w D' r' n
  | 0, _, _ => rfl
  | n + 1, h, h2 => by
    rw [qS_succ, qS_succ, qS_cong (n := n) (fun i hi => h i (by omega)) (fun i hi => h2 i (by omega)), ← h n (Nat.lt_succ_self n)]
    have e1 : qx (qS w D' r' n) (r n) = rX r n := by
      rw [h n (Nat.lt_succ_self n), qS_qx]
      exact (rX_cong h (Nat.lt_succ_self n)).symm
    rw [e1, h2 n (Nat.lt_succ_self n)]
theorem TT_cong {t : Nat} {r' : Nat → Nat} {D' : Nat → Int} {G : mG} (h : ∀ i, i < n → r i = r' i) (h2 : ∀ i, i < n → D (rX r i) = D' (rX r i)) (hT : TT t w D r n G) : TT t w D' r' n G := by
  obtain ⟨a1, a2, a3, a4, a5, a6⟩ := hT
  have e := qS_cong (w := w) h h2
  refine ⟨a1, fun i hi => by rw [← h i hi]; exact a2 i hi, fun j hj => by rw [← rD_cong h]; exact a3 j hj, fun m hm => by rw [← rC_cong h]; exact a4 m hm, fun m k hm hk => ?_, fun j s hj hs => ?_⟩
  · rw [← e]
    rw [← rC_cong h] at hk
    exact a5 m k hm hk
  · rw [← e]
    rw [← rD_cong h] at hs
    exact a6 j s hj hs
theorem TT_fr {t : Nat} {G G' : mG} (h : ∀ a, t ≤ a → a ≤ t + 8 → G' a = G a) (hT : TT t w D r n G) : TT t w D r n G' := by
  unfold TT at hT ⊢
  rw [h t (by omega) (by omega), h (t + 1) (by omega) (by omega), h (t + 2) (by omega) (by omega), h (t + 3) (by omega) (by omega), h (t + 4) (by omega) (by omega), h (t + 5) (by omega) (by omega), h (t + 6) (by omega) (by omega), h (t + 7) (by omega) (by omega), h (t + 8) (by omega) (by omega)]
  exact hT
end TT1
section TT2
variable {w : wS} {r : Nat → Nat} {n t : Nat} {D : Nat → Int} {G : mG}
theorem TT.len (hT : TT t w D r n G) : G t 1 = (n : Int) := hT.1
theorem TT.row (hT : TT t w D r n G) {i : Nat} (hi : i < n) : G (t + 1) i = (r i : Int) := hT.2.1 i hi
theorem TT.dn (hT : TT t w D r n G) {j : Nat} (hj : j < 6) : G (t + 2) j = (rD r n j : Int) := hT.2.2.1 j hj
theorem TT.cm (hT : TT t w D r n G) {m : Nat} (hm : m < 4) : G (t + 3) m = (rC w r n m : Int) := hT.2.2.2.1 m hm
theorem TT.od (hT : TT t w D r n G) {m k : Nat} (hm : m < 4) (hk : k < rC w r n m) : G (t + 4) (30 * m + k) = (tOd (qS w D r n) m k : Int) := hT.2.2.2.2.1 m k hm hk
theorem TT.bg (hT : TT t w D r n G) {j s : Nat} (hj : j < 6) (hs : s < rD r n j) : G (t + 5) (5 * j + s) = tBg (qS w D r n) (5 * j + s) := (hT.2.2.2.2.2 j s hj hs).1
theorem TT.ah (hT : TT t w D r n G) {j s : Nat} (hj : j < 6) (hs : s < rD r n j) : G (t + 6) (5 * j + s) = tAh (qS w D r n) (5 * j + s) := (hT.2.2.2.2.2 j s hj hs).2.1
theorem TT.bt (hT : TT t w D r n G) {j s : Nat} (hj : j < 6) (hs : s < rD r n j) : G (t + 7) (5 * j + s) = tBt (qS w D r n) (5 * j + s) := (hT.2.2.2.2.2 j s hj hs).2.2.1
theorem TT.wr (hT : TT t w D r n G) {j s : Nat} (hj : j < 6) (hs : s < rD r n j) : G (t + 8) (5 * j + s) = tWr (qS w D r n) (5 * j + s) := (hT.2.2.2.2.2 j s hj hs).2.2.2
theorem S_hasLeft (hw : Wok w) (hx : XS w G) (hv : qV w r n) (hT : TT t w D r n G) {p : Int} (hp : -100 ≤ p ∧ p ≤ 100) : P_X8_hasLeft t p G = some (decide (0 ≤ p ∧ p < (qN w : Int) ∧ rD r n p.toNat < qSt w p.toNat)) := by
  have hn := hw.n
  refine Ok.get ?_
  unfold P_X8_hasLeft
  refine Ok.lk ?_
  refine Ok.cd (ilt_id (by omega) (by omega) (by omega) (by omega)) (fun h1 => ?_) (fun h1 => ?_)
  · exact Ok.so (decide_eq_false (fun h => by omega)).symm
  · rw [hx.n hw]
    refine Ok.cd (ilt_id (by omega) (by omega) (by omega) (by omega)) (fun h2 => ?_) (fun h2 => ?_)
    · have hj : p.toNat < qN w := by omega
      have h3 := (hw.st hj).2
      have h4 := rD_le hv hj
      refine Ok.ld p.toNat (by omega) (by omega) (by omega) ?_
      rw [hT.dn (by omega)]
      refine Ok.ld p.toNat (by omega) (by omega) (by omega) ?_
      rw [hx.st hw hj]
      refine Ok.cd (ilt_nat (by omega) (by omega)) (fun h5 => ?_) (fun h5 => ?_)
      · exact Ok.so (decide_eq_true ⟨by omega, h2, h5⟩).symm
      · exact Ok.so (decide_eq_false (fun h => h5 h.2.2)).symm
    · exact Ok.so (decide_eq_false (fun h => h2 h.2.1)).symm
theorem S_hasLeftN (hw : Wok w) (hx : XS w G) (hv : qV w r n) (hT : TT t w D r n G) {j : Nat} (hj : j < qN w) : P_X8_hasLeft t (j : Int) G = some (decide (rD r n j < qSt w j)) := by
  have hn := hw.n
  rw [S_hasLeft hw hx hv hT (p := (j : Int)) (by omega), Int.toNat_natCast]
  refine congrArg some (decide_eq_decide.mpr ⟨fun h => h.2.2, fun h => ⟨by omega, by omega, h⟩⟩)
theorem S_nextStep (hw : Wok w) (hx : XS w G) (hv : qV w r n) (hT : TT t w D r n G) {j : Nat} (hj : j < 6) : P_X8_nextStep t (j : Int) G = some ((5 * j + rD r n j : Nat) : Int) := by
  refine Ok.get ?_
  unfold P_X8_nextStep
  refine Ok.ld j rfl hj (by omega) (Ok.so ?_)
  rw [hT.dn hj]
  omega
theorem S_lastOn (hw : Wok w) (hx : XS w G) (hv : qV w r n) (hT : TT t w D r n G) {m : Nat} (hm : m < 4) : P_X8_lastOn t (m : Int) G = some (if rC w r n m = 0 then -1 else (tOd (qS w D r n) m (rC w r n m - 1) : Int)) := by
  have h30 := rC_30 hw hv m
  refine Ok.get ?_
  unfold P_X8_lastOn
  refine Ok.ld m rfl hm (by omega) ?_
  rw [hT.cm hm]
  refine Ok.cd (ieq_id (by omega) (by omega) (by omega) (by omega)) (fun h => ?_) (fun h => ?_)
  · rw [if_pos (by omega)]
    exact Ok.so rfl
  · rw [if_neg (by omega)]
    refine Ok.ld m rfl hm (by omega) ?_
    rw [hT.cm hm]
    refine Ok.ld (30 * m + (rC w r n m - 1)) (by omega) (by omega) (by omega) (Ok.so ?_)
    exact hT.od hm (by omega)
theorem S_endOfStep (hw : Wok w) (hx : XS w G) (hv : qV w r n) (hT : TT t w D r n G) {j s : Nat} (hj : j < 6) (hs : s < rD r n j) (h5 : s < 5) : P_X8_endOfStep t ((5 * j + s : Nat) : Int) G = some (tBg (qS w D r n) (5 * j + s) + qHr w (5 * j + s)) := by
  refine Ok.get ?_
  unfold P_X8_endOfStep
  refine Ok.ld (5 * j + s) rfl (by omega) (by omega) ?_
  rw [hT.bg hj hs]
  refine Ok.ld (5 * j + s) rfl (by omega) (by omega) (Ok.so ?_)
  rw [hx.hr hw (by omega)]
end TT2
/-- the hour from which on a job's next step may begin, by its job -/
def tRd (w : wS) (σ : qT) (j : Nat) : Int := if tDn σ j = 0 then qRel w j else tBg σ (5 * j + tDn σ j - 1) + qHr w (5 * j + tDn σ j - 1)
theorem tRd_eq {w : wS} {σ : qT} {j : Nat} (h : tDn σ j < 5) : tRd w σ j = qRd w (tBg σ) (5 * j + tDn σ j) := by
  have e1 : (5 * j + tDn σ j) % 5 = tDn σ j := by omega
  have e2 : (5 * j + tDn σ j) / 5 = j := by omega
  unfold tRd qRd
  rw [e1, e2]
section TT3
variable {w : wS} {r : Nat → Nat} {n t : Nat} {D : Nat → Int} {G : mG}
theorem S_readyHour (hw : Wok w) (hx : XS w G) (hv : qV w r n) (hD : DB D) (hT : TT t w D r n G) {j : Nat} (hj : j < qN w) : P_X8_readyHour t (j : Int) G = some (tRd w (qS w D r n) j) := by
  have hn := hw.n
  have h1 := (hw.st hj).2
  have h2 := rD_le hv hj
  refine Ok.get ?_
  unfold P_X8_readyHour tRd
  rw [qS_dn]
  refine Ok.ld j rfl (by omega) (by omega) ?_
  rw [hT.dn (by omega)]
  refine Ok.cd (ieq_id (by omega) (by omega) (by omega) (by omega)) (fun h => ?_) (fun h => ?_)
  · rw [if_pos (by omega)]
    refine Ok.ld j rfl (by omega) (by omega) (Ok.so ?_)
    exact hx.at j (by simp [aok, asz] <;> omega)
  · rw [if_neg (by omega)]
    refine Ok.eq (S_nextStep hw hx hv hT (by omega)) ?_
    have e1 : ((5 * j + rD r n j : Nat) : Int) - 1 = ((5 * j + (rD r n j - 1) : Nat) : Int) := by omega
    rw [e1]
    refine Ok.eq (S_endOfStep hw hx hv hT (by omega) (by omega) (by omega)) (Ok.so ?_)
    rw [show 5 * j + rD r n j - 1 = 5 * j + (rD r n j - 1) by omega]
theorem tRd_bd (hw : Wok w) (hx : XS w G) (hv : qV w r n) (hD : DB D) (hT : TT t w D r n G) {j : Nat} (hj : j < qN w) : 0 ≤ tRd w (qS w D r n) j ∧ tRd w (qS w D r n) j ≤ 23100 := by
  have hrel := hw.rel hj
  unfold tRd
  rw [qS_dn]
  by_cases h : rD r n j = 0
  · rw [if_pos h]
    omega
  · rw [if_neg h]
    have h1 := qS_js hw hD hv (show rD r n j - 1 < rD r n j by omega)
    rw [show 5 * j + rD r n j - 1 = 5 * j + (rD r n j - 1) by omega]
    omega
theorem S_needsTool (hw : Wok w) (hx : XS w G) (hv : qV w r n) (hD : DB D) (hT : TT t w D r n G) {jp sp j s : Nat} (hp : sp < rD r n jp) (hj : j < qN w) (hs : s < qSt w j) : P_X8_needsTool t ((5 * jp + sp : Nat) : Int) ((5 * j + s : Nat) : Int) G = some (qTl w (tWr (qS w D r n) (5 * jp + sp)) (5 * j + s)) := by
  have hn := hw.n
  obtain ⟨a1, a2, a3, a4, a5, a6, a7⟩ := qS_js hw hD hv hp
  have h1 := hw.mc hj hs
  have h2 := (hw.st hj).2
  have h3 := hw.lf h1.2
  have h4 := hw.hr hj hs
  refine Ok.get ?_
  unfold P_X8_needsTool
  refine Ok.ld (5 * j + s) rfl (by omega) (by omega) ?_
  rw [hx.mc hw hj hs]
  refine Ok.ld (qMc w (5 * j + s)) rfl h1.2 (by omega) ?_
  have e1 : G 12 (qMc w (5 * j + s)) = qLf w (qMc w (5 * j + s)) := hx.at _ (by simp [aok, asz] <;> omega)
  rw [e1]
  refine Ok.lk ?_
  unfold qTl
  refine Ok.cd (ieq_id (by omega) (by omega) (by omega) (by omega)) (fun h => ?_) (fun h => ?_)
  · exact Ok.so (decide_eq_false (fun g => g.1 h)).symm
  · refine Ok.ld (5 * jp + sp) rfl (by omega) (by omega) ?_
    rw [hT.wr (by omega) hp]
    refine Ok.ld (5 * j + s) rfl (by omega) (by omega) ?_
    rw [hx.hr hw (by omega)]
    refine Ok.cd (ilt_id (by omega) (by omega) (by omega) (by omega)) (fun g => ?_) (fun g => ?_)
    · exact Ok.so (decide_eq_true ⟨h, g⟩).symm
    · exact Ok.so (decide_eq_false (fun k => g k.2)).symm
theorem S_hoursBetween (hw : Wok w) (hx : XS w G) (hv : qV w r n) (hD : DB D) (hT : TT t w D r n G) {jp sp j s : Nat} (hp : sp < rD r n jp) (hj : j < qN w) (hs : s < qSt w j) : P_X8_hoursBetween t ((5 * jp + sp : Nat) : Int) ((5 * j + s : Nat) : Int) G = some (qBw w (5 * jp + sp) (tWr (qS w D r n) (5 * jp + sp)) (5 * j + s)) := by
  have hn := hw.n
  obtain ⟨a1, a2, a3, a4, a5, a6, a7⟩ := qS_js hw hD hv hp
  have h1 := hw.mc hj hs
  have h2 := (hw.st hj).2
  have k1 := hw.kd a1
  have k2 := hw.kd hj
  refine Ok.get ?_
  unfold P_X8_hoursBetween qBw
  have d1 : (5 * jp + sp) / 5 = jp := by omega
  have d2 : (5 * j + s) / 5 = j := by omega
  rw [d1, d2]
  refine Ok.ld jp (by rw [iDiv_id (by omega) (by omega) (by omega) (by omega)]; omega) (by omega) (by omega) ?_
  rw [hx.kd hw a1]
  refine Ok.ld j (by rw [iDiv_id (by omega) (by omega) (by omega) (by omega)]; omega) (by omega) (by omega) ?_
  rw [hx.kd hw hj]
  refine Ok.ld (4 * qKd w jp + qKd w j) (by omega) (by omega) (by omega) ?_
  have e1 : G 14 (4 * qKd w jp + qKd w j) = qSu w (qKd w jp) (qKd w j) := hx.at _ (by simp [aok, asz] <;> omega)
  rw [e1]
  refine Ok.eq (S_needsTool hw hx hv hD hT hp hj hs) ?_
  refine Ok.it (fun h => ?_) (fun h => ?_)
  · refine Ok.ld (5 * j + s) rfl (by omega) (by omega) ?_
    rw [hx.mc hw hj hs]
    refine Ok.ld (qMc w (5 * j + s)) rfl h1.2 (by omega) (Ok.so ?_)
    have e2 : G 13 (qMc w (5 * j + s)) = qCg w (qMc w (5 * j + s)) := hx.at _ (by simp [aok, asz] <;> omega)
    rw [if_pos h, e2]
  · refine Ok.so ?_
    rw [if_neg (by rw [h]; exact Bool.false_ne_true), Int.add_zero]
theorem S_firstHour (hw : Wok w) (hx : XS w G) (hv : qV w r n) (hD : DB D) (hT : TT t w D r n G) {j : Nat} (hj : j < qN w) (hl : rD r n j < qSt w j) {le : Int} (hle : 0 ≤ le ∧ le ≤ 20000) : P_X8_firstHour t (j : Int) le G = some (tHo w (qS w D r n) (5 * j + rD r n j) le) := by
  have hn := hw.n
  have h1 := hw.mc hj hl
  have h2 := (hw.st hj).2
  have h3 := hw.hr hj hl
  have hb := tRd_bd hw hx hv hD hT hj
  have er : qRd w (tBg (qS w D r n)) (5 * j + rD r n j) = tRd w (qS w D r n) j := by
    rw [tRd_eq (by rw [qS_dn]; omega), qS_dn]
  refine Ok.get ?_
  unfold P_X8_firstHour tHo qHo
  rw [qS_cm, er]
  refine Ok.eq (S_nextStep hw hx hv hT (by omega)) ?_
  refine Ok.ld (5 * j + rD r n j) rfl (by omega) (by omega) ?_
  rw [hx.mc hw hj hl]
  refine Ok.eq (S_lastOn hw hx hv hT h1.2) ?_
  refine Ok.eq (S_readyHour hw hx hv hD hT hj) ?_
  generalize hm : qMc w (5 * j + rD r n j) = m at *
  refine Ok.jn1 (fun y => 0 ≤ y ∧ y ≤ 100000 ∧ y = (if rC w r n m = 0 then max (tRd w (qS w D r n) j) le else max (max (tRd w (qS w D r n) j) le) (tBg (qS w D r n) (tOd (qS w D r n) m (rC w r n m - 1)) + qHr w (tOd (qS w D r n) m (rC w r n m - 1)) + qBw w (tOd (qS w D r n) m (rC w r n m - 1)) (tWr (qS w D r n) (tOd (qS w D r n) m (rC w r n m - 1))) (5 * j + rD r n j)))) (fun y hy => ?_) (fun k hk => ?_)
  · refine Ok.ld (5 * j + rD r n j) rfl (by omega) (by omega) ?_
    rw [hx.hr hw (by omega)]
    refine Ok.eq (S_firstOpen hw hx h1.2 (by omega) (by omega)) (Ok.so ?_)
    rw [hy.2.2]
  · have im : iMax (tRd w (qS w D r n) j) le = max (tRd w (qS w D r n) j) le := iMax_id (by omega) (by omega) (by omega) (by omega)
    rw [im]
    by_cases h0 : rC w r n m = 0
    · rw [if_pos h0]
      refine Ok.condT (ieq_id (by omega) (by omega) (by omega) (by omega)) rfl ?_
      refine hk _ ⟨by omega, by omega, ?_⟩
      rw [if_pos h0]
    · rw [if_neg h0]
      obtain ⟨jp, sp, b1, b2, b3, b4, b5⟩ := qS_mk (D := D) hw hv (show rC w r n m - 1 < rC w r n m by omega)
      rw [b1] at hk ⊢
      obtain ⟨a1, a2, a3, a4, a5, a6, a7⟩ := qS_js hw hD hv b3
      refine Ok.condF (ieq_id (by omega) (by omega) (by omega) (by omega)) (by omega) ?_
      refine Ok.eq (S_endOfStep hw hx hv hT (by omega) b3 b4) ?_
      refine Ok.eq (S_hoursBetween hw hx hv hD hT b3 hj hl) ?_
      have h7 := qBw_bd hw (p := 5 * jp + sp) (wp := tWr (qS w D r n) (5 * jp + sp)) (x := 5 * j + rD r n j) (by omega) (by omega) (by omega)
      rw [iMax_id (by omega) (by omega) (by omega) (by omega)]
      refine hk _ ⟨by omega, by omega, ?_⟩
      rw [if_neg h0]
end TT3
