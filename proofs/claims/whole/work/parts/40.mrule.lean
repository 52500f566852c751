/-! ===== plans by rules, the model ===== -/
section PP
variable {w : wS} {r : Nat → Nat} {n k : Nat}
theorem PF_pre (hw : Wok w) (hv : qV w r n) (hk : k ≤ n) : PF w r n (rD r k) (rC w r k) := by
  refine ⟨fun j => ct_mono _ hk, fun m => ct_mono _ hk, fun i hi => ?_⟩
  by_cases h : i < k
  · exact ⟨fun _ => rK_lt h, fun _ => rX_lt h⟩
  · have h1 : rD r k (r i) ≤ rS r i := ct_mono _ (by omega)
    have h2 : rC w r k (rM w r i) ≤ rK w r i := ct_mono _ (by omega)
    exact ⟨fun h3 => by omega, fun h3 => by omega⟩
theorem tHo_fin (hw : Wok w) (hv : qV w r n) (hk : k ≤ n) {j : Nat} {D : Nat → Int} (h5 : rD r k j < 5) (le : Int) : tHo w (qS w D r k) (5 * j + rD r k j) le = qHo w (tBg (qS w D r n)) (tWr (qS w D r n)) (tOd (qS w D r n) (qMc w (5 * j + rD r k j))) (rC w r k (qMc w (5 * j + rD r k j))) (5 * j + rD r k j) le := by
  unfold tHo
  rw [qS_cm]
  refine qHo_cong (fun h => ?_) (fun h => ?_)
  · obtain ⟨i', a1, a2, a3, a4⟩ := rX_of (r := r) (n := k) (j := j) (s := rD r k j - 1) (by omega)
    rw [show 5 * j + rD r k j - 1 = rX r i' by omega]
    exact qS_bg hw hv a1 hk
  · obtain ⟨i', a1, a2, a3⟩ := rK_of (w := w) (r := r) (n := k) (m := qMc w (5 * j + rD r k j)) (k := rC w r k (qMc w (5 * j + rD r k j)) - 1) (by omega)
    have e1 := qS_od (D := D) hw (hv.le hk) a1
    have e2 := qS_od (D := D) hw hv (show i' < n by omega)
    rw [a2, a3] at e1 e2
    rw [e1, e2]
    exact ⟨rfl, qS_bg hw hv a1 hk, qS_wr hw hv a1 hk⟩
theorem OT_succ {od : Nat → Nat → Nat} {f : Nat → Int} (hw : Wok w) (hv : qV w r (k + 1)) (hO : OT w r k od f 0) (ho : od (rM w r k) (rK w r k) = rX r k) : OT w r (k + 1) od (up1 (up1 f (31 * rM w r k + 1 + rK w r k) (cd (rX r k) : Int)) (31 * rM w r k) ((rK w r k : Int) + 1)) 0 := by
  intro m hm
  have hc : rC w r (k + 1) m = if rM w r k = m then rC w r k m + 1 else rC w r k m := by
    unfold rC
    rw [ct_succ]
    by_cases h : rM w r k = m
    · rw [if_pos (decide_eq_true h), if_pos h]
    · rw [if_neg (by simpa using h), if_neg h]
  have h30 := rC_30 hw (hv.le (Nat.le_succ k)) m
  have h30' := rC_30 hw (hv.le (Nat.le_succ k)) (rM w r k)
  have hK : rK w r k = rC w r k (rM w r k) := rfl
  have hK30 : rK w r k < 30 := Nat.lt_of_lt_of_le (rK_lt (w := w) (r := r) (Nat.lt_succ_self k)) (rC_30 hw hv _)
  rw [hc]
  obtain ⟨h1, h2⟩ := hO m hm
  by_cases h : rM w r k = m
  · rw [if_pos h]
    subst h
    refine ⟨?_, fun k' hk' => ?_⟩
    · rw [Nat.zero_add, up1_eq]
      omega
    · rw [up1_ne (by omega), up1_if]
      by_cases h3 : k' = rK w r k
      · rw [h3, if_pos (by omega), ho]
      · rw [if_neg (by omega)]
        exact h2 k' (by omega)
  · rw [if_neg h]
    refine ⟨?_, fun k' hk' => ?_⟩
    · rw [up1_ne (by omega), up1_ne (by omega)]
      exact h1
    · rw [up1_ne (by omega), up1_ne (by omega)]
      exact h2 k' hk'
end PP
section MR
variable {w : wS} {G : mG}
theorem M_puts (hw : Wok w) (hm : MD w (G 57)) {j d c : Nat} (hj : j < qN w) (hd : d < qSt w j) (h60 : G 60 j = (d : Int)) (hc : c < 30) (h66 : G 66 (31 * qMc w (5 * j + d)) = (c : Int)) : Ok (P_X11_puts (j : Int) G) (fun G' => (∀ a, a ≠ 66 → G' a = G a) ∧ G' 66 = up1 (up1 (G 66) (31 * qMc w (5 * j + d) + 1 + c) (cd (5 * j + d) : Int)) (31 * qMc w (5 * j + d)) ((c : Int) + 1)) := by
  have hn := hw.n
  have h5 := (hw.st hj).2
  have hmc := hw.mc hj hd
  unfold P_X11_puts
  refine Ok.ld j rfl (by omega) (by omega) ?_
  rw [h60]
  refine Ok.eq (M_machineOf hw hm hj hd) ?_
  refine Ok.ld (31 * qMc w (5 * j + d)) (by omega) (by omega) (by omega) ?_
  rw [h66]
  refine Ok.ld j rfl (by omega) (by omega) ?_
  rw [h60]
  refine Ok.sto (31 * qMc w (5 * j + d) + 1 + c) (by omega) (by omega) (by omega) ?_
  refine Ok.ld (31 * qMc w (5 * j + d)) (by omega) (by omega) (by omega) ?_
  rw [up2_eq, up1_ne (by omega), h66]
  refine Ok.sto (31 * qMc w (5 * j + d)) (by omega) (by omega) (by omega) (Ok.so ⟨fun a ha => ?_, ?_⟩)
  · rw [up2_ne ha, up2_ne ha]
  · rw [up2_eq, up2_eq]
    have e : (10 * (j : Int) + (d : Int)) = (cd (5 * j + d) : Int) := by
      rw [cd_js (by omega)]
      omega
    rw [e]
theorem M_isAhead (hw : Wok w) (hm : MD w (G 57)) {dn : Nat → Nat} {rule a b : Nat} (hd : ∀ j, j < 6 → G 60 j = (dn j : Int)) (hr : rule ≤ 7) (ha : a < qN w) (hb : b < qN w) (hla : dn a < qSt w a) (hlb : dn b < qSt w b) : P_X11_isAhead (rule : Int) (a : Int) (b : Int) G = some (qAh w rule dn a b) := by
  have hn := hw.n
  have h5a := (hw.st ha).2
  have h5b := (hw.st hb).2
  have hra := hw.hr ha hla
  have hrb := hw.hr hb hlb
  have hda := hw.du ha
  have hdb := hw.du hb
  have hwa := hw.wt ha
  have hwb := hw.wt hb
  have hea := hw.rel ha
  have heb := hw.rel hb
  have hfa := qHf_bd hw (s := dn a) ha
  have hfb := qHf_bd hw (s := dn b) hb
  have m1 := qWtMul hwb (show 0 ≤ qHr w (5 * a + dn a) by omega)
  have m2 := qWtMul hwa (show 0 ≤ qHr w (5 * b + dn b) by omega)
  have fin2 : ∀ (c d : Bool), c = d → Ok (bif c then some true else some false) (fun y => y = d) := fun c d h => by
    rw [h]
    cases d <;> exact Ok.so rfl
  refine Ok.get ?_
  unfold P_X11_isAhead
  refine Ok.ld a rfl (by omega) (by omega) ?_
  rw [hd a (by omega)]
  refine Ok.eq (M_hoursOf hw hm ha hla) ?_
  refine Ok.ld b rfl (by omega) (by omega) ?_
  rw [hd b (by omega)]
  refine Ok.eq (M_hoursOf hw hm hb hlb) ?_
  have er : w32 (rule : Int) = (rule : Int) := w32_id (by omega) (by omega)
  rw [er]
  unfold qAh
  refine Ok.it (fun h => ?_) (fun h => ?_)
  · have h := of_decide_eq_true h
    rw [if_pos (by omega)]
    exact fin2 _ _ (ilt_id (by omega) (by omega) (by omega) (by omega))
  have h := of_decide_eq_false h
  rw [if_neg (by omega)]
  refine Ok.it (fun h => ?_) (fun h => ?_)
  · have h := of_decide_eq_true h
    rw [if_pos (by omega)]
    exact fin2 _ _ (ilt_id (by omega) (by omega) (by omega) (by omega))
  have h := of_decide_eq_false h
  rw [if_neg (by omega)]
  refine Ok.it (fun h => ?_) (fun h => ?_)
  · have h := of_decide_eq_true h
    rw [if_pos (by omega)]
    refine Ok.eq (M_du hw hm ha) ?_
    refine Ok.eq (M_du hw hm hb) ?_
    exact fin2 _ _ (ilt_id (by omega) (by omega) (by omega) (by omega))
  have h := of_decide_eq_false h
  rw [if_neg (by omega)]
  refine Ok.it (fun h => ?_) (fun h => ?_)
  · have h := of_decide_eq_true h
    rw [if_pos (by omega)]
    refine Ok.eq (M_wt hw hm ha) ?_
    refine Ok.eq (M_wt hw hm hb) ?_
    exact fin2 _ _ (ilt_id (by omega) (by omega) (by omega) (by omega))
  have h := of_decide_eq_false h
  rw [if_neg (by omega)]
  refine Ok.it (fun h => ?_) (fun h => ?_)
  · have h := of_decide_eq_true h
    rw [if_pos (by omega)]
    refine Ok.ld a rfl (by omega) (by omega) ?_
    rw [hd a (by omega)]
    refine Ok.eq (M_left hw hm ha (by omega)) ?_
    refine Ok.ld b rfl (by omega) (by omega) ?_
    rw [hd b (by omega)]
    refine Ok.eq (M_left hw hm hb (by omega)) ?_
    exact fin2 _ _ (ilt_id (by omega) (by omega) (by omega) (by omega))
  have h := of_decide_eq_false h
  rw [if_neg (by omega)]
  refine Ok.it (fun h => ?_) (fun h => ?_)
  · have h := of_decide_eq_true h
    rw [if_pos (by omega)]
    refine Ok.eq (M_du hw hm ha) ?_
    refine Ok.ld a rfl (by omega) (by omega) ?_
    rw [hd a (by omega)]
    refine Ok.eq (M_left hw hm ha (by omega)) ?_
    refine Ok.eq (M_du hw hm hb) ?_
    refine Ok.ld b rfl (by omega) (by omega) ?_
    rw [hd b (by omega)]
    refine Ok.eq (M_left hw hm hb (by omega)) ?_
    exact fin2 _ _ (ilt_id (by omega) (by omega) (by omega) (by omega))
  have h := of_decide_eq_false h
  rw [if_neg (by omega)]
  refine Ok.it (fun h => ?_) (fun h => ?_)
  · have h := of_decide_eq_true h
    rw [if_pos (by omega)]
    refine Ok.eq (M_wt hw hm ha) ?_
    refine Ok.eq (M_wt hw hm hb) ?_
    exact fin2 _ _ (ilt_id (by omega) (by omega) (by omega) (by omega))
  have h := of_decide_eq_false h
  rw [if_neg (by omega)]
  refine Ok.eq (M_rel hw hm ha) ?_
  refine Ok.eq (M_rel hw hm hb) ?_
  exact fin2 _ _ (ilt_id (by omega) (by omega) (by omega) (by omega))
end MR
/-- the model's begins, orders and wear so far, of a row's timetable -/
def MK (w : wS) (r : Nat → Nat) (n k : Nat) (G : mG) : Prop := MT w (rD r k) (rC w r k) (tOd (qS w D0 r n)) (tBg (qS w D0 r n)) (tWr (qS w D0 r n)) G
theorem rD_succ {r : Nat → Nat} {k : Nat} : rD r (k + 1) = upf (rD r k) (r k) (rD r k (r k) + 1) := funext fun j => by
  unfold rD
  rw [ct_succ]
  by_cases h : r k = j
  · subst h
    rw [upf_eq, if_pos (decide_eq_true rfl)]
  · rw [upf_ne (fun e => h e.symm), if_neg (by simpa using h)]
theorem rC_succ {w : wS} {r : Nat → Nat} {k : Nat} : rC w r (k + 1) = upf (rC w r k) (rM w r k) (rC w r k (rM w r k) + 1) := funext fun m => by
  unfold rC
  rw [ct_succ]
  by_cases h : rM w r k = m
  · subst h
    rw [upf_eq, if_pos (decide_eq_true rfl)]
  · rw [upf_ne (fun e => h e.symm), if_neg (by simpa using h)]
def Fr66 (G G' : mG) : Prop := ∀ a, ¬ (59 ≤ a ∧ a ≤ 66) → G' a = G a
theorem Fr66.tr {A B C : mG} (h1 : Fr66 A B) (h2 : Fr66 B C) : Fr66 A C := fun a h => (h2 a h).trans (h1 a h)
theorem FrM.f66 {G G' : mG} (h : FrM G G') : Fr66 G G' := fun a ha => h a (by omega)
section GR
variable {w : wS} {r : Nat → Nat} {N : Nat} {G : mG}
/-- the row's next step is done, at its told hour -/
theorem MK_does (hw : Wok w) (hv : qV w r N) {k : Nat} (hk : k < N) (hm : MD w (G 57)) (hT : MK w r N k G) : Ok (P_X11_does (r k : Int) (tHo w (qS w D0 r k) (rX r k) 0) G) (fun G' => MK w r N (k + 1) G' ∧ FrM G G' ∧ G' 65 = up1 (G 65) (rM w r k) (G 65 (rM w r k) + 1)) := by
  have hS := So_of hw hv
  have hP := PF_pre hw hv (show k ≤ N by omega)
  have hC := PF.cs hw hv hS hP
  obtain ⟨hj, hl⟩ := hv k hk
  have h5 := rS_lt5 hw hv hk
  obtain ⟨b1, b2, b3, b4⟩ := So.hour hw hv hS hk (dn := rD r k) (cm := rC w r k) rfl rfl
  have hd := M_does hw hm hC hT (j := r k) hj hl (hour := tHo w (qS w D0 r k) (rX r k) 0) (by
    rw [b1]
    exact (qS_keep hw hv hk).1) (by rw [b1]; exact b3.symm) (by rw [b1]; exact b4)
  rw [b1] at hd
  refine Ok.w hd (fun G' h => ⟨?_, h.2.1, h.2.2⟩)
  unfold MK
  rw [rD_succ, rC_succ]
  exact h.1
theorem MK_begin (hw : Wok w) (hv : qV w r N) {k : Nat} (hk : k ≤ N) (hm : MD w (G 57)) (hT : MK w r N k G) {j : Nat} (hj : j < qN w) (hl : rD r k j < qSt w j) : P_X11_beginOf (j : Int) G = some (tHo w (qS w D0 r k) (5 * j + rD r k j) 0) ∧ 0 ≤ tHo w (qS w D0 r k) (5 * j + rD r k j) 0 ∧ tHo w (qS w D0 r k) (5 * j + rD r k j) 0 ≤ 32000 := by
  have hS := So_of hw hv
  have hC := PF.cs hw hv hS (PF_pre hw hv hk)
  have h5 := (hw.st hj).2
  have h1 := M_beginOf hw hm hC hT hj hl
  rw [← tHo_fin hw hv hk (by omega)] at h1
  exact h1
theorem M_goesByRule (hw : Wok w) {rule n : Nat} (hr : rule ≤ 7) (hF : qF w r N) (hn : n ≤ N) (hR : qRu w rule r n N) (hm : MD w (G 57)) (hT : MK w r N n G) (hO : OT w r n (tOd (qS w D0 r N)) (G 66) 0) : Ok (P_X11_goesByRule (rule : Int) G) (fun G' => OT w r N (tOd (qS w D0 r N)) (G' 66) 0 ∧ Fr66 G G') := by
  have hv := hF.1
  have hnn := hw.n
  have hN30 := qV_30 hw hv
  have hS := So_of hw hv
  unfold P_X11_goesByRule
  refine Ok.lp2 (fun q x G' => (∃ k, n ≤ k ∧ k ≤ N ∧ x = 1 ∧ q = N + 1 - k ∧ MK w r N k G' ∧ OT w r k (tOd (qS w D0 r N)) (G' 66) 0 ∧ Fr66 G G') ∨ (x = 0 ∧ OT w r N (tOd (qS w D0 r N)) (G' 66) 0 ∧ Fr66 G G')) (fun q again x G3 hI hag => ?_) LF (N + 1 - n) 1 G (LF_lt (by omega)) (Or.inl ⟨n, Nat.le_refl n, hn, rfl, rfl, hT, hO, fun _ _ => rfl⟩)
  rcases hI with ⟨k, g1, g2, rfl, g4, g5, g6, g7⟩ | ⟨rfl, g2, g3⟩
  · refine Ok.condF (ieq_id (by omega) (by omega) (by omega) (by omega)) (by omega) ?_
    have hm3 : MD w (G3 57) := by
      rw [g7 57 (by omega)]
      exact hm
    refine Ok.jn2 (fun y z => (y, z) = qPick w rule (rD r k) (fun j => tHo w (qS w D0 r k) (5 * j + rD r k j) 0)) (fun y z hy => ?_) (fun k14 hk14 => ?_)
    · by_cases hk : k < N
      · obtain ⟨j, hj, hl⟩ := qLeft hw (hv.le g2) (by have := qF_n hF; omega)
        obtain ⟨i, h1, h2, h3⟩ := qPick_some (rule := rule) (ho := fun j => tHo w (qS w D0 r k) (5 * j + rD r k j) 0) hj hl
        have hrk := hR k g1 hk
        rw [h2] at hrk
        have hik : r k = i := by
          have hrk : (r k : Int) = (i : Int) := hrk
          omega
        rw [h2] at hy
        obtain ⟨rfl, rfl⟩ := Prod.mk.inj hy
        refine Ok.jn1 (fun y => y = 1) (fun y hy => ?_) (fun k13 hk13 => ?_)
        · subst hy
          refine Ok.condF (ieq_id (by omega) (by omega) (by omega) (by omega)) (by omega) ?_
          have hx0 : 5 * i + rD r k i = rX r k := by
            rw [← hik]
            rfl
          have hmk : qMc w (rX r k) = rM w r k := rfl
          have hcm := rC_30 hw (hv.le (show k + 1 ≤ N by omega)) (rM w r k)
          have hlt : rC w r k (rM w r k) < rC w r (k + 1) (rM w r k) := ct_lt _ (Nat.lt_succ_self k) (decide_eq_true rfl)
          have hpu := M_puts hw hm3 (c := rC w r k (rM w r k)) h1 h3 (g5.1 i (by omega)) (by omega) (by
            rw [hx0, hmk]
            have := (g6 (rM w r k) (rM_lt hw hv hk)).1
            rw [Nat.zero_add] at this
            exact this)
          rw [hx0, hmk] at hpu
          refine Ok.bind hpu (fun G4 hG4 => ?_)
          have hT4 : MK w r N k G4 := by
            unfold MK MT at g5 ⊢
            rw [hG4.1 60 (by omega), hG4.1 61 (by omega), hG4.1 62 (by omega), hG4.1 63 (by omega), hG4.1 64 (by omega), hG4.1 59 (by omega)]
            exact g5
          have hm4 : MD w (G4 57) := by
            rw [hG4.1 57 (by omega)]
            exact hm3
          have hdo := MK_does hw hv hk hm4 hT4
          rw [hik] at hdo
          rw [show tHo w (qS w D0 r k) (5 * i + rD r k i) 0 = tHo w (qS w D0 r k) (rX r k) 0 by rw [hx0]]
          refine Ok.bind hdo (fun G5 hG5 => ?_)
          refine hag (N + 1 - (k + 1)) _ _ (by omega) (Or.inl ⟨k + 1, by omega, by omega, rfl, rfl, hG5.1, ?_, ?_⟩)
          · rw [hG5.2.1 66 (by omega), hG4.2]
            exact OT_succ hw (hv.le (by omega)) g6 (hS k hk).1
          · exact (g7.tr (fun a ha => hG4.1 a (by omega))).tr hG5.2.1.f66
        · refine Ok.condF (ieq_id (by omega) (by omega) (by omega) (by omega)) (by omega) ?_
          exact hk13 _ rfl
      · have hkN : k = N := by omega
        subst hkN
        have hno : ∀ j, j < qN w → ¬ rD r k j < qSt w j := fun j hj => by
          rw [hF.2 j hj]
          omega
        rcases qPkK_inv (w := w) (rule := rule) (dn := rD r k) (ho := fun j => tHo w (qS w D0 r k) (5 * j + rD r k j) 0) (k := qN w) with ⟨h1, h2⟩ | ⟨i, h1, h2, h3⟩
        · unfold qPick at hy
          rw [h1] at hy
          obtain ⟨rfl, rfl⟩ := Prod.mk.inj hy
          refine Ok.jn1 (fun y => y = 0) (fun y hy => ?_) (fun k13 hk13 => ?_)
          · subst hy
            refine Ok.condT (ieq_id (by omega) (by omega) (by omega) (by omega)) rfl ?_
            exact hag 0 _ _ (by omega) (Or.inr ⟨rfl, g6, g7⟩)
          · refine Ok.condT (ieq_id (by omega) (by omega) (by omega) (by omega)) rfl ?_
            exact hk13 _ rfl
        · exact absurd h3 (hno i h1)
    · refine Ok.for3 (fun k' a b => (a, b) = qPkK w rule (rD r k) (fun j => tHo w (qS w D0 r k) (5 * j + rD r k j) 0) k') (qN w) LF (LF_lt (by omega)) rfl (fun k' hk' again2 a b hab hag2 => ?_) (fun again2 a b hab => ?_)
      · refine Ok.ld 0 rfl (by omega) (by omega) ?_
        rw [hm3.n hw]
        refine Ok.condT (ilt_nat (by omega) (by omega)) hk' ?_
        refine Ok.ld k' rfl (by omega) (by omega) ?_
        rw [g5.1 k' (by omega)]
        refine Ok.eq (M_st hw hm3 hk') ?_
        have h5 := (hw.st hk').2
        have hle := rD_le (hv.le g2) hk'
        have hinv := qPkK_inv (w := w) (rule := rule) (dn := rD r k) (ho := fun j => tHo w (qS w D0 r k) (5 * j + rD r k j) 0) (k := k')
        have ek : qPkK w rule (rD r k) (fun j => tHo w (qS w D0 r k) (5 * j + rD r k j) 0) (k' + 1) = qPkF w rule (rD r k) (fun j => tHo w (qS w D0 r k) (5 * j + rD r k j) 0) k' (a, b) := by
          rw [hab]
          rfl
        rw [← hab] at hinv
        refine Ok.jn2 (fun y z => (y, z) = qPkF w rule (rD r k) (fun j => tHo w (qS w D0 r k) (5 * j + rD r k j) 0) k' (a, b)) (fun y z hy => hag2 y z (hy.trans ek.symm)) (fun k11 hk11 => ?_)
        unfold qPkF at hk11
        refine Ok.cd (ieq_nat (by omega) (by omega)) (fun hl => ?_) (fun hl => ?_)
        · rw [if_neg (by omega)] at hk11
          exact hk11 _ _ rfl
        · have hl2 : rD r k k' < qSt w k' := by omega
          rw [if_pos hl2] at hk11
          obtain ⟨hb1, hb2, hb3⟩ := MK_begin hw hv g2 hm3 g5 hk' hl2
          refine Ok.eq hb1 ?_
          refine Ok.lk ?_
          rcases hinv with ⟨h1, h2⟩ | ⟨i, h1, h2, h3⟩
          · obtain ⟨rfl, rfl⟩ := Prod.mk.inj h1
            refine Ok.condT (ieq_id (by omega) (by omega) (by omega) (by omega)) rfl ?_
            exact hk11 _ _ (by rw [if_pos (Or.inl rfl)])
          · obtain ⟨rfl, rfl⟩ := Prod.mk.inj h2
            obtain ⟨hi1, hi2, hi3⟩ := MK_begin hw hv g2 hm3 g5 (show i < qN w by omega) h3
            refine Ok.condF (ieq_id (by omega) (by omega) (by omega) (by omega)) (by omega) ?_
            refine Ok.cd (ilt_id (by omega) (by omega) (by omega) (by omega)) (fun h4 => ?_) (fun h4 => ?_)
            · refine hk11 _ _ ?_
              rw [if_neg]
              rintro (h7 | h7 | h7)
              · have h7 : (i : Int) = -1 := h7
                omega
              · have h7 : tHo w (qS w D0 r k) (5 * k' + rD r k k') 0 < tHo w (qS w D0 r k) (5 * i + rD r k i) 0 := h7
                omega
              · have h8 : tHo w (qS w D0 r k) (5 * k' + rD r k k') 0 = tHo w (qS w D0 r k) (5 * i + rD r k i) 0 := h7.1
                omega
            · refine Ok.cd (ieq_id (by omega) (by omega) (by omega) (by omega)) (fun h5 => ?_) (fun h5 => ?_)
              · refine Ok.eq (M_isAhead hw hm3 g5.1 hr hk' (by omega) hl2 h3) ?_
                refine Ok.it (fun h6 => ?_) (fun h6 => ?_)
                · exact hk11 _ _ (by rw [if_pos (Or.inr (Or.inr ⟨h5, h6⟩))])
                · refine hk11 _ _ ?_
                  rw [if_neg]
                  rintro (h7 | h7 | h7)
                  · have h7 : (i : Int) = -1 := h7
                    omega
                  · have h7 : tHo w (qS w D0 r k) (5 * k' + rD r k k') 0 < tHo w (qS w D0 r k) (5 * i + rD r k i) 0 := h7
                    omega
                  · have h8 := h7.2
                    rw [show ((i : Int), tHo w (qS w D0 r k) (5 * i + rD r k i) 0).1.toNat = i from Int.toNat_natCast i, h6] at h8
                    exact Bool.false_ne_true h8
              · exact hk11 _ _ (by rw [if_pos (Or.inr (Or.inl (by
                  show tHo w (qS w D0 r k) (5 * k' + rD r k k') 0 < tHo w (qS w D0 r k) (5 * i + rD r k i) 0
                  omega)))])
      · refine Ok.ld 0 rfl (by omega) (by omega) ?_
        rw [hm3.n hw]
        refine Ok.condF (ilt_nat (by omega) (by omega)) (Nat.lt_irrefl _) ?_
        exact hk14 _ _ hab
  · refine Ok.condT (ieq_id (by omega) (by omega) (by omega) (by omega)) rfl ?_
    exact Ok.so ⟨g2, g3⟩
end GR
