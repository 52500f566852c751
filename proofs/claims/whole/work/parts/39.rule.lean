/-! ===== plans by rules ===== -/
def qAh (w : wS) (rule : Nat) (dn : Nat → Nat) (a b : Nat) : Bool :=
  if rule = 0 then decide (qHr w (5 * a + dn a) < qHr w (5 * b + dn b)) else if rule = 1 then decide (qHr w (5 * b + dn b) < qHr w (5 * a + dn a)) else if rule = 2 then decide (qDu w a < qDu w b) else if rule = 3 then decide (qWt w b < qWt w a) else if rule = 4 then decide (qHf w b (dn b) < qHf w a (dn a)) else if rule = 5 then decide (qDu w a - qHf w a (dn a) < qDu w b - qHf w b (dn b)) else if rule = 6 then decide (qWt w b * qHr w (5 * a + dn a) < qWt w a * qHr w (5 * b + dn b)) else decide (qRel w a < qRel w b)
def qPkF (w : wS) (rule : Nat) (dn : Nat → Nat) (ho : Nat → Int) (j : Nat) (p : Int × Int) : Int × Int := if dn j < qSt w j then (if p.1 = -1 ∨ ho j < p.2 ∨ (ho j = p.2 ∧ qAh w rule dn j p.1.toNat = true) then ((j : Int), ho j) else p) else p
def qPkK (w : wS) (rule : Nat) (dn : Nat → Nat) (ho : Nat → Int) (k : Nat) : Int × Int := it (qPkF w rule dn ho) k (-1, 0)
def qPick (w : wS) (rule : Nat) (dn : Nat → Nat) (ho : Nat → Int) : Int × Int := qPkK w rule dn ho (qN w)
theorem qPkK_inv {w : wS} {rule : Nat} {dn : Nat → Nat} {ho : Nat → Int} : ∀ {k : Nat}, (qPkK w rule dn ho k = (-1, 0) ∧ ∀ j, j < k → ¬ dn j < qSt w j) ∨ ∃ i, i < k ∧ qPkK w rule dn ho k = ((i : Int), ho i) ∧ dn i < qSt w i
  | 0 => Or.inl ⟨rfl, fun j hj => absurd hj (Nat.not_lt_zero _)⟩
  | k + 1 => by
    have e : qPkK w rule dn ho (k + 1) = qPkF w rule dn ho k (qPkK w rule dn ho k) := rfl
    rw [e]
    unfold qPkF
    rcases qPkK_inv (w := w) (rule := rule) (dn := dn) (ho := ho) (k := k) with ⟨h1, h2⟩ | ⟨i, h1, h2, h3⟩
    · rw [h1]
      by_cases h : dn k < qSt w k
      · rw [if_pos h, if_pos (Or.inl rfl)]
        exact Or.inr ⟨k, by omega, rfl, h⟩
      · rw [if_neg h]
        refine Or.inl ⟨rfl, fun j hj => ?_⟩
        by_cases hjk : j = k
        · rw [hjk]
          exact h
        · exact h2 j (by omega)
    · rw [h2]
      by_cases h : dn k < qSt w k
      · rw [if_pos h]
        split
        · exact Or.inr ⟨k, by omega, rfl, h⟩
        · exact Or.inr ⟨i, by omega, rfl, h3⟩
      · rw [if_neg h]
        exact Or.inr ⟨i, by omega, rfl, h3⟩
theorem qPick_some {w : wS} {rule : Nat} {dn : Nat → Nat} {ho : Nat → Int} {j : Nat} (hj : j < qN w) (h : dn j < qSt w j) : ∃ i, i < qN w ∧ qPick w rule dn ho = ((i : Int), ho i) ∧ dn i < qSt w i := by
  rcases qPkK_inv (w := w) (rule := rule) (dn := dn) (ho := ho) (k := qN w) with ⟨h1, h2⟩ | h1
  · exact absurd h (h2 j hj)
  · exact h1
/-- from place n on the row goes by the rule -/
def qRu (w : wS) (rule : Nat) (r : Nat → Nat) (n N : Nat) : Prop := ∀ k, n ≤ k → k < N → (r k : Int) = (qPick w rule (rD r k) (fun j => tHo w (qS w D0 r k) (5 * j + rD r k j) 0)).1
section RU
variable {w : wS} {r : Nat → Nat} {n t : Nat} {D : Nat → Int} {G : mG}
theorem S_goesAhead (hw : Wok w) (hx : XS w G) (hv : qV w r n) (hD : DB D) (hT : TT t w D r n G) {rule a b : Nat} (hr : rule ≤ 7) (ha : a < qN w) (hb : b < qN w) (hla : rD r n a < qSt w a) (hlb : rD r n b < qSt w b) : P_X8_goesAhead t (rule : Int) (a : Int) (b : Int) G = some (qAh w rule (rD r n) a b) := by
  have hn := hw.n
  have h5a := (hw.st ha).2
  have h5b := (hw.st hb).2
  have hra := hw.hr ha hla
  have hrb := hw.hr hb hlb
  have hda := hw.du ha
  have hdb := hw.du hb
  have hwa := hw.wt ha
  have hwb := hw.wt hb
  have hea := hw.rel ha
  have heb := hw.rel hb
  have hfa := qHf_bd hw (s := rD r n a) ha
  have hfb := qHf_bd hw (s := rD r n b) hb
  have m1 := qWtMul hwb (show 0 ≤ qHr w (5 * a + rD r n a) by omega)
  have m2 := qWtMul hwa (show 0 ≤ qHr w (5 * b + rD r n b) by omega)
  have a3 : ∀ j, j < 6 → G 3 j = qDu w j := fun j hj => hx.at j (by simp [aok, asz] <;> omega)
  have a4 : ∀ j, j < 6 → G 4 j = qWt w j := fun j hj => hx.at j (by simp [aok, asz] <;> omega)
  have a2 : ∀ j, j < 6 → G 2 j = qRel w j := fun j hj => hx.at j (by simp [aok, asz] <;> omega)
  have fin : ∀ (c : Bool), Ok (bif c then some true else some false) (fun y => y = c) := fun c => by
    cases c <;> exact Ok.so rfl
  have fin2 : ∀ (c d : Bool), c = d → Ok (bif c then some true else some false) (fun y => y = d) := fun c d h => by
    rw [h]
    exact fin d
  refine Ok.get ?_
  unfold P_X8_goesAhead
  refine Ok.eq (S_nextStep hw hx hv hT (by omega)) ?_
  refine Ok.ld (5 * a + rD r n a) rfl (by omega) (by omega) ?_
  rw [hx.hr hw (by omega)]
  refine Ok.eq (S_nextStep hw hx hv hT (by omega)) ?_
  refine Ok.ld (5 * b + rD r n b) rfl (by omega) (by omega) ?_
  rw [hx.hr hw (by omega)]
  have er : w32 (rule : Int) = (rule : Int) := w32_id (by omega) (by omega)
  rw [er]
  unfold qAh
  refine Ok.it (fun h => ?_) (fun h => ?_)
  · have h := of_decide_eq_true h
    rw [if_pos (by omega)]
    exact fin2 _ _ (ilt_id (by omega) (by omega) (by omega) (by omega))
  have h := of_decide_eq_false h
  rw [if_neg (by omega)]
  refine Ok.it (fun h => ?_) (fun h => ?_)
  · have h := of_decide_eq_true h
    rw [if_pos (by omega)]
    exact fin2 _ _ (ilt_id (by omega) (by omega) (by omega) (by omega))
  have h := of_decide_eq_false h
  rw [if_neg (by omega)]
  refine Ok.it (fun h => ?_) (fun h => ?_)
  · have h := of_decide_eq_true h
    rw [if_pos (by omega)]
    refine Ok.ld a rfl (by omega) (by omega) ?_
    refine Ok.ld b rfl (by omega) (by omega) ?_
    rw [a3 _ (by omega), a3 _ (by omega)]
    exact fin2 _ _ (ilt_id (by omega) (by omega) (by omega) (by omega))
  have h := of_decide_eq_false h
  rw [if_neg (by omega)]
  refine Ok.it (fun h => ?_) (fun h => ?_)
  · have h := of_decide_eq_true h
    rw [if_pos (by omega)]
    refine Ok.ld a rfl (by omega) (by omega) ?_
    refine Ok.ld b rfl (by omega) (by omega) ?_
    rw [a4 _ (by omega), a4 _ (by omega)]
    exact fin2 _ _ (ilt_id (by omega) (by omega) (by omega) (by omega))
  have h := of_decide_eq_false h
  rw [if_neg (by omega)]
  refine Ok.it (fun h => ?_) (fun h => ?_)
  · have h := of_decide_eq_true h
    rw [if_pos (by omega)]
    refine Ok.eq (S_hoursLeft hw hx hv hD hT ha) ?_
    refine Ok.eq (S_hoursLeft hw hx hv hD hT hb) ?_
    exact fin2 _ _ (ilt_id (by omega) (by omega) (by omega) (by omega))
  have h := of_decide_eq_false h
  rw [if_neg (by omega)]
  refine Ok.it (fun h => ?_) (fun h => ?_)
  · have h := of_decide_eq_true h
    rw [if_pos (by omega)]
    refine Ok.ld a rfl (by omega) (by omega) ?_
    refine Ok.eq (S_hoursLeft hw hx hv hD hT ha) ?_
    refine Ok.ld b rfl (by omega) (by omega) ?_
    refine Ok.eq (S_hoursLeft hw hx hv hD hT hb) ?_
    rw [a3 _ (by omega), a3 _ (by omega)]
    exact fin2 _ _ (ilt_id (by omega) (by omega) (by omega) (by omega))
  have h := of_decide_eq_false h
  rw [if_neg (by omega)]
  refine Ok.it (fun h => ?_) (fun h => ?_)
  · have h := of_decide_eq_true h
    rw [if_pos (by omega)]
    refine Ok.ld a rfl (by omega) (by omega) ?_
    refine Ok.ld b rfl (by omega) (by omega) ?_
    rw [a4 _ (by omega), a4 _ (by omega)]
    exact fin2 _ _ (ilt_id (by omega) (by omega) (by omega) (by omega))
  have h := of_decide_eq_false h
  rw [if_neg (by omega)]
  refine Ok.ld a rfl (by omega) (by omega) ?_
  refine Ok.ld b rfl (by omega) (by omega) ?_
  rw [a2 _ (by omega), a2 _ (by omega)]
  exact fin2 _ _ (ilt_id (by omega) (by omega) (by omega) (by omega))
theorem tHo_bd (hw : Wok w) (hx : XS w G) (hv : qV w r n) (hD : DB D) (hT : TT t w D r n G) {j : Nat} (hj : j < qN w) (hl : rD r n j < qSt w j) {le : Int} (hle : 0 ≤ le ∧ le ≤ 20000) : 0 ≤ tHo w (qS w D r n) (5 * j + rD r n j) le ∧ tHo w (qS w D r n) (5 * j + rD r n j) le ≤ 32000 := by
  have h1 := hw.mc hj hl
  have h2 := (hw.st hj).2
  have hb := tRd_bd hw hx hv hD hT hj
  have er : qRd w (tBg (qS w D r n)) (5 * j + rD r n j) = tRd w (qS w D r n) j := by
    rw [tRd_eq (by rw [qS_dn]; omega), qS_dn]
  unfold tHo qHo
  rw [qS_cm, er]
  by_cases h0 : rC w r n (qMc w (5 * j + rD r n j)) = 0
  · rw [if_pos h0]
    have h3 := qOpen_le w (qMc w (5 * j + rD r n j)) (max (tRd w (qS w D r n) j) le) (qHr w (5 * j + rD r n j))
    have h4 := qOpen_hi hw h1.2 (len := qHr w (5 * j + rD r n j)) (h := max (tRd w (qS w D r n) j) le) (b := 32000) (by omega) (by omega)
    omega
  · rw [if_neg h0]
    obtain ⟨jp, sp, b1, b2, b3, b4, b5⟩ := qS_mk (D := D) hw hv (show rC w r n (qMc w (5 * j + rD r n j)) - 1 < rC w r n (qMc w (5 * j + rD r n j)) by omega)
    obtain ⟨a1, a2, a3, a4, a5, a6, a7⟩ := qS_js hw hD hv b3
    rw [b1]
    have h7 := qBw_bd hw (p := 5 * jp + sp) (wp := tWr (qS w D r n) (5 * jp + sp)) (x := 5 * j + rD r n j) (by omega) (by omega) (by omega)
    have h3 := qOpen_le w (qMc w (5 * j + rD r n j)) (max (max (tRd w (qS w D r n) j) le) (tBg (qS w D r n) (5 * jp + sp) + qHr w (5 * jp + sp) + qBw w (5 * jp + sp) (tWr (qS w D r n) (5 * jp + sp)) (5 * j + rD r n j))) (qHr w (5 * j + rD r n j))
    have h4 := qOpen_hi hw h1.2 (len := qHr w (5 * j + rD r n j)) (h := max (max (tRd w (qS w D r n) j) le) (tBg (qS w D r n) (5 * jp + sp) + qHr w (5 * jp + sp) + qBw w (5 * jp + sp) (tWr (qS w D r n) (5 * jp + sp)) (5 * j + rD r n j))) (b := 32000) (by omega) (by omega)
    omega
theorem S_firstByRule (hw : Wok w) (hx : XS w G) (hv : qV w r n) (hD : DB D) (hT : TT t w D r n G) {rule : Nat} (hr : rule ≤ 7) : P_X8_firstByRule t (rule : Int) G = some (qPick w rule (rD r n) (fun j => tHo w (qS w D r n) (5 * j + rD r n j) 0)).1 := by
  have hn := hw.n
  refine Ok.get ?_
  unfold P_X8_firstByRule
  refine Ok.for3 (fun k a b => (a, b) = qPkK w rule (rD r n) (fun j => tHo w (qS w D r n) (5 * j + rD r n j) 0) k) (qN w) LF (LF_lt (by omega)) rfl (fun k hk again a b hab hag => ?_) (fun again a b hab => ?_)
  · rw [hx.n hw]
    refine Ok.condT (ilt_nat (by omega) (by omega)) hk ?_
    refine Ok.eq (S_hasLeftN hw hx hv hT hk) ?_
    have hinv := qPkK_inv (w := w) (rule := rule) (dn := rD r n) (ho := fun j => tHo w (qS w D r n) (5 * j + rD r n j) 0) (k := k)
    have ek : qPkK w rule (rD r n) (fun j => tHo w (qS w D r n) (5 * j + rD r n j) 0) (k + 1) = qPkF w rule (rD r n) (fun j => tHo w (qS w D r n) (5 * j + rD r n j) 0) k (a, b) := by
      rw [hab]
      rfl
    rw [← hab] at hinv
    refine Ok.jn2 (fun y z => (y, z) = qPkF w rule (rD r n) (fun j => tHo w (qS w D r n) (5 * j + rD r n j) 0) k (a, b)) (fun y z hy => hag y z (hy.trans ek.symm)) (fun k11 hk11 => ?_)
    unfold qPkF at hk11
    refine Ok.it (fun hl => ?_) (fun hl => ?_)
    · have hl := of_decide_eq_true hl
      rw [if_pos hl] at hk11
      have hho := tHo_bd hw hx hv hD hT hk hl (le := 0) (by omega)
      refine Ok.eq (S_firstHour hw hx hv hD hT hk hl (by omega)) ?_
      refine Ok.lk ?_
      rcases hinv with ⟨h1, h2⟩ | ⟨i, h1, h2, h3⟩
      · obtain ⟨rfl, rfl⟩ := Prod.mk.inj h1
        refine Ok.condT (ieq_id (by omega) (by omega) (by omega) (by omega)) rfl ?_
        exact hk11 _ _ (by rw [if_pos (Or.inl rfl)])
      · obtain ⟨rfl, rfl⟩ := Prod.mk.inj h2
        have hhi := tHo_bd hw hx hv hD hT (show i < qN w by omega) h3 (le := 0) (by omega)
        refine Ok.condF (ieq_id (by omega) (by omega) (by omega) (by omega)) (by omega) ?_
        refine Ok.cd (ilt_id (by omega) (by omega) (by omega) (by omega)) (fun h4 => ?_) (fun h4 => ?_)
        · exact hk11 _ _ (by rw [if_pos (Or.inr (Or.inl h4))])
        · refine Ok.cd (ieq_id (by omega) (by omega) (by omega) (by omega)) (fun h5 => ?_) (fun h5 => ?_)
          · refine Ok.eq (S_goesAhead hw hx hv hD hT hr hk (by omega) hl h3) ?_
            refine Ok.it (fun h6 => ?_) (fun h6 => ?_)
            · exact hk11 _ _ (by rw [if_pos (Or.inr (Or.inr ⟨h5, h6⟩))])
            · refine hk11 _ _ ?_
              rw [if_neg]
              rintro (h7 | h7 | h7)
              · have h7 : (i : Int) = -1 := h7
                omega
              · exact h4 h7
              · have h8 := h7.2
                rw [show ((i : Int), tHo w (qS w D r n) (5 * i + rD r n i) 0).1.toNat = i from Int.toNat_natCast i, h6] at h8
                exact Bool.false_ne_true h8
          · refine hk11 _ _ ?_
            rw [if_neg]
            rintro (h7 | h7 | h7)
            · have h7 : (i : Int) = -1 := h7
              omega
            · exact h4 h7
            · exact h5 h7.1
    · have hl := of_decide_eq_false hl
      rw [if_neg hl] at hk11
      exact hk11 _ _ rfl
  · rw [hx.n hw]
    refine Ok.condF (ilt_nat (by omega) (by omega)) (Nat.lt_irrefl _) ?_
    refine Ok.so ?_
    unfold qPick
    rw [← hab]
end RU
theorem qLeft {w : wS} {r : Nat → Nat} {n : Nat} (hw : Wok w) (hv : qV w r n) (hn : (n : Int) < qTot w) : ∃ j, j < qN w ∧ rD r n j < qSt w j := by
  refine Classical.byContradiction fun h => ?_
  have h1 : sm (fun j => (rD r n j : Int)) (qN w) = qTot w := sm_cong (fun j hj => by
    have h2 := rD_le hv hj
    have h3 : ¬ rD r n j < qSt w j := fun h4 => h ⟨j, hj, h4⟩
    omega)
  rw [rD_sum (fun i hi => (hv i hi).1)] at h1
  omega
theorem qV_upf {w : wS} {r : Nat → Nat} {n j : Nat} (hv : qV w r n) (hj : j < qN w) (hl : rD r n j < qSt w j) : qV w (upf r n j) (n + 1) := by
  have hc : ∀ i, i < n → r i = upf r n j i := fun i hi => (upf_ne (by omega)).symm
  refine (qV_cong hc hv).succ ?_ ?_
  · rw [upf_eq]
    exact hj
  · rw [upf_eq, ← rD_cong hc]
    exact hl
theorem qRu_cong {w : wS} {rule : Nat} {r r' : Nat → Nat} {n N : Nat} (h : ∀ i, i < N → r i = r' i) (hr : qRu w rule r n N) : qRu w rule r' n N := fun k h1 h2 => by
  have e1 : rD r k = rD r' k := funext fun j => rD_cong (fun i hi => h i (by omega)) j
  have e2 : qS w D0 r k = qS w D0 r' k := qS_cong (fun i hi => h i (by omega)) (fun _ _ => rfl)
  rw [← h k h2, ← e1, ← e2]
  exact hr k h1 h2
theorem S_putRest {w : wS} {r : Nat → Nat} {n t : Nat} {G : mG} (hw : Wok w) (hx : XS w G) (ht : 17 ≤ t) (hv : qV w r n) (hT : TT t w D0 r n G) {rule : Nat} (hr : rule ≤ 7) : Ok (P_X8_putRestByRule t (rule : Int) G) (fun G' => ∃ r', (∀ i, i < n → r i = r' i) ∧ qF w r' (qTot w).toNat ∧ qRu w rule r' n (qTot w).toNat ∧ TT t w D0 r' (qTot w).toNat G' ∧ FrT t G G') := by
  have htot := qTot_le hw
  have hnt := qV_tot hw hv
  unfold P_X8_putRestByRule
  refine Ok.eq (S_stepTotal hw hx) ?_
  refine Ok.forC (fun k G' => ∃ r', (∀ i, i < n → r i = r' i) ∧ qV w r' (n + k) ∧ qRu w rule r' n (n + k) ∧ TT t w D0 r' (n + k) G' ∧ FrT t G G') ((qTot w).toNat - n) LF (LF_lt (by omega)) ⟨r, fun _ _ => rfl, hv, fun k h1 h2 => absurd h1 (by omega), hT, FrT.rf t G⟩ (fun k hk again G' hI hag => ?_) (fun again G' hI => ?_)
  · obtain ⟨r', g1, g2, g3, g4, g5⟩ := hI
    rw [hT.len]
    refine Ok.iteT ((ilt_id (by omega) (by omega) (by omega) (by omega)).trans (decide_eq_true (by omega))) ?_
    have hx' := g5.xs ht hx
    refine Ok.eq (S_firstByRule hw hx' g2 DB0 g4 hr) ?_
    obtain ⟨j, hj, hl⟩ := qLeft hw g2 (by omega)
    obtain ⟨i, h1, h2, h3⟩ := qPick_some (rule := rule) (ho := fun j => tHo w (qS w D0 r' (n + k)) (5 * j + rD r' (n + k) j) 0) hj hl
    rw [h2]
    have hc : ∀ a, a < n + k → r' a = upf r' (n + k) i a := fun a ha => (upf_ne (by omega)).symm
    have hput := S_put (D := D0) (r := upf r' (n + k) i) hw ht hx' (qV_upf g2 h1 h3) DB0 (TT_cong hc (fun _ _ => rfl) g4)
    rw [upf_eq] at hput
    refine Ok.bind hput (fun G2 hG2 => ?_)
    refine hag _ ⟨upf r' (n + k) i, fun a ha => (g1 a ha).trans (hc a (by omega)), qV_upf g2 h1 h3, fun a ha1 ha2 => ?_, hG2.1, g5.tr hG2.2⟩
    by_cases ha : a = n + k
    · subst ha
      have e1 : rD (upf r' (n + k) i) (n + k) = rD r' (n + k) := funext fun j => (rD_cong hc j).symm
      have e2 : qS w D0 (upf r' (n + k) i) (n + k) = qS w D0 r' (n + k) := (qS_cong hc (fun _ _ => rfl)).symm
      rw [upf_eq, e1, e2, h2]
    · exact qRu_cong hc g3 a ha1 (by omega)
  · obtain ⟨r', g1, g2, g3, g4, g5⟩ := hI
    rw [hT.len]
    refine Ok.iteF ((ilt_id (by omega) (by omega) (by omega) (by omega)).trans (decide_eq_false (by omega))) (Ok.so ?_)
    have e : n + ((qTot w).toNat - n) = (qTot w).toNat := by omega
    rw [e] at g2 g3 g4
    exact ⟨r', g1, qF_of g2 (by omega), g3, g4, g5⟩
