/-! ===== promises: sums of odds, by hours and by subsets ===== -/
theorem sm_add (f : Nat → Int) (a : Nat) : ∀ b, sm f (a + b) = sm f a + sm (fun i => f (a + i)) b
  | 0 => by
    rw [Nat.add_zero]
    exact (Int.add_zero _).symm
  | b + 1 => by
    rw [← Nat.add_assoc, sm_succ, sm_succ, sm_add f a b, Int.add_assoc]
theorem sm_mul (f : Nat → Int) (c : Int) : ∀ n, sm (fun i => f i * c) n = sm f n * c
  | 0 => (Int.zero_mul c).symm
  | n + 1 => by
    rw [sm_succ, sm_succ, sm_mul f c n, Int.add_mul]
def pw : Nat → Int
  | 0 => 1
  | k + 1 => pw k * 1000
theorem pw_all : ∀ k : Fin 6, 1 ≤ pw k.1 ∧ pw k.1 ≤ 1000000000000000 := by decide
theorem pw_bd {k : Nat} (h : k ≤ 5) : 1 ≤ pw k ∧ pw k ≤ 1000000000000000 := pw_all ⟨k, by omega⟩
def hN (w : wS) (j k : Nat) : Nat := (qHr w (5 * j + k)).toNat
def pA (w : wS) (j : Nat) (t : Int) : Nat → Nat → Int
  | 0, i => if i = 0 then 1 else 0
  | k + 1, i => pA w j t k i * (1000 - t) + (if hN w j k ≤ i then pA w j t k (i - hN w j k) * t else 0)
theorem pA_s {w : wS} {j : Nat} {t : Int} {k i : Nat} : pA w j t (k + 1) i = pA w j t k i * (1000 - t) + (if hN w j k ≤ i then pA w j t k (i - hN w j k) * t else 0) := rfl
theorem pA_sm {w : wS} {j : Nat} {t : Int} {k : Nat} : ∀ n, sm (pA w j t (k + 1)) n = sm (pA w j t k) n * (1000 - t) + sm (pA w j t k) (n - hN w j k) * t
  | 0 => by
    rw [Nat.zero_sub]
    show (0 : Int) = 0 * (1000 - t) + 0 * t
    rw [Int.zero_mul, Int.zero_mul]
    rfl
  | n + 1 => by
    rw [sm_succ, pA_sm n, pA_s, sm_succ, Int.add_mul]
    by_cases h : hN w j k ≤ n
    · rw [if_pos h, show n + 1 - hN w j k = (n - hN w j k) + 1 by omega, sm_succ, Int.add_mul]
      omega
    · rw [if_neg h, show n + 1 - hN w j k = n - hN w j k by omega]
      omega
def pSub (w : wS) (j : Nat) : Nat → Nat → Nat
  | 0, _ => 0
  | k + 1, c => if hasb c k then pSub w j k c + hN w j k else pSub w j k c
def pPr (w : wS) (j : Nat) (t : Int) : Nat → Nat → Int
  | 0, _ => 1
  | k + 1, c => if hasb c k then pPr w j t k c * t else pPr w j t k c * (1000 - t)
theorem pSub_s {w : wS} {j k c : Nat} : pSub w j (k + 1) c = if hasb c k then pSub w j k c + hN w j k else pSub w j k c := rfl
theorem pPr_s {w : wS} {j k c : Nat} {t : Int} : pPr w j t (k + 1) c = if hasb c k then pPr w j t k c * t else pPr w j t k c * (1000 - t) := rfl
theorem has_lo {k c s : Nat} (h : s < k) : hasb (2 ^ k + c) s = hasb c s := by
  rw [hasb_tb, hasb_tb, Nat.testBit_two_pow_add_gt h]
theorem has_hi {k c : Nat} (h : c < 2 ^ k) : hasb (2 ^ k + c) k = true ∧ hasb c k = false := by
  rw [hasb_tb, hasb_tb, Nat.testBit_two_pow_add_eq, Nat.testBit_lt_two_pow h]
  exact ⟨rfl, rfl⟩
theorem pSub_lo {w : wS} {j k c : Nat} : ∀ {i : Nat}, i ≤ k → pSub w j i (2 ^ k + c) = pSub w j i c
  | 0, _ => rfl
  | i + 1, h => by rw [pSub_s, pSub_s, has_lo (show i < k by omega), pSub_lo (i := i) (by omega)]
theorem pPr_lo {w : wS} {j k c : Nat} {t : Int} : ∀ {i : Nat}, i ≤ k → pPr w j t i (2 ^ k + c) = pPr w j t i c
  | 0, _ => rfl
  | i + 1, h => by rw [pPr_s, pPr_s, has_lo (show i < k by omega), pPr_lo (i := i) (by omega)]
def pC (w : wS) (j : Nat) (t : Int) (k n : Nat) : Int := sm (fun c => if pSub w j k c < n then pPr w j t k c else 0) (2 ^ k)
theorem pC_s {w : wS} {j : Nat} {t : Int} {k n : Nat} : pC w j t (k + 1) n = pC w j t k n * (1000 - t) + pC w j t k (n - hN w j k) * t := by
  unfold pC
  rw [Nat.pow_succ, Nat.mul_two, sm_add, ← sm_mul, ← sm_mul]
  congr 1
  · refine sm_cong (fun c hc => ?_)
    have h := has_hi hc
    rw [pSub_s, pPr_s, h.2]
    by_cases g : pSub w j k c < n
    · simp [g]
    · simp [g]
  · refine sm_cong (fun c hc => ?_)
    have h := has_hi hc
    rw [pSub_s, pPr_s, h.1, pSub_lo (Nat.le_refl k), pPr_lo (Nat.le_refl k)]
    by_cases g : pSub w j k c + hN w j k < n
    · have g2 : pSub w j k c < n - hN w j k := by omega
      simp [g, g2]
    · have g2 : ¬ pSub w j k c < n - hN w j k := by omega
      simp [g, g2]
theorem pA_C {w : wS} {j : Nat} {t : Int} : ∀ k n, sm (pA w j t k) n = pC w j t k n
  | 0, 0 => rfl
  | 0, n + 1 => by
    rw [sm_succ, pA_C 0 n]
    show (0 + (if 0 < n then (1 : Int) else 0)) + (if n = 0 then (1 : Int) else 0) = 0 + (if 0 < n + 1 then (1 : Int) else 0)
    rw [if_pos (show 0 < n + 1 by omega)]
    by_cases h : n = 0
    · rw [if_pos h, if_neg (by omega)]
      rfl
    · rw [if_neg h, if_pos (by omega)]
      rfl
  | k + 1, n => by
    rw [pA_sm, pC_s, pA_C k n, pA_C k (n - hN w j k)]
theorem pA_bd {w : wS} {j : Nat} {t : Int} (ht : 0 ≤ t ∧ t ≤ 1000) : ∀ k n, 0 ≤ sm (pA w j t k) n ∧ sm (pA w j t k) n ≤ pw k
  | 0, 0 => ⟨Int.le_refl 0, by show (0 : Int) ≤ 1; omega⟩
  | 0, n + 1 => by
    have h : ∀ n, sm (pA w j t 0) (n + 1) = 1 := by
      intro n
      induction n with
      | zero => rfl
      | succ n ih =>
        rw [sm_succ, ih]
        rfl
    rw [h n]
    exact ⟨by omega, Int.le_refl 1⟩
  | k + 1, n => by
    have h1 := pA_bd (w := w) (j := j) ht k n
    have h2 := pA_bd (w := w) (j := j) ht k (n - hN w j k)
    have a1 := Int.mul_nonneg h1.1 (show 0 ≤ 1000 - t by omega)
    have a2 := Int.mul_nonneg h2.1 ht.1
    have a3 := Int.mul_le_mul_of_nonneg_right h1.2 (show 0 ≤ 1000 - t by omega)
    have a4 := Int.mul_le_mul_of_nonneg_right h2.2 ht.1
    have e : pw (k + 1) = pw k * (1000 - t) + pw k * t := by
      rw [← Int.mul_add]
      show pw k * 1000 = _
      congr 1
      omega
    rw [pA_sm, e]
    omega
/-- hours of the first steps -/
def pT (w : wS) (j k : Nat) : Nat := it (fun s v => v + hN w j s) k 0
theorem pT_s {w : wS} {j k : Nat} : pT w j (k + 1) = pT w j k + hN w j k := rfl
theorem pA_top {w : wS} {j : Nat} {t : Int} : ∀ k n, pT w j k < n → sm (pA w j t k) n = pw k
  | 0, 0, h => absurd h (Nat.not_lt_zero _)
  | 0, n + 1, _ => by
    have h : ∀ n, sm (pA w j t 0) (n + 1) = 1 := by
      intro n
      induction n with
      | zero => rfl
      | succ n ih =>
        rw [sm_succ, ih]
        rfl
    rw [h n]
    rfl
  | k + 1, n, h => by
    rw [pT_s] at h
    rw [pA_sm, pA_top k n (by omega), pA_top k (n - hN w j k) (by omega), ← Int.mul_add]
    show _ = pw k * 1000
    congr 1
    omega
theorem hN_eq {w : wS} (hw : Wok w) {j k : Nat} (hj : j < qN w) (hk : k < qSt w j) : qHr w (5 * j + k) = (hN w j k : Int) ∧ 1 ≤ hN w j k ∧ hN w j k ≤ 50 := by
  have h := hw.hr hj hk
  unfold hN
  omega
theorem pT_hf {w : wS} (hw : Wok w) {j : Nat} (hj : j < qN w) : ∀ {k : Nat}, k ≤ qSt w j → (pT w j k : Int) + qHf w j k = qHf w j 0
  | 0, _ => Int.zero_add _
  | k + 1, h => by
    have h1 := pT_hf hw hj (k := k) (by omega)
    rw [qHf_step (show k < qSt w j by omega), (hN_eq hw hj (show k < qSt w j by omega)).1] at h1
    rw [pT_s]
    omega
theorem pT_all {w : wS} (hw : Wok w) {j : Nat} (hj : j < qN w) : qHf w j 0 = (pT w j (qSt w j) : Int) ∧ pT w j (qSt w j) ≤ 250 := by
  have h1 := pT_hf hw hj (Nat.le_refl (qSt w j))
  rw [qHf_end (Nat.le_refl _)] at h1
  have h2 := qHf_bd hw hj (s := 0)
  omega
/-- the least number of hours with the odds -/
def PRm (w : wS) (j : Nat) (t o : Int) (m : Nat) : Prop := ¬ sm (pA w j t (qSt w j)) m * 1000 < o * pw (qSt w j) ∧ ∀ m', m' < m → sm (pA w j t (qSt w j)) m' * 1000 < o * pw (qSt w j)
theorem PRm_uni {w : wS} {j : Nat} {t o : Int} {m m' : Nat} (h1 : PRm w j t o m) (h2 : PRm w j t o m') : m = m' := by
  have : m < m' ∨ m = m' ∨ m' < m := by omega
  rcases this with g | g | g
  · exact absurd (h2.2 m g) h1.1
  · exact g
  · exact absurd (h1.2 m' g) h2.1
noncomputable def vPm (w : wS) (j : Nat) (t o : Int) : Nat := Classical.epsilon (PRm w j t o)
theorem vPm_eq {w : wS} {j : Nat} {t o : Int} {m : Nat} (h : PRm w j t o m) : m = vPm w j t o := PRm_uni h (Classical.epsilon_spec (p := PRm w j t o) ⟨m, h⟩)
theorem pA_end {w : wS} (hw : Wok w) {j : Nat} {t o : Int} (hj : j < qN w) (ho : 1 ≤ o ∧ o ≤ 1000) {n : Nat} (hn : pT w j (qSt w j) < n) : ¬ sm (pA w j t (qSt w j)) n * 1000 < o * pw (qSt w j) := by
  rw [pA_top _ _ hn, Int.mul_comm o]
  have h1 := pw_bd (hw.st hj).2
  have := Int.mul_le_mul_of_nonneg_left ho.2 (show 0 ≤ pw (qSt w j) by omega)
  omega
theorem o_bd {w : wS} (hw : Wok w) {j : Nat} {o : Int} (hj : j < qN w) (ho : 1 ≤ o ∧ o ≤ 1000) : 1 ≤ o * pw (qSt w j) ∧ o * pw (qSt w j) ≤ 1000000000000000000 := by
  have h1 := pw_bd (hw.st hj).2
  have a1 := Int.mul_le_mul_of_nonneg_left h1.2 (show 0 ≤ o by omega)
  have a2 := Int.mul_le_mul_of_nonneg_left h1.1 (show 0 ≤ o by omega)
  omega
/-! the class's spread -/
theorem S_spread {w : wS} {G : mG} (hw : Wok w) (hx : XS w G) {j : Nat} (hj : j < qN w) {t : Int} (ht : 0 ≤ t ∧ t ≤ 1000) {ms : Nat} (hms : ms ≤ 250) : Ok (P_X4_spread (j : Int) t (ms : Int) G) (fun z => z.1 = pw (qSt w j) ∧ (∀ i, i ≤ ms → z.2 55 i = pA w j t (qSt w j) i) ∧ ∀ b, b ≠ 55 → z.2 b = G b) := by
  have hn := hw.n
  have h5 := (hw.st hj).2
  unfold P_X4_spread
  refine Ok.bind (show Ok (P_J7_fill_53178 55 251 0 G) _ from S_fill (by omega)) (fun G4 hG4 => ?_)
  refine Ok.sto 0 rfl (by omega) (by omega) ?_
  have hxf : ∀ G' : mG, (∀ b, b ≠ 55 → G' b = G b) → XS w G' := fun G' h a b hab => by
    have := hab.lo
    rw [h a (by omega)]
    exact hx a b hab
  refine Ok.jn2 (fun y G' => y = pw (qSt w j) ∧ (∀ i, i ≤ ms → G' 55 i = pA w j t (qSt w j) i) ∧ ∀ b, b ≠ 55 → G' b = G b) (fun y G' h => Ok.so h) (fun k9 hk9 => ?_)
  refine Ok.lp3 (fun M x c G' => ∃ k : Nat, c = (k : Int) ∧ k + M = qSt w j ∧ x = pw k ∧ (∀ i, i ≤ ms → G' 55 i = pA w j t k i) ∧ ∀ b, b ≠ 55 → G' b = G b) (fun M again x c G12 hI hk => ?_) LF (qSt w j) 1 0 _ (LF_lt (by omega)) ⟨0, rfl, by omega, rfl, fun i hi => ?_, fun b hb => by rw [up2_ne hb, hG4.2 b hb]⟩
  · obtain ⟨k, rfl, hkM, rfl, hce, hfr⟩ := hI
    have hx12 := hxf G12 hfr
    refine Ok.ld j rfl (by omega) (by omega) ?_
    rw [hx12.st hw hj]
    refine Ok.cd (ilt_nat (by omega) (by omega)) (fun g => ?_) (fun g => ?_)
    · obtain ⟨e1, e2, e3⟩ := hN_eq hw hj g
      refine Ok.ld (5 * j + k) (by omega) (by omega) (by omega) ?_
      rw [hx12.hr hw (by omega), e1]
      refine Ok.jn1 (fun G' => (∀ i, i ≤ ms → G' 55 i = pA w j t (k + 1) i) ∧ ∀ b, b ≠ 55 → G' b = G b) (fun G' h => ?_) (fun k19 hk19 => ?_)
      · exact hk (M - 1) _ _ _ (by omega) ⟨k + 1, rfl, by omega, rfl, h⟩
      · refine Ok.lp2 (fun M2 x G' => ∃ y : Nat, x = (y : Int) - 1 ∧ M2 = y ∧ y ≤ ms + 1 ∧ (∀ i, i ≤ ms → y ≤ i → G' 55 i = pA w j t (k + 1) i) ∧ (∀ i, i < y → G' 55 i = pA w j t k i) ∧ ∀ b, b ≠ 55 → G' b = G b) (fun M2 again2 x G21 hI2 hk2 => ?_) LF (ms + 1) (ms : Int) G12 (LF_lt (by omega)) ⟨ms + 1, by omega, rfl, Nat.le_refl _, fun i h1 h2 => absurd h2 (by omega), fun i hi => hce i (by omega), hfr⟩
        obtain ⟨y, rfl, rfl, hy, a1, a2, a3⟩ := hI2
        refine Ok.cd (ilt_id (by omega) (by omega) (by omega) (by omega)) (fun g2 => ?_) (fun g2 => ?_)
        · exact hk19 _ ⟨fun i hi => a1 i hi (by omega), a3⟩
        · refine Ok.jn1 (fun v => v = if hN w j k ≤ M2 - 1 then pA w j t k (M2 - 1 - hN w j k) * t else 0) (fun v hv => ?_) (fun k28 hk28 => ?_)
          · subst hv
            refine Ok.ld (M2 - 1) (by omega) (by omega) (by omega) ?_
            rw [a2 (M2 - 1) (by omega)]
            refine Ok.sto (M2 - 1) (by omega) (by omega) (by omega) ?_
            rw [w32_id (z := 1000 - t) (by omega) (by omega), ← pA_s]
            refine hk2 (M2 - 1) _ _ (by omega) ⟨M2 - 1, by omega, rfl, by omega, fun i h1 h2 => ?_, fun i h1 => ?_, fun b hb => by rw [up2_ne hb, a3 b hb]⟩
            · rw [up2_eq, up1_if]
              by_cases e : i = M2 - 1
              · rw [if_pos e, e]
              · rw [if_neg e]
                exact a1 i h1 (by omega)
            · rw [up2_eq, up1_if, if_neg (by omega)]
              exact a2 i (by omega)
          · refine Ok.cd (ilt_id (by omega) (by omega) (by omega) (by omega)) (fun g3 => ?_) (fun g3 => ?_)
            · exact hk28 _ (if_neg (by omega)).symm
            · refine Ok.ld (M2 - 1 - hN w j k) (by omega) (by omega) (by omega) ?_
              rw [a2 _ (by omega), w32_id (z := t) (by omega) (by omega)]
              exact hk28 _ (if_pos (by omega)).symm
    · have : k = qSt w j := by omega
      subst this
      exact hk9 _ _ ⟨rfl, hce, hfr⟩
  · rw [up2_eq, up1_if]
    by_cases e : i = 0
    · rw [if_pos e, e]
      rfl
    · rw [if_neg e, hG4.1 i (by omega)]
      exact (if_neg e).symm
theorem S_hourOf {w : wS} {G : mG} (hw : Wok w) (hx : XS w G) {j : Nat} (hj : j < qN w) {t o : Int} (ht : 0 ≤ t ∧ t ≤ 1000) (ho : 1 ≤ o ∧ o ≤ 1000) : Ok (P_X4_hourOf (j : Int) t o G) (fun z => z.1 = qRel w j + (pT w j (qSt w j) : Int) + ((vPm w j t o : Int) - 1) ∧ ∀ b, b ≠ 55 → z.2 b = G b) := by
  have hn := hw.n
  obtain ⟨eT, hT⟩ := pT_all hw hj
  have hob := o_bd hw hj ho
  unfold P_X4_hourOf
  refine Ok.eq (S_hoursFrom hw hx hj (s := 0) (by omega)) ?_
  rw [eT, iMin_id (by omega) (by omega) (by omega) (by omega), show min ((pT w j (qSt w j) : Nat) : Int) (251 - 1) = (pT w j (qSt w j) : Int) by omega]
  refine Ok.bind (S_spread hw hx hj ht hT) (fun z5 hz5 => ?_)
  have hx5 : XS w z5.2 := fun a b hab => by
    have := hab.lo
    rw [hz5.2.2 a (by omega)]
    exact hx a b hab
  rw [hz5.1, w32_id (z := o) (by omega) (by omega)]
  refine Ok.jn1 (fun y => ∃ m : Nat, y = (m : Int) - 1 ∧ 1 ≤ m ∧ m ≤ 1000 ∧ PRm w j t o m) (fun y hy => ?_) (fun k9 hk9 => ?_)
  · obtain ⟨m, rfl, h1, h2, h3⟩ := hy
    refine Ok.ld j rfl (by omega) (by omega) ?_
    have e2 : z5.2 2 j = qRel w j := hx5.at j (by simp [aok, asz]; omega)
    rw [e2, iMax_id (by omega) (by omega) (by omega) (by omega), ← vPm_eq h3]
    refine Ok.so ⟨?_, hz5.2.2⟩
    dsimp only
    omega
  · refine Ok.lp2 (fun M x y => ∃ m : Nat, y = (m : Int) - 1 ∧ m + M = pT w j (qSt w j) + 2 ∧ m ≤ pT w j (qSt w j) + 1 ∧ x = sm (pA w j t (qSt w j)) m ∧ ∀ m', m' < m → sm (pA w j t (qSt w j)) m' * 1000 < o * pw (qSt w j)) (fun M again x y hI hk => ?_) LF (pT w j (qSt w j) + 2) 0 (-1) (LF_lt (by omega)) ⟨0, rfl, by omega, by omega, rfl, fun m' h => absurd h (Nat.not_lt_zero _)⟩
    obtain ⟨m, rfl, hmM, hm, rfl, hall⟩ := hI
    have hA := pA_bd (w := w) (j := j) ht (qSt w j) m
    have hp := pw_bd (hw.st hj).2
    have h0 : sm (pA w j t (qSt w j)) 0 * 1000 < o * pw (qSt w j) := by
      show 0 * 1000 < _
      omega
    have hfin : ¬ sm (pA w j t (qSt w j)) m * 1000 < o * pw (qSt w j) → Ok (k9 ((m : Int) - 1)) _ := fun g => hk9 _ ⟨m, rfl, by
      by_cases e : m = 0
      · subst e
        exact absurd h0 g
      · omega, by omega, g, hall⟩
    refine Ok.cd (ilt_id (by omega) (by omega) (by omega) (by omega)) (fun g => ?_) (fun g => ?_)
    · refine Ok.cd (lcmp_lt (by omega) (by omega)) (fun g2 => ?_) (fun g2 => hfin g2)
      refine Ok.ld m (by omega) (by omega) (by omega) ?_
      rw [hz5.2.1 m (by omega), ← sm_succ]
      refine hk (M - 1) _ _ (by omega) ⟨m + 1, by omega, by omega, by omega, rfl, fun m' hm' => ?_⟩
      by_cases e : m' = m
      · rw [e]
        exact g2
      · exact hall m' (by omega)
    · exact hfin (pA_end hw hj ho (by omega))
/-! the model -/
theorem shl_st : ∀ k : Fin 6, iShl 1 (k.1 : Int) = ((2 ^ k.1 : Nat) : Int) ∧ 2 ^ k.1 ≤ 32 := by decide +kernel
theorem M_oddsOf {w : wS} {G : mG} (hw : Wok w) (hm : MD w (G 57)) {j : Nat} (hj : j < qN w) {t : Int} (ht : 0 ≤ t ∧ t ≤ 1000) {h : Nat} (hh : h ≤ 10000) : P_X11_oddsOf (j : Int) (h : Int) t G = some (sm (pA w j t (qSt w j)) (h + 1 - pT w j (qSt w j))) := by
  have hn := hw.n
  have h5 := (hw.st hj).2
  obtain ⟨eT, hT⟩ := pT_all hw hj
  have hsh := shl_st ⟨qSt w j, by omega⟩
  have hsh1 : iShl 1 (qSt w j : Int) = ((2 ^ qSt w j : Nat) : Int) := hsh.1
  have hsh2 : 2 ^ qSt w j ≤ 32 := hsh.2
  refine Ok.get ?_
  unfold P_X11_oddsOf
  refine Ok.jn1 (fun y => y = sm (pA w j t (qSt w j)) (h + 1 - pT w j (qSt w j))) (fun y hy => ?_) (fun k6 hk6 => ?_)
  · exact Ok.so hy
  · refine Ok.forA (fun c v => v = sm (fun c => if pSub w j (qSt w j) c < h + 1 - pT w j (qSt w j) then pPr w j t (qSt w j) c else 0) c) (2 ^ qSt w j) LF (LF_lt (by omega)) rfl (fun c hc again v hv hk => ?_) (fun again v hv => ?_)
    · subst hv
      refine Ok.eq (M_st hw hm hj) ?_
      rw [hsh1]
      refine Ok.condT (ilt_nat (by omega) (by omega)) hc ?_
      refine Ok.jn2 (fun y z => y = pPr w j t (qSt w j) c ∧ z = ((pT w j (qSt w j) + pSub w j (qSt w j) c : Nat) : Int)) (fun y z hyz => ?_) (fun k18 hk18 => ?_)
      · obtain ⟨rfl, rfl⟩ := hyz
        have hps : ∀ k, k ≤ qSt w j → pSub w j k c ≤ 50 * k := by
          intro k
          induction k with
          | zero => exact fun _ => Nat.le_refl 0
          | succ k ih =>
            intro hk
            have := ih (by omega)
            have := hN_eq hw hj (show k < qSt w j by omega)
            rw [pSub_s]
            split <;> omega
        have hps5 := hps (qSt w j) (Nat.le_refl _)
        refine Ok.jn1 (fun y => y = if pSub w j (qSt w j) c < h + 1 - pT w j (qSt w j) then pPr w j t (qSt w j) c else 0) (fun y hy => ?_) (fun k17 hk17 => ?_)
        · subst hy
          exact hk _ rfl
        · refine Ok.cd (ilt_nat (by omega) (by omega)) (fun g => ?_) (fun g => ?_)
          · exact hk17 _ (if_neg (by omega)).symm
          · exact hk17 _ (if_pos (by omega)).symm
      · refine Ok.lp3 (fun M x y z => ∃ k : Nat, z = (k : Int) ∧ k + M = qSt w j ∧ x = pPr w j t k c ∧ y = ((pT w j k + pSub w j k c : Nat) : Int)) (fun M again2 x y z hI hk2 => ?_) LF (qSt w j) 1 0 0 (LF_lt (by omega)) ⟨0, rfl, by omega, rfl, rfl⟩
        obtain ⟨k, rfl, hkM, rfl, rfl⟩ := hI
        refine Ok.eq (M_st hw hm hj) ?_
        refine Ok.cd (ilt_nat (by omega) (by omega)) (fun g => ?_) (fun g => ?_)
        · obtain ⟨e1, e2, e3⟩ := hN_eq hw hj g
          have hps := pPr_s (w := w) (j := j) (k := k) (c := c) (t := t)
          have hss := pSub_s (w := w) (j := j) (k := k) (c := c)
          have hts := pT_s (w := w) (j := j) (k := k)
          refine Ok.jn1 (fun b => b = if hasb c k then 1 else 0) (fun b hb => ?_) (fun k35 hk35 => ?_)
          · subst hb
            refine Ok.jn1 (fun f => f = if hasb c k then t else 1000 - t) (fun f hf => ?_) (fun k34 hk34 => ?_)
            · subst hf
              refine Ok.jn1 (fun u => u = if hasb c k then 2 * (hN w j k : Int) else (hN w j k : Int)) (fun u hu => ?_) (fun k31 hk31 => ?_)
              · subst hu
                refine hk2 (M - 1) _ _ _ (by omega) ⟨k + 1, rfl, by omega, ?_, ?_⟩
                · rw [hps]
                  cases hasb c k <;> rfl
                · rw [hss, hts]
                  cases hasb c k
                  · simp only [Bool.false_eq_true, if_false]
                    omega
                  · simp only [if_true]
                    omega
              · cases hb : hasb c k
                · rw [hb] at hk31
                  refine Ok.iteT rfl ?_
                  refine Ok.eq (M_hoursOf hw hm hj g) ?_
                  exact hk31 _ e1
                · rw [hb] at hk31
                  refine Ok.iteF rfl ?_
                  refine Ok.eq (M_hoursOf hw hm hj g) ?_
                  exact hk31 _ (by rw [e1]; rfl)
            · cases hb : hasb c k
              · rw [hb] at hk34
                exact Ok.iteT rfl (hk34 _ (w32_id (by omega) (by omega)))
              · rw [hb] at hk34
                exact Ok.iteF rfl (hk34 _ (w32_id (by omega) (by omega)))
          · rw [t3_b (show c < 64 by omega) (show k < 6 by omega)]
            cases hb : hasb c k
            · rw [hb] at hk35
              exact Ok.iteF rfl (hk35 _ rfl)
            · rw [hb] at hk35
              exact Ok.iteT rfl (hk35 _ rfl)
        · have : k = qSt w j := by omega
          subst this
          exact hk18 _ _ ⟨rfl, rfl⟩
    · subst hv
      refine Ok.eq (M_st hw hm hj) ?_
      rw [hsh1]
      refine Ok.condF (ilt_nat (by omega) (by omega)) (by omega) ?_
      refine hk6 _ ?_
      rw [pA_C]
      rfl
theorem C_promise {p1 p2 p3 : Int} (i1 : I32 p1) (i2 : I32 p2) (i3 : I32 p3) : CaseX (P_X10_promise p1 p2 p3) (fun E => if E = 2 then 0 else E + 1) (P_X11_promise p1 p2 p3) := by
  refine CaseY_of (fun w => 0 ≤ p1 ∧ p1 < (qN w : Int)) (fun _ => (0 ≤ p2 ∧ p2 ≤ 1000) ∧ (1 ≤ p3 ∧ p3 ≤ 1000)) (fun _ => True) (fun w => qRel w p1.toNat + (pT w p1.toNat (qSt w p1.toNat) : Int) + ((vPm w p1.toNat p2 p3 : Int) - 1)) (fun w h len a np G hI => ?_) (fun w h len a np G n k hI => ?_)
  · have hw := hI.1.1
    have hm := hI.2.2.2.2.1.1
    have hn := hw.n
    unfold P_X11_promise
    rw [M_isJob hw hm i1]
    refine Ok.eq rfl ?_
    rw [M_in i2 (i32_k (by omega)) (i32_k (by omega))]
    refine Ok.eq rfl ?_
    refine Ok.jn1 (fun y => y = b2i (decide ((0 ≤ p2 ∧ p2 ≤ 1000) ∧ (1 ≤ p3 ∧ p3 ≤ 1000)))) (fun y hy => ?_) (fun k25 hk25 => ?_)
    · subst hy
      refine QM.fits rfl rfl T_T (fun _ => rfl) (KF.rf G) (fun h1 h2 _ => ?_)
      refine Ok.iteT rfl ?_
      obtain ⟨j, rfl⟩ := Int.eq_ofNat_of_zero_le h1.1
      have hj : j < qN w := by omega
      rw [Int.toNat_natCast]
      have hm6 : MD w ((up2 G 56 3 0) 57) := by
        rw [up2_ne (by omega)]
        exact hm
      dsimp only
      generalize up2 G 56 3 0 = G6 at hm6 ⊢
      obtain ⟨eT, hT⟩ := pT_all hw hj
      have hob := o_bd hw hj h2.2
      have hp := pw_bd (hw.st hj).2
      have h5 := (hw.st hj).2
      refine Ok.jn1 (fun y => y = p3 * pw (qSt w j)) (fun y hy => ?_) (fun k19 hk19 => ?_)
      · subst hy
        refine Ok.jn1 (fun y => y = (pT w j (qSt w j) : Int) + ((vPm w j p2 p3 : Int) - 1)) (fun y hy => ?_) (fun k14 hk14 => ?_)
        · subst hy
          refine Ok.eq (M_rel hw hm6 hj) ?_
          refine Ok.so ⟨?_, KF.rf _, rfl⟩
          dsimp only
          rw [Int.add_assoc]
        · refine Ok.lp1 (fun M x => ∃ h : Nat, x = (h : Int) ∧ h + M = 2 * pT w j (qSt w j) + 1 ∧ ∀ m', m' < h + 1 - pT w j (qSt w j) → sm (pA w j p2 (qSt w j)) m' * 1000 < p3 * pw (qSt w j)) (fun M again x hI hk => ?_) LF (2 * pT w j (qSt w j) + 1) 0 (LF_lt (by omega)) ⟨0, rfl, by omega, fun m' hm' => ?_⟩
          · obtain ⟨h, rfl, hhM, hall⟩ := hI
            refine Ok.eq (M_oddsOf hw hm6 hj h2.1 (by omega)) ?_
            have hA := pA_bd (w := w) (j := j) h2.1 (qSt w j) (h + 1 - pT w j (qSt w j))
            refine Ok.cd (lcmp_lt (by omega) (by omega)) (fun g => ?_) (fun g => ?_)
            · have hM : 0 < M := by
                refine Classical.byContradiction fun e => ?_
                exact pA_end hw hj h2.2 (n := h + 1 - pT w j (qSt w j)) (by omega) g
              refine hk (M - 1) _ (by omega) ⟨h + 1, rfl, by omega, fun m' hm' => ?_⟩
              by_cases e : m' < h + 1 - pT w j (qSt w j)
              · exact hall m' e
              · rw [show m' = h + 1 - pT w j (qSt w j) by omega]
                exact g
            · have hpr : PRm w j p2 p3 (h + 1 - pT w j (qSt w j)) := ⟨g, hall⟩
              have h1m : h + 1 - pT w j (qSt w j) ≠ 0 := fun e => by
                rw [e] at g
                have : sm (pA w j p2 (qSt w j)) 0 = 0 := rfl
                rw [this] at g
                omega
              refine hk14 _ ?_
              rw [← vPm_eq hpr]
              omega
          · have : m' = 0 := by omega
            subst this
            show 0 * 1000 < _
            omega
      · refine Ok.lp2 (fun M x y => ∃ k : Nat, y = (k : Int) ∧ k + M = qSt w j ∧ x = p3 * pw k) (fun M again x y hI hk => ?_) LF (qSt w j) (w32 p3) 0 (LF_lt (by omega)) ⟨0, rfl, by omega, by rw [w32_id (by omega) (by omega)]; exact (Int.mul_one p3).symm⟩
        obtain ⟨k, rfl, hkM, rfl⟩ := hI
        refine Ok.eq (M_st hw hm6 hj) ?_
        refine Ok.cd (ilt_nat (by omega) (by omega)) (fun g => ?_) (fun g => ?_)
        · refine hk (M - 1) _ _ (by omega) ⟨k + 1, rfl, by omega, ?_⟩
          exact Int.mul_assoc p3 (pw k) 1000
        · have : k = qSt w j := by omega
          subst this
          exact hk19 _ rfl
    · refine Ok.jnP (¬ ((0 ≤ p2 ∧ p2 ≤ 1000) ∧ (1 ≤ p3 ∧ p3 ≤ 1000))) (fun g => hk25 _ (by rw [decide_eq_false g]; rfl)) (fun k27 hk27 => ?_)
      refine Ok.it (fun g1 => ?_) (fun g1 => ?_)
      · have g1 := of_decide_eq_true g1
        rw [M_in i3 (i32_k (by omega)) (i32_k (by omega))]
        refine Ok.eq rfl ?_
        refine Ok.it (fun g2 => ?_) (fun g2 => ?_)
        · have g2 := of_decide_eq_true g2
          exact hk25 _ (by rw [decide_eq_true (⟨g1, g2⟩ : (0 ≤ p2 ∧ p2 ≤ 1000) ∧ (1 ≤ p3 ∧ p3 ≤ 1000))]; rfl)
        · have g2 := of_decide_eq_false g2
          exact hk27 (fun e => g2 e.2)
      · have g1 := of_decide_eq_false g1
        exact hk27 (fun e => g1 e.1)
  · have hw := hI.1.1
    have hx := hI.2.1
    have hn := hw.n
    unfold P_X10_promise
    refine Ok.need (needJob_eq hw hx i1) (fun h1 => ?_) (fun h1 => QC.e1 0 (by omega) rfl h1)
    refine Ok.need (needRange_eq i2 (i32_k (by omega)) (i32_k (by omega))) (fun h2 => ?_) (fun h2 => QC.e2 1 (by omega) rfl h1 (fun e => h2 e.1))
    refine Ok.need (needRange_eq i3 (i32_k (by omega)) (i32_k (by omega))) (fun h3 => ?_) (fun h3 => QC.e2 1 (by omega) rfl h1 (fun e => h3 e.2))
    obtain ⟨j, rfl⟩ := Int.eq_ofNat_of_zero_le h1.1
    rw [Int.toNat_natCast]
    refine Ok.bind (S_hourOf hw hx (show j < qN w by omega) h2 h3) (fun z10 hz10 => ?_)
    rw [hz10.1]
    exact Ok.so ⟨z10.2, KQ.of (fun b hb => hz10.2 b (by omega)), Or.inl ⟨h1, ⟨h2, h3⟩, trivial, rfl⟩⟩
