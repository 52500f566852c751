/-! ===== dropped jobs, both sides ===== -/
def setb (m j : Nat) : Nat := m ||| 2 ^ j
def clrb (m j : Nat) : Nat := m &&& (63 ^^^ 2 ^ j)
def hasb (m j : Nat) : Bool := m / 2 ^ j % 2 == 1
theorem bit_all : ∀ m : Fin 64, ∀ j : Fin 6, (iOr (m.1 : Int) (iShl 1 (j.1 : Int)) = (setb m.1 j.1 : Int) ∧ setb m.1 j.1 < 64) ∧ (iAnd (m.1 : Int) (iXor (iShl 1 (j.1 : Int)) (-1)) = (clrb m.1 j.1 : Int) ∧ clrb m.1 j.1 < 64) ∧ ieq (iAnd (m.1 : Int) (iShl 1 (j.1 : Int))) 0 = !(hasb m.1 j.1) ∧ ieq (iAnd (iShr (m.1 : Int) (j.1 : Int)) 1) 0 = !(hasb m.1 j.1) ∧ iAnd (iShr (m.1 : Int) (j.1 : Int)) 1 = (if hasb m.1 j.1 then 1 else 0) := by decide +kernel
theorem bit_at : ∀ m : Fin 64, ∀ j : Fin 6, ∀ i : Fin 6, hasb (setb m.1 j.1) i.1 = (hasb m.1 i.1 || i.1 == j.1) ∧ hasb (clrb m.1 j.1) i.1 = (hasb m.1 i.1 && !(i.1 == j.1)) := by decide +kernel
theorem bit_ct : ∀ m : Fin 64, P_J6_bitCount_0f7a4 (m.1 : Int) = some ((((((0 + (if hasb m.1 0 then 1 else 0)) + (if hasb m.1 1 then 1 else 0)) + (if hasb m.1 2 then 1 else 0)) + (if hasb m.1 3 then 1 else 0)) + (if hasb m.1 4 then 1 else 0)) + (if hasb m.1 5 then 1 else 0) : Int) := by decide +kernel
section BT
variable {m j : Nat}
theorem or_b (hm : m < 64) (hj : j < 6) : iOr (m : Int) (iShl 1 (j : Int)) = (setb m j : Int) := ((bit_all ⟨m, hm⟩ ⟨j, hj⟩).1).1
theorem setb_lt (hm : m < 64) (hj : j < 6) : setb m j < 64 := ((bit_all ⟨m, hm⟩ ⟨j, hj⟩).1).2
theorem an_b (hm : m < 64) (hj : j < 6) : iAnd (m : Int) (iXor (iShl 1 (j : Int)) (-1)) = (clrb m j : Int) := ((bit_all ⟨m, hm⟩ ⟨j, hj⟩).2.1).1
theorem clrb_lt (hm : m < 64) (hj : j < 6) : clrb m j < 64 := ((bit_all ⟨m, hm⟩ ⟨j, hj⟩).2.1).2
theorem t1_b (hm : m < 64) (hj : j < 6) : ieq (iAnd (m : Int) (iShl 1 (j : Int))) 0 = decide (¬ hasb m j = true) := by
  rw [(bit_all ⟨m, hm⟩ ⟨j, hj⟩).2.2.1]
  cases hasb m j <;> rfl
theorem t2_b (hm : m < 64) (hj : j < 6) : ieq (iAnd (iShr (m : Int) (j : Int)) 1) 0 = decide (¬ hasb m j = true) := by
  rw [(bit_all ⟨m, hm⟩ ⟨j, hj⟩).2.2.2.1]
  cases hasb m j <;> rfl
theorem t3_b (hm : m < 64) (hj : j < 6) : iAnd (iShr (m : Int) (j : Int)) 1 = (if hasb m j then 1 else 0) := (bit_all ⟨m, hm⟩ ⟨j, hj⟩).2.2.2.2
theorem set_at (hm : m < 64) (hj : j < 6) {i : Nat} (hi : i < 6) : hasb (setb m j) i = (hasb m i || i == j) := (bit_at ⟨m, hm⟩ ⟨j, hj⟩ ⟨i, hi⟩).1
theorem clr_at (hm : m < 64) (hj : j < 6) {i : Nat} (hi : i < 6) : hasb (clrb m j) i = (hasb m i && !(i == j)) := (bit_at ⟨m, hm⟩ ⟨j, hj⟩ ⟨i, hi⟩).2
end BT
/-- hours of the jobs of a mask; the last of its longest -/
def hB (w : wS) (m k : Nat) : Int := it (fun j v => if hasb m j then v + qHf w j 0 else v) k 0
def lgB (w : wS) (m k : Nat) : Int := it (fun x v => if hasb m x then (if v = -1 then (x : Int) else if qHf w x 0 < qHf w v.toNat 0 then v else (x : Int)) else v) k (-1)
theorem hB_s {w : wS} {m k : Nat} : hB w m (k + 1) = if hasb m k then hB w m k + qHf w k 0 else hB w m k := rfl
theorem lgB_s {w : wS} {m k : Nat} : lgB w m (k + 1) = if hasb m k then (if lgB w m k = -1 then (k : Int) else if qHf w k 0 < qHf w (lgB w m k).toNat 0 then lgB w m k else (k : Int)) else lgB w m k := rfl
theorem hB_set {w : wS} {m j : Nat} (hm : m < 64) (hj : j < 6) (h : hasb m j = false) : ∀ {k : Nat}, k ≤ 6 → hB w (setb m j) k = hB w m k + (if j < k then qHf w j 0 else 0)
  | 0, _ => by
    rw [if_neg (by omega)]
    rfl
  | k + 1, hk => by
    have ih := hB_set (w := w) hm hj h (k := k) (by omega)
    rw [hB_s, hB_s, ih, set_at hm hj (by omega)]
    by_cases e : k = j
    · subst e
      rw [h, if_pos (by simp), if_neg Bool.false_ne_true, if_neg (by omega), if_pos (by omega)]
      omega
    · have e2 : (k == j) = false := by
        simp [e]
      rw [e2, Bool.or_false]
      by_cases g : j < k
      · rw [if_pos g, if_pos (show j < k + 1 by omega)]
        split <;> omega
      · rw [if_neg g, if_neg (show ¬ j < k + 1 by omega)]
        split <;> omega
theorem hB_clr {w : wS} {m j : Nat} (hm : m < 64) (hj : j < 6) (h : hasb m j = true) : ∀ {k : Nat}, k ≤ 6 → hB w (clrb m j) k = hB w m k - (if j < k then qHf w j 0 else 0)
  | 0, _ => by
    rw [if_neg (by omega)]
    rfl
  | k + 1, hk => by
    have ih := hB_clr (w := w) hm hj h (k := k) (by omega)
    rw [hB_s, hB_s, ih, clr_at hm hj (by omega)]
    by_cases e : k = j
    · subst e
      rw [h, if_neg (by simp), if_pos rfl, if_neg (by omega), if_pos (by omega)]
      omega
    · have e2 : (k == j) = false := by
        simp [e]
      rw [e2, Bool.not_false, Bool.and_true]
      by_cases g : j < k
      · rw [if_pos g, if_pos (show j < k + 1 by omega)]
        split <;> omega
      · rw [if_neg g, if_neg (show ¬ j < k + 1 by omega)]
        split <;> omega
theorem hB_bd {w : wS} (hw : Wok w) {m : Nat} : ∀ {k : Nat}, k ≤ qN w → 0 ≤ hB w m k ∧ hB w m k ≤ 250 * k
  | 0, _ => ⟨Int.le_refl 0, Int.le_refl 0⟩
  | k + 1, hk => by
    have ih := hB_bd hw (m := m) (k := k) (by omega)
    have h1 := qHf_bd hw (show k < qN w by omega) (s := 0)
    rw [hB_s]
    split <;> omega
theorem lgB_in {w : wS} {m : Nat} : ∀ {k : Nat}, (lgB w m k = -1 ∧ ∀ x, x < k → hasb m x = false) ∨ ∃ x : Nat, x < k ∧ lgB w m k = (x : Int) ∧ hasb m x = true
  | 0 => Or.inl ⟨rfl, fun x hx => absurd hx (Nat.not_lt_zero _)⟩
  | k + 1 => by
    rw [lgB_s]
    cases hb : hasb m k
    · rw [if_neg Bool.false_ne_true]
      rcases lgB_in (w := w) (m := m) (k := k) with ⟨e, h⟩ | ⟨x, h1, h2, h3⟩
      · refine Or.inl ⟨e, fun x hx => ?_⟩
        by_cases e2 : x = k
        · rw [e2]
          exact hb
        · exact h x (by omega)
      · exact Or.inr ⟨x, by omega, h2, h3⟩
    · rw [if_pos rfl]
      refine Or.inr ?_
      rcases lgB_in (w := w) (m := m) (k := k) with ⟨e, h⟩ | ⟨x, h1, h2, h3⟩
      · rw [if_pos e]
        exact ⟨k, by omega, rfl, hb⟩
      · rw [if_neg (by omega)]
        split
        · exact ⟨x, by omega, h2, h3⟩
        · exact ⟨k, by omega, rfl, hb⟩
/-- the masks kept and dropped -/
def mhS (w : wS) (j : Nat) (t : Nat × Nat) : Nat × Nat := if qDu w j < hB w (setb t.1 j) (qN w) then (clrb (setb t.1 j) (lgB w (setb t.1 j) (qN w)).toNat, setb t.2 (lgB w (setb t.1 j) (qN w)).toNat) else (setb t.1 j, t.2)
def mh (w : wS) (k : Nat) : Nat × Nat := it (fun i t => mhS w (qSo w 1 i) t) k (0, 0)
theorem mh_s {w : wS} {k : Nat} : mh w (k + 1) = mhS w (qSo w 1 k) (mh w k) := rfl
theorem lgB_top {w : wS} {m x : Nat} (h : hasb m x = true) (hx : x < qN w) : ∃ l : Nat, l < qN w ∧ lgB w m (qN w) = (l : Int) ∧ hasb m l = true := by
  rcases lgB_in (w := w) (m := m) (k := qN w) with ⟨e, g⟩ | g
  · rw [g x hx] at h
    exact absurd h Bool.false_ne_true
  · exact g
theorem mh_in {w : wS} (hw : Wok w) : ∀ {k : Nat}, k ≤ qN w → (mh w k).1 < 64 ∧ (mh w k).2 < 64 ∧ ∀ x, x < 6 → hasb (mh w k).1 x = true → ∃ i, i < k ∧ x = qSo w 1 i
  | 0, _ => ⟨(by decide : (0 : Nat) < 64), (by decide : (0 : Nat) < 64), fun x hx h => by
      have : ∀ x : Fin 6, hasb 0 x.1 = false := by decide
      have h2 := this ⟨x, hx⟩
      have h3 : hasb 0 x = true := h
      rw [h2] at h3
      exact absurd h3 Bool.false_ne_true⟩
  | k + 1, hk => by
    have hn := hw.n
    obtain ⟨a1, a2, a3⟩ := mh_in hw (k := k) (by omega)
    have hso := qSo_lt (w := w) (p := 1) (show k < qN w by omega)
    have hj : qSo w 1 k < 6 := by omega
    have s1 := setb_lt a1 hj
    have hself : hasb (setb (mh w k).1 (qSo w 1 k)) (qSo w 1 k) = true := by
      rw [set_at a1 hj hj]
      simp
    obtain ⟨l, l1, l2, l3⟩ := lgB_top hself hso
    have hset : ∀ x, x < 6 → hasb (setb (mh w k).1 (qSo w 1 k)) x = true → ∃ i, i < k + 1 ∧ x = qSo w 1 i := fun x hx h => by
      rw [set_at a1 hj hx] at h
      by_cases e : x = qSo w 1 k
      · exact ⟨k, by omega, e⟩
      · have e2 : (x == qSo w 1 k) = false := by
          simp [e]
        rw [e2, Bool.or_false] at h
        obtain ⟨i, i1, i2⟩ := a3 x hx h
        exact ⟨i, by omega, i2⟩
    rw [mh_s]
    unfold mhS
    split
    · rw [l2, Int.toNat_natCast]
      refine ⟨clrb_lt s1 (by omega), setb_lt a2 (by omega), fun x hx h => ?_⟩
      have h : hasb (clrb (setb (mh w k).1 (qSo w 1 k)) l) x = true := h
      rw [clr_at s1 (by omega) hx] at h
      exact hset x hx (Bool.and_eq_true_iff.mp h).1
    · exact ⟨s1, a2, hset⟩
section DJ
variable {w : wS} {G : mG}
theorem S_longestOf (hw : Wok w) (hx : XS w G) {m x : Nat} (hm : m < 64) (h : hasb m x = true) (hxN : x < qN w) : P_X5_longestOf (m : Int) G = some (lgB w m (qN w)) := by
  have hn := hw.n
  refine Ok.get ?_
  unfold P_X5_longestOf
  refine Ok.for3 (fun k a b => (lgB w m k = -1 ∧ a = 0 ∧ b = -1) ∨ (lgB w m k ≠ -1 ∧ a = lgB w m k ∧ b = qHf w (lgB w m k).toNat 0)) (qN w) LF (LF_lt (by omega)) (Or.inl ⟨rfl, rfl, rfl⟩) (fun k hk again a b hab hkk => ?_) (fun again a b hab => ?_)
  · rw [hx.n hw]
    refine Ok.condT (ilt_nat (by omega) (by omega)) hk ?_
    refine Ok.eq (S_hoursFrom hw hx hk (s := 0) (by omega)) ?_
    have hf := qHf_bd hw hk (s := 0)
    refine Ok.lk ?_
    refine Ok.cd (t1_b hm (show k < 6 by omega)) (fun g => ?_) (fun g => ?_)
    · refine hkk _ _ ?_
      rw [lgB_s, if_neg g]
      exact hab
    · have g : hasb m k = true := by
        cases hb : hasb m k
        · exact absurd (by rw [hb]; exact Bool.false_ne_true) g
        · rfl
      rcases hab with ⟨e1, rfl, rfl⟩ | ⟨e1, rfl, rfl⟩
      · refine Ok.condF (ilt_id (by omega) (by omega) (by omega) (by omega)) (by omega) ?_
        refine hkk _ _ (Or.inr ?_)
        rw [lgB_s, if_pos g, if_pos e1]
        exact ⟨by omega, rfl, rfl⟩
      · rcases lgB_in (w := w) (m := m) (k := k) with ⟨e, _⟩ | ⟨l, l1, l2, l3⟩
        · exact absurd e e1
        · have hl := qHf_bd hw (show l < qN w by omega) (s := 0)
          rw [l2, Int.toNat_natCast]
          refine Ok.cd (ilt_id (by omega) (by omega) (by omega) (by omega)) (fun g2 => ?_) (fun g2 => ?_)
          · refine hkk _ _ (Or.inr ?_)
            rw [lgB_s, if_pos g, if_neg e1, l2, Int.toNat_natCast, if_pos g2, Int.toNat_natCast]
            exact ⟨by omega, rfl, rfl⟩
          · refine hkk _ _ (Or.inr ?_)
            rw [lgB_s, if_pos g, if_neg e1, l2, Int.toNat_natCast, if_neg g2]
            exact ⟨by omega, rfl, rfl⟩
  · rw [hx.n hw]
    refine Ok.condF (ilt_nat (by omega) (by omega)) (by omega) ?_
    obtain ⟨l, l1, l2, l3⟩ := lgB_top h hxN
    rcases hab with ⟨e1, _, _⟩ | ⟨e1, rfl, rfl⟩
    · omega
    · exact Ok.so rfl
theorem S_dropped (hw : Wok w) (hx : XS w G) : Ok (P_X5_droppedJobs G) (fun z => z.1 = ((mh w (qN w)).2 : Int) ∧ KQ G z.2) := by
  have hn := hw.n
  unfold P_X5_droppedJobs
  refine Ok.bind (S_sortByDue hw hx) (fun G1 hG1 => ?_)
  have hx1 := hG1.2.xs hx
  refine Ok.lp4 (fun M a b c k => ∃ i : Nat, k = (i : Int) ∧ i + M = qN w ∧ a = hB w (mh w i).1 (qN w) ∧ b = ((mh w i).1 : Int) ∧ c = ((mh w i).2 : Int)) (fun M again a b c k hI hk => ?_) LF (qN w) 0 0 0 0 (LF_lt (by omega)) ⟨0, rfl, by omega, ?_, rfl, rfl⟩
  · obtain ⟨i, rfl, hiM, rfl, rfl, rfl⟩ := hI
    rw [hG1.1.1]
    refine Ok.cd (ilt_nat (by omega) (by omega)) (fun hi => ?_) (fun hi => ?_)
    · obtain ⟨a1, a2, a3⟩ := mh_in hw (k := i) (by omega)
      have hso := qSo_lt (w := w) (p := 1) hi
      have hj : qSo w 1 i < 6 := by omega
      have s1 := setb_lt a1 hj
      have hself : hasb (setb (mh w i).1 (qSo w 1 i)) (qSo w 1 i) = true := by
        rw [set_at a1 hj hj]
        simp
      have hnot : hasb (mh w i).1 (qSo w 1 i) = false := by
        cases hb : hasb (mh w i).1 (qSo w 1 i)
        · rfl
        · obtain ⟨i', b1, b2⟩ := a3 _ hj hb
          have := so_inj (K := qKy w 1) hi (by omega : i' < qN w) b2
          omega
      have hsum := hB_set (w := w) a1 hj hnot (k := qN w) (by omega)
      rw [if_pos hso] at hsum
      have hbd := hB_bd hw (m := setb (mh w i).1 (qSo w 1 i)) (Nat.le_refl (qN w))
      have hdu := hw.du hso
      have hms := mh_s (w := w) (k := i)
      unfold mhS at hms
      refine Ok.ld i rfl (by omega) (by omega) ?_
      rw [hG1.1.at hw hi]
      refine Ok.eq (S_hoursFrom hw hx1 hso (s := 0) (by omega)) ?_
      refine Ok.ld (qSo w 1 i) rfl (by omega) (by omega) ?_
      have eD : G1 3 (qSo w 1 i) = qDu w (qSo w 1 i) := hx1.at _ (by simp [aok, asz]; omega)
      rw [eD, ← hsum, or_b a1 hj]
      refine Ok.jn3 (fun x y z => x = hB w (mh w (i + 1)).1 (qN w) ∧ y = ((mh w (i + 1)).1 : Int) ∧ z = ((mh w (i + 1)).2 : Int)) (fun x y z hxyz => ?_) (fun k15 hk15 => ?_)
      · obtain ⟨rfl, rfl, rfl⟩ := hxyz
        exact hk (M - 1) _ _ _ _ (by omega) ⟨i + 1, rfl, by omega, rfl, rfl, rfl⟩
      · refine Ok.cd (ilt_id (by omega) (by omega) (by omega) (by omega)) (fun g => ?_) (fun g => ?_)
        · rw [if_pos g] at hms
          obtain ⟨l, l1, l2, l3⟩ := lgB_top hself hso
          have hl6 : l < 6 := by omega
          refine Ok.eq (S_longestOf hw hx1 s1 hself hso) ?_
          rw [l2, Int.toNat_natCast] at hms
          rw [l2]
          refine Ok.eq (S_hoursFrom hw hx1 l1 (s := 0) (by omega)) ?_
          refine hk15 _ _ _ ⟨?_, ?_, ?_⟩
          · rw [hms]
            dsimp only
            rw [hB_clr s1 hl6 l3 (by omega), if_pos l1]
          · rw [hms, an_b s1 hl6]
          · rw [hms, or_b a2 hl6]
        · rw [if_neg g] at hms
          refine hk15 _ _ _ ⟨?_, ?_, ?_⟩
          · rw [hms]
          · rw [hms]
          · rw [hms]
    · have : i = qN w := by omega
      subst this
      exact Ok.so ⟨rfl, hG1.2.kq⟩
  · have : ∀ k, hB w (mh w 0).1 k = 0 := by
      intro k
      have h0 : (mh w 0).1 = 0 := rfl
      rw [h0]
      induction k with
      | zero => rfl
      | succ k ih =>
        have hz : hasb 0 k = false := by
          unfold hasb
          rw [Nat.zero_div]
          rfl
        rw [hB_s, ih, hz]
        rfl
    exact (this _).symm
theorem M_dropped (hw : Wok w) (hm : MD w (G 57)) : Ok (P_X11_dropped G) (fun z => z.1 = ((mh w (qN w)).2 : Int) ∧ ∀ b, b ≠ 70 → z.2 b = G b) := by
  have hn := hw.n
  unfold P_X11_dropped
  refine Ok.bind (M_laysRow hw hm (p := 1) (by omega)) (fun G1 hG1 => ?_)
  have hm1 : MD w (G1 57) := by
    rw [hG1.2 57 (by omega)]
    exact hm
  refine Ok.for3 (fun i b c => b = ((mh w i).1 : Int) ∧ c = ((mh w i).2 : Int)) (qN w) LF (LF_lt (by omega)) ⟨rfl, rfl⟩ (fun i hi again b c hbc hk => ?_) (fun again b c hbc => ?_)
  · obtain ⟨rfl, rfl⟩ := hbc
    obtain ⟨a1, a2, a3⟩ := mh_in hw (k := i) (by omega)
    have hso := qSo_lt (w := w) (p := 1) hi
    have hj : qSo w 1 i < 6 := by omega
    have s1 := setb_lt a1 hj
    have hself : hasb (setb (mh w i).1 (qSo w 1 i)) (qSo w 1 i) = true := by
      rw [set_at a1 hj hj]
      simp
    have hbd := hB_bd hw (m := setb (mh w i).1 (qSo w 1 i)) (Nat.le_refl (qN w))
    have hdu := hw.du hso
    have hms := mh_s (w := w) (k := i)
    unfold mhS at hms
    refine Ok.ld 0 rfl (by omega) (by omega) ?_
    rw [hm1.1, hn.1]
    refine Ok.condT (ilt_nat (by omega) (by omega)) hi ?_
    refine Ok.ld i rfl (by omega) (by omega) ?_
    rw [hG1.1 i hi, or_b a1 hj]
    refine Ok.jn2 (fun x y => x = hB w (setb (mh w i).1 (qSo w 1 i)) (qN w) ∧ y = lgB w (setb (mh w i).1 (qSo w 1 i)) (qN w)) (fun x y hxy => ?_) (fun k18 hk18 => ?_)
    · obtain ⟨rfl, rfl⟩ := hxy
      refine Ok.ld i rfl (by omega) (by omega) ?_
      rw [hG1.1 i hi]
      refine Ok.eq (M_of hw hm1 hso (k := 1) rfl (by omega)) ?_
      rw [hm1.du hw hso]
      refine Ok.lk ?_
      refine Ok.cd (ilt_id (by omega) (by omega) (by omega) (by omega)) (fun g => ?_) (fun g => ?_)
      · rw [if_pos g] at hms
        obtain ⟨l, l1, l2, l3⟩ := lgB_top hself hso
        have hl6 : l < 6 := by omega
        rw [l2, Int.toNat_natCast] at hms
        rw [l2]
        refine hk _ _ ⟨?_, ?_⟩
        · rw [hms, an_b s1 hl6]
        · rw [hms, or_b a2 hl6]
      · rw [if_neg g] at hms
        refine hk _ _ ⟨?_, ?_⟩
        · rw [hms]
        · rw [hms]
    · generalize setb (mh w i).1 (qSo w 1 i) = m at s1 hk18 ⊢
      refine Ok.for3 (fun k x y => x = hB w m k ∧ y = lgB w m k) (qN w) LF (LF_lt (by omega)) ⟨rfl, rfl⟩ (fun k hkN again2 x y hxy hk2 => ?_) (fun again2 x y hxy => ?_)
      · obtain ⟨rfl, rfl⟩ := hxy
        refine Ok.ld 0 rfl (by omega) (by omega) ?_
        rw [hm1.1, hn.1]
        refine Ok.condT (ilt_nat (by omega) (by omega)) hkN ?_
        refine Ok.lk ?_
        have hf := qHf_bd hw hkN (s := 0)
        refine Ok.cd (t2_b s1 (show k < 6 by omega)) (fun g => ?_) (fun g => ?_)
        · refine hk2 _ _ ⟨?_, ?_⟩
          · rw [hB_s, if_neg g]
          · rw [lgB_s, if_neg g]
        · have g : hasb m k = true := by
            cases hb : hasb m k
            · exact absurd (by rw [hb]; exact Bool.false_ne_true) g
            · rfl
          refine Ok.eq (M_length hw hm1 hkN) ?_
          refine Ok.lk ?_
          rcases lgB_in (w := w) (m := m) (k := k) with ⟨e, _⟩ | ⟨l, l1, l2, l3⟩
          · rw [e]
            refine Ok.iteT rfl ?_
            refine hk2 _ _ ⟨?_, ?_⟩
            · rw [hB_s, if_pos g]
            · rw [lgB_s, if_pos g, if_pos e]
          · have hl := qHf_bd hw (show l < qN w by omega) (s := 0)
            rw [l2]
            refine Ok.condF (P := (l : Int) = -1) (ieq_id (by omega) (by omega) (by omega) (by omega)) (by omega) ?_
            refine Ok.eq (M_length hw hm1 hkN) ?_
            refine Ok.eq (M_length hw hm1 (show l < qN w by omega)) ?_
            refine Ok.cd (ilt_id (by omega) (by omega) (by omega) (by omega)) (fun g2 => ?_) (fun g2 => ?_)
            · refine hk2 _ _ ⟨?_, ?_⟩
              · rw [hB_s, if_pos g]
              · rw [lgB_s, if_pos g, l2, if_neg (by omega), Int.toNat_natCast, if_pos g2]
            · refine hk2 _ _ ⟨?_, ?_⟩
              · rw [hB_s, if_pos g]
              · rw [lgB_s, if_pos g, l2, if_neg (by omega), Int.toNat_natCast, if_neg g2]
      · obtain ⟨rfl, rfl⟩ := hxy
        refine Ok.ld 0 rfl (by omega) (by omega) ?_
        rw [hm1.1, hn.1]
        refine Ok.condF (ilt_nat (by omega) (by omega)) (by omega) ?_
        exact hk18 _ _ ⟨rfl, rfl⟩
  · obtain ⟨rfl, rfl⟩ := hbc
    refine Ok.ld 0 rfl (by omega) (by omega) ?_
    rw [hm1.1, hn.1]
    refine Ok.condF (ilt_nat (by omega) (by omega)) (by omega) ?_
    exact Ok.so ⟨rfl, hG1.2⟩
end DJ
