/-! ===== sorted rows, both sides ===== -/
theorem ct_sub {p q : Nat → Bool} : ∀ {n : Nat}, (∀ i, i < n → p i = true → q i = true) → ct p n ≤ ct q n
  | 0, _ => Nat.le_refl _
  | n + 1, h => by
    have ih := ct_sub (n := n) (fun i hi => h i (by omega))
    rw [ct_succ, ct_succ]
    by_cases hp : p n = true
    · rw [if_pos hp, if_pos (h n (by omega) hp)]
      omega
    · rw [if_neg hp]
      split <;> omega
theorem ct_ssub {p q : Nat → Bool} {i0 : Nat} : ∀ {n : Nat}, (∀ i, i < n → p i = true → q i = true) → i0 < n → q i0 = true → p i0 ≠ true → ct p n < ct q n
  | 0, _, hi, _, _ => absurd hi (Nat.not_lt_zero _)
  | n + 1, h, hi, h1, h2 => by
    have hs := ct_sub (n := n) (p := p) (q := q) (fun i hi => h i (by omega))
    rw [ct_succ, ct_succ]
    by_cases e : i0 = n
    · subst e
      rw [if_neg h2, if_pos h1]
      omega
    · have ih := ct_ssub (n := n) (fun i hi => h i (by omega)) (by omega) h1 h2
      by_cases hp : p n = true
      · rw [if_pos hp, if_pos (h n (by omega) hp)]
        omega
      · rw [if_neg hp]
        split <;> omega
/-- i goes ahead of j -/
abbrev ahd (K : Nat → Int) (i j : Nat) : Prop := K i < K j ∨ (K i = K j ∧ i < j)
def rk (K : Nat → Int) (N j : Nat) : Nat := ct (fun i => decide (ahd K i j)) N
theorem ahd_tr {K : Nat → Int} {a b c : Nat} (h1 : ahd K a b) (h2 : ahd K b c) : ahd K a c := by
  unfold ahd at *
  omega
theorem rk_lt {K : Nat → Int} {N i j : Nat} (hi : i < N) (h : ahd K i j) : rk K N i < rk K N j := by
  refine ct_ssub (i0 := i) (fun x _ hx => ?_) hi (decide_eq_true h) ?_
  · exact decide_eq_true (ahd_tr (of_decide_eq_true hx) h)
  · intro g
    have := of_decide_eq_true g
    unfold ahd at this
    omega
theorem rk_inj {K : Nat → Int} {N i j : Nat} (hi : i < N) (hj : j < N) (h : rk K N i = rk K N j) : i = j := by
  by_cases h1 : ahd K i j
  · have := rk_lt hi h1
    omega
  · by_cases h2 : ahd K j i
    · have := rk_lt hj h2
      omega
    · unfold ahd at h1 h2
      omega
theorem rk_succ {K : Nat → Int} {n j : Nat} (hj : j < n) : rk K (n + 1) j = rk K n j + (if K n < K j then 1 else 0) := by
  unfold rk
  rw [ct_succ]
  by_cases h : K n < K j
  · rw [if_pos (decide_eq_true (Or.inl h)), if_pos h]
  · rw [if_neg, if_neg h]
    · rfl
    · rw [decide_eq_false]
      · exact Bool.false_ne_true
      · unfold ahd
        omega
theorem rk_last {K : Nat → Int} {n : Nat} : rk K (n + 1) n = ct (fun i => decide (K i ≤ K n)) n := by
  unfold rk
  rw [ct_succ, if_neg]
  · exact ct_cong (fun i hi => decide_eq_decide.mpr (by unfold ahd; omega))
  · rw [decide_eq_false]
    · exact Bool.false_ne_true
    · unfold ahd
      omega
theorem rk_le {K : Nat → Int} {n j : Nat} (hj : j < n) : K j ≤ K n ↔ rk K n j < rk K (n + 1) n := by
  rw [rk_last]
  constructor
  · intro h
    refine ct_ssub (i0 := j) (fun i _ hi => ?_) hj (decide_eq_true h) ?_
    · have := of_decide_eq_true hi
      unfold ahd at this
      exact decide_eq_true (by omega)
    · intro g
      have := of_decide_eq_true g
      unfold ahd at this
      omega
  · intro h
    by_cases g : K j ≤ K n
    · exact g
    · have : ct (fun i => decide (K i ≤ K n)) n ≤ rk K n j := ct_sub (fun i _ hi => by
        have := of_decide_eq_true hi
        exact decide_eq_true (Or.inl (by omega)))
      omega
theorem rk_sur {K : Nat → Int} : ∀ {n q : Nat}, q < n → ∃ j, j < n ∧ rk K n j = q
  | 0, _, h => absurd h (Nat.not_lt_zero _)
  | n + 1, q, h => by
    have hc : rk K (n + 1) n ≤ n := by
      rw [rk_last]
      exact ct_le _ _
    by_cases h1 : q < rk K (n + 1) n
    · obtain ⟨j, a1, a2⟩ := rk_sur (K := K) (n := n) (q := q) (by omega)
      refine ⟨j, by omega, ?_⟩
      rw [rk_succ a1, if_neg]
      · omega
      · have := (rk_le (K := K) a1).mpr (by omega)
        omega
    · by_cases h2 : q = rk K (n + 1) n
      · exact ⟨n, by omega, h2.symm⟩
      · obtain ⟨j, a1, a2⟩ := rk_sur (K := K) (n := n) (q := q - 1) (by omega)
        refine ⟨j, by omega, ?_⟩
        rw [rk_succ a1, if_pos]
        · omega
        · have : ¬ K j ≤ K n := fun g => (by omega : ¬ rk K n j < rk K (n + 1) n) ((rk_le (K := K) a1).mp g)
          omega
/-- who stands at a place -/
def so (K : Nat → Int) (N q : Nat) : Nat := it (fun j v => if rk K N j = q then j else v) N 0
theorem so_rk {K : Nat → Int} {N j : Nat} (hj : j < N) : so K N (rk K N j) = j := by
  have : ∀ n, n ≤ N → (j < n → it (fun j' v => if rk K N j' = rk K N j then j' else v) n 0 = j) := by
    intro n
    induction n with
    | zero => exact fun _ h => absurd h (Nat.not_lt_zero _)
    | succ n ih =>
      intro hn hjn
      show (if rk K N n = rk K N j then n else it (fun j' v => if rk K N j' = rk K N j then j' else v) n 0) = j
      by_cases e : n = j
      · rw [e, if_pos rfl]
      · rw [if_neg (fun g => e (rk_inj (by omega) hj g))]
        exact ih (by omega) (by omega)
  exact this N (Nat.le_refl N) hj
theorem rk_N {K : Nat → Int} {N j : Nat} (hj : j < N) : rk K N j < N := by
  have h1 : rk K (j + 1) j ≤ j := by
    rw [rk_last]
    exact ct_le _ _
  have : ∀ m, rk K (j + 1 + m) j ≤ j + m := by
    intro m
    induction m with
    | zero => exact h1
    | succ m ih =>
      rw [← Nat.add_assoc, rk_succ (by omega)]
      split <;> omega
  have := this (N - (j + 1))
  rw [show j + 1 + (N - (j + 1)) = N by omega] at this
  omega
theorem so_lt {K : Nat → Int} {N q : Nat} (hq : q < N) : so K N q < N ∧ rk K N (so K N q) = q := by
  obtain ⟨j, a1, a2⟩ := rk_sur (K := K) hq
  rw [← a2, so_rk a1]
  exact ⟨a1, rfl⟩
theorem so_inj {K : Nat → Int} {N q q' : Nat} (hq : q < N) (hq' : q' < N) (h : so K N q = so K N q') : q = q' := by
  rw [← (so_lt (K := K) hq).2, ← (so_lt (K := K) hq').2, h]
/-- the class's row of keys -/
def SR (K : Nat → Int) (n : Nat) (G : mG) : Prop := G 45 2 = (n : Int) ∧ ∀ j, j < n → G 46 (rk K n j) = (j : Int) ∧ G 47 (rk K n j) = K j
def FrS (G G' : mG) : Prop := ∀ b, b ≠ 45 → b ≠ 46 → b ≠ 47 → G' b = G b
theorem FrS.rf (G : mG) : FrS G G := fun _ _ _ _ => rfl
theorem FrS.tr {A B C : mG} (h1 : FrS A B) (h2 : FrS B C) : FrS A C := fun b x y z => (h2 b x y z).trans (h1 b x y z)
theorem FrS.xs {w : wS} {G G' : mG} (h : FrS G G') (hx : XS w G) : XS w G' := fun a i ha => by
  have := ha.lo
  rw [h a (by omega) (by omega) (by omega)]
  exact hx a i ha
theorem FrS.kq {G G' : mG} (h : FrS G G') : KQ G G' := KQ.of (fun b hb => h b (by omega) (by omega) (by omega))
theorem S_insert {K : Nat → Int} {n : Nat} {G : mG} (hn : n < 6) (hK : ∀ j, j ≤ n → -2147483648 ≤ K j ∧ K j < 2147483648) (hS : SR K n G) : Ok (P_X3_insert (n : Int) (K n) G) (fun G' => SR K (n + 1) G' ∧ FrS G G') := by
  obtain ⟨s1, s2⟩ := hS
  unfold P_X3_insert
  rw [s1]
  refine Ok.condT (ilt_nat (b := 6) (by omega) (by omega)) hn ?_
  have hc : rk K (n + 1) n ≤ n := by
    rw [rk_last]
    exact ct_le _ _
  -- the places at and above t are shifted
  let C : Nat → mG → Prop := fun t G' => t ≤ n ∧ G' 45 2 = (n : Int) ∧ (∀ j, j < n → rk K n j < t → G' 46 (rk K n j) = (j : Int) ∧ G' 47 (rk K n j) = K j) ∧ (∀ j, j < n → t ≤ rk K n j → K n < K j ∧ G' 46 (rk K n j + 1) = (j : Int) ∧ G' 47 (rk K n j + 1) = K j) ∧ FrS G G'
  refine Ok.jn2 (fun x G' => x = (rk K (n + 1) n : Int) ∧ C (rk K (n + 1) n) G') (fun x G' hxG => ?_) (fun k9 hk9 => ?_)
  · obtain ⟨rfl, c1, c2, c3, c4, c5⟩ := hxG
    refine Ok.sto (rk K (n + 1) n) rfl (by omega) (by omega) ?_
    refine Ok.sto (rk K (n + 1) n) rfl (by omega) (by omega) ?_
    refine Ok.pu ?_
    refine Ok.so ⟨⟨?_, fun j hj => ?_⟩, fun b x y z => ?_⟩
    · rw [up2_eq, up1_eq, up2_ne (by omega), up2_ne (by omega), c2]
      rfl
    · have e46 : ∀ v q, up2 (up2 (up2 G' 47 (rk K (n + 1) n) (K n)) 46 (rk K (n + 1) n) (n : Int)) 45 2 v 46 q = up1 (G' 46) (rk K (n + 1) n) (n : Int) q := fun v q => by rw [up2_ne (by omega), up2_eq, up2_ne (by omega)]
      have e47 : ∀ v q, up2 (up2 (up2 G' 47 (rk K (n + 1) n) (K n)) 46 (rk K (n + 1) n) (n : Int)) 45 2 v 47 q = up1 (G' 47) (rk K (n + 1) n) (K n) q := fun v q => by rw [up2_ne (by omega), up2_ne (by omega), up2_eq]
      rw [e46, e47]
      by_cases e : j = n
      · subst e
        rw [up1_eq, up1_eq]
        exact ⟨rfl, rfl⟩
      · have hj' : j < n := by omega
        have hne : rk K (n + 1) j ≠ rk K (n + 1) n := fun g => e (rk_inj (by omega) (by omega) g)
        rw [up1_ne hne, up1_ne hne]
        have hl := rk_le (K := K) hj'
        rw [rk_succ hj']
        by_cases g : K n < K j
        · rw [if_pos g]
          obtain ⟨d1, d2, d3⟩ := c4 j hj' (by omega)
          exact ⟨d2, d3⟩
        · rw [if_neg g, Nat.add_zero]
          exact c3 j hj' (by omega)
    · rw [up2_ne x, up2_ne y, up2_ne z, c5 b x y z]
  · refine Ok.lp2 (fun M x G' => ∃ t : Nat, x = (t : Int) ∧ t = M ∧ C t G') (fun M again x G' hI hk => ?_) LF n (n : Int) G (LF_lt (by omega)) ⟨n, rfl, rfl, Nat.le_refl n, s1, fun j hj _ => s2 j hj, fun j hj g => by
      have := rk_N (K := K) hj
      omega, FrS.rf G⟩
    obtain ⟨t, rfl, rfl, c1, c2, c3, c4, c5⟩ := hI
    refine Ok.cd (ilt_nat (a := 0) (by omega) (by omega)) (fun h0 => ?_) (fun h0 => ?_)
    · obtain ⟨j, j1, j2⟩ := rk_sur (K := K) (n := n) (q := t - 1) (by omega)
      have e1 : (t : Int) - 1 = ((t - 1 : Nat) : Int) := by omega
      obtain ⟨d1, d2⟩ := c3 j j1 (by omega)
      rw [j2] at d1 d2
      refine Ok.ld (t - 1) e1 (by omega) (by omega) ?_
      rw [d2]
      have k1 := hK j (by omega)
      have k2 := hK n (by omega)
      refine Ok.cd (ilt_id k2.1 k2.2 k1.1 k1.2) (fun g => ?_) (fun g => ?_)
      · refine Ok.ld (t - 1) e1 (by omega) (by omega) ?_
        refine Ok.sto t rfl (by omega) (by omega) ?_
        refine Ok.ld (t - 1) e1 (by omega) (by omega) ?_
        refine Ok.sto t rfl (by omega) (by omega) ?_
        rw [d2, up2_ne (by omega), d1]
        refine hk (t - 1) _ _ (by omega) ⟨t - 1, by omega, rfl, by omega, ?_, fun i hi hit => ?_, fun i hi hit => ?_, fun b x y z => ?_⟩
        · rw [up2_ne (by omega), up2_ne (by omega)]
          exact c2
        · rw [up2_eq, up1_ne (by omega), up2_ne (by omega), up2_ne (by omega), up2_eq, up1_ne (by omega)]
          exact c3 i hi (by omega)
        · by_cases e : i = j
          · subst e
            rw [j2, show t - 1 + 1 = t by omega, up2_eq, up1_eq, up2_ne (by omega), up2_eq, up1_eq]
            exact ⟨g, rfl, rfl⟩
          · have : rk K n i ≠ t - 1 := fun g2 => e (rk_inj hi j1 (g2.trans j2.symm))
            rw [up2_eq, up1_ne (by omega), up2_ne (by omega), up2_ne (by omega), up2_eq, up1_ne (by omega)]
            exact c4 i hi (by omega)
        · rw [up2_ne y, up2_ne z, c5 b x y z]
      · have ht : t = rk K (n + 1) n := by
          have h1 := (rk_le (K := K) j1).mp (by omega)
          by_cases g2 : t < rk K (n + 1) n
          · obtain ⟨j', j1', j2'⟩ := rk_sur (K := K) (n := n) (q := t) (by omega)
            have := (rk_le (K := K) j1').mpr (by omega)
            have := (c4 j' j1' (by omega)).1
            omega
          · omega
        refine hk9 _ _ ⟨by rw [ht], ?_⟩
        rw [← ht]
        exact ⟨c1, c2, c3, c4, c5⟩
    · have ht : t = rk K (n + 1) n := by
        by_cases g2 : t < rk K (n + 1) n
        · obtain ⟨j', j1', j2'⟩ := rk_sur (K := K) (n := n) (q := t) (by omega)
          have := (rk_le (K := K) j1').mpr (by omega)
          have := (c4 j' j1' (by omega)).1
          omega
        · omega
      refine hk9 _ _ ⟨by rw [ht], ?_⟩
      rw [← ht]
      exact ⟨c1, c2, c3, c4, c5⟩
