/-! ===== a job's steps first ===== -/
def sel (p : Nat → Bool) : Nat → Nat → Nat
  | 0, _ => 0
  | n + 1, q => if p n = true ∧ ct p n = q then n else sel p n q
theorem sel_eq {p : Nat → Bool} {i : Nat} (hp : p i = true) : ∀ {n : Nat}, i < n → sel p n (ct p i) = i
  | 0, h => absurd h (Nat.not_lt_zero _)
  | n + 1, h => by
    unfold sel
    by_cases h1 : p n = true ∧ ct p n = ct p i
    · rw [if_pos h1]
      exact ct_inj p h1.1 hp h1.2
    · rw [if_neg h1]
      have hne : i ≠ n := fun e => h1 (by rw [← e]; exact ⟨hp, rfl⟩)
      exact sel_eq hp (by omega)
def ruP (r : Nat → Nat) (J i : Nat) : Bool := decide (r i ≠ J)
def rRu (r : Nat → Nat) (J st n : Nat) : Nat → Nat := fun k => if k < st then J else r (sel (ruP r J) n (k - st))
section RR
variable {w : wS} {r : Nat → Nat} {n J st : Nat}
theorem rRu_lo {k : Nat} (h : k < st) : rRu r J st n k = J := if_pos h
theorem rRu_hi {i : Nat} (hi : i < n) (hp : r i ≠ J) : rRu r J st n (st + ct (ruP r J) i) = r i := by
  unfold rRu
  rw [if_neg (by omega), show st + ct (ruP r J) i - st = ct (ruP r J) i by omega, sel_eq (decide_eq_true hp) hi]
theorem rRu_D0 {k : Nat} (h : k ≤ st) (j : Nat) : rD (rRu r J st n) k j = if j = J then k else 0 := by
  induction k with
  | zero =>
    split <;> rfl
  | succ k ih =>
    rw [rD_succ, rRu_lo (by omega)]
    by_cases hj : j = J
    · subst hj
      rw [if_pos rfl, upf_eq, ih (by omega), if_pos rfl]
    · rw [if_neg hj, upf_ne hj, ih (by omega), if_neg hj]
theorem rRu_D {i : Nat} (hi : i ≤ n) (j : Nat) : rD (rRu r J st n) (st + ct (ruP r J) i) j = if j = J then st else rD r i j := by
  induction i with
  | zero =>
    show rD (rRu r J st n) (st + 0) j = _
    rw [Nat.add_zero, rRu_D0 (Nat.le_refl _)]
    rfl
  | succ i ih =>
    have ih' := ih (by omega)
    rw [ct_succ]
    by_cases hp : r i = J
    · rw [if_neg (by unfold ruP; simpa using hp), ih']
      by_cases hj : j = J
      · rw [if_pos hj, if_pos hj]
      · rw [if_neg hj, if_neg hj, rD_succ, upf_ne (by omega)]
    · rw [if_pos (show ruP r J i = true from decide_eq_true hp), ← Nat.add_assoc, rD_succ, rRu_hi (by omega) hp]
      by_cases hj : j = r i
      · subst hj
        rw [upf_eq, ih', if_neg hp, if_neg hp, rD_succ, upf_eq]
      · rw [upf_ne hj, ih', rD_succ, upf_ne hj]
theorem ct_or {p q s : Nat → Bool} (h : ∀ i, (p i = true ↔ (q i = true ∨ s i = true)) ∧ ¬ (q i = true ∧ s i = true)) : ∀ n, ct p n = ct q n + ct s n
  | 0 => rfl
  | n + 1 => by
    have ih := ct_or h n
    have hn := h n
    rw [ct_succ, ct_succ, ct_succ]
    cases hp : p n <;> cases hq : q n <;> cases hs : s n <;> simp [hp, hq, hs] at hn ⊢ <;> omega
theorem rRu_len (hF : qF w r n) (hJ : J < qN w) (hst : st = qSt w J) : st + ct (ruP r J) n = n := by
  have h1 := ct_or (p := fun _ => true) (q := fun i => decide (r i = J)) (s := ruP r J) (fun i => by
    unfold ruP
    by_cases h : r i = J <;> simp [h]) n
  have h2 : ct (fun _ => true) n = n := by
    clear h1 hF
    induction n with
    | zero => rfl
    | succ n ih => rw [ct_succ, if_pos rfl, ih]
  have h3 := hF.2 J hJ
  unfold rD at h3
  omega
theorem rRu_S {i : Nat} (hi : i < n) (hp : r i ≠ J) : rS (rRu r J st n) (st + ct (ruP r J) i) = rS r i ∧ rX (rRu r J st n) (st + ct (ruP r J) i) = rX r i := by
  have h1 : rS (rRu r J st n) (st + ct (ruP r J) i) = rS r i := by
    unfold rS
    rw [rRu_hi hi hp, rRu_D (by omega), if_neg hp]
  refine ⟨h1, ?_⟩
  unfold rX
  rw [h1, rRu_hi hi hp]
theorem rRu_S0 {k : Nat} (hk : k < st) : rS (rRu r J st n) k = k ∧ rX (rRu r J st n) k = 5 * J + k := by
  have h1 : rS (rRu r J st n) k = k := by
    unfold rS
    rw [rRu_lo hk, rRu_D0 (by omega), if_pos rfl]
  refine ⟨h1, ?_⟩
  unfold rX
  rw [h1, rRu_lo hk]
/-- every place of the new row: a step of the job, or an old place -/
theorem rRu_cases {k : Nat} (hk : k < st + ct (ruP r J) n) : k < st ∨ ∃ i, i < n ∧ r i ≠ J ∧ k = st + ct (ruP r J) i := by
  by_cases h : k < st
  · exact Or.inl h
  · obtain ⟨i, h1, h2, h3⟩ := ct_inv (ruP r J) (show k - st < ct (ruP r J) n by omega)
    exact Or.inr ⟨i, h1, of_decide_eq_true h2, by omega⟩
theorem rRu_V (hv : qV w r n) (hJ : J < qN w) (hst : st = qSt w J) {m : Nat} (hm : m ≤ st + ct (ruP r J) n) : qV w (rRu r J st n) m := by
  intro k hk
  rcases rRu_cases (show k < st + ct (ruP r J) n by omega) with h | ⟨i, h1, h2, rfl⟩
  · rw [rRu_lo h, (rRu_S0 h).1]
    exact ⟨hJ, by omega⟩
  · rw [rRu_hi h1 h2, (rRu_S h1 h2).1]
    exact hv i h1
theorem rRu_F (hF : qF w r n) (hJ : J < qN w) (hst : st = qSt w J) : qF w (rRu r J st n) n := by
  have hl := rRu_len hF hJ hst
  refine ⟨rRu_V hF.1 hJ hst (by omega), fun j hj => ?_⟩
  have h1 := rRu_D (r := r) (n := n) (J := J) (st := st) (i := n) (Nat.le_refl _) j
  rw [hl] at h1
  rw [h1]
  split
  · next h => rw [h, hst]
  · exact hF.2 j hj
/-! the machines' orders of the new row, told by the old one -/
def qJm (w : wS) (r : Nat → Nat) (J m i : Nat) : Bool := decide (rM w r i = m ∧ r i = J)
def qNm (w : wS) (r : Nat → Nat) (J m i : Nat) : Bool := decide (rM w r i = m ∧ r i ≠ J)
theorem qJm_ct {m : Nat} : ∀ {i : Nat}, ct (qJm w r J m) i = ct (fun k => decide (qMc w (5 * J + k) = m)) (rD r i J)
  | 0 => rfl
  | i + 1 => by
    have ih := qJm_ct (m := m) (i := i)
    rw [ct_succ, rD_succ]
    by_cases h : r i = J
    · rw [h, upf_eq, ct_succ, ih]
      have hx : rX r i = 5 * J + rD r i J := by
        unfold rX rS
        rw [h]
      have e : qJm w r J m i = decide (qMc w (5 * J + rD r i J) = m) := by
        unfold qJm rM
        rw [hx]
        exact decide_eq_decide.mpr ⟨fun h => h.1, fun h2 => ⟨h2, h⟩⟩
      rw [e]
    · rw [upf_ne (fun e => h e.symm), if_neg (by unfold qJm; simp [h]), ih]
theorem rRu_C0 {k m : Nat} (hk : k ≤ st) : rC w (rRu r J st n) k m = ct (fun k => decide (qMc w (5 * J + k) = m)) k := ct_cong (fun i hi => by
  unfold rM
  rw [(rRu_S0 (show i < st by omega)).2])
theorem rRu_C {i m : Nat} (hi : i ≤ n) : rC w (rRu r J st n) (st + ct (ruP r J) i) m = ct (fun k => decide (qMc w (5 * J + k) = m)) st + ct (qNm w r J m) i := by
  induction i with
  | zero =>
    show rC w (rRu r J st n) (st + 0) m = _ + 0
    rw [Nat.add_zero, rRu_C0 (Nat.le_refl _), Nat.add_zero]
  | succ i ih =>
    have ih' := ih (by omega)
    rw [ct_succ, ct_succ]
    by_cases hp : r i = J
    · rw [if_neg (by unfold ruP; simpa using hp), ih', if_neg (by unfold qNm; simp [hp])]
    · have hM : rM w (rRu r J st n) (st + ct (ruP r J) i) = rM w r i := by
        unfold rM
        rw [(rRu_S (by omega) hp).2]
      rw [if_pos (show ruP r J i = true from decide_eq_true hp), ← Nat.add_assoc, rC_succ, hM]
      by_cases hm : rM w r i = m
      · rw [if_pos (show qNm w r J m i = true from decide_eq_true ⟨hm, hp⟩), ← hm, upf_eq]
        rw [← hm] at ih'
        omega
      · rw [if_neg (by unfold qNm; simp [hm]), upf_ne (fun e => hm e.symm), ih']
/-- a machine's order as the model lays it -/
def RO (w : wS) (r : Nat → Nat) (n J m : Nat) (f : Nat → Int) : Prop :=
  f (31 * m) = ((ct (qJm w r J m) n + ct (qNm w r J m) n : Nat) : Int) ∧ (∀ i, i < n → qJm w r J m i = true → f (31 * m + 1 + ct (qJm w r J m) i) = (cd (rX r i) : Int)) ∧ (∀ i, i < n → qNm w r J m i = true → f (31 * m + 1 + (ct (qJm w r J m) n + ct (qNm w r J m) i)) = (cd (rX r i) : Int))
theorem RO_OT (hw : Wok w) (hF : qF w r n) (hJ : J < qN w) (hst : st = qSt w J) {f : Nat → Int} (h : ∀ m, m < 4 → RO w r n J m f) : OT w (rRu r J st n) n (tOd (qS w D0 (rRu r J st n) n)) f 0 := by
  have hl := rRu_len hF hJ hst
  have hF' := rRu_F hF hJ hst
  have hst2 : rD r n J = st := by rw [hst]; exact hF.2 J hJ
  have hcJ : ∀ m, ct (qJm w r J m) n = ct (fun k => decide (qMc w (5 * J + k) = m)) st := fun m => by rw [qJm_ct, hst2]
  intro m hm
  obtain ⟨h1, h2, h3⟩ := h m hm
  have hC : rC w (rRu r J st n) n m = ct (qJm w r J m) n + ct (qNm w r J m) n := by
    have := rRu_C (w := w) (r := r) (n := n) (J := J) (st := st) (i := n) (m := m) (Nat.le_refl _)
    rw [hl] at this
    rw [this, hcJ]
  refine ⟨?_, fun kk hkk => ?_⟩
  · rw [Nat.zero_add, h1, hC]
  · obtain ⟨k, a1, a2, a3⟩ := rK_of hkk
    have hod := qS_od (D := D0) hw hF'.1 a1
    rw [a2, a3] at hod
    rw [hod, Nat.zero_add]
    rcases rRu_cases (show k < st + ct (ruP r J) n by omega) with h9 | ⟨i, b1, b2, rfl⟩
    · obtain ⟨i, c1, c2, c3, c4⟩ := rX_of (r := r) (n := n) (j := J) (s := k) (by omega)
      have hx : rX (rRu r J st n) k = rX r i := by rw [(rRu_S0 h9).2, c4]
      have hmi : rM w r i = m := by
        rw [← a2]
        unfold rM
        rw [hx]
      have hk3 : kk = ct (qJm w r J m) i := by
        rw [← a3]
        unfold rK
        rw [a2, rRu_C0 (by omega), qJm_ct]
        congr 1
        rw [← c3]
        unfold rS
        rw [c2]
      rw [hk3, hx]
      exact h2 i c1 (decide_eq_true ⟨hmi, c2⟩)
    · have hx := (rRu_S (st := st) b1 b2).2
      have hmi : rM w r i = m := by
        rw [← a2]
        unfold rM
        rw [hx]
      have hk3 : kk = ct (qJm w r J m) n + ct (qNm w r J m) i := by
        rw [← a3]
        unfold rK
        rw [a2, rRu_C (by omega), hcJ]
      rw [hk3, hx]
      exact h3 i b1 (decide_eq_true ⟨hmi, b2⟩)
/-- only the machine's own places count -/
theorem cur_ct {q : Nat → Bool} {m : Nat} (hq : ∀ i, q i = true → rM w r i = m) : ∀ {a b : Nat}, rC w r a m = rC w r b m → ct q a = ct q b ∧ ∀ i, q i = true → (i < a ↔ i < b) := by
  intro a b hab
  have h2 : ∀ i, q i = true → (i < a ↔ i < b) := fun i hi => by
    have hmi := hq i hi
    have key : ∀ c, i < c ↔ rC w r i m < rC w r c m := fun c => by
      constructor
      · exact fun h => ct_lt _ h (decide_eq_true hmi)
      · intro h
        refine Classical.byContradiction fun h3 => ?_
        have : rC w r c m ≤ rC w r i m := ct_mono _ (by omega)
        omega
    rw [key a, key b, hab]
  refine ⟨?_, h2⟩
  have key : ∀ d a, (∀ i, q i = true → (i < a ↔ i < a + d)) → ct q a = ct q (a + d) := by
    intro d a h
    induction d with
    | zero => rfl
    | succ d ih =>
      have hqd : ¬ q (a + d) = true := fun hd => by
        have := (h (a + d) hd).mpr (by omega)
        omega
      rw [← Nat.add_assoc, ct_succ, if_neg hqd]
      refine ih (fun i hi => ?_)
      have := h i hi
      have hne : i ≠ a + d := fun e => hqd (e ▸ hi)
      omega
  rcases Nat.le_total a b with h | h
  · have := key (b - a) a (by rw [show a + (b - a) = b by omega]; exact h2)
    rw [show a + (b - a) = b by omega] at this
    exact this
  · have := key (a - b) b (by rw [show b + (a - b) = a by omega]; exact fun i hi => (h2 i hi).symm)
    rw [show b + (a - b) = a by omega] at this
    exact this.symm
end RR
