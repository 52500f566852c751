/-! ===== match: the search with bounds ===== -/
theorem b16_all : ∀ a : Fin 16, ∀ b : Fin 16, (iOr (a.1 : Int) (b.1 : Int) = ((a.1 ||| b.1 : Nat) : Int) ∧ a.1 ||| b.1 < 16) ∧ (iAnd (a.1 : Int) (b.1 : Int) = ((a.1 &&& b.1 : Nat) : Int) ∧ a.1 &&& b.1 < 16) ∧ ∀ j : Fin 4, hasb (a.1 ||| b.1) j.1 = (hasb a.1 j.1 || hasb b.1 j.1) ∧ hasb (a.1 &&& b.1) j.1 = (hasb a.1 j.1 && hasb b.1 j.1) := by decide +kernel
/-- places from p on that a mask has -/
def bf (v p : Nat) : Nat := (if p ≤ 0 ∧ hasb v 0 then 1 else 0) + (if p ≤ 1 ∧ hasb v 1 then 1 else 0) + (if p ≤ 2 ∧ hasb v 2 then 1 else 0) + (if p ≤ 3 ∧ hasb v 3 then 1 else 0)
theorem bf_all : ∀ v : Fin 16, ∀ p : Fin 5, P_J6_bitCount_0f7a4 (iUshr (v.1 : Int) (p.1 : Int)) = some (bf v.1 p.1 : Int) ∧ bf v.1 p.1 ≤ 4 ∧ bf v.1 4 = 0 ∧ (p.1 < 4 → bf v.1 p.1 = bf v.1 (p.1 + 1) + (if hasb v.1 p.1 then 1 else 0)) := by decide +kernel
/-- the machines that anybody can stand at -/
def unM (w : wS) (k : Nat) : Nat := it (fun u v => v ||| wkM w u) k 0
def flM (w : wS) (pm : Nat) : Nat := pm &&& unM w 6
theorem wkM_16 {w : wS} (hw : Wok w) {u : Nat} (hu : u < 6) : wkM w u < 16 := by
  have h := hw.2.2.2.2.2.2.1 u hu
  unfold wkM
  omega
theorem unM_lt {w : wS} (hw : Wok w) : ∀ {k : Nat}, k ≤ 6 → unM w k < 16
  | 0, _ => by show (0 : Nat) < 16; omega
  | k + 1, hk => ((b16_all ⟨unM w k, unM_lt hw (by omega)⟩ ⟨wkM w k, wkM_16 hw (by omega)⟩).1).2
theorem unM_has {w : wS} (hw : Wok w) {u m : Nat} (hm : m < 4) (h : hasb (wkM w u) m = true) : ∀ {k : Nat}, k ≤ 6 → u < k → hasb (unM w k) m = true
  | 0, _, hu => absurd hu (Nat.not_lt_zero _)
  | k + 1, hk, hu => by
    have e := ((b16_all ⟨unM w k, unM_lt hw (by omega)⟩ ⟨wkM w k, wkM_16 hw (by omega)⟩).2.2 ⟨m, hm⟩).1
    show hasb (unM w k ||| wkM w k) m = true
    rw [show hasb (unM w k ||| wkM w k) m = (hasb (unM w k) m || hasb (wkM w k) m) from e]
    by_cases g : u = k
    · rw [← g, h, Bool.or_true]
    · rw [unM_has hw hm h (by omega) (by omega), Bool.true_or]
theorem flM_lt {w : wS} (hw : Wok w) {pm : Nat} (hp : pm < 16) : iAnd (pm : Int) (unM w 6 : Int) = (flM w pm : Int) ∧ flM w pm < 16 := (b16_all ⟨pm, hp⟩ ⟨unM w 6, unM_lt hw (Nat.le_refl 6)⟩).2.1
theorem flM_ok {w : wS} (hw : Wok w) {pm u m : Nat} (hp : pm < 16) (hu : u < 6) (hm : m < 4) : wkOk w pm u m = (hasb (flM w pm) m && hasb (wkM w u) m) := by
  have e := ((b16_all ⟨pm, hp⟩ ⟨unM w 6, unM_lt hw (Nat.le_refl 6)⟩).2.2 ⟨m, hm⟩).2
  unfold wkOk
  rw [show hasb (flM w pm) m = (hasb pm m && hasb (unM w 6) m) from e]
  cases h : hasb (wkM w u) m
  · rw [Bool.and_false, Bool.and_false]
  · rw [unM_has hw hm h (Nat.le_refl 6) hu, Bool.and_true, Bool.and_true]
/-- nothing better in a stretch -/
theorem mtF_skip {w : wS} {pm n : Nat} : ∀ (k : Nat), (∀ x, n ≤ x → x < n + k → (evc w pm x 4).2.2 = true → ((evc w pm x 4).1 : Int) ≤ (mtF w pm n).1) → mtF w pm (n + k) = mtF w pm n
  | 0, _ => rfl
  | k + 1, h => by
    have ih := mtF_skip k (fun x h1 h2 => h x h1 (by omega))
    rw [← Nat.add_assoc, mtF_s, ih]
    unfold mtS
    rw [if_neg]
    intro g
    have := h (n + k) (by omega) (by omega) g.1
    omega
/-- a row's count is not above its beginning's and the places left -/
theorem evc_up {w : wS} (hw : Wok w) {pm : Nat} (hp : pm < 16) : ∀ (k p c : Nat), p + k = 4 → (evc w pm c 4).2.2 = true → (evc w pm (c / 7 ^ k) p).2.2 = true ∧ (evc w pm c 4).1 ≤ (evc w pm (c / 7 ^ k) p).1 + bf (flM w pm) p := by
  intro k
  induction k with
  | zero =>
    intro p c hpk h
    have : p = 4 := by omega
    subst this
    rw [Nat.pow_zero, Nat.div_one]
    exact ⟨h, by omega⟩
  | succ k ih =>
    intro p c hpk h
    obtain ⟨h1, h2⟩ := ih (p + 1) c (by omega) h
    have hdd : c / 7 ^ k / 7 = c / 7 ^ (k + 1) := by rw [Nat.div_div_eq_div_mul, ← Nat.pow_succ]
    have hst := evc_s (w := w) (pm := pm) (c := c / 7 ^ k) (p := p)
    rw [hdd] at hst
    have h3 := evc_dn h1
    rw [hdd] at h3
    have hbf := (bf_all ⟨flM w pm, (flM_lt hw hp).2⟩ ⟨p, by omega⟩).2.2.2 (by show p < 4; omega)
    have hbf : bf (flM w pm) p = bf (flM w pm) (p + 1) + (if hasb (flM w pm) p then 1 else 0) := hbf
    refine ⟨h3, ?_⟩
    unfold wkS at hst
    have hd : c / 7 ^ k % 7 < 7 := Nat.mod_lt _ (by omega)
    by_cases g : c / 7 ^ k % 7 = 6
    · rw [if_pos g] at hst
      rw [hst] at h2
      omega
    · rw [if_neg g] at hst
      rw [hst] at h1 h2
      dsimp only at h1 h2
      rw [flM_ok hw hp (by omega) (by omega)] at h1
      have : hasb (flM w pm) p = true := by
        cases hb : hasb (flM w pm) p
        · rw [hb] at h1
          exact absurd h1 (by simp)
        · rfl
      rw [if_pos this] at hbf
      omega
