/-! ===== the workshop's numbers and timetables, pure ===== -/
abbrev wS : Type := Nat → Nat → Int
def qN (w : wS) : Nat := (w 1 0).toNat
def qRel (w : wS) (j : Nat) : Int := w 2 j
def qDu (w : wS) (j : Nat) : Int := w 3 j
def qWt (w : wS) (j : Nat) : Int := w 4 j
def qKd (w : wS) (j : Nat) : Nat := (w 5 j).toNat
def qSt (w : wS) (j : Nat) : Nat := (w 6 j).toNat
def qMc (w : wS) (x : Nat) : Nat := (w 7 x).toNat
def qHr (w : wS) (x : Nat) : Int := w 8 x
def qCn (w : wS) (m : Nat) : Nat := (w 9 m).toNat
def qCf (w : wS) (i : Nat) : Int := w 10 i
def qCt (w : wS) (i : Nat) : Int := w 11 i
def qLf (w : wS) (m : Nat) : Int := w 12 m
def qCg (w : wS) (m : Nat) : Int := w 13 m
def qSu (w : wS) (a b : Nat) : Int := w 14 (4 * a + b)
def qRw (w : wS) (i : Nat) : Nat := (w 16 i).toNat
def Wok (w : wS) : Prop :=
  (3 ≤ w 1 0 ∧ w 1 0 ≤ 6) ∧
  (∀ j, j < qN w → (0 ≤ w 2 j ∧ w 2 j ≤ 200) ∧ (0 ≤ w 3 j ∧ w 3 j ≤ 1000) ∧ (1 ≤ w 4 j ∧ w 4 j ≤ 9) ∧ (0 ≤ w 5 j ∧ w 5 j < 4) ∧ (0 ≤ w 6 j ∧ w 6 j ≤ 5)) ∧
  (∀ j s, j < qN w → s < qSt w j → (0 ≤ w 7 (5 * j + s) ∧ w 7 (5 * j + s) < 4) ∧ (1 ≤ w 8 (5 * j + s) ∧ w 8 (5 * j + s) ≤ 50)) ∧
  (∀ m, m < 4 → (0 ≤ w 9 m ∧ w 9 m ≤ 4) ∧ (w 12 m = 0 ∨ (50 ≤ w 12 m ∧ w 12 m ≤ 300)) ∧ (0 ≤ w 13 m ∧ w 13 m ≤ 20)) ∧
  (∀ m c, m < 4 → c < qCn w m → 0 ≤ w 10 (4 * m + c) ∧ w 10 (4 * m + c) < w 11 (4 * m + c) ∧ w 11 (4 * m + c) ≤ 2000) ∧
  (∀ i, i < 16 → 0 ≤ w 14 i ∧ w 14 i ≤ 20) ∧
  (∀ u, u < 6 → 0 ≤ w 15 u ∧ w 15 u ≤ 15) ∧
  (w 1 15 = 0 ∨ w 1 15 = 1) ∧ 0 < qSt w 0
section WOK
variable {w : wS}
theorem Wok.n (h : Wok w) : w 1 0 = (qN w : Int) ∧ 3 ≤ qN w ∧ qN w ≤ 6 := by
  have := h.1
  unfold qN
  omega
theorem Wok.rel (h : Wok w) {j : Nat} (hj : j < qN w) : 0 ≤ qRel w j ∧ qRel w j ≤ 200 := (h.2.1 j hj).1
theorem Wok.du (h : Wok w) {j : Nat} (hj : j < qN w) : 0 ≤ qDu w j ∧ qDu w j ≤ 1000 := (h.2.1 j hj).2.1
theorem Wok.wt (h : Wok w) {j : Nat} (hj : j < qN w) : 1 ≤ qWt w j ∧ qWt w j ≤ 9 := (h.2.1 j hj).2.2.1
theorem Wok.kd (h : Wok w) {j : Nat} (hj : j < qN w) : w 5 j = (qKd w j : Int) ∧ qKd w j < 4 := by
  have := (h.2.1 j hj).2.2.2.1
  unfold qKd
  omega
theorem Wok.st (h : Wok w) {j : Nat} (hj : j < qN w) : w 6 j = (qSt w j : Int) ∧ qSt w j ≤ 5 := by
  have := (h.2.1 j hj).2.2.2.2
  unfold qSt
  omega
theorem Wok.mc (h : Wok w) {j s : Nat} (hj : j < qN w) (hs : s < qSt w j) : w 7 (5 * j + s) = (qMc w (5 * j + s) : Int) ∧ qMc w (5 * j + s) < 4 := by
  have := (h.2.2.1 j s hj hs).1
  unfold qMc
  omega
theorem Wok.hr (h : Wok w) {j s : Nat} (hj : j < qN w) (hs : s < qSt w j) : 1 ≤ qHr w (5 * j + s) ∧ qHr w (5 * j + s) ≤ 50 := (h.2.2.1 j s hj hs).2
theorem Wok.cn (h : Wok w) {m : Nat} (hm : m < 4) : w 9 m = (qCn w m : Int) ∧ qCn w m ≤ 4 := by
  have := (h.2.2.2.1 m hm).1
  unfold qCn
  omega
theorem Wok.lf (h : Wok w) {m : Nat} (hm : m < 4) : qLf w m = 0 ∨ (50 ≤ qLf w m ∧ qLf w m ≤ 300) := (h.2.2.2.1 m hm).2.1
theorem Wok.cg (h : Wok w) {m : Nat} (hm : m < 4) : 0 ≤ qCg w m ∧ qCg w m ≤ 20 := (h.2.2.2.1 m hm).2.2
theorem Wok.cl (h : Wok w) {m c : Nat} (hm : m < 4) (hc : c < qCn w m) : 0 ≤ qCf w (4 * m + c) ∧ qCf w (4 * m + c) < qCt w (4 * m + c) ∧ qCt w (4 * m + c) ≤ 2000 := h.2.2.2.2.1 m c hm hc
theorem Wok.su (h : Wok w) {a b : Nat} (ha : a < 4) (hb : b < 4) : 0 ≤ qSu w a b ∧ qSu w a b ≤ 20 := h.2.2.2.2.2.1 (4 * a + b) (by omega)
theorem Wok.sk (h : Wok w) {u : Nat} (hu : u < 6) : 0 ≤ w 15 u ∧ w 15 u ≤ 15 := h.2.2.2.2.2.2.1 u hu
end WOK
/-! counting -/
def ct (p : Nat → Bool) : Nat → Nat
  | 0 => 0
  | n + 1 => if p n then ct p n + 1 else ct p n
theorem ct_succ (p : Nat → Bool) (n : Nat) : ct p (n + 1) = if p n then ct p n + 1 else ct p n := rfl
theorem ct_le (p : Nat → Bool) (n : Nat) : ct p n ≤ n := by
  induction n with
  | zero => exact Nat.le_refl 0
  | succ n ih =>
    rw [ct_succ]
    split <;> omega
theorem ct_mono (p : Nat → Bool) {a b : Nat} (h : a ≤ b) : ct p a ≤ ct p b := by
  induction b with
  | zero =>
    rw [Nat.le_zero.mp h]
    exact Nat.le_refl _
  | succ b ih =>
    by_cases h1 : a = b + 1
    · rw [h1]
      exact Nat.le_refl _
    · have := ih (by omega)
      rw [ct_succ]
      split <;> omega
theorem ct_lt (p : Nat → Bool) {a b : Nat} (h : a < b) (hp : p a = true) : ct p a < ct p b := by
  have h1 := ct_mono p (show a + 1 ≤ b from h)
  rw [ct_succ, if_pos hp] at h1
  omega
theorem ct_inv (p : Nat → Bool) : ∀ {n k : Nat}, k < ct p n → ∃ i, i < n ∧ p i = true ∧ ct p i = k
  | 0, k, h => absurd h (Nat.not_lt_zero _)
  | n + 1, k, h => by
    rw [ct_succ] at h
    by_cases hp : p n = true
    · rw [if_pos hp] at h
      by_cases hk : k = ct p n
      · exact ⟨n, Nat.lt_succ_self n, hp, hk.symm⟩
      · obtain ⟨i, h1, h2⟩ := ct_inv p (show k < ct p n by omega)
        exact ⟨i, by omega, h2⟩
    · rw [if_neg hp] at h
      obtain ⟨i, h1, h2⟩ := ct_inv p h
      exact ⟨i, by omega, h2⟩
theorem ct_inj (p : Nat → Bool) {a b : Nat} (ha : p a = true) (hb : p b = true) (h : ct p a = ct p b) : a = b := by
  rcases Nat.lt_trichotomy a b with h1 | h1 | h1
  · have := ct_lt p h1 ha
    omega
  · exact h1
  · have := ct_lt p h1 hb
    omega
theorem ct_cong {p q : Nat → Bool} : ∀ {n : Nat}, (∀ i, i < n → p i = q i) → ct p n = ct q n
  | 0, _ => rfl
  | n + 1, h => by
    rw [ct_succ, ct_succ, h n (Nat.lt_succ_self n), ct_cong (fun i hi => h i (Nat.lt_succ_of_lt hi))]
/-! sums -/
def sm (f : Nat → Int) (n : Nat) : Int := it (fun i s => s + f i) n 0
theorem sm_succ (f : Nat → Int) (n : Nat) : sm f (n + 1) = sm f n + f n := rfl
theorem sm_cong {f g : Nat → Int} {n : Nat} (h : ∀ i, i < n → f i = g i) : sm f n = sm g n := it_cong (fun k hk x => by rw [h k hk])
theorem sm_bd {f : Nat → Int} {a b : Int} : ∀ {n : Nat}, (∀ i, i < n → a ≤ f i ∧ f i ≤ b) → a * n ≤ sm f n ∧ sm f n ≤ b * n
  | 0, _ => ⟨by simp [sm, it], by simp [sm, it]⟩
  | n + 1, h => by
    have h1 := sm_bd (n := n) (fun i hi => h i (by omega))
    have h2 := h n (by omega)
    rw [sm_succ]
    have e1 : a * ((n + 1 : Nat) : Int) = a * n + a := by rw [Int.natCast_add, Int.mul_add]; simp
    have e2 : b * ((n + 1 : Nat) : Int) = b * n + b := by rw [Int.natCast_add, Int.mul_add]; simp
    omega
/-! the first open hour -/
def qO1 (w : wS) (m : Nat) (len : Int) (c : Nat) (h : Int) : Int := if h < qCt w (4 * m + c) ∧ qCf w (4 * m + c) < h + len then qCt w (4 * m + c) else h
def qRo (w : wS) (m : Nat) (len : Int) (h : Int) : Int := it (qO1 w m len) (qCn w m) h
def qOpen (w : wS) (m : Nat) (h len : Int) : Int := it (fun _ => qRo w m len) (qCn w m) h
/-- no closure of the machine meets the hours -/
def qFree (w : wS) (m : Nat) (len h : Int) : Prop := ∀ c, c < qCn w m → ¬ (h < qCt w (4 * m + c) ∧ qCf w (4 * m + c) < h + len)
theorem qO1_le (w : wS) (m : Nat) (len : Int) (c : Nat) (h : Int) : h ≤ qO1 w m len c h := by
  unfold qO1
  split <;> omega
theorem qO1_least {w : wS} {m : Nat} {len : Int} {c : Nat} {h r : Int} (hc : c < qCn w m) (hr : h ≤ r) (hf : qFree w m len r) : qO1 w m len c h ≤ r := by
  have := hf c hc
  unfold qO1
  split <;> omega
theorem qRoK_le (w : wS) (m : Nat) (len : Int) (n : Nat) (h : Int) : h ≤ it (qO1 w m len) n h := it_inv (fun _ x => h ≤ x) (Int.le_refl h) (fun k _ x hx => Int.le_trans hx (qO1_le w m len k x))
theorem qRo_le (w : wS) (m : Nat) (len : Int) (h : Int) : h ≤ qRo w m len h := qRoK_le w m len _ h
theorem qRo_least {w : wS} {m : Nat} {len h r : Int} (hr : h ≤ r) (hf : qFree w m len r) : qRo w m len h ≤ r := it_inv (fun _ x => x ≤ r) hr (fun _ hk _ hx => qO1_least hk hx hf)
theorem qRoK_id {w : wS} {m : Nat} {len h : Int} (hf : qFree w m len h) : ∀ {n : Nat}, n ≤ qCn w m → it (qO1 w m len) n h = h
  | 0, _ => rfl
  | n + 1, hn => by
    show qO1 w m len n (it (qO1 w m len) n h) = h
    rw [qRoK_id hf (Nat.le_of_succ_le hn)]
    unfold qO1
    rw [if_neg (hf n hn)]
theorem qRo_id {w : wS} {m : Nat} {len h : Int} (hf : qFree w m len h) : qRo w m len h = h := qRoK_id hf (Nat.le_refl _)
/-- how many closures are over -/
def qPs (w : wS) (m : Nat) (h : Int) : Nat := ct (fun c => decide (qCt w (4 * m + c) ≤ h)) (qCn w m)
theorem ct_up {p q : Nat → Bool} : ∀ {n : Nat}, (∀ i, i < n → p i = true → q i = true) → ct p n ≤ ct q n
  | 0, _ => Nat.le_refl 0
  | n + 1, h => by
    have h1 := ct_up (n := n) (fun i hi => h i (Nat.lt_succ_of_lt hi))
    have h2 := h n (Nat.lt_succ_self n)
    rw [ct_succ, ct_succ]
    by_cases hp : p n = true
    · rw [if_pos hp, if_pos (h2 hp)]
      omega
    · rw [if_neg hp]
      split <;> omega
theorem ct_up1 {p q : Nat → Bool} : ∀ {n : Nat}, (∀ i, i < n → p i = true → q i = true) → ∀ c, c < n → p c = false → q c = true → ct p n < ct q n
  | 0, _, _, hc, _, _ => absurd hc (Nat.not_lt_zero _)
  | n + 1, h, c, hc, h3, h4 => by
    have h2 := h n (Nat.lt_succ_self n)
    rw [ct_succ, ct_succ]
    by_cases hcn : c = n
    · subst hcn
      rw [if_neg (by rw [h3]; exact Bool.false_ne_true), if_pos h4]
      have := ct_up (n := c) (fun i hi => h i (Nat.lt_succ_of_lt hi))
      omega
    · have h1 := ct_up1 (n := n) (fun i hi => h i (Nat.lt_succ_of_lt hi)) c (by omega) h3 h4
      by_cases hp : p n = true
      · rw [if_pos hp, if_pos (h2 hp)]
        omega
      · rw [if_neg hp]
        split <;> omega
/-- a round that finds a meeting closure leaves one more behind -/
theorem qRo_moves {w : wS} {m : Nat} {len h : Int} {c : Nat} (hc : c < qCn w m) (hx : h < qCt w (4 * m + c) ∧ qCf w (4 * m + c) < h + len) : ∃ c', c' < qCn w m ∧ h < qCt w (4 * m + c') ∧ qCt w (4 * m + c') ≤ qRo w m len h := by
  have key : ∀ n, n ≤ qCn w m → (it (qO1 w m len) n h = h ∧ (∀ c', c' < n → ¬ (h < qCt w (4 * m + c') ∧ qCf w (4 * m + c') < h + len))) ∨ ∃ c', c' < qCn w m ∧ h < qCt w (4 * m + c') ∧ qCt w (4 * m + c') ≤ it (qO1 w m len) n h := by
    intro n
    induction n with
    | zero => exact fun _ => Or.inl ⟨rfl, fun c' h => absurd h (Nat.not_lt_zero _)⟩
    | succ n ih =>
      intro hn
      rcases ih (by omega) with ⟨h1, h2⟩ | ⟨c', h1, h2, h3⟩
      · by_cases h4 : h < qCt w (4 * m + n) ∧ qCf w (4 * m + n) < h + len
        · refine Or.inr ⟨n, hn, h4.1, ?_⟩
          show _ ≤ qO1 w m len n (it (qO1 w m len) n h)
          rw [h1]
          unfold qO1
          rw [if_pos h4]
          exact Int.le_refl _
        · refine Or.inl ⟨?_, fun c' hc' => ?_⟩
          · show qO1 w m len n (it (qO1 w m len) n h) = h
            rw [h1]
            unfold qO1
            rw [if_neg h4]
          · by_cases h5 : c' = n
            · rw [h5]
              exact h4
            · exact h2 c' (by omega)
      · exact Or.inr ⟨c', h1, h2, Int.le_trans h3 (qO1_le w m len n _)⟩
  rcases key _ (Nat.le_refl _) with ⟨-, h2⟩ | h
  · exact absurd hx (h2 c hc)
  · exact h
theorem qRo_ps {w : wS} {m : Nat} {len h : Int} (hf : ¬ qFree w m len h) : qPs w m h < qPs w m (qRo w m len h) := by
  have : ∃ c, c < qCn w m ∧ (h < qCt w (4 * m + c) ∧ qCf w (4 * m + c) < h + len) := by
    refine Classical.byContradiction fun hn => hf fun c hc hx => hn ⟨c, hc, hx⟩
  obtain ⟨c, hc, hx⟩ := this
  obtain ⟨c', h1, h2, h3⟩ := qRo_moves hc hx
  refine ct_up1 (fun i _ hi => ?_) c' h1 (decide_eq_false (by omega)) (decide_eq_true h3)
  have := of_decide_eq_true hi
  have := qRo_le w m len h
  exact decide_eq_true (by omega)
theorem qPs_le (w : wS) (m : Nat) (h : Int) : qPs w m h ≤ qCn w m := ct_le _ _
theorem qPs_all {w : wS} {m : Nat} {len h : Int} (hp : qCn w m ≤ qPs w m h) : qFree w m len h := by
  intro c hc hx
  have : qPs w m h < qCn w m := by
    have h1 : ct (fun c => decide (qCt w (4 * m + c) ≤ h)) (qCn w m) < ct (fun _ => true) (qCn w m) := ct_up1 (fun _ _ _ => rfl) c hc (decide_eq_false (by omega)) rfl
    exact Nat.lt_of_lt_of_le h1 (ct_le _ _)
  omega
theorem qOpen_free (w : wS) (m : Nat) (h len : Int) : qFree w m len (qOpen w m h len) := by
  have key : ∀ n, qFree w m len (it (fun _ => qRo w m len) n h) ∨ n ≤ qPs w m (it (fun _ => qRo w m len) n h) := by
    intro n
    induction n with
    | zero => exact Or.inr (Nat.zero_le _)
    | succ n ih =>
      show qFree w m len (qRo w m len (it (fun _ => qRo w m len) n h)) ∨ n + 1 ≤ qPs w m (qRo w m len (it (fun _ => qRo w m len) n h))
      by_cases hf : qFree w m len (it (fun _ => qRo w m len) n h)
      · rw [qRo_id hf]
        exact Or.inl hf
      · have h1 := qRo_ps hf
        rcases ih with h2 | h2
        · exact absurd h2 hf
        · exact Or.inr (by omega)
  rcases key (qCn w m) with h1 | h1
  · exact h1
  · exact qPs_all h1
theorem qOpen_le (w : wS) (m : Nat) (h len : Int) : h ≤ qOpen w m h len := it_inv (fun _ x => h ≤ x) (Int.le_refl h) (fun _ _ x hx => Int.le_trans hx (qRo_le w m len x))
theorem qOpen_least {w : wS} {m : Nat} {h len r : Int} (hr : h ≤ r) (hf : qFree w m len r) : qOpen w m h len ≤ r := it_inv (fun _ x => x ≤ r) hr (fun _ _ _ hx => qRo_least hx hf)
theorem qOpen_mono {w : wS} {m : Nat} {h h' len : Int} (hh : h ≤ h') : qOpen w m h len ≤ qOpen w m h' len := qOpen_least (Int.le_trans hh (qOpen_le w m h' len)) (qOpen_free w m h' len)
theorem qOpen_of {w : wS} {m : Nat} {h len r : Int} (h1 : h ≤ r) (h2 : qFree w m len r) (h3 : ∀ r', h ≤ r' → qFree w m len r' → r ≤ r') : qOpen w m h len = r := Int.le_antisymm (qOpen_least h1 h2) (h3 _ (qOpen_le w m h len) (qOpen_free w m h len))
theorem qO1_hi {w : wS} {m : Nat} (hw : Wok w) (hm : m < 4) {len : Int} {c : Nat} (hc : c < qCn w m) {h b : Int} (h1 : h ≤ b) (h2 : 2000 ≤ b) : qO1 w m len c h ≤ b := by
  have := (hw.cl hm hc).2.2
  unfold qO1
  split <;> omega
theorem qRo_hi {w : wS} {m : Nat} (hw : Wok w) (hm : m < 4) {len h b : Int} (h1 : h ≤ b) (h2 : 2000 ≤ b) : qRo w m len h ≤ b := it_inv (fun _ x => x ≤ b) h1 (fun _ hk _ hx => qO1_hi hw hm hk hx h2)
theorem qOpen_hi {w : wS} {m : Nat} (hw : Wok w) (hm : m < 4) {h len b : Int} (h1 : h ≤ b) (h2 : 2000 ≤ b) : qOpen w m h len ≤ b := it_inv (fun _ x => x ≤ b) h1 (fun _ _ _ hx => qRo_hi hw hm hx h2)
