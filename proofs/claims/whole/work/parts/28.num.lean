/-! ===== small numbers, rules of Ok, loops ===== -/
theorem w32_id {z : Int} (h1 : -2147483648 ≤ z) (h2 : z < 2147483648) : w32 z = z := Int32.toInt_ofInt_of_le (by omega) (by omega)
theorem w64_id {z : Int} (h1 : -9223372036854775808 ≤ z) (h2 : z < 9223372036854775808) : w64 z = z := Int64.toInt_ofInt_of_le (by omega) (by omega)
theorem w32_lo (z : Int) : -2147483648 ≤ w32 z := Int32.le_toInt _
theorem w32_hi (z : Int) : w32 z < 2147483648 := Int32.toInt_lt _
theorem w32_w (z : Int) : w32 (w32 z) = w32 z := w32_id (w32_lo z) (w32_hi z)
theorem ilt_id {a b : Int} (h1 : -2147483648 ≤ a) (h2 : a < 2147483648) (h3 : -2147483648 ≤ b) (h4 : b < 2147483648) : ilt a b = decide (a < b) := by
  unfold ilt
  rw [w32_id h1 h2, w32_id h3 h4]
theorem ieq_id {a b : Int} (h1 : -2147483648 ≤ a) (h2 : a < 2147483648) (h3 : -2147483648 ≤ b) (h4 : b < 2147483648) : ieq a b = decide (a = b) := by
  unfold ieq
  rw [w32_id h1 h2, w32_id h3 h4]
theorem ilt_nat {a b : Nat} (h2 : a < 2147483648) (h4 : b < 2147483648) : ilt (a : Int) (b : Int) = decide (a < b) := by
  rw [ilt_id (by omega) (by omega) (by omega) (by omega)]
  simp only [Int.ofNat_lt]
theorem ieq_nat {a b : Nat} (h2 : a < 2147483648) (h4 : b < 2147483648) : ieq (a : Int) (b : Int) = decide (a = b) := by
  rw [ieq_id (by omega) (by omega) (by omega) (by omega)]
  simp only [Int.ofNat_inj]
theorem iMax_id {a b : Int} (h1 : -2147483648 ≤ a) (h2 : a < 2147483648) (h3 : -2147483648 ≤ b) (h4 : b < 2147483648) : iMax a b = max a b := by
  unfold iMax
  rw [w32_id h1 h2, w32_id h3 h4]
  omega
theorem iMin_id {a b : Int} (h1 : -2147483648 ≤ a) (h2 : a < 2147483648) (h3 : -2147483648 ≤ b) (h4 : b < 2147483648) : iMin a b = min a b := by
  unfold iMin
  rw [w32_id h1 h2, w32_id h3 h4]
  omega
theorem iDiv_id {a b : Int} (h1 : 0 ≤ a) (h2 : a < 2147483648) (h3 : 0 < b) (h4 : b < 2147483648) : iDiv a b = a / b := by
  unfold iDiv
  rw [w32_id (by omega) h2, w32_id (by omega) h4]
  exact Int.tdiv_eq_ediv_of_nonneg h1
theorem iRem_id {a b : Int} (h1 : 0 ≤ a) (h2 : a < 2147483648) (h3 : 0 < b) (h4 : b < 2147483648) : iRem a b = a % b := by
  unfold iRem
  rw [w32_id (by omega) h2, w32_id (by omega) h4]
  exact Int.tmod_eq_emod_of_nonneg h1
theorem mIx_id {i : Int} (h1 : 0 ≤ i) (h2 : i < 2147483648) : mIx i = i.toNat := by
  unfold mIx
  rw [w32_id (by omega) h2]
theorem mIx_nat {k : Nat} (h : k < 2147483648) : mIx (k : Int) = k := by
  rw [mIx_id (by omega) (by omega)]
  exact Int.toNat_natCast k
theorem mIn_id {i : Int} {n : Nat} (h1 : 0 ≤ i) (h2 : i < (n : Int)) (hn : n ≤ 100000) : mIn i n = true := by
  unfold mIn
  rw [w32_id (by omega) (by omega)]
  exact decide_eq_true ⟨h1, h2⟩
theorem ald_id {G : mG} {a n : Nat} {i : Int} (h1 : 0 ≤ i) (h2 : i < (n : Int)) (hn : n ≤ 100000) : ald G a n i = some (G a i.toNat) := by
  unfold ald
  rw [mIn_id h1 h2 hn, mIx_id h1 (by omega)]
  rfl
theorem ald_of {G : mG} {a n : Nat} {i : Int} (k : Nat) (e : i = (k : Int)) (h : k < n) (hn : n ≤ 100000) : ald G a n i = some (G a k) := by
  rw [ald_id (by omega) (by omega) hn, e, Int.toNat_natCast]
theorem ast_of {G : mG} {a n : Nat} {i x : Int} (k : Nat) (e : i = (k : Int)) (h : k < n) (hn : n ≤ 100000) : ast G a n i x = some (up2 G a k x) := by
  unfold ast
  rw [mIn_id (by omega) (by omega) hn, mIx_id (by omega) (by omega), e, Int.toNat_natCast]
  rfl
theorem up2_ne {G : mG} {a b i : Nat} {x : Int} (h : b ≠ a) : up2 G a i x b = G b := by
  cases h' : Nat.beq b a with
  | true => exact absurd (Nat.eq_of_beq_eq_true h') h
  | false => simp only [up2, upG, h', cond_false]
theorem up2_eq {G : mG} {a i : Nat} {x : Int} : up2 G a i x a = up1 (G a) i x := by simp only [up2, upG, Nat.beq_refl, cond_true]
theorem up1_if {f : Nat → Int} {i j : Nat} {x : Int} : up1 f i x j = if j = i then x else f j := by
  by_cases h : j = i
  · rw [if_pos h, h, up1_eq]
  · rw [if_neg h, up1_ne h]
theorem up2_if {G : mG} {a b i j : Nat} {x : Int} : up2 G a i x b j = if b = a ∧ j = i then x else G b j := by
  by_cases h : b = a
  · subst h
    rw [up2_eq, up1_if]
    simp
  · rw [up2_ne h]
    simp [h]
def it {α : Type} (f : Nat → α → α) : Nat → α → α
  | 0, a => a
  | k + 1, a => f k (it f k a)
theorem it_cong {α : Type} {f g : Nat → α → α} {a : α} : ∀ {n : Nat}, (∀ k, k < n → ∀ x, f k x = g k x) → it f n a = it g n a
  | 0, _ => rfl
  | n + 1, h => by
    have h1 : it f n a = it g n a := it_cong (fun k hk => h k (Nat.lt_succ_of_lt hk))
    show f n (it f n a) = g n (it g n a)
    rw [h1]
    exact h n (Nat.lt_succ_self n) _
theorem it_inv {α : Type} {f : Nat → α → α} {a : α} (I : Nat → α → Prop) (h0 : I 0 a) : ∀ {n : Nat}, (∀ k, k < n → ∀ x, I k x → I (k + 1) (f k x)) → I n (it f n a)
  | 0, _ => h0
  | n + 1, h => h n (Nat.lt_succ_self n) _ (it_inv I h0 (fun k hk => h k (Nat.lt_succ_of_lt hk)))
/-- p comes to a value with Q -/
def Ok {X : Type} (p : Option X) (Q : X → Prop) : Prop := ∃ x, p = some x ∧ Q x
section OK
variable {X Y : Type} {Q : X → Prop} {G : mG} {a n : Nat} {i x : Int}
theorem Ok.so {x : X} (h : Q x) : Ok (some x) Q := ⟨x, rfl, h⟩
theorem Ok.bind {P : Y → Prop} {p : Option Y} {f : Y → Option X} (h : Ok p P) (k : ∀ y, P y → Ok (f y) Q) : Ok (p.bind f) Q := by
  obtain ⟨y, rfl, hy⟩ := h
  exact k y hy
theorem Ok.eq {p : Option Y} {y : Y} {f : Y → Option X} (h : p = Option.some y) (k : Ok (f y) Q) : Ok (p.bind f) Q := by
  rw [h]
  exact k
theorem Ok.w {P : X → Prop} {p : Option X} (h : Ok p P) (k : ∀ y, P y → Q y) : Ok p Q := by
  obtain ⟨y, rfl, hy⟩ := h
  exact ⟨y, rfl, k y hy⟩
theorem Ok.of {p : Option X} {x : X} (h : p = Option.some x) (k : Q x) : Ok p Q := ⟨x, h, k⟩
theorem Ok.get {p : Option X} {x : X} (h : Ok p (fun y => y = x)) : p = Option.some x := by
  obtain ⟨y, rfl, rfl⟩ := h
  rfl
theorem Ok.ld {f : Int → Option X} (k : Nat) (e : i = (k : Int)) (h : k < n) (hn : n ≤ 100000) (c : Ok (f (G a k)) Q) : Ok ((ald G a n i).bind f) Q := Ok.eq (ald_of k e h hn) c
theorem Ok.sto {f : mG → Option X} (k : Nat) (e : i = (k : Int)) (h : k < n) (hn : n ≤ 100000) (c : Ok (f (up2 G a k x)) Q) : Ok ((ast G a n i x).bind f) Q := Ok.eq (ast_of k e h hn) c
theorem Ok.pu {f : mG → Option X} {k : Nat} (c : Ok (f (up2 G a k x)) Q) : Ok ((pst G a k x).bind f) Q := c
theorem Ok.puZ {f : mG → Option X} {k : Nat} (h : x = 0 ∨ x = 1) (c : Ok (f (up2 G a k x)) Q) : Ok ((pstZ G a k x).bind f) Q := by
  have : pstZ G a k x = Option.some (up2 G a k x) := by
    unfold pstZ
    rw [show m01 x = true from decide_eq_true h]
    rfl
  exact Ok.eq this c
theorem Ok.it {c : Bool} {p q : Option X} (h1 : c = true → Ok p Q) (h2 : c = false → Ok q Q) : Ok (bif c then p else q) Q := by
  cases c
  · exact h2 rfl
  · exact h1 rfl
theorem Ok.iteT {c : Bool} {p q : Option X} (h : c = true) (h1 : Ok p Q) : Ok (bif c then p else q) Q := by
  rw [h]
  exact h1
theorem Ok.iteF {c : Bool} {p q : Option X} (h : c = false) (h1 : Ok q Q) : Ok (bif c then p else q) Q := by
  rw [h]
  exact h1
theorem Ok.lk {α : Type} {j : α} {body : α → Option X} (h : Ok (body j) Q) : Ok (letK j body) Q := h
theorem Ok.lp1 {A : Type} {F : (A → Option X) → A → Option X} (I : Nat → A → Prop) (h : ∀ (n : Nat) (again : A → Option X) (x : A), I n x → (∀ m y, m < n → I m y → Ok (again y) Q) → Ok (F again x) Q) : ∀ (N n : Nat) (x : A), n < N → I n x → Ok (loop1 N F x) Q
  | 0, _, _, hn, _ => absurd hn (Nat.not_lt_zero _)
  | N + 1, n, x, hn, hI => h n _ x hI (fun m y hm hy => Ok.lp1 I h N m y (Nat.lt_of_lt_of_le hm (Nat.le_of_lt_succ hn)) hy)
theorem Ok.lp2 {A B : Type} {F : (A → B → Option X) → A → B → Option X} (I : Nat → A → B → Prop) (h : ∀ (n : Nat) (again : A → B → Option X) (x : A) (y : B), I n x y → (∀ m x' y', m < n → I m x' y' → Ok (again x' y') Q) → Ok (F again x y) Q) : ∀ (N n : Nat) (x : A) (y : B), n < N → I n x y → Ok (loop2 N F x y) Q
  | 0, _, _, _, hn, _ => absurd hn (Nat.not_lt_zero _)
  | N + 1, n, x, y, hn, hI => h n _ x y hI (fun m x' y' hm hy => Ok.lp2 I h N m x' y' (Nat.lt_of_lt_of_le hm (Nat.le_of_lt_succ hn)) hy)
theorem Ok.lp3 {A B C : Type} {F : (A → B → C → Option X) → A → B → C → Option X} (I : Nat → A → B → C → Prop) (h : ∀ (n : Nat) (again : A → B → C → Option X) (x : A) (y : B) (z : C), I n x y z → (∀ m x' y' z', m < n → I m x' y' z' → Ok (again x' y' z') Q) → Ok (F again x y z) Q) : ∀ (N n : Nat) (x : A) (y : B) (z : C), n < N → I n x y z → Ok (loop3 N F x y z) Q
  | 0, _, _, _, _, hn, _ => absurd hn (Nat.not_lt_zero _)
  | N + 1, n, x, y, z, hn, hI => h n _ x y z hI (fun m x' y' z' hm hy => Ok.lp3 I h N m x' y' z' (Nat.lt_of_lt_of_le hm (Nat.le_of_lt_succ hn)) hy)
theorem Ok.lp4 {A B C D : Type} {F : (A → B → C → D → Option X) → A → B → C → D → Option X} (I : Nat → A → B → C → D → Prop) (h : ∀ (n : Nat) (again : A → B → C → D → Option X) (x : A) (y : B) (z : C) (u : D), I n x y z u → (∀ m x' y' z' u', m < n → I m x' y' z' u' → Ok (again x' y' z' u') Q) → Ok (F again x y z u) Q) : ∀ (N n : Nat) (x : A) (y : B) (z : C) (u : D), n < N → I n x y z u → Ok (loop4 N F x y z u) Q
  | 0, _, _, _, _, _, hn, _ => absurd hn (Nat.not_lt_zero _)
  | N + 1, n, x, y, z, u, hn, hI => h n _ x y z u hI (fun m x' y' z' u' hm hy => Ok.lp4 I h N m x' y' z' u' (Nat.lt_of_lt_of_le hm (Nat.le_of_lt_succ hn)) hy)
theorem Ok.seq1 {A : Type} {F : (A → Option X) → A → Option X} (x : Nat → A) : ∀ (n N : Nat), n < N → (∀ k, k < n → ∀ again : A → Option X, Ok (again (x (k + 1))) Q → Ok (F again (x k)) Q) → (∀ again : A → Option X, Ok (F again (x n)) Q) → Ok (loop1 N F (x 0)) Q := by
  intro n
  suffices H : ∀ (j N i : Nat), j < N → i + j = n → (∀ k, k < n → ∀ again : A → Option X, Ok (again (x (k + 1))) Q → Ok (F again (x k)) Q) → (∀ again : A → Option X, Ok (F again (x n)) Q) → Ok (loop1 N F (x i)) Q from fun N h => H n N 0 h (Nat.zero_add n)
  intro j
  induction j with
  | zero =>
    intro N i hN hi hs he
    cases N with
    | zero => exact absurd hN (Nat.not_lt_zero _)
    | succ N =>
      have : i = n := hi
      rw [this]
      exact he _
  | succ j ih =>
    intro N i hN hi hs he
    cases N with
    | zero => exact absurd hN (Nat.not_lt_zero _)
    | succ N => exact hs i (by omega) _ (ih N (i + 1) (by omega) (by omega) hs he)
theorem Ok.seq2 {A B : Type} {F : (A → B → Option X) → A → B → Option X} (x : Nat → A) (y : Nat → B) (n N : Nat) (hN : n < N) (hs : ∀ k, k < n → ∀ again : A → B → Option X, Ok (again (x (k + 1)) (y (k + 1))) Q → Ok (F again (x k) (y k)) Q) (he : ∀ again : A → B → Option X, Ok (F again (x n) (y n)) Q) : Ok (loop2 N F (x 0) (y 0)) Q := by
  refine Ok.lp2 (fun m x' y' => m ≤ n ∧ x' = x (n - m) ∧ y' = y (n - m)) (fun m again x' y' hI hk => ?_) N n (x 0) (y 0) hN ⟨Nat.le_refl n, by rw [Nat.sub_self], by rw [Nat.sub_self]⟩
  obtain ⟨h1, rfl, rfl⟩ := hI
  by_cases hm : m = 0
  · subst hm
    exact he again
  · refine hs (n - m) (by omega) again (hk (m - 1) _ _ (by omega) ⟨by omega, ?_, ?_⟩)
    · rw [show n - m + 1 = n - (m - 1) from by omega]
    · rw [show n - m + 1 = n - (m - 1) from by omega]
theorem Ok.seq3 {A B C : Type} {F : (A → B → C → Option X) → A → B → C → Option X} (x : Nat → A) (y : Nat → B) (z : Nat → C) (n N : Nat) (hN : n < N) (hs : ∀ k, k < n → ∀ again : A → B → C → Option X, Ok (again (x (k + 1)) (y (k + 1)) (z (k + 1))) Q → Ok (F again (x k) (y k) (z k)) Q) (he : ∀ again : A → B → C → Option X, Ok (F again (x n) (y n) (z n)) Q) : Ok (loop3 N F (x 0) (y 0) (z 0)) Q := by
  refine Ok.lp3 (fun m x' y' z' => m ≤ n ∧ x' = x (n - m) ∧ y' = y (n - m) ∧ z' = z (n - m)) (fun m again x' y' z' hI hk => ?_) N n (x 0) (y 0) (z 0) hN ⟨Nat.le_refl n, by rw [Nat.sub_self], by rw [Nat.sub_self], by rw [Nat.sub_self]⟩
  obtain ⟨h1, rfl, rfl, rfl⟩ := hI
  by_cases hm : m = 0
  · subst hm
    exact he again
  · refine hs (n - m) (by omega) again (hk (m - 1) _ _ _ (by omega) ⟨by omega, ?_, ?_, ?_⟩)
    · rw [show n - m + 1 = n - (m - 1) from by omega]
    · rw [show n - m + 1 = n - (m - 1) from by omega]
    · rw [show n - m + 1 = n - (m - 1) from by omega]
end OK
theorem LF_lt {n : Nat} (h : n < 100000000) : n < LF := h
section JN
variable {X : Type} {Q : X → Prop}
theorem Ok.jn0 {j : Option X} {body : Option X → Option X} (h1 : Ok j Q) (h2 : ∀ k : Option X, Ok k Q → Ok (body k) Q) : Ok (letK j body) Q := h2 j h1
theorem Ok.jn1 {A : Type} {j : A → Option X} {body : (A → Option X) → Option X} (P : A → Prop) (h1 : ∀ y, P y → Ok (j y) Q) (h2 : ∀ k : A → Option X, (∀ y, P y → Ok (k y) Q) → Ok (body k) Q) : Ok (letK j body) Q := h2 j h1
theorem Ok.jn2 {A B : Type} {j : A → B → Option X} {body : (A → B → Option X) → Option X} (P : A → B → Prop) (h1 : ∀ y z, P y z → Ok (j y z) Q) (h2 : ∀ k : A → B → Option X, (∀ y z, P y z → Ok (k y z) Q) → Ok (body k) Q) : Ok (letK j body) Q := h2 j h1
theorem Ok.jn3 {A B C : Type} {j : A → B → C → Option X} {body : (A → B → C → Option X) → Option X} (P : A → B → C → Prop) (h1 : ∀ y z u, P y z u → Ok (j y z u) Q) (h2 : ∀ k : A → B → C → Option X, (∀ y z u, P y z u → Ok (k y z u) Q) → Ok (body k) Q) : Ok (letK j body) Q := h2 j h1
theorem Ok.cd {c : Bool} {P : Prop} {p q : Option X} [Decidable P] (hc : c = decide P) (h1 : P → Ok p Q) (h2 : ¬ P → Ok q Q) : Ok (bif c then p else q) Q := Ok.it (fun h => h1 (of_decide_eq_true (hc ▸ h))) (fun h => h2 (of_decide_eq_false (hc ▸ h)))
theorem Ok.condT {c : Bool} {P : Prop} {p q : Option X} [Decidable P] (hc : c = decide P) (h : P) (h1 : Ok p Q) : Ok (bif c then p else q) Q := Ok.iteT (hc.trans (decide_eq_true h)) h1
theorem Ok.condF {c : Bool} {P : Prop} {p q : Option X} [Decidable P] (hc : c = decide P) (h : ¬ P) (h1 : Ok q Q) : Ok (bif c then p else q) Q := Ok.iteF (hc.trans (decide_eq_false h)) h1
end JN
section FO
variable {X A B : Type} {Q : X → Prop}
theorem Ok.forC {F : (Int → A → Option X) → Int → A → Option X} (I : Nat → A → Prop) (n N : Nat) (hN : n < N) {a : A} (h0 : I 0 a) (hs : ∀ k, k < n → ∀ (again : Int → A → Option X) (a : A), I k a → (∀ a', I (k + 1) a' → Ok (again ((k + 1 : Nat) : Int) a') Q) → Ok (F again (k : Int) a) Q) (he : ∀ (again : Int → A → Option X) (a : A), I n a → Ok (F again (n : Int) a) Q) : Ok (loop2 N F 0 a) Q := by
  refine Ok.lp2 (fun m c a => m ≤ n ∧ c = ((n - m : Nat) : Int) ∧ I (n - m) a) (fun m again c a hI hk => ?_) N n 0 a hN ⟨Nat.le_refl n, by rw [Nat.sub_self]; rfl, by rw [Nat.sub_self]; exact h0⟩
  obtain ⟨h1, rfl, h2⟩ := hI
  by_cases hm : m = 0
  · subst hm
    exact he again a h2
  · refine hs (n - m) (by omega) again a h2 (fun a' ha' => hk (m - 1) _ _ (by omega) ⟨by omega, ?_, ?_⟩)
    · rw [show n - m + 1 = n - (m - 1) from by omega]
    · rw [show n - (m - 1) = n - m + 1 from by omega]
      exact ha'
theorem Ok.forA {F : (A → Int → Option X) → A → Int → Option X} (I : Nat → A → Prop) (n N : Nat) (hN : n < N) {a : A} (h0 : I 0 a) (hs : ∀ k, k < n → ∀ (again : A → Int → Option X) (a : A), I k a → (∀ a', I (k + 1) a' → Ok (again a' ((k + 1 : Nat) : Int)) Q) → Ok (F again a (k : Int)) Q) (he : ∀ (again : A → Int → Option X) (a : A), I n a → Ok (F again a (n : Int)) Q) : Ok (loop2 N F a 0) Q := by
  refine Ok.lp2 (fun m a c => m ≤ n ∧ c = ((n - m : Nat) : Int) ∧ I (n - m) a) (fun m again a c hI hk => ?_) N n a 0 hN ⟨Nat.le_refl n, by rw [Nat.sub_self]; rfl, by rw [Nat.sub_self]; exact h0⟩
  obtain ⟨h1, rfl, h2⟩ := hI
  by_cases hm : m = 0
  · subst hm
    exact he again a h2
  · refine hs (n - m) (by omega) again a h2 (fun a' ha' => hk (m - 1) _ _ (by omega) ⟨by omega, ?_, ?_⟩)
    · rw [show n - m + 1 = n - (m - 1) from by omega]
    · rw [show n - (m - 1) = n - m + 1 from by omega]
      exact ha'
theorem Ok.for3 {F : (A → B → Int → Option X) → A → B → Int → Option X} (I : Nat → A → B → Prop) (n N : Nat) (hN : n < N) {a : A} {b : B} (h0 : I 0 a b) (hs : ∀ k, k < n → ∀ (again : A → B → Int → Option X) (a : A) (b : B), I k a b → (∀ a' b', I (k + 1) a' b' → Ok (again a' b' ((k + 1 : Nat) : Int)) Q) → Ok (F again a b (k : Int)) Q) (he : ∀ (again : A → B → Int → Option X) (a : A) (b : B), I n a b → Ok (F again a b (n : Int)) Q) : Ok (loop3 N F a b 0) Q := by
  refine Ok.lp3 (fun m a b c => m ≤ n ∧ c = ((n - m : Nat) : Int) ∧ I (n - m) a b) (fun m again a b c hI hk => ?_) N n a b 0 hN ⟨Nat.le_refl n, by rw [Nat.sub_self]; rfl, by rw [Nat.sub_self]; exact h0⟩
  obtain ⟨h1, rfl, h2⟩ := hI
  by_cases hm : m = 0
  · subst hm
    exact he again a b h2
  · refine hs (n - m) (by omega) again a b h2 (fun a' b' ha' => hk (m - 1) _ _ _ (by omega) ⟨by omega, ?_, ?_⟩)
    · rw [show n - m + 1 = n - (m - 1) from by omega]
    · rw [show n - (m - 1) = n - m + 1 from by omega]
      exact ha'
end FO
