/-! ===== what is kept of earlier states: the class's ring of shops ===== -/
def rOf (a : Nat) : List (Option Nat) := (List.range 8).map (fun s => if s < a then some (76 + 16 * s) else none)
def tlOf : Nat → List mSh
  | 0 => []
  | a + 1 => tlOf a ++ shCells (76 + 16 * a)
theorem shCells_len (q : Nat) : (shCells q).length = 16 := rfl
theorem tlOf_len : ∀ a : Nat, (tlOf a).length = 16 * a
  | 0 => rfl
  | a + 1 => by
    show (tlOf a ++ shCells (76 + 16 * a)).length = _
    rw [List.length_append, tlOf_len a, shCells_len]
    omega
theorem tlOf_get {s k : Nat} (hk : k < 16) : ∀ {a : Nat}, s < a → (tlOf a)[16 * s + k]? = (shCells (76 + 16 * s))[k]?
  | 0, h => absurd h (Nat.not_lt_zero _)
  | a + 1, h => by
    show (tlOf a ++ shCells (76 + 16 * a))[16 * s + k]? = _
    by_cases hs : s = a
    · subst hs
      rw [List.getElem?_append_right (by rw [tlOf_len]; omega), tlOf_len]
      congr 1
      omega
    · rw [List.getElem?_append_left (by rw [tlOf_len]; omega)]
      exact tlOf_get hk (by omega)
theorem mSH_hi (r : List (Option Nat)) (tl : List mSh) (i : Nat) : (mSH r tl)[i + 76]? = tl[i]? := rfl
theorem mShop_of {a s : Nat} (r : List (Option Nat)) (hs : s < a) : shB (mSH r (tlOf a)) (76 + 16 * s) = true := by
  refine shB_mk ?_
  have key : ∀ k, k < 16 → (mSH r (tlOf a))[76 + 16 * s + k]? = (shCells (76 + 16 * s))[k]? := fun k hk => by
    rw [show 76 + 16 * s + k = (16 * s + k) + 76 by omega, mSH_hi, tlOf_get hk hs]
  exact ⟨key 0 (by omega), key 1 (by omega), key 2 (by omega), key 3 (by omega), key 4 (by omega), key 5 (by omega), key 6 (by omega), key 7 (by omega), key 8 (by omega), key 9 (by omega), key 10 (by omega), key 11 (by omega), key 12 (by omega), key 13 (by omega), key 14 (by omega), key 15 (by omega)⟩
theorem rOf_get {a s : Nat} (hs : s < 8) : (rOf a)[s]? = some (if s < a then some (76 + 16 * s) else none) := by
  unfold rOf
  rw [List.getElem?_map, List.getElem?_range hs]
  rfl
theorem rOf_set {a : Nat} (ha : a < 8) : (rOf a).set a (some (76 + 16 * a)) = rOf (a + 1) := by
  refine List.ext_getElem? fun i => ?_
  rw [List.getElem?_set]
  by_cases hi : i < 8
  · rw [rOf_get hi, rOf_get hi]
    by_cases h : a = i
    · subst h
      rw [if_pos rfl, if_pos (by unfold rOf; simp; exact hi), if_pos (by omega)]
    · rw [if_neg h]
      congr 1
      by_cases h2 : i < a
      · rw [if_pos h2, if_pos (by omega)]
      · rw [if_neg h2, if_neg (by omega)]
  · rw [if_neg (by omega), List.getElem?_eq_none (by unfold rOf; simp; omega), List.getElem?_eq_none (by unfold rOf; simp; omega)]
/-- a shop at q holds w -/
def Xq (q : Nat) (w : wS) (G : mG) : Prop := ∀ b k, aok b k → G (q + (b - 1)) k = w b k
theorem Xq_XS {w : wS} {G : mG} : Xq 1 w G ↔ XS w G := by
  constructor
  · intro h b k h1
    have := h b k h1
    rw [show 1 + (b - 1) = b by have := h1.lo; omega] at this
    exact this
  · intro h b k h1
    rw [show 1 + (b - 1) = b by have := h1.lo; omega]
    exact h b k h1
theorem S_copy {G : mG} {a b n : Nat} (hn : n ≤ 1000) : P_X7_copy a n b n G = some (upG G b (cpyF (G a) (G b) 0 0 n)) := by
  have h1 : iMin (n : Int) (n : Int) = (n : Int) := by
    rw [iMin_id (by omega) (by omega) (by omega) (by omega)]
    omega
  have h0 : w32 0 = 0 := w32_id (by omega) (by omega)
  have h2 : w32 (n : Int) = (n : Int) := w32_id (by omega) (by omega)
  unfold P_X7_copy acp
  rw [h1, h0, h2]
  have h3 : decide ((0 : Int) ≤ 0 ∧ (0 : Int) ≤ 0 ∧ (0 : Int) ≤ (n : Int) ∧ (0 : Int) + (n : Int) ≤ (n : Int) ∧ (0 : Int) + (n : Int) ≤ (n : Int)) = true := decide_eq_true ⟨by omega, by omega, by omega, by omega, by omega⟩
  rw [h3, mIx_nat (by omega)]
  have h4 : mIx 0 = 0 := mIx_nat (k := 0) (by omega)
  rw [h4]
  rfl
theorem cpyF_in {f g : Nat → Int} {n k : Nat} (h : k < n) : cpyF f g 0 0 n k = f k := by
  unfold cpyF
  rw [if_pos ⟨Nat.zero_le _, by omega⟩]
  congr 1
  omega
theorem Ok.cp {X : Type} {Q : X → Prop} {G : mG} {a b n : Nat} {f : mG → Option X} (hn : n ≤ 1000) (h : ∀ G', (∀ c, c ≠ b → G' c = G c) → (∀ k, k < n → G' b k = G a k) → Ok (f G') Q) : Ok ((P_X7_copy a n b n G).bind f) Q := Ok.eq (S_copy hn) (h _ (fun c hc => upG_ne hc) (fun k hk => by rw [upG_eq]; exact cpyF_in hk))
theorem S_copyFrom {q p : Nat} {w : wS} {G : mG} (hpq : p + 16 ≤ q ∨ q + 16 ≤ p) (hz : w 1 15 = 0 ∨ w 1 15 = 1) (h : Xq p w G) : Ok (P_X7_copyFrom q p G) (fun G' => (∀ c, ¬ (q ≤ c ∧ c < q + 16) → G' c = G c) ∧ Xq q w G') := by
  have hs : ∀ b, ∀ (G' : mG), (∀ c, ¬ (q ≤ c ∧ c < q + 16) → G' c = G c) → ∀ k, aok b k → G' (p + (b - 1)) k = w b k := fun b G' hG' k hk => by
    rw [hG' _ (by have := hk.lo; omega)]
    exact h b k hk
  unfold P_X7_copyFrom
  refine Ok.pu ?_
  refine Ok.cp (by omega) (fun G2 f2 e2 => ?_)
  refine Ok.cp (by omega) (fun G3 f3 e3 => ?_)
  refine Ok.cp (by omega) (fun G4 f4 e4 => ?_)
  refine Ok.cp (by omega) (fun G5 f5 e5 => ?_)
  refine Ok.cp (by omega) (fun G6 f6 e6 => ?_)
  refine Ok.cp (by omega) (fun G7 f7 e7 => ?_)
  refine Ok.cp (by omega) (fun G8 f8 e8 => ?_)
  refine Ok.cp (by omega) (fun G9 f9 e9 => ?_)
  refine Ok.cp (by omega) (fun G10 f10 e10 => ?_)
  refine Ok.cp (by omega) (fun G11 f11 e11 => ?_)
  refine Ok.cp (by omega) (fun G12 f12 e12 => ?_)
  refine Ok.cp (by omega) (fun G13 f13 e13 => ?_)
  refine Ok.cp (by omega) (fun G14 f14 e14 => ?_)
  refine Ok.cp (by omega) (fun G15 f15 e15 => ?_)
  have k1 : ∀ c, ¬ (q ≤ c ∧ c < q + 16) → (up2 G q 0 (G p 0)) c = G c := fun c hc => up2_ne (by omega)
  have k2 : ∀ c, ¬ (q ≤ c ∧ c < q + 16) → G2 c = G c := fun c hc => (f2 c (by omega)).trans (k1 c hc)
  have k3 : ∀ c, ¬ (q ≤ c ∧ c < q + 16) → G3 c = G c := fun c hc => (f3 c (by omega)).trans (k2 c hc)
  have k4 : ∀ c, ¬ (q ≤ c ∧ c < q + 16) → G4 c = G c := fun c hc => (f4 c (by omega)).trans (k3 c hc)
  have k5 : ∀ c, ¬ (q ≤ c ∧ c < q + 16) → G5 c = G c := fun c hc => (f5 c (by omega)).trans (k4 c hc)
  have k6 : ∀ c, ¬ (q ≤ c ∧ c < q + 16) → G6 c = G c := fun c hc => (f6 c (by omega)).trans (k5 c hc)
  have k7 : ∀ c, ¬ (q ≤ c ∧ c < q + 16) → G7 c = G c := fun c hc => (f7 c (by omega)).trans (k6 c hc)
  have k8 : ∀ c, ¬ (q ≤ c ∧ c < q + 16) → G8 c = G c := fun c hc => (f8 c (by omega)).trans (k7 c hc)
  have k9 : ∀ c, ¬ (q ≤ c ∧ c < q + 16) → G9 c = G c := fun c hc => (f9 c (by omega)).trans (k8 c hc)
  have k10 : ∀ c, ¬ (q ≤ c ∧ c < q + 16) → G10 c = G c := fun c hc => (f10 c (by omega)).trans (k9 c hc)
  have k11 : ∀ c, ¬ (q ≤ c ∧ c < q + 16) → G11 c = G c := fun c hc => (f11 c (by omega)).trans (k10 c hc)
  have k12 : ∀ c, ¬ (q ≤ c ∧ c < q + 16) → G12 c = G c := fun c hc => (f12 c (by omega)).trans (k11 c hc)
  have k13 : ∀ c, ¬ (q ≤ c ∧ c < q + 16) → G13 c = G c := fun c hc => (f13 c (by omega)).trans (k12 c hc)
  have k14 : ∀ c, ¬ (q ≤ c ∧ c < q + 16) → G14 c = G c := fun c hc => (f14 c (by omega)).trans (k13 c hc)
  have k15 : ∀ c, ¬ (q ≤ c ∧ c < q + 16) → G15 c = G c := fun c hc => (f15 c (by omega)).trans (k14 c hc)
  have ep0 : G p 0 = w 1 0 := hs 1 G (fun _ _ => rfl) 0 (by simp [aok])
  have ez : G15 p 15 = w 1 15 := hs 1 G15 k15 15 (by simp [aok])
  refine Ok.puZ (by rw [ez]; exact hz) ?_
  have k16 : ∀ c, ¬ (q ≤ c ∧ c < q + 16) → (up2 G15 q 15 (G15 p 15)) c = G c := fun c hc => (up2_ne (by omega)).trans (k15 c hc)
  refine Ok.cp (by omega) (fun G17 f17 e17 => Ok.so ⟨fun c hc => ?_, fun b k h1 => ?_⟩)
  · rw [f17 c (by omega)]
    exact k16 c hc
  · match b, h1 with
    | 0, h1 => exact absurd h1.lo.1 (by omega)
    | 1, h1 =>
      show G17 (q + 0) k = w 1 k
      have h2 : k = 0 ∨ k = 15 := by
        unfold aok at h1
        omega
      rw [f17 _ (by omega), Nat.add_zero, up2_eq, up1_if, ez]
      rcases h2 with rfl | rfl
      · rw [if_neg (by omega), f15 _ (by omega), f14 _ (by omega), f13 _ (by omega), f12 _ (by omega), f11 _ (by omega), f10 _ (by omega), f9 _ (by omega), f8 _ (by omega), f7 _ (by omega), f6 _ (by omega), f5 _ (by omega), f4 _ (by omega), f3 _ (by omega), f2 _ (by omega), up2_eq, up1_eq]
        exact ep0
      · rw [if_pos rfl]
    | 2, h1 =>
      show G17 (q + 1) k = w 2 k
      have h2 : k < 6 := by simp [aok, asz] at h1; omega
      rw [f17 _ (by omega), up2_ne (b := q + 1) (by omega), f15 _ (by omega), f14 _ (by omega), f13 _ (by omega), f12 _ (by omega), f11 _ (by omega), f10 _ (by omega), f9 _ (by omega), f8 _ (by omega), f7 _ (by omega), f6 _ (by omega), f5 _ (by omega), f4 _ (by omega), f3 _ (by omega), e2 k h2]
      exact hs 2 _ k1 k h1
    | 3, h1 =>
      show G17 (q + 2) k = w 3 k
      have h2 : k < 6 := by simp [aok, asz] at h1; omega
      rw [f17 _ (by omega), up2_ne (b := q + 2) (by omega), f15 _ (by omega), f14 _ (by omega), f13 _ (by omega), f12 _ (by omega), f11 _ (by omega), f10 _ (by omega), f9 _ (by omega), f8 _ (by omega), f7 _ (by omega), f6 _ (by omega), f5 _ (by omega), f4 _ (by omega), e3 k h2]
      exact hs 3 _ k2 k h1
    | 4, h1 =>
      show G17 (q + 3) k = w 4 k
      have h2 : k < 6 := by simp [aok, asz] at h1; omega
      rw [f17 _ (by omega), up2_ne (b := q + 3) (by omega), f15 _ (by omega), f14 _ (by omega), f13 _ (by omega), f12 _ (by omega), f11 _ (by omega), f10 _ (by omega), f9 _ (by omega), f8 _ (by omega), f7 _ (by omega), f6 _ (by omega), f5 _ (by omega), e4 k h2]
      exact hs 4 _ k3 k h1
    | 5, h1 =>
      show G17 (q + 4) k = w 5 k
      have h2 : k < 6 := by simp [aok, asz] at h1; omega
      rw [f17 _ (by omega), up2_ne (b := q + 4) (by omega), f15 _ (by omega), f14 _ (by omega), f13 _ (by omega), f12 _ (by omega), f11 _ (by omega), f10 _ (by omega), f9 _ (by omega), f8 _ (by omega), f7 _ (by omega), f6 _ (by omega), e5 k h2]
      exact hs 5 _ k4 k h1
    | 6, h1 =>
      show G17 (q + 5) k = w 6 k
      have h2 : k < 6 := by simp [aok, asz] at h1; omega
      rw [f17 _ (by omega), up2_ne (b := q + 5) (by omega), f15 _ (by omega), f14 _ (by omega), f13 _ (by omega), f12 _ (by omega), f11 _ (by omega), f10 _ (by omega), f9 _ (by omega), f8 _ (by omega), f7 _ (by omega), e6 k h2]
      exact hs 6 _ k5 k h1
    | 7, h1 =>
      show G17 (q + 6) k = w 7 k
      have h2 : k < 30 := by simp [aok, asz] at h1; omega
      rw [f17 _ (by omega), up2_ne (b := q + 6) (by omega), f15 _ (by omega), f14 _ (by omega), f13 _ (by omega), f12 _ (by omega), f11 _ (by omega), f10 _ (by omega), f9 _ (by omega), f8 _ (by omega), e7 k h2]
      exact hs 7 _ k6 k h1
    | 8, h1 =>
      show G17 (q + 7) k = w 8 k
      have h2 : k < 30 := by simp [aok, asz] at h1; omega
      rw [f17 _ (by omega), up2_ne (b := q + 7) (by omega), f15 _ (by omega), f14 _ (by omega), f13 _ (by omega), f12 _ (by omega), f11 _ (by omega), f10 _ (by omega), f9 _ (by omega), e8 k h2]
      exact hs 8 _ k7 k h1
    | 9, h1 =>
      show G17 (q + 8) k = w 9 k
      have h2 : k < 4 := by simp [aok, asz] at h1; omega
      rw [f17 _ (by omega), up2_ne (b := q + 8) (by omega), f15 _ (by omega), f14 _ (by omega), f13 _ (by omega), f12 _ (by omega), f11 _ (by omega), f10 _ (by omega), e9 k h2]
      exact hs 9 _ k8 k h1
    | 10, h1 =>
      show G17 (q + 9) k = w 10 k
      have h2 : k < 16 := by simp [aok, asz] at h1; omega
      rw [f17 _ (by omega), up2_ne (b := q + 9) (by omega), f15 _ (by omega), f14 _ (by omega), f13 _ (by omega), f12 _ (by omega), f11 _ (by omega), e10 k h2]
      exact hs 10 _ k9 k h1
    | 11, h1 =>
      show G17 (q + 10) k = w 11 k
      have h2 : k < 16 := by simp [aok, asz] at h1; omega
      rw [f17 _ (by omega), up2_ne (b := q + 10) (by omega), f15 _ (by omega), f14 _ (by omega), f13 _ (by omega), f12 _ (by omega), e11 k h2]
      exact hs 11 _ k10 k h1
    | 12, h1 =>
      show G17 (q + 11) k = w 12 k
      have h2 : k < 4 := by simp [aok, asz] at h1; omega
      rw [f17 _ (by omega), up2_ne (b := q + 11) (by omega), f15 _ (by omega), f14 _ (by omega), f13 _ (by omega), e12 k h2]
      exact hs 12 _ k11 k h1
    | 13, h1 =>
      show G17 (q + 12) k = w 13 k
      have h2 : k < 4 := by simp [aok, asz] at h1; omega
      rw [f17 _ (by omega), up2_ne (b := q + 12) (by omega), f15 _ (by omega), f14 _ (by omega), e13 k h2]
      exact hs 13 _ k12 k h1
    | 14, h1 =>
      show G17 (q + 13) k = w 14 k
      have h2 : k < 16 := by simp [aok, asz] at h1; omega
      rw [f17 _ (by omega), up2_ne (b := q + 13) (by omega), f15 _ (by omega), e14 k h2]
      exact hs 14 _ k13 k h1
    | 15, h1 =>
      show G17 (q + 14) k = w 15 k
      have h2 : k < 6 := by simp [aok, asz] at h1; omega
      rw [f17 _ (by omega), up2_ne (b := q + 14) (by omega), e15 k h2]
      exact hs 15 _ k14 k h1
    | 16, h1 =>
      show G17 (q + 15) k = w 16 k
      have h2 : k < 30 := by simp [aok, asz] at h1; omega
      rw [e17 k h2]
      exact hs 16 _ k16 k h1
    | m + 17, h1 => exact absurd h1.lo.2 (by omega)
