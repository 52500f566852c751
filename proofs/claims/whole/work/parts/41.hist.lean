/-! ===== what is kept of earlier states: the class's ring of shops ===== -/
def rOf (a : Nat) : List (Option Nat) := (List.range 8).map (fun s => if s < a then some (76 + 16 * s) else none)
def tlOf : Nat → List mSh
  | 0 => []
  | a + 1 => tlOf a ++ shCells (76 + 16 * a)
theorem shCells_len (q : Nat) : (shCells q).length = 16 := rfl
theorem tlOf_len : ∀ a : Nat, (tlOf a).length = 16 * a
  | 0 => rfl
  | a + 1 => by
    show (tlOf a ++ shCells (76 + 16 * a)).length = _
    rw [List.length_append, tlOf_len a, shCells_len]
    omega
theorem tlOf_get {s k : Nat} (hk : k < 16) : ∀ {a : Nat}, s < a → (tlOf a)[16 * s + k]? = (shCells (76 + 16 * s))[k]?
  | 0, h => absurd h (Nat.not_lt_zero _)
  | a + 1, h => by
    show (tlOf a ++ shCells (76 + 16 * a))[16 * s + k]? = _
    by_cases hs : s = a
    · subst hs
      rw [List.getElem?_append_right (by rw [tlOf_len]; omega), tlOf_len]
      congr 1
      omega
    · rw [List.getElem?_append_left (by rw [tlOf_len]; omega)]
      exact tlOf_get hk (by omega)
theorem mSH_hi (r : List (Option Nat)) (tl : List mSh) (i : Nat) : (mSH r tl)[i + 76]? = tl[i]? := rfl
theorem mShop_of {a s : Nat} (r : List (Option Nat)) (hs : s < a) : shB (mSH r (tlOf a)) (76 + 16 * s) = true := by
  refine shB_mk ?_
  have key : ∀ k, k < 16 → (mSH r (tlOf a))[76 + 16 * s + k]? = (shCells (76 + 16 * s))[k]? := fun k hk => by
    rw [show 76 + 16 * s + k = (16 * s + k) + 76 by omega, mSH_hi, tlOf_get hk hs]
  exact ⟨key 0 (by omega), key 1 (by omega), key 2 (by omega), key 3 (by omega), key 4 (by omega), key 5 (by omega), key 6 (by omega), key 7 (by omega), key 8 (by omega), key 9 (by omega), key 10 (by omega), key 11 (by omega), key 12 (by omega), key 13 (by omega), key 14 (by omega), key 15 (by omega)⟩
theorem rOf_get {a s : Nat} (hs : s < 8) : (rOf a)[s]? = some (if s < a then some (76 + 16 * s) else none) := by
  unfold rOf
  rw [List.getElem?_map, List.getElem?_range hs]
  rfl
theorem rOf_set {a : Nat} (ha : a < 8) : (rOf a).set a (some (76 + 16 * a)) = rOf (a + 1) := by
  refine List.ext_getElem? fun i => ?_
  rw [List.getElem?_set]
  by_cases hi : i < 8
  · rw [rOf_get hi, rOf_get hi]
    by_cases h : a = i
    · subst h
      rw [if_pos rfl, if_pos (by unfold rOf; simp; exact hi), if_pos (by omega)]
    · rw [if_neg h]
      congr 1
      by_cases h2 : i < a
      · rw [if_pos h2, if_pos (by omega)]
      · rw [if_neg h2, if_neg (by omega)]
  · rw [if_neg (by omega), List.getElem?_eq_none (by unfold rOf; simp; omega), List.getElem?_eq_none (by unfold rOf; simp; omega)]
/-- a shop at q holds w -/
def Xq (q : Nat) (w : wS) (G : mG) : Prop := ∀ b k, aok b k → G (q + (b - 1)) k = w b k
theorem Xq_XS {w : wS} {G : mG} : Xq 1 w G ↔ XS w G := by
  constructor
  · intro h b k h1
    have := h b k h1
    rw [show 1 + (b - 1) = b by have := h1.lo; omega] at this
    exact this
  · intro h b k h1
    rw [show 1 + (b - 1) = b by have := h1.lo; omega]
    exact h b k h1
theorem S_copy {G : mG} {a b n : Nat} (hn : n ≤ 1000) : P_X7_copy a n b n G = some (upG G b (cpyF (G a) (G b) 0 0 n)) := by
  have h1 : iMin (n : Int) (n : Int) = (n : Int) := by
    rw [iMin_id (by omega) (by omega) (by omega) (by omega)]
    omega
  have h0 : w32 0 = 0 := w32_id (by omega) (by omega)
  have h2 : w32 (n : Int) = (n : Int) := w32_id (by omega) (by omega)
  unfold P_X7_copy acp
  rw [h1, h0, h2]
  have h3 : decide ((0 : Int) ≤ 0 ∧ (0 : Int) ≤ 0 ∧ (0 : Int) ≤ (n : Int) ∧ (0 : Int) + (n : Int) ≤ (n : Int) ∧ (0 : Int) + (n : Int) ≤ (n : Int)) = true := decide_eq_true ⟨by omega, by omega, by omega, by omega, by omega⟩
  rw [h3, mIx_nat (by omega)]
  have h4 : mIx 0 = 0 := mIx_nat (k := 0) (by omega)
  rw [h4]
  rfl
theorem cpyF_in {f g : Nat → Int} {n k : Nat} (h : k < n) : cpyF f g 0 0 n k = f k := by
  unfold cpyF
  rw [if_pos ⟨Nat.zero_le _, by omega⟩]
  congr 1
  omega
theorem Ok.cp {X : Type} {Q : X → Prop} {G : mG} {a b n : Nat} {f : mG → Option X} (hn : n ≤ 1000) (h : ∀ G', (∀ c, c ≠ b → G' c = G c) → (∀ k, k < n → G' b k = G a k) → Ok (f G') Q) : Ok ((P_X7_copy a n b n G).bind f) Q := Ok.eq (S_copy hn) (h _ (fun c hc => upG_ne hc) (fun k hk => by rw [upG_eq]; exact cpyF_in hk))
theorem S_copyFrom {q p : Nat} {w : wS} {G : mG} (hpq : p + 16 ≤ q ∨ q + 16 ≤ p) (hz : w 1 15 = 0 ∨ w 1 15 = 1) (h : Xq p w G) : Ok (P_X7_copyFrom q p G) (fun G' => (∀ c, ¬ (q ≤ c ∧ c < q + 16) → G' c = G c) ∧ Xq q w G') := by
  have hs : ∀ b, ∀ (G' : mG), (∀ c, ¬ (q ≤ c ∧ c < q + 16) → G' c = G c) → ∀ k, aok b k → G' (p + (b - 1)) k = w b k := fun b G' hG' k hk => by
    rw [hG' _ (by have := hk.lo; omega)]
    exact h b k hk
  unfold P_X7_copyFrom
  refine Ok.pu ?_
  refine Ok.cp (by omega) (fun G2 f2 e2 => ?_)
  refine Ok.cp (by omega) (fun G3 f3 e3 => ?_)
  refine Ok.cp (by omega) (fun G4 f4 e4 => ?_)
  refine Ok.cp (by omega) (fun G5 f5 e5 => ?_)
  refine Ok.cp (by omega) (fun G6 f6 e6 => ?_)
  refine Ok.cp (by omega) (fun G7 f7 e7 => ?_)
  refine Ok.cp (by omega) (fun G8 f8 e8 => ?_)
  refine Ok.cp (by omega) (fun G9 f9 e9 => ?_)
  refine Ok.cp (by omega) (fun G10 f10 e10 => ?_)
  refine Ok.cp (by omega) (fun G11 f11 e11 => ?_)
  refine Ok.cp (by omega) (fun G12 f12 e12 => ?_)
  refine Ok.cp (by omega) (fun G13 f13 e13 => ?_)
  refine Ok.cp (by omega) (fun G14 f14 e14 => ?_)
  refine Ok.cp (by omega) (fun G15 f15 e15 => ?_)
  have k1 : ∀ c, ¬ (q ≤ c ∧ c < q + 16) → (up2 G q 0 (G p 0)) c = G c := fun c hc => up2_ne (by omega)
  have k2 : ∀ c, ¬ (q ≤ c ∧ c < q + 16) → G2 c = G c := fun c hc => (f2 c (by omega)).trans (k1 c hc)
  have k3 : ∀ c, ¬ (q ≤ c ∧ c < q + 16) → G3 c = G c := fun c hc => (f3 c (by omega)).trans (k2 c hc)
  have k4 : ∀ c, ¬ (q ≤ c ∧ c < q + 16) → G4 c = G c := fun c hc => (f4 c (by omega)).trans (k3 c hc)
  have k5 : ∀ c, ¬ (q ≤ c ∧ c < q + 16) → G5 c = G c := fun c hc => (f5 c (by omega)).trans (k4 c hc)
  have k6 : ∀ c, ¬ (q ≤ c ∧ c < q + 16) → G6 c = G c := fun c hc => (f6 c (by omega)).trans (k5 c hc)
  have k7 : ∀ c, ¬ (q ≤ c ∧ c < q + 16) → G7 c = G c := fun c hc => (f7 c (by omega)).trans (k6 c hc)
  have k8 : ∀ c, ¬ (q ≤ c ∧ c < q + 16) → G8 c = G c := fun c hc => (f8 c (by omega)).trans (k7 c hc)
  have k9 : ∀ c, ¬ (q ≤ c ∧ c < q + 16) → G9 c = G c := fun c hc => (f9 c (by omega)).trans (k8 c hc)
  have k10 : ∀ c, ¬ (q ≤ c ∧ c < q + 16) → G10 c = G c := fun c hc => (f10 c (by omega)).trans (k9 c hc)
  have k11 : ∀ c, ¬ (q ≤ c ∧ c < q + 16) → G11 c = G c := fun c hc => (f11 c (by omega)).trans (k10 c hc)
  have k12 : ∀ c, ¬ (q ≤ c ∧ c < q + 16) → G12 c = G c := fun c hc => (f12 c (by omega)).trans (k11 c hc)
  have k13 : ∀ c, ¬ (q ≤ c ∧ c < q + 16) → G13 c = G c := fun c hc => (f13 c (by omega)).trans (k12 c hc)
  have k14 : ∀ c, ¬ (q ≤ c ∧ c < q + 16) → G14 c = G c := fun c hc => (f14 c (by omega)).trans (k13 c hc)
  have k15 : ∀ c, ¬ (q ≤ c ∧ c < q + 16) → G15 c = G c := fun c hc => (f15 c (by omega)).trans (k14 c hc)
  have ep0 : G p 0 = w 1 0 := hs 1 G (fun _ _ => rfl) 0 (by simp [aok])
  have ez : G15 p 15 = w 1 15 := hs 1 G15 k15 15 (by simp [aok])
  refine Ok.puZ (by rw [ez]; exact hz) ?_
  have k16 : ∀ c, ¬ (q ≤ c ∧ c < q + 16) → (up2 G15 q 15 (G15 p 15)) c = G c := fun c hc => (up2_ne (by omega)).trans (k15 c hc)
  refine Ok.cp (by omega) (fun G17 f17 e17 => Ok.so ⟨fun c hc => ?_, fun b k h1 => ?_⟩)
  · rw [f17 c (by omega)]
    exact k16 c hc
  · match b, h1 with
    | 0, h1 => exact absurd h1.lo.1 (by omega)
    | 1, h1 =>
      show G17 (q + 0) k = w 1 k
      have h2 : k = 0 ∨ k = 15 := by
        unfold aok at h1
        omega
      rw [f17 _ (by omega), Nat.add_zero, up2_eq, up1_if, ez]
      rcases h2 with rfl | rfl
      · rw [if_neg (by omega), f15 _ (by omega), f14 _ (by omega), f13 _ (by omega), f12 _ (by omega), f11 _ (by omega), f10 _ (by omega), f9 _ (by omega), f8 _ (by omega), f7 _ (by omega), f6 _ (by omega), f5 _ (by omega), f4 _ (by omega), f3 _ (by omega), f2 _ (by omega), up2_eq, up1_eq]
        exact ep0
      · rw [if_pos rfl]
    | 2, h1 =>
      show G17 (q + 1) k = w 2 k
      have h2 : k < 6 := by simp [aok, asz] at h1; omega
      rw [f17 _ (by omega), up2_ne (b := q + 1) (by omega), f15 _ (by omega), f14 _ (by omega), f13 _ (by omega), f12 _ (by omega), f11 _ (by omega), f10 _ (by omega), f9 _ (by omega), f8 _ (by omega), f7 _ (by omega), f6 _ (by omega), f5 _ (by omega), f4 _ (by omega), f3 _ (by omega), e2 k h2]
      exact hs 2 _ k1 k h1
    | 3, h1 =>
      show G17 (q + 2) k = w 3 k
      have h2 : k < 6 := by simp [aok, asz] at h1; omega
      rw [f17 _ (by omega), up2_ne (b := q + 2) (by omega), f15 _ (by omega), f14 _ (by omega), f13 _ (by omega), f12 _ (by omega), f11 _ (by omega), f10 _ (by omega), f9 _ (by omega), f8 _ (by omega), f7 _ (by omega), f6 _ (by omega), f5 _ (by omega), f4 _ (by omega), e3 k h2]
      exact hs 3 _ k2 k h1
    | 4, h1 =>
      show G17 (q + 3) k = w 4 k
      have h2 : k < 6 := by simp [aok, asz] at h1; omega
      rw [f17 _ (by omega), up2_ne (b := q + 3) (by omega), f15 _ (by omega), f14 _ (by omega), f13 _ (by omega), f12 _ (by omega), f11 _ (by omega), f10 _ (by omega), f9 _ (by omega), f8 _ (by omega), f7 _ (by omega), f6 _ (by omega), f5 _ (by omega), e4 k h2]
      exact hs 4 _ k3 k h1
    | 5, h1 =>
      show G17 (q + 4) k = w 5 k
      have h2 : k < 6 := by simp [aok, asz] at h1; omega
      rw [f17 _ (by omega), up2_ne (b := q + 4) (by omega), f15 _ (by omega), f14 _ (by omega), f13 _ (by omega), f12 _ (by omega), f11 _ (by omega), f10 _ (by omega), f9 _ (by omega), f8 _ (by omega), f7 _ (by omega), f6 _ (by omega), e5 k h2]
      exact hs 5 _ k4 k h1
    | 6, h1 =>
      show G17 (q + 5) k = w 6 k
      have h2 : k < 6 := by simp [aok, asz] at h1; omega
      rw [f17 _ (by omega), up2_ne (b := q + 5) (by omega), f15 _ (by omega), f14 _ (by omega), f13 _ (by omega), f12 _ (by omega), f11 _ (by omega), f10 _ (by omega), f9 _ (by omega), f8 _ (by omega), f7 _ (by omega), e6 k h2]
      exact hs 6 _ k5 k h1
    | 7, h1 =>
      show G17 (q + 6) k = w 7 k
      have h2 : k < 30 := by simp [aok, asz] at h1; omega
      rw [f17 _ (by omega), up2_ne (b := q + 6) (by omega), f15 _ (by omega), f14 _ (by omega), f13 _ (by omega), f12 _ (by omega), f11 _ (by omega), f10 _ (by omega), f9 _ (by omega), f8 _ (by omega), e7 k h2]
      exact hs 7 _ k6 k h1
    | 8, h1 =>
      show G17 (q + 7) k = w 8 k
      have h2 : k < 30 := by simp [aok, asz] at h1; omega
      rw [f17 _ (by omega), up2_ne (b := q + 7) (by omega), f15 _ (by omega), f14 _ (by omega), f13 _ (by omega), f12 _ (by omega), f11 _ (by omega), f10 _ (by omega), f9 _ (by omega), e8 k h2]
      exact hs 8 _ k7 k h1
    | 9, h1 =>
      show G17 (q + 8) k = w 9 k
      have h2 : k < 4 := by simp [aok, asz] at h1; omega
      rw [f17 _ (by omega), up2_ne (b := q + 8) (by omega), f15 _ (by omega), f14 _ (by omega), f13 _ (by omega), f12 _ (by omega), f11 _ (by omega), f10 _ (by omega), e9 k h2]
      exact hs 9 _ k8 k h1
    | 10, h1 =>
      show G17 (q + 9) k = w 10 k
      have h2 : k < 16 := by simp [aok, asz] at h1; omega
      rw [f17 _ (by omega), up2_ne (b := q + 9) (by omega), f15 _ (by omega), f14 _ (by omega), f13 _ (by omega), f12 _ (by omega), f11 _ (by omega), e10 k h2]
      exact hs 10 _ k9 k h1
    | 11, h1 =>
      show G17 (q + 10) k = w 11 k
      have h2 : k < 16 := by simp [aok, asz] at h1; omega
      rw [f17 _ (by omega), up2_ne (b := q + 10) (by omega), f15 _ (by omega), f14 _ (by omega), f13 _ (by omega), f12 _ (by omega), e11 k h2]
      exact hs 11 _ k10 k h1
    | 12, h1 =>
      show G17 (q + 11) k = w 12 k
      have h2 : k < 4 := by simp [aok, asz] at h1; omega
      rw [f17 _ (by omega), up2_ne (b := q + 11) (by omega), f15 _ (by omega), f14 _ (by omega), f13 _ (by omega), e12 k h2]
      exact hs 12 _ k11 k h1
    | 13, h1 =>
      show G17 (q + 12) k = w 13 k
      have h2 : k < 4 := by simp [aok, asz] at h1; omega
      rw [f17 _ (by omega), up2_ne (b := q + 12) (by omega), f15 _ (by omega), f14 _ (by omega), e13 k h2]
      exact hs 13 _ k12 k h1
    | 14, h1 =>
      show G17 (q + 13) k = w 14 k
      have h2 : k < 16 := by simp [aok, asz] at h1; omega
      rw [f17 _ (by omega), up2_ne (b := q + 13) (by omega), f15 _ (by omega), e14 k h2]
      exact hs 14 _ k13 k h1
    | 15, h1 =>
      show G17 (q + 14) k = w 15 k
      have h2 : k < 6 := by simp [aok, asz] at h1; omega
      rw [f17 _ (by omega), up2_ne (b := q + 14) (by omega), e15 k h2]
      exact hs 15 _ k14 k h1
    | 16, h1 =>
      show G17 (q + 15) k = w 16 k
      have h2 : k < 30 := by simp [aok, asz] at h1; omega
      rw [e17 k h2]
      exact hs 16 _ k16 k h1
    | m + 17, h1 => exact absurd h1.lo.2 (by omega)
def HC (h : Nat → wS) (len a np : Nat) (G : mG) : Prop := G 0 13 = (np : Int) ∧ G 0 14 = (len : Int) ∧ np < 8 ∧ np ≤ a ∧ a ≤ 8 ∧ len ≤ 8 ∧ ∀ i, i < len → (np + 7 - i) % 8 < a ∧ Xq (76 + 16 * ((np + 7 - i) % 8)) (h i) G
def psh (w : wS) (h : Nat → wS) : Nat → wS
  | 0 => w
  | i + 1 => h i
theorem Xq_fr {q : Nat} {w : wS} {G G' : mG} (h : ∀ c, q ≤ c → c < q + 16 → G' c = G c) (hx : Xq q w G) : Xq q w G' := fun b k hk => by
  have := hk.lo
  rw [h _ (by omega) (by omega)]
  exact hx b k hk
theorem HC_fr {h : Nat → wS} {len a np : Nat} {G G' : mG} (h0 : G' 0 13 = G 0 13 ∧ G' 0 14 = G 0 14) (hf : ∀ b, 76 ≤ b → G' b = G b) (hH : HC h len a np G) : HC h len a np G' := by
  obtain ⟨h1, h2, h3, h4, h5, h6, h7⟩ := hH
  exact ⟨h0.1.trans h1, h0.2.trans h2, h3, h4, h5, h6, fun i hi => ⟨(h7 i hi).1, Xq_fr (fun c hc _ => hf c (by omega)) (h7 i hi).2⟩⟩
theorem S_rem2 {w : wS} {h : Nat → wS} {len a np n k : Nat} {G : mG} (hx : XS w G) (hz : w 1 15 = 0 ∨ w 1 15 = 1) (hH : HC h len a np G) (hlt : np < a) : Ok (P_rem2 (76 + 16 * np) (rOf a, (tlOf a, (G, (n, k))))) (fun x => ∃ np' G', x = (.inl (), (rOf a, (tlOf a, (G', (n, k))))) ∧ HC (psh w h) (min (len + 1) 8) a np' G' ∧ (∀ b, 1 ≤ b → b ≤ 75 → G' b = G b)) := by
  obtain ⟨h1, h2, h3, h4, h5, h6, h7⟩ := hH
  unfold P_rem2
  refine Ok.iteT (mShop_of _ hlt) ?_
  refine Ok.bind (S_copyFrom (q := 76 + 16 * np) (p := 1) (Or.inl (by omega)) hz (Xq_XS.mpr hx)) (fun G2 hG2 => ?_)
  have e13 : G2 0 13 = (np : Int) := by rw [hG2.1 0 (by omega)]; exact h1
  have e14 : G2 0 14 = (len : Int) := by rw [hG2.1 0 (by omega)]; exact h2
  refine Ok.pu ?_
  refine Ok.pu (Ok.so ⟨(np + 1) % 8, _, rfl, ?_, ?_⟩)
  · have v13 : iRem (G2 0 13 + 1) 8 = (((np + 1) % 8 : Nat) : Int) := by
      rw [e13, iRem_id (by omega) (by omega) (by omega) (by omega)]
      omega
    have e14' : up2 G2 0 13 (iRem (G2 0 13 + 1) 8) 0 14 = (len : Int) := by
      rw [up2_eq, up1_ne (by omega)]
      exact e14
    have v14 : iMin (up2 G2 0 13 (iRem (G2 0 13 + 1) 8) 0 14 + 1) 8 = ((min (len + 1) 8 : Nat) : Int) := by
      rw [e14', iMin_id (by omega) (by omega) (by omega) (by omega)]
      omega
    have hrest : ∀ c, 1 ≤ c → (up2 (up2 G2 0 13 (iRem (G2 0 13 + 1) 8)) 0 14 (iMin (up2 G2 0 13 (iRem (G2 0 13 + 1) 8) 0 14 + 1) 8)) c = G2 c := fun c hc => by rw [up2_ne (by omega), up2_ne (by omega)]
    refine ⟨?_, ?_, by omega, by omega, h5, by omega, fun i hi => ?_⟩
    · rw [up2_eq, up1_ne (by omega), up2_eq, up1_eq]
      exact v13
    · rw [up2_eq, up1_eq]
      exact v14
    · cases i with
      | zero =>
        have e : ((np + 1) % 8 + 7 - 0) % 8 = np := by omega
        rw [e]
        exact ⟨hlt, Xq_fr (fun c hc _ => hrest c (by omega)) hG2.2⟩
      | succ i =>
        have hi' : i < len := by omega
        have e : ((np + 1) % 8 + 7 - (i + 1)) % 8 = (np + 7 - i) % 8 := by omega
        have hne : (np + 7 - i) % 8 ≠ np := by omega
        rw [e]
        refine ⟨(h7 i hi').1, Xq_fr (fun c hc hc2 => ?_) (h7 i hi').2⟩
        rw [hrest c (by omega)]
        exact hG2.1 c (by omega)
  · intro b hb1 hb2
    rw [up2_ne (by omega), up2_ne (by omega)]
    exact hG2.1 b (by omega)
theorem zG_ne {G : mG} {q b : Nat} : ∀ {k : Nat}, ¬ (q ≤ b ∧ b ≤ q + k) → zG G q k b = G b
  | 0, h => upG_ne (by omega)
  | k + 1, h => (upG_ne (by omega)).trans (zG_ne (k := k) (by omega))
theorem S_remember {w : wS} {h : Nat → wS} {len a np n k : Nat} {G : mG} (hx : XS w G) (hz : w 1 15 = 0 ∨ w 1 15 = 1) (hH : HC h len a np G) : Ok (P_X10_remember (rOf a, (tlOf a, (G, (n, k))))) (fun x => ∃ a' np' G' n' k', x = (.inl (), (rOf a', (tlOf a', (G', (n', k'))))) ∧ HC (psh w h) (min (len + 1) 8) a' np' G' ∧ (∀ b, 1 ≤ b → b ≤ 75 → G' b = G b) ∧ a ≤ a' ∧ n' + 16 * a = n + 16 * a' ∧ k' + 203 * a = k + 203 * a') := by
  obtain ⟨h1, h2, h3, h4, h5, h6, h7⟩ := id hH
  unfold P_X10_remember
  have e1 : rld (rOf a) 8 (G 0 13) = some (if np < a then some (76 + 16 * np) else none) := by
    unfold rld
    rw [h1, mIn_id (by omega) (by omega) (by omega), mIx_nat (by omega), rOf_get h3]
    rfl
  refine Ok.eq e1 ?_
  by_cases hlt : np < a
  · rw [if_pos hlt]
    refine Ok.w (S_rem2 hx hz hH hlt) (fun x hx2 => ?_)
    obtain ⟨np', G', e, g1, g2⟩ := hx2
    exact ⟨a, np', G', n, k, e, g1, g2, Nat.le_refl a, rfl, rfl⟩
  · rw [if_neg hlt]
    have ha : np = a := by omega
    subst ha
    have el : (tlOf np).length + 76 = 76 + 16 * np := by
      rw [tlOf_len]
      omega
    have em : mIx (G 0 13) = np := by rw [h1, mIx_nat (by omega)]
    show Ok (P_rem2 ((tlOf np).length + 76) ((rOf np).set (mIx (G 0 13)) (some ((tlOf np).length + 76)), (tlOf np ++ shCells ((tlOf np).length + 76), (zG G ((tlOf np).length + 76) 15, (n + 16, k + 203))))) _
    rw [el, em, rOf_set h3]
    have hz0 : ∀ b, b < 76 + 16 * np → zG G (76 + 16 * np) 15 b = G b := fun b hb => zG_ne (by omega)
    have hx2 : XS w (zG G (76 + 16 * np) 15) := fun b i hb => by
      have := hb.lo
      rw [hz0 b (by omega)]
      exact hx b i hb
    have hH2 : HC h len (np + 1) np (zG G (76 + 16 * np) 15) := by
      refine ⟨?_, ?_, h3, by omega, by omega, h6, fun i hi => ⟨by have := (h7 i hi).1; omega, Xq_fr (fun c hc hc2 => hz0 c ?_) (h7 i hi).2⟩⟩
      · rw [hz0 0 (by omega)]
        exact h1
      · rw [hz0 0 (by omega)]
        exact h2
      · have := (h7 i hi).1
        omega
    refine Ok.w (S_rem2 (a := np + 1) (n := n + 16) (k := k + 203) hx2 hz hH2 (by omega)) (fun x hx3 => ?_)
    obtain ⟨np', G', e, g1, g2⟩ := hx3
    refine ⟨np + 1, np', G', n + 16, k + 203, e, g1, fun b hb1 hb2 => ?_, by omega, by omega, by omega⟩
    rw [g2 b hb1 hb2]
    exact hz0 b (by omega)
theorem S_undo {w : wS} {h : Nat → wS} {len a np n k : Nat} {G : mG} (hx : XS w G) (hH : HC h len a np G) (hok : ∀ i, i < len → Wok (h i) ∧ Pok (h i)) : Ok (P_X10_undo (rOf a, (tlOf a, (G, (n, k))))) (fun x => (len = 0 ∧ x = (.inl (-1), (rOf a, (tlOf a, (G, (n, k)))))) ∨ (0 < len ∧ ∃ np' G', x = (.inl ((len - 1 : Nat) : Int), (rOf a, (tlOf a, (G', (n, k))))) ∧ HC (fun i => h (i + 1)) (len - 1) a np' G' ∧ XS (h 0) G' ∧ TT 17 (h 0) D0 (qRw (h 0)) (qLn (h 0)) G' ∧ (∀ b, 26 ≤ b → b ≤ 75 → G' b = G b))) := by
  obtain ⟨h1, h2, h3, h4, h5, h6, h7⟩ := id hH
  unfold P_X10_undo
  show Ok (bif ieq (G 0 14) 0 then _ else _) _
  rw [h2]
  refine Ok.cd (ieq_id (by omega) (by omega) (by omega) (by omega)) (fun hl => ?_) (fun hl => ?_)
  · exact Ok.so (Or.inl ⟨by omega, rfl⟩)
  · have hlen : 0 < len := by omega
    have hs0 := h7 0 hlen
    have hw0 := hok 0 hlen
    refine Ok.pu ?_
    refine Ok.pu ?_
    have v13 : iRem ((G 0 13 + 8) - 1) 8 = (((np + 7) % 8 : Nat) : Int) := by
      rw [h1, iRem_id (by omega) (by omega) (by omega) (by omega)]
      omega
    show Ok ((rld (rOf a) 8 _).bind _) _
    generalize hG2 : up2 (up2 G 0 13 (iRem ((G 0 13 + 8) - 1) 8)) 0 14 (up2 G 0 13 (iRem ((G 0 13 + 8) - 1) 8) 0 14 - 1) = G2
    have f2 : ∀ b, 1 ≤ b → G2 b = G b := fun b hb => by rw [← hG2, up2_ne (by omega), up2_ne (by omega)]
    have e13 : G2 0 13 = (((np + 7) % 8 : Nat) : Int) := by
      rw [← hG2, up2_eq, up1_ne (by omega), up2_eq, up1_eq]
      exact v13
    have e14 : G2 0 14 = ((len - 1 : Nat) : Int) := by
      rw [← hG2, up2_eq, up1_eq, up2_eq, up1_ne (by omega), h2]
      omega
    have e1 : rld (rOf a) 8 (G2 0 13) = some (some (76 + 16 * ((np + 7 - 0) % 8))) := by
      unfold rld
      rw [e13, mIn_id (by omega) (by omega) (by omega), mIx_nat (by omega), rOf_get (by omega), if_pos (by have := hs0.1; omega)]
      rfl
    refine Ok.eq e1 ?_
    refine Ok.iteT (mShop_of _ hs0.1) ?_
    have hq : Xq (76 + 16 * ((np + 7 - 0) % 8)) (h 0) G2 := Xq_fr (fun c hc _ => f2 c (by omega)) hs0.2
    refine Ok.bind (S_copyFrom (q := 1) (p := 76 + 16 * ((np + 7 - 0) % 8)) (Or.inr (by omega)) hw0.1.2.2.2.2.2.2.2.1 hq) (fun G3 hG3 => ?_)
    have hx3 : XS (h 0) G3 := Xq_XS.mp hG3.2
    refine Ok.bind (S_replay (t := 17) hw0.1 hx3 (by omega) hw0.2) (fun G4 hG4 => Ok.so (Or.inr ⟨hlen, (np + 7) % 8, G4, ?_, ?_, hG4.2.xs (by omega) hx3, hG4.1, fun b hb1 hb2 => ?_⟩))
    · have : G4 0 14 = ((len - 1 : Nat) : Int) := by
        rw [hG4.2 0 (by omega), hG3.1 0 (by omega)]
        exact e14
      rw [this]
    · have f4 : ∀ b, b = 0 ∨ 76 ≤ b → G4 b = G2 b := fun b hb => by rw [hG4.2 b (by omega), hG3.1 b (by omega)]
      refine ⟨?_, ?_, by omega, by have := hs0.1; omega, h5, by omega, fun i hi => ?_⟩
      · rw [f4 0 (Or.inl rfl)]
        exact e13
      · rw [f4 0 (Or.inl rfl)]
        exact e14
      · have h8 := h7 (i + 1) (by omega)
        have e : ((np + 7) % 8 + 7 - i) % 8 = (np + 7 - (i + 1)) % 8 := by omega
        rw [e]
        refine ⟨h8.1, Xq_fr (fun c hc _ => ?_) h8.2⟩
        rw [f4 c (by omega)]
        exact f2 c (by omega)
    · rw [hG4.2 b (by omega), hG3.1 b (by omega)]
      exact f2 b (by omega)
