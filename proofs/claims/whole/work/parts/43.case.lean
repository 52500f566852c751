/-! ===== one call of the law: what stands ahead of it, behind it ===== -/
def I32 (v : Int) : Prop := -2147483648 ≤ v ∧ v < 2147483648
def PI (w : wS) (h : Nat → wS) (len : Nat) : Prop := Wok w ∧ Pok w ∧ ∀ i, i < len → Wok (h i) ∧ Pok (h i)
def IV (w : wS) (h : Nat → wS) (len a np : Nat) (G : mG) : Prop := PI w h len ∧ XS w G ∧ TT 17 w D0 (qRw w) (qLn w) G ∧ HC h len a np G ∧ MA w (G 57) ∧ MH h len G
def IW (c : Nat) (W : mW) : Prop := ∃ (w : wS) (h : Nat → wS) (len a np : Nat) (G : mG) (n k : Nat), W = (rOf a, (tlOf a, (G, (n, k)))) ∧ IV w h len a np G ∧ n ≤ 1000 + 16 * a + c ∧ k ≤ 100000 + 203 * a + 6 * c
def KQ (G G' : mG) : Prop := (∀ b, b ≤ 25 ∨ b = 57 ∨ b = 58 ∨ 76 ≤ b → G' b = G b) ∧ G' 56 2 = G 56 2
theorem KQ.rf (G : mG) : KQ G G := ⟨fun _ _ => rfl, rfl⟩
theorem KQ.tr {A B C : mG} (h1 : KQ A B) (h2 : KQ B C) : KQ A C := ⟨fun b hb => (h2.1 b hb).trans (h1.1 b hb), h2.2.trans h1.2⟩
theorem KQ.of {G G' : mG} (h : ∀ b, b ≤ 25 ∨ b = 56 ∨ b = 57 ∨ b = 58 ∨ 76 ≤ b → G' b = G b) : KQ G G' := ⟨fun b hb => h b (by omega), by rw [h 56 (by omega)]⟩
theorem KQ.up {G : mG} {a i : Nat} {x : Int} (h : (26 ≤ a ∧ a ≤ 55) ∨ (59 ≤ a ∧ a ≤ 75) ∨ (a = 56 ∧ i ≠ 2)) : KQ G (up2 G a i x) := by
  refine ⟨fun b hb => up2_ne (by omega), ?_⟩
  rw [up2_if]
  rw [if_neg (by omega)]
theorem KQ.xs {w : wS} {G G' : mG} (h : KQ G G') (hx : XS w G) : XS w G' := fun b i hb => by
  have := hb.lo
  rw [h.1 b (by omega)]
  exact hx b i hb
theorem IV.kq {w : wS} {h : Nat → wS} {len a np : Nat} {G G' : mG} (hI : IV w h len a np G) (hk : KQ G G') : IV w h len a np G' := by
  obtain ⟨h1, h2, h3, h4, h5, h6⟩ := hI
  refine ⟨h1, hk.xs h2, TT_fr (fun b hb1 hb2 => hk.1 b (by omega)) h3, HC_fr ⟨by rw [hk.1 0 (by omega)], by rw [hk.1 0 (by omega)]⟩ (fun b hb => hk.1 b (by omega)) h4, ?_, ?_⟩
  · rw [hk.1 57 (by omega)]
    exact h5
  · refine ⟨hk.2.trans h6.1, h6.2.1, fun i hi => ?_⟩
    rw [hk.1 58 (by omega)]
    exact h6.2.2 i hi
theorem IW.kq {c : Nat} {r : List (Option Nat)} {tl : List mSh} {G G' : mG} {n k n' k' : Nat} (h : IW c (r, (tl, (G, (n, k))))) (hk : KQ G G') (hn : n' ≤ n + 1) (hk2 : k' ≤ k + 6) : IW (c + 1) (r, (tl, (G', (n', k')))) := by
  obtain ⟨w, h, len, a, np, G0, n0, k0, e, hI, h1, h2⟩ := h
  obtain ⟨rfl, rfl, rfl, rfl, rfl⟩ : r = rOf a ∧ tl = tlOf a ∧ G = G0 ∧ n = n0 ∧ k = k0 := by
    simp only [Prod.mk.injEq] at e
    exact e
  exact ⟨w, h, len, a, np, G', n', k', rfl, hI.kq hk, by omega, by omega⟩
def exW (W : mW) : mW := (W.1, (W.2.1, (W.2.2.1, (W.2.2.2.1 + 1, W.2.2.2.2 + 6))))
section RL
variable {X Z T : Type} {W : mW} {p : Int}
theorem Ok.thr {Q : (Z ⊕ Nat) × mW → Prop} {q : Option ((T ⊕ Nat) × mW)} {f : T → mW → Option ((Z ⊕ Nat) × mW)} {P : (T ⊕ Nat) × mW → Prop} (h : Ok q P) (k1 : ∀ v W, P (.inl v, W) → Ok (f v W) Q) (k2 : ∀ E W, P (.inr E, W) → Q (.inr E, W)) : Ok (thrB q f) Q := by
  obtain ⟨⟨x, W⟩, rfl, hx⟩ := h
  cases x with
  | inl v => exact k1 v W hx
  | inr E => exact ⟨_, rfl, k2 E W hx⟩
theorem Ok.thr0 {Q : (Z ⊕ Nat) × mW → Prop} {q : Option ((T ⊕ Nat) × mW)} {f : T → mW → Option ((Z ⊕ Nat) × mW)} {v : T} {W' : mW} (h : q = some (.inl v, W')) (k1 : Ok (f v W') Q) : Ok (thrB q f) Q := by
  subst h
  exact k1
theorem Ok.thrE {Q : (Z ⊕ Nat) × mW → Prop} {q : Option ((T ⊕ Nat) × mW)} {f : T → mW → Option ((Z ⊕ Nat) × mW)} {E : Nat} {W' : mW} (h : q = some (.inr E, W')) (k1 : Q (.inr E, W')) : Ok (thrB q f) Q := by
  subst h
  exact ⟨_, rfl, k1⟩
theorem needMachine_eq (hp : I32 p) : P_X10_needMachine p W = some (if 0 ≤ p ∧ p < 4 then (.inl (), W) else (.inr 0, exW W)) := by
  unfold I32 at hp
  refine Ok.get ?_
  unfold P_X10_needMachine
  refine Ok.lk ?_
  refine Ok.cd (ilt_id (by omega) (by omega) (by omega) (by omega)) (fun h => ?_) (fun h => ?_)
  · rw [if_neg (by omega)]
    exact Ok.so rfl
  · refine Ok.cd (ilt_id (by omega) (by omega) (by omega) (by omega)) (fun h2 => ?_) (fun h2 => ?_)
    · rw [if_pos (by omega)]
      exact Ok.so rfl
    · rw [if_neg (by omega)]
      exact Ok.so rfl
theorem needKind_eq (hp : I32 p) : P_X10_needKind p W = some (if 0 ≤ p ∧ p < 4 then (.inl (), W) else (.inr 0, exW W)) := by
  unfold I32 at hp
  refine Ok.get ?_
  unfold P_X10_needKind
  refine Ok.lk ?_
  refine Ok.cd (ilt_id (by omega) (by omega) (by omega) (by omega)) (fun h => ?_) (fun h => ?_)
  · rw [if_neg (by omega)]
    exact Ok.so rfl
  · refine Ok.cd (ilt_id (by omega) (by omega) (by omega) (by omega)) (fun h2 => ?_) (fun h2 => ?_)
    · rw [if_pos (by omega)]
      exact Ok.so rfl
    · rw [if_neg (by omega)]
      exact Ok.so rfl
theorem needRange_eq {lo hi : Int} (hp : I32 p) (hl : I32 lo) (hh : I32 hi) : P_X10_needRange p lo hi W = some (if lo ≤ p ∧ p ≤ hi then (.inl (), W) else (.inr 1, exW W)) := by
  unfold I32 at hp hl hh
  refine Ok.get ?_
  unfold P_X10_needRange
  refine Ok.lk ?_
  refine Ok.cd (ilt_id (by omega) (by omega) (by omega) (by omega)) (fun h => ?_) (fun h => ?_)
  · rw [if_neg (by omega)]
    exact Ok.so rfl
  · refine Ok.cd (ilt_id (by omega) (by omega) (by omega) (by omega)) (fun h2 => ?_) (fun h2 => ?_)
    · rw [if_neg (by omega)]
      exact Ok.so rfl
    · rw [if_pos (by omega)]
      exact Ok.so rfl
theorem needRule_eq (hp : I32 p) : P_X10_needRule p W = some (if 0 ≤ p ∧ p ≤ 7 then (.inl (), W) else (.inr 1, exW W)) := by
  unfold P_X10_needRule thrB
  rw [needRange_eq hp (by unfold I32; omega) (by unfold I32; omega)]
  split <;> rfl
theorem needAim_eq (hp : I32 p) : P_X10_needAim p W = some (if 0 ≤ p ∧ p ≤ 4 then (.inl (), W) else (.inr 1, exW W)) := by
  unfold P_X10_needAim thrB
  rw [needRange_eq hp (by unfold I32; omega) (by unfold I32; omega)]
  split <;> rfl
theorem needMachines_eq (hp : I32 p) : P_X10_needMachines p W = some (if 0 ≤ p ∧ p ≤ 15 then (.inl (), W) else (.inr 1, exW W)) := by
  unfold P_X10_needMachines thrB
  rw [needRange_eq hp (by unfold I32; omega) (by unfold I32; omega)]
  split <;> rfl
theorem needJob_eq {w : wS} (hw : Wok w) (hx : XS w W.2.2.1) (hp : I32 p) : P_X10_needJob p W = some (if 0 ≤ p ∧ p < (qN w : Int) then (.inl (), W) else (.inr 0, exW W)) := by
  have hn := hw.n
  unfold I32 at hp
  refine Ok.get ?_
  unfold P_X10_needJob
  rw [hx.n hw]
  refine Ok.lk ?_
  refine Ok.cd (ilt_id (by omega) (by omega) (by omega) (by omega)) (fun h => ?_) (fun h => ?_)
  · rw [if_neg (by omega)]
    exact Ok.so rfl
  · refine Ok.cd (ilt_id (by omega) (by omega) (by omega) (by omega)) (fun h2 => ?_) (fun h2 => ?_)
    · rw [if_pos (by omega)]
      exact Ok.so rfl
    · rw [if_neg (by omega)]
      exact Ok.so rfl
theorem needPlaceOfJob_eq {w : wS} (hw : Wok w) (hx : XS w W.2.2.1) (hp : I32 p) : P_X10_needPlaceOfJob p W = some (if 0 ≤ p ∧ p < (qN w : Int) then (.inl (), W) else (.inr 0, exW W)) := by
  have hn := hw.n
  unfold I32 at hp
  refine Ok.get ?_
  unfold P_X10_needPlaceOfJob
  rw [hx.n hw]
  refine Ok.lk ?_
  refine Ok.cd (ilt_id (by omega) (by omega) (by omega) (by omega)) (fun h => ?_) (fun h => ?_)
  · rw [if_neg (by omega)]
    exact Ok.so rfl
  · refine Ok.cd (ilt_id (by omega) (by omega) (by omega) (by omega)) (fun h2 => ?_) (fun h2 => ?_)
    · rw [if_pos (by omega)]
      exact Ok.so rfl
    · rw [if_neg (by omega)]
      exact Ok.so rfl
theorem needStep_eq {w : wS} (hw : Wok w) (hx : XS w W.2.2.1) {s : Int} (hp : I32 p) (hs : I32 s) : P_X10_needStep p s W = some (if 0 ≤ p ∧ p < (qN w : Int) ∧ 0 ≤ s ∧ s < (qSt w p.toNat : Int) then (.inl (), W) else (.inr 0, exW W)) := by
  have hn := hw.n
  refine Ok.get ?_
  unfold P_X10_needStep
  rw [needJob_eq hw hx hp]
  by_cases h : 0 ≤ p ∧ p < (qN w : Int)
  · rw [if_pos h]
    refine Ok.thr0 rfl ?_
    have hj : p.toNat < qN w := by omega
    have h5 := (hw.st hj).2
    unfold I32 at hs
    refine Ok.lk ?_
    refine Ok.cd (ilt_id (by omega) (by omega) (by omega) (by omega)) (fun h1 => ?_) (fun h1 => ?_)
    · rw [if_neg (by omega)]
      exact Ok.so rfl
    · refine Ok.ld p.toNat (by omega) (by omega) (by omega) ?_
      rw [hx.st hw hj]
      refine Ok.cd (ilt_id (by omega) (by omega) (by omega) (by omega)) (fun h2 => ?_) (fun h2 => ?_)
      · rw [if_pos (by omega)]
        exact Ok.so rfl
      · rw [if_neg (by omega)]
        exact Ok.so rfl
  · rw [if_neg h, if_neg (by omega)]
    exact Ok.thrE rfl rfl
theorem needRoom_eq {w : wS} (hw : Wok w) (hx : XS w W.2.2.1) : P_X10_needRoomForJob W = some (if qN w < 6 then (.inl (), W) else (.inr 2, exW W)) := by
  have hn := hw.n
  refine Ok.get ?_
  unfold P_X10_needRoomForJob
  rw [hx.n hw]
  refine Ok.cd (ilt_id (by omega) (by omega) (by omega) (by omega)) (fun h => ?_) (fun h => ?_)
  · rw [if_pos (by omega)]
    exact Ok.so rfl
  · rw [if_neg (by omega)]
    exact Ok.so rfl
theorem needPlan_eq {w : wS} (hw : Wok w) (hx : XS w W.2.2.1) : P_X10_needPlan W = some (if w 1 15 = 1 then (.inl (), W) else (.inr 2, exW W)) := by
  have hz := hw.2.2.2.2.2.2.2.1
  have e : W.2.2.1 1 15 = w 1 15 := hx.at 15 (by simp [aok])
  refine Ok.get ?_
  unfold P_X10_needPlan
  rw [e]
  refine Ok.cd (ieq_id (by omega) (by omega) (by omega) (by omega)) (fun h => ?_) (fun h => ?_)
  · rw [if_neg (by omega)]
    exact Ok.so rfl
  · rw [if_pos (by omega)]
    exact Ok.so rfl
end RL
