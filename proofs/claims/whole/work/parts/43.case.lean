/-! ===== one call of the law: what stands ahead of it, behind it ===== -/
def I32 (v : Int) : Prop := -2147483648 ≤ v ∧ v < 2147483648
def PI (w : wS) (h : Nat → wS) (len : Nat) : Prop := Wok w ∧ Pok w ∧ ∀ i, i < len → Wok (h i) ∧ Pok (h i)
def IV (w : wS) (h : Nat → wS) (len a np : Nat) (G : mG) : Prop := PI w h len ∧ XS w G ∧ TT 17 w D0 (qRw w) (qLn w) G ∧ HC h len a np G ∧ MA w (G 57) ∧ MH h len G
def IW (c : Nat) (W : mW) : Prop := ∃ (w : wS) (h : Nat → wS) (len a np : Nat) (G : mG) (n k : Nat), W = (rOf a, (tlOf a, (G, (n, k)))) ∧ IV w h len a np G ∧ n ≤ 1000 + 16 * a + c ∧ k ≤ 100000 + 203 * a + 6 * c
def KQ (G G' : mG) : Prop := (∀ b, b ≤ 25 ∨ b = 57 ∨ b = 58 ∨ 76 ≤ b → G' b = G b) ∧ G' 56 2 = G 56 2
theorem KQ.rf (G : mG) : KQ G G := ⟨fun _ _ => rfl, rfl⟩
theorem KQ.tr {A B C : mG} (h1 : KQ A B) (h2 : KQ B C) : KQ A C := ⟨fun b hb => (h2.1 b hb).trans (h1.1 b hb), h2.2.trans h1.2⟩
theorem KQ.of {G G' : mG} (h : ∀ b, b ≤ 25 ∨ b = 56 ∨ b = 57 ∨ b = 58 ∨ 76 ≤ b → G' b = G b) : KQ G G' := ⟨fun b hb => h b (by omega), by rw [h 56 (by omega)]⟩
theorem KQ.up {G : mG} {a i : Nat} {x : Int} (h : (26 ≤ a ∧ a ≤ 55) ∨ (59 ≤ a ∧ a ≤ 75) ∨ (a = 56 ∧ i ≠ 2)) : KQ G (up2 G a i x) := by
  refine ⟨fun b hb => up2_ne (by omega), ?_⟩
  rw [up2_if]
  rw [if_neg (by omega)]
theorem KQ.xs {w : wS} {G G' : mG} (h : KQ G G') (hx : XS w G) : XS w G' := fun b i hb => by
  have := hb.lo
  rw [h.1 b (by omega)]
  exact hx b i hb
theorem IV.kq {w : wS} {h : Nat → wS} {len a np : Nat} {G G' : mG} (hI : IV w h len a np G) (hk : KQ G G') : IV w h len a np G' := by
  obtain ⟨h1, h2, h3, h4, h5, h6⟩ := hI
  refine ⟨h1, hk.xs h2, TT_fr (fun b hb1 hb2 => hk.1 b (by omega)) h3, HC_fr ⟨by rw [hk.1 0 (by omega)], by rw [hk.1 0 (by omega)]⟩ (fun b hb => hk.1 b (by omega)) h4, ?_, ?_⟩
  · rw [hk.1 57 (by omega)]
    exact h5
  · refine ⟨hk.2.trans h6.1, h6.2.1, fun i hi => ?_⟩
    rw [hk.1 58 (by omega)]
    exact h6.2.2 i hi
theorem IW.kq {c : Nat} {r : List (Option Nat)} {tl : List mSh} {G G' : mG} {n k n' k' : Nat} (h : IW c (r, (tl, (G, (n, k))))) (hk : KQ G G') (hn : n' ≤ n + 1) (hk2 : k' ≤ k + 6) : IW (c + 1) (r, (tl, (G', (n', k')))) := by
  obtain ⟨w, h, len, a, np, G0, n0, k0, e, hI, h1, h2⟩ := h
  obtain ⟨rfl, rfl, rfl, rfl, rfl⟩ : r = rOf a ∧ tl = tlOf a ∧ G = G0 ∧ n = n0 ∧ k = k0 := by
    simp only [Prod.mk.injEq] at e
    exact e
  exact ⟨w, h, len, a, np, G', n', k', rfl, hI.kq hk, by omega, by omega⟩
def exW (W : mW) : mW := (W.1, (W.2.1, (W.2.2.1, (W.2.2.2.1 + 1, W.2.2.2.2 + 6))))
section RL
variable {X Z T : Type} {W : mW} {p : Int}
theorem Ok.thr {Q : (Z ⊕ Nat) × mW → Prop} {q : Option ((T ⊕ Nat) × mW)} {f : T → mW → Option ((Z ⊕ Nat) × mW)} {P : (T ⊕ Nat) × mW → Prop} (h : Ok q P) (k1 : ∀ v W, P (.inl v, W) → Ok (f v W) Q) (k2 : ∀ E W, P (.inr E, W) → Q (.inr E, W)) : Ok (thrB q f) Q := by
  obtain ⟨⟨x, W⟩, rfl, hx⟩ := h
  cases x with
  | inl v => exact k1 v W hx
  | inr E => exact ⟨_, rfl, k2 E W hx⟩
theorem Ok.thr0 {Q : (Z ⊕ Nat) × mW → Prop} {q : Option ((T ⊕ Nat) × mW)} {f : T → mW → Option ((Z ⊕ Nat) × mW)} {v : T} {W' : mW} (h : q = some (.inl v, W')) (k1 : Ok (f v W') Q) : Ok (thrB q f) Q := by
  subst h
  exact k1
theorem Ok.thrE {Q : (Z ⊕ Nat) × mW → Prop} {q : Option ((T ⊕ Nat) × mW)} {f : T → mW → Option ((Z ⊕ Nat) × mW)} {E : Nat} {W' : mW} (h : q = some (.inr E, W')) (k1 : Q (.inr E, W')) : Ok (thrB q f) Q := by
  subst h
  exact ⟨_, rfl, k1⟩
theorem needMachine_eq (hp : I32 p) : P_X10_needMachine p W = some (if 0 ≤ p ∧ p < 4 then (.inl (), W) else (.inr 0, exW W)) := by
  unfold I32 at hp
  refine Ok.get ?_
  unfold P_X10_needMachine
  refine Ok.lk ?_
  refine Ok.cd (ilt_id (by omega) (by omega) (by omega) (by omega)) (fun h => ?_) (fun h => ?_)
  · rw [if_neg (by omega)]
    exact Ok.so rfl
  · refine Ok.cd (ilt_id (by omega) (by omega) (by omega) (by omega)) (fun h2 => ?_) (fun h2 => ?_)
    · rw [if_pos (by omega)]
      exact Ok.so rfl
    · rw [if_neg (by omega)]
      exact Ok.so rfl
theorem needKind_eq (hp : I32 p) : P_X10_needKind p W = some (if 0 ≤ p ∧ p < 4 then (.inl (), W) else (.inr 0, exW W)) := by
  unfold I32 at hp
  refine Ok.get ?_
  unfold P_X10_needKind
  refine Ok.lk ?_
  refine Ok.cd (ilt_id (by omega) (by omega) (by omega) (by omega)) (fun h => ?_) (fun h => ?_)
  · rw [if_neg (by omega)]
    exact Ok.so rfl
  · refine Ok.cd (ilt_id (by omega) (by omega) (by omega) (by omega)) (fun h2 => ?_) (fun h2 => ?_)
    · rw [if_pos (by omega)]
      exact Ok.so rfl
    · rw [if_neg (by omega)]
      exact Ok.so rfl
theorem needRange_eq {lo hi : Int} (hp : I32 p) (hl : I32 lo) (hh : I32 hi) : P_X10_needRange p lo hi W = some (if lo ≤ p ∧ p ≤ hi then (.inl (), W) else (.inr 1, exW W)) := by
  unfold I32 at hp hl hh
  refine Ok.get ?_
  unfold P_X10_needRange
  refine Ok.lk ?_
  refine Ok.cd (ilt_id (by omega) (by omega) (by omega) (by omega)) (fun h => ?_) (fun h => ?_)
  · rw [if_neg (by omega)]
    exact Ok.so rfl
  · refine Ok.cd (ilt_id (by omega) (by omega) (by omega) (by omega)) (fun h2 => ?_) (fun h2 => ?_)
    · rw [if_neg (by omega)]
      exact Ok.so rfl
    · rw [if_pos (by omega)]
      exact Ok.so rfl
theorem needRule_eq (hp : I32 p) : P_X10_needRule p W = some (if 0 ≤ p ∧ p ≤ 7 then (.inl (), W) else (.inr 1, exW W)) := by
  unfold P_X10_needRule thrB
  rw [needRange_eq hp (by unfold I32; omega) (by unfold I32; omega)]
  split <;> rfl
theorem needAim_eq (hp : I32 p) : P_X10_needAim p W = some (if 0 ≤ p ∧ p ≤ 4 then (.inl (), W) else (.inr 1, exW W)) := by
  unfold P_X10_needAim thrB
  rw [needRange_eq hp (by unfold I32; omega) (by unfold I32; omega)]
  split <;> rfl
theorem needMachines_eq (hp : I32 p) : P_X10_needMachines p W = some (if 0 ≤ p ∧ p ≤ 15 then (.inl (), W) else (.inr 1, exW W)) := by
  unfold P_X10_needMachines thrB
  rw [needRange_eq hp (by unfold I32; omega) (by unfold I32; omega)]
  split <;> rfl
theorem needJob_eq {w : wS} (hw : Wok w) (hx : XS w W.2.2.1) (hp : I32 p) : P_X10_needJob p W = some (if 0 ≤ p ∧ p < (qN w : Int) then (.inl (), W) else (.inr 0, exW W)) := by
  have hn := hw.n
  unfold I32 at hp
  refine Ok.get ?_
  unfold P_X10_needJob
  rw [hx.n hw]
  refine Ok.lk ?_
  refine Ok.cd (ilt_id (by omega) (by omega) (by omega) (by omega)) (fun h => ?_) (fun h => ?_)
  · rw [if_neg (by omega)]
    exact Ok.so rfl
  · refine Ok.cd (ilt_id (by omega) (by omega) (by omega) (by omega)) (fun h2 => ?_) (fun h2 => ?_)
    · rw [if_pos (by omega)]
      exact Ok.so rfl
    · rw [if_neg (by omega)]
      exact Ok.so rfl
theorem needPlaceOfJob_eq {w : wS} (hw : Wok w) (hx : XS w W.2.2.1) (hp : I32 p) : P_X10_needPlaceOfJob p W = some (if 0 ≤ p ∧ p < (qN w : Int) then (.inl (), W) else (.inr 0, exW W)) := by
  have hn := hw.n
  unfold I32 at hp
  refine Ok.get ?_
  unfold P_X10_needPlaceOfJob
  rw [hx.n hw]
  refine Ok.lk ?_
  refine Ok.cd (ilt_id (by omega) (by omega) (by omega) (by omega)) (fun h => ?_) (fun h => ?_)
  · rw [if_neg (by omega)]
    exact Ok.so rfl
  · refine Ok.cd (ilt_id (by omega) (by omega) (by omega) (by omega)) (fun h2 => ?_) (fun h2 => ?_)
    · rw [if_pos (by omega)]
      exact Ok.so rfl
    · rw [if_neg (by omega)]
      exact Ok.so rfl
theorem needStep_eq {w : wS} (hw : Wok w) (hx : XS w W.2.2.1) {s : Int} (hp : I32 p) (hs : I32 s) : P_X10_needStep p s W = some (if 0 ≤ p ∧ p < (qN w : Int) ∧ 0 ≤ s ∧ s < (qSt w p.toNat : Int) then (.inl (), W) else (.inr 0, exW W)) := by
  have hn := hw.n
  refine Ok.get ?_
  unfold P_X10_needStep
  rw [needJob_eq hw hx hp]
  by_cases h : 0 ≤ p ∧ p < (qN w : Int)
  · rw [if_pos h]
    refine Ok.thr0 rfl ?_
    have hj : p.toNat < qN w := by omega
    have h5 := (hw.st hj).2
    unfold I32 at hs
    refine Ok.lk ?_
    refine Ok.cd (ilt_id (by omega) (by omega) (by omega) (by omega)) (fun h1 => ?_) (fun h1 => ?_)
    · rw [if_neg (by omega)]
      exact Ok.so rfl
    · refine Ok.ld p.toNat (by omega) (by omega) (by omega) ?_
      rw [hx.st hw hj]
      refine Ok.cd (ilt_id (by omega) (by omega) (by omega) (by omega)) (fun h2 => ?_) (fun h2 => ?_)
      · rw [if_pos (by omega)]
        exact Ok.so rfl
      · rw [if_neg (by omega)]
        exact Ok.so rfl
  · rw [if_neg h, if_neg (by omega)]
    exact Ok.thrE rfl rfl
theorem needRoom_eq {w : wS} (hw : Wok w) (hx : XS w W.2.2.1) : P_X10_needRoomForJob W = some (if qN w < 6 then (.inl (), W) else (.inr 2, exW W)) := by
  have hn := hw.n
  refine Ok.get ?_
  unfold P_X10_needRoomForJob
  rw [hx.n hw]
  refine Ok.cd (ilt_id (by omega) (by omega) (by omega) (by omega)) (fun h => ?_) (fun h => ?_)
  · rw [if_pos (by omega)]
    exact Ok.so rfl
  · rw [if_neg (by omega)]
    exact Ok.so rfl
theorem needPlan_eq {w : wS} (hw : Wok w) (hx : XS w W.2.2.1) : P_X10_needPlan W = some (if w 1 15 = 1 then (.inl (), W) else (.inr 2, exW W)) := by
  have hz := hw.2.2.2.2.2.2.2.1
  have e : W.2.2.1 1 15 = w 1 15 := hx.at 15 (by simp [aok])
  refine Ok.get ?_
  unfold P_X10_needPlan
  rw [e]
  refine Ok.cd (ieq_id (by omega) (by omega) (by omega) (by omega)) (fun h => ?_) (fun h => ?_)
  · rw [if_neg (by omega)]
    exact Ok.so rfl
  · rw [if_pos (by omega)]
    exact Ok.so rfl
end RL
theorem M_in {p lo hi : Int} (hp : I32 p) (hl : I32 lo) (hh : I32 hi) : P_X11_in p lo hi = some (decide (lo ≤ p ∧ p ≤ hi)) := by
  unfold I32 at hp hl hh
  refine Ok.get ?_
  unfold P_X11_in
  refine Ok.lk ?_
  refine Ok.cd (ilt_id (by omega) (by omega) (by omega) (by omega)) (fun h => ?_) (fun h => ?_)
  · exact Ok.so (decide_eq_false (by omega)).symm
  · refine Ok.cd (ilt_id (by omega) (by omega) (by omega) (by omega)) (fun h2 => ?_) (fun h2 => ?_)
    · exact Ok.so (decide_eq_false (by omega)).symm
    · exact Ok.so (decide_eq_true (by omega)).symm
section FI
variable {X : Type} {Q : X → Prop} {G : mG} {f : Bool × mG → Option X} {p1 p2 p3 : Int}
theorem Ok.fits {c1 c2 c3 : Prop} [Decidable c1] [Decidable c2] [Decidable c3] (e1 : p1 = b2i (decide c1)) (e2 : p2 = b2i (decide c2)) (e3 : p3 = b2i (decide c3)) (h1 : ¬ c1 → Ok (f (false, up2 G 56 3 1)) Q) (h2 : c1 → ¬ c2 → Ok (f (false, up2 G 56 3 2)) Q) (h3 : c1 → c2 → ¬ c3 → Ok (f (false, up2 G 56 3 3)) Q) (h4 : c1 → c2 → c3 → Ok (f (true, up2 G 56 3 0)) Q) : Ok ((P_X11_fits p1 p2 p3 G).bind f) Q := by
  have z0 : ieq (b2i false) 0 = true := by decide
  have z1 : ieq (b2i true) 0 = false := by decide
  have v0 : ∀ (x : Int) (g : mG), up2 g 56 3 x 56 3 = x := fun x g => by rw [up2_eq, up1_eq]
  have y1 : ieq 1 0 = false := by decide
  have y2 : ieq 2 0 = false := by decide
  have y3 : ieq 3 0 = false := by decide
  have y0 : ieq 0 0 = true := by decide
  unfold P_X11_fits
  subst e1 e2 e3
  by_cases g1 : c1
  · rw [decide_eq_true g1]
    by_cases g2 : c2
    · rw [decide_eq_true g2]
      by_cases g3 : c3
      · rw [decide_eq_true g3]
        refine Ok.eq (y := (true, up2 G 56 3 0)) ?_ (h4 g1 g2 g3)
        simp only [letK, z1, cond_false, pst, Option.bind_some, v0, y0, cond_true]
      · rw [decide_eq_false g3]
        refine Ok.eq (y := (false, up2 G 56 3 3)) ?_ (h3 g1 g2 g3)
        simp only [letK, z1, z0, cond_false, cond_true, pst, Option.bind_some, v0, y3]
    · rw [decide_eq_false g2]
      refine Ok.eq (y := (false, up2 G 56 3 2)) ?_ (h2 g1 g2)
      simp only [letK, z1, z0, cond_false, cond_true, pst, Option.bind_some, v0, y2]
  · rw [decide_eq_false g1]
    refine Ok.eq (y := (false, up2 G 56 3 1)) ?_ (h1 g1)
    simp only [letK, z0, cond_false, cond_true, pst, Option.bind_some, v0, y1]
end FI
theorem b2i_T : (1 : Int) = b2i (decide True) := rfl
section MJ
variable {w : wS} {G : mG}
theorem M_isJob (hw : Wok w) (hm : MD w (G 57)) {p : Int} (hp : I32 p) : P_X11_isJob p G = some (decide (0 ≤ p ∧ p < (qN w : Int))) := by
  have hn := hw.n
  refine Ok.get ?_
  unfold P_X11_isJob
  refine Ok.ld 0 rfl (by omega) (by omega) ?_
  rw [hm.n hw, M_in hp (by unfold I32; omega) (by unfold I32; omega)]
  refine Ok.so (decide_eq_decide.mpr (by omega))
theorem M_isStep (hw : Wok w) (hm : MD w (G 57)) {p s : Int} (hp : I32 p) (hs : I32 s) : P_X11_isStep p s G = some (decide (0 ≤ p ∧ p < (qN w : Int) ∧ 0 ≤ s ∧ s < (qSt w p.toNat : Int))) := by
  have hn := hw.n
  refine Ok.get ?_
  unfold P_X11_isStep
  rw [M_isJob hw hm hp]
  refine Ok.eq rfl ?_
  refine Ok.lk ?_
  refine Ok.it (fun h => ?_) (fun h => ?_)
  · have h := of_decide_eq_true h
    have hj : p.toNat < qN w := by omega
    have h5 := (hw.st hj).2
    have e := M_st hw hm hj
    rw [show ((p.toNat : Nat) : Int) = p by omega] at e
    refine Ok.eq e ?_
    rw [M_in hs (by unfold I32; omega) (by unfold I32; omega)]
    refine Ok.eq rfl ?_
    refine Ok.it (fun h2 => ?_) (fun h2 => ?_)
    · have h2 := of_decide_eq_true h2
      exact Ok.so (decide_eq_true (by omega)).symm
    · have h2 := of_decide_eq_false h2
      exact Ok.so (decide_eq_false (by omega)).symm
  · have h := of_decide_eq_false h
    exact Ok.so (decide_eq_false (by omega)).symm
end MJ
def CaseX (p : mW → Option ((Int ⊕ Nat) × mW)) (cm : Nat → Nat) (q : mG → Option (Int × mG)) : Prop := ∀ c W, IW c W → Ok (p W) (fun x =>
  (∃ v, x.1 = .inl v ∧ ∀ G', (∀ b, b ≠ 74 → G' b = x.2.2.2.1 b) → Ok (q G') (fun z => z.2 56 3 = 0 ∧ w32 z.1 = w32 v ∧ z.2 74 = G' 74 ∧ IW (c + 1) (x.2.1, (x.2.2.1, (z.2, x.2.2.2.2))))) ∨
  (∃ E, x.1 = .inr E ∧ cm E ≠ 0 ∧ E < 3 ∧ Ok (q x.2.2.2.1) (fun z => z.2 56 3 = (cm E : Int) ∧ IW (c + 1) (x.2.1, (x.2.2.1, (z.2, x.2.2.2.2))))))
def CaseI (p : mW → Option ((Int ⊕ Nat) × mW)) (q : mG → Option (Int × mG)) : Prop := ∀ c W, IW c W → Ok (p W) (fun x => ∃ code : Nat, x.1 = .inl (code : Int) ∧ code ≤ 3 ∧ Ok (q x.2.2.2.1) (fun z => z.2 56 3 = (code : Int) ∧ (code = 0 → z.2 74 0 = w32 z.1) ∧ IW (c + 1) (x.2.1, (x.2.2.1, (z.2, x.2.2.2.2)))))
theorem ctcB_v {T R : Type} {v : T} {W : mW} {f : T → mW → Option R} {h0 h1 h2 : mW → Option R} : ctcB (some (.inl v, W)) f h0 h1 h2 = f v W := rfl
theorem ctcB_0 {T R : Type} {W : mW} {f : T → mW → Option R} {h0 h1 h2 : mW → Option R} : ctcB (some (.inr 0, W)) f h0 h1 h2 = h0 W := rfl
theorem ctcB_1 {T R : Type} {W : mW} {f : T → mW → Option R} {h0 h1 h2 : mW → Option R} : ctcB (some (.inr 1, W)) f h0 h1 h2 = h1 W := rfl
theorem ctcB_2 {T R : Type} {W : mW} {f : T → mW → Option R} {h0 h1 h2 : mW → Option R} : ctcB (some (.inr 2, W)) f h0 h1 h2 = h2 W := rfl
theorem CaseI_of {p : mW → Option ((Int ⊕ Nat) × mW)} {cm : Nat → Nat} {q : mG → Option (Int × mG)} {h0 h1 h2 : mW → Option ((Int ⊕ Nat) × mW)} (hc : CaseX p cm q) (hb : ∀ E, E < 3 → cm E ≤ 3) (e0 : cm 0 ≠ 0 → ∀ W, h0 W = some (.inl (cm 0 : Int), W)) (e1 : cm 1 ≠ 0 → ∀ W, h1 W = some (.inl (cm 1 : Int), W)) (e2 : cm 2 ≠ 0 → ∀ W, h2 W = some (.inl (cm 2 : Int), W)) : CaseI (fun W => ctcB (p W) (fun v W5 => (ast W5.2.2.1 74 1 0 (w32 v)).bind fun G9 => some (.inl 0, (W5.1, (W5.2.1, (G9, W5.2.2.2))))) h0 h1 h2) q := by
  intro c W hW
  obtain ⟨⟨x, W'⟩, hx, h⟩ := hc c W hW
  show Ok (ctcB (p W) _ h0 h1 h2) _
  rw [hx]
  rcases h with ⟨v, rfl, h⟩ | ⟨E, rfl, g1, g2, h⟩
  · rw [ctcB_v]
    refine Ok.sto 0 rfl (by omega) (by omega) (Ok.so ⟨0, rfl, by omega, ?_⟩)
    refine Ok.w (h (up2 W'.2.2.1 74 0 (w32 v)) (fun b hb => up2_ne hb)) (fun z hz => ⟨hz.1, fun _ => ?_, hz.2.2.2⟩)
    rw [hz.2.2.1, up2_eq, up1_eq, hz.2.1]
  · match E, g2 with
    | 0, _ =>
      rw [ctcB_0]
      exact Ok.of (e0 g1 W') ⟨cm 0, rfl, hb 0 (by omega), Ok.w h (fun z hz => ⟨hz.1, fun h0 => absurd h0 g1, hz.2⟩)⟩
    | 1, _ =>
      rw [ctcB_1]
      exact Ok.of (e1 g1 W') ⟨cm 1, rfl, hb 1 (by omega), Ok.w h (fun z hz => ⟨hz.1, fun h0 => absurd h0 g1, hz.2⟩)⟩
    | 2, _ =>
      rw [ctcB_2]
      exact Ok.of (e2 g1 W') ⟨cm 2, rfl, hb 2 (by omega), Ok.w h (fun z hz => ⟨hz.1, fun h0 => absurd h0 g1, hz.2⟩)⟩
    | n + 3, h3 => exact absurd h3 (by omega)
theorem law_case {p : mW → Option ((Int ⊕ Nat) × mW)} {q : mG → Option (Int × mG)} {Q : ((Bool ⊕ Nat) × mW) → Prop} {k8 : mW → Option ((Bool ⊕ Nat) × mW)} (hc : CaseI p q) {c : Nat} {W : mW} (hW : IW c W) (hk : ∀ W', IW (c + 1) W' → Ok (k8 W') Q) : Ok (notB (p W) fun v12 W13 =>
    (q W13.2.2.1).bind fun z17 =>
    (P_X11_thrown z17.2).bind fun v18 =>
    bif (ieq v18 v12) then
    letK (k8 (W13.1, (W13.2.1, (z17.2, W13.2.2.2)))) fun k20 =>
    bif (ieq v12 0) then
    (ald z17.2 74 1 0).bind fun v21 =>
    bif (ieq (lcmpI v21 (w32 z17.1)) 0) then
    k20
    else
    some (.inl false, (W13.1, (W13.2.1, (z17.2, W13.2.2.2))))
    else
    k20
    else
    some (.inl false, (W13.1, (W13.2.1, (z17.2, W13.2.2.2))))) Q := by
  obtain ⟨⟨x, W'⟩, hx, code, rfl, h1, h2⟩ := hc c W hW
  rw [hx]
  show Ok ((q W'.2.2.1).bind _) Q
  refine Ok.bind h2 (fun z hz => ?_)
  obtain ⟨z1, z2, z3⟩ := hz
  refine Ok.eq (y := (code : Int)) (congrArg some z1) ?_
  refine Ok.iteT (by unfold ieq; exact decide_eq_true rfl) ?_
  refine Ok.lk ?_
  refine Ok.cd (ieq_id (by omega) (by omega) (by omega) (by omega)) (fun h0 => ?_) (fun h0 => ?_)
  · refine Ok.ld 0 rfl (by omega) (by omega) ?_
    rw [z2 (by omega)]
    refine Ok.iteT ?_ (hk _ z3)
    unfold lcmpI
    rw [if_neg (Int.lt_irrefl _), if_pos rfl]
    decide
  · exact hk _ z3
