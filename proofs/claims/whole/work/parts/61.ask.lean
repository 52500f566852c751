/-! ===== questions: what a job, a step, a plan says ===== -/
/-- the model's answer: three conditions in their order, then a number -/
def QM (c1 c2 c3 : Prop) (v : Int) (G : mG) (z : Int × mG) : Prop := KQ G z.2 ∧ z.2 74 = G 74 ∧ (¬ c1 → z.2 56 3 = 1) ∧ (c1 → ¬ c2 → z.2 56 3 = 2) ∧ (c1 → c2 → ¬ c3 → z.2 56 3 = 3) ∧ (c1 → c2 → c3 → z.2 56 3 = 0 ∧ w32 z.1 = w32 v)
/-- the class's answer -/
def QC (cm : Nat → Nat) (a n k : Nat) (G : mG) (c1 c2 c3 : Prop) (v : Int) (x : (Int ⊕ Nat) × mW) : Prop := ∃ G1, KQ G G1 ∧ ((c1 ∧ c2 ∧ c3 ∧ x = (.inl v, (rOf a, (tlOf a, (G1, (n, k)))))) ∨ ∃ E, E < 3 ∧ x = (.inr E, (rOf a, (tlOf a, (G1, (n + 1, k + 6))))) ∧ ((cm E = 1 ∧ ¬ c1) ∨ (cm E = 2 ∧ c1 ∧ ¬ c2) ∨ (cm E = 3 ∧ c1 ∧ c2 ∧ ¬ c3)))
theorem CaseY_of {p : mW → Option ((Int ⊕ Nat) × mW)} {cm : Nat → Nat} {q : mG → Option (Int × mG)} (c1 c2 c3 : wS → Prop) (v : wS → Int) (hM : ∀ w h len a np G, IV w h len a np G → Ok (q G) (QM (c1 w) (c2 w) (c3 w) (v w) G)) (hC : ∀ w h len a np G n k, IV w h len a np G → Ok (p (rOf a, (tlOf a, (G, (n, k))))) (QC cm a n k G (c1 w) (c2 w) (c3 w) (v w))) : CaseX p cm q := by
  refine CaseX_of ?_
  intro w h len a np G n k hI
  refine Ok.w (hC w h len a np G n k hI) (fun x hx => ?_)
  obtain ⟨G1, hk, hcase⟩ := hx
  refine ⟨G1, hk, ?_⟩
  rcases hcase with ⟨a1, a2, a3, rfl⟩ | ⟨E, hE, rfl, hc⟩
  · refine Or.inl ⟨_, rfl, fun G' hG' hI' => Ok.w (hM w h len a np G' hI') (fun z hz => ?_)⟩
    obtain ⟨z1, z2⟩ := hz.2.2.2.2.2 a1 a2 a3
    exact ⟨z1, z2, hz.2.1, hz.1⟩
  · refine Or.inr ⟨E, rfl, by omega, hE, fun hI' => Ok.w (hM w h len a np G1 hI') (fun z hz => ⟨?_, hz.1⟩)⟩
    obtain ⟨z1, z2, z3, z4, z5, z6⟩ := hz
    rcases hc with ⟨e, b1⟩ | ⟨e, b1, b2⟩ | ⟨e, b1, b2, b3⟩
    · rw [e, z3 b1]
      rfl
    · rw [e, z4 b1 b2]
      rfl
    · rw [e, z5 b1 b2 b3]
      rfl
/-- a frame for the model's questions -/
def KF (G G' : mG) : Prop := KQ G G' ∧ G' 74 = G 74
theorem KF.rf (G : mG) : KF G G := ⟨KQ.rf G, rfl⟩
theorem KF.tr {A B C : mG} (h1 : KF A B) (h2 : KF B C) : KF A C := ⟨h1.1.tr h2.1, h2.2.trans h1.2⟩
theorem KF.up3 (G : mG) (x : Int) : KF G (up2 G 56 3 x) := ⟨KQ.up3 G x, up2_ne (by omega)⟩
theorem KF.fr {G G' : mG} (h : FrM G G') : KF G G' := ⟨h.kq, h 74 (by omega)⟩
theorem KF.of {G G' : mG} (h : ∀ b, b ≤ 25 ∨ b = 56 ∨ b = 57 ∨ b = 58 ∨ b = 74 ∨ 76 ≤ b → G' b = G b) : KF G G' := ⟨KQ.of (fun b hb => h b (by omega)), h 74 (by omega)⟩
theorem QM.fits {c1 c2 c3 : Prop} [Decidable c1] [Decidable c2] [Decidable c3] {p1 p2 p3 v : Int} {G0 G : mG} {f : Bool × mG → Option (Int × mG)} (e1 : p1 = b2i (decide c1)) (e2 : p2 = b2i (decide c2)) (e3 : p3 = b2i (decide c3)) (hf : ∀ G, f (false, G) = some (0, G)) (hG : KF G0 G) (h4 : c1 → c2 → c3 → Ok (f (true, up2 G 56 3 0)) (fun z => w32 z.1 = w32 v ∧ KF (up2 G 56 3 0) z.2 ∧ z.2 56 3 = (up2 G 56 3 0) 56 3)) : Ok ((P_X11_fits p1 p2 p3 G).bind f) (QM c1 c2 c3 v G0) := by
  refine Ok.fits e1 e2 e3 (fun h1 => ?_) (fun h1 h2 => ?_) (fun h1 h2 h3 => ?_) (fun h1 h2 h3 => ?_)
  · rw [hf]
    have hk := hG.tr (KF.up3 G 1)
    exact Ok.so ⟨hk.1, hk.2, fun _ => by dsimp only; rw [up2_eq, up1_eq], fun g => absurd g h1, fun g => absurd g h1, fun g => absurd g h1⟩
  · rw [hf]
    have hk := hG.tr (KF.up3 G 2)
    exact Ok.so ⟨hk.1, hk.2, fun g => absurd h1 g, fun _ _ => by dsimp only; rw [up2_eq, up1_eq], fun _ g => absurd g h2, fun _ g => absurd g h2⟩
  · rw [hf]
    have hk := hG.tr (KF.up3 G 3)
    exact Ok.so ⟨hk.1, hk.2, fun g => absurd h1 g, fun _ g => absurd h2 g, fun _ _ _ => by dsimp only; rw [up2_eq, up1_eq], fun _ _ g => absurd g h3⟩
  · refine Ok.w (h4 h1 h2 h3) (fun z hz => ?_)
    have hk := (hG.tr (KF.up3 G 0)).tr hz.2.1
    exact ⟨hk.1, hk.2, fun g => absurd h1 g, fun _ g => absurd h2 g, fun _ _ g => absurd h3 g, fun _ _ _ => ⟨by rw [hz.2.2, up2_eq, up1_eq], hz.1⟩⟩
theorem T_T : (1 : Int) = b2i (decide True) := b2i_T
theorem Ok.need {T Z : Type} {Q : (Z ⊕ Nat) × mW → Prop} {q : Option ((T ⊕ Nat) × mW)} {f : T → mW → Option ((Z ⊕ Nat) × mW)} {c : Prop} [Decidable c] {v : T} {W W' : mW} {E : Nat} (h : q = some (if c then (.inl v, W) else (.inr E, W'))) (k1 : c → Ok (f v W) Q) (k2 : ¬ c → Q (.inr E, W')) : Ok (thrB q f) Q := by
  by_cases hc : c
  · rw [if_pos hc] at h
    exact Ok.thr0 h (k1 hc)
  · rw [if_neg hc] at h
    exact Ok.thrE h (k2 hc)
theorem QC.e1 {cm : Nat → Nat} {a n k : Nat} {G : mG} {c1 c2 c3 : Prop} {v : Int} (E : Nat) (hE : E < 3) (h : cm E = 1) (h1 : ¬ c1) : QC cm a n k G c1 c2 c3 v (.inr E, (rOf a, (tlOf a, (G, (n + 1, k + 6))))) := ⟨G, KQ.rf G, Or.inr ⟨E, hE, rfl, Or.inl ⟨h, h1⟩⟩⟩
theorem QC.e2 {cm : Nat → Nat} {a n k : Nat} {G : mG} {c1 c2 c3 : Prop} {v : Int} (E : Nat) (hE : E < 3) (h : cm E = 2) (h1 : c1) (h2 : ¬ c2) : QC cm a n k G c1 c2 c3 v (.inr E, (rOf a, (tlOf a, (G, (n + 1, k + 6))))) := ⟨G, KQ.rf G, Or.inr ⟨E, hE, rfl, Or.inr (Or.inl ⟨h, h1, h2⟩)⟩⟩
theorem QC.e3 {cm : Nat → Nat} {a n k : Nat} {G : mG} {c1 c2 c3 : Prop} {v : Int} (E : Nat) (hE : E < 3) (h : cm E = 3) (h1 : c1) (h2 : c2) (h3 : ¬ c3) : QC cm a n k G c1 c2 c3 v (.inr E, (rOf a, (tlOf a, (G, (n + 1, k + 6))))) := ⟨G, KQ.rf G, Or.inr ⟨E, hE, rfl, Or.inr (Or.inr ⟨h, h1, h2, h3⟩)⟩⟩
theorem QC.v {cm : Nat → Nat} {a n k : Nat} {G : mG} {c1 c2 c3 : Prop} {v : Int} (h1 : c1) (h2 : c2) (h3 : c3) : QC cm a n k G c1 c2 c3 v (.inl v, (rOf a, (tlOf a, (G, (n, k))))) := ⟨G, KQ.rf G, Or.inl ⟨h1, h2, h3, rfl⟩⟩
theorem i32_k {k : Int} (h : 0 ≤ k ∧ k ≤ 100000) : I32 k := by
  unfold I32
  omega
/-- what a field of a job says -/
def vJob (w : wS) (j : Nat) (f : Nat) : Int := if f = 5 then qHf w j 0 else w (f + 2) j
theorem C_jobAt {p1 p2 : Int} (i1 : I32 p1) (i2 : I32 p2) : CaseX (P_X10_jobAt p1 p2) (fun E => if E = 2 then 0 else E + 1) (P_X11_jobAt p1 p2) := by
  refine CaseY_of (fun w => 0 ≤ p1 ∧ p1 < (qN w : Int)) (fun _ => 0 ≤ p2 ∧ p2 ≤ 5) (fun _ => True) (fun w => vJob w p1.toNat p2.toNat) (fun w h len a np G hI => ?_) (fun w h len a np G n k hI => ?_)
  · have hw := hI.1.1
    have hm := hI.2.2.2.2.1.1
    have hn := hw.n
    unfold P_X11_jobAt
    rw [M_isJob hw hm i1]
    refine Ok.eq rfl ?_
    rw [M_in i2 (i32_k (by omega)) (i32_k (by omega))]
    refine Ok.eq rfl ?_
    refine QM.fits rfl rfl T_T (fun _ => rfl) (KF.rf G) (fun h1 h2 _ => ?_)
    refine Ok.iteT rfl ?_
    obtain ⟨j, rfl⟩ := Int.eq_ofNat_of_zero_le h1.1
    obtain ⟨f, rfl⟩ := Int.eq_ofNat_of_zero_le h2.1
    have hj : j < qN w := by omega
    have hm' : MD w ((up2 G 56 3 0) 57) := by
      rw [up2_ne (by omega)]
      exact hm
    rw [Int.toNat_natCast, Int.toNat_natCast]
    refine Ok.cd (ieq_nat (b := 5) (by omega) (by omega)) (fun h5 => ?_) (fun h5 => ?_)
    · refine Ok.eq (M_length hw hm' hj) (Ok.so ⟨?_, KF.rf _, rfl⟩)
      unfold vJob
      rw [if_pos h5]
    · refine Ok.eq (M_of hw hm' hj (k := f) rfl (by omega)) (Ok.so ⟨?_, KF.rf _, rfl⟩)
      unfold vJob
      rw [if_neg h5, up2_ne (by omega)]
      have hf := hm.2.2.2.2.1 j hj
      have : f = 0 ∨ f = 1 ∨ f = 2 ∨ f = 3 ∨ f = 4 := by omega
      dsimp only
      rcases this with rfl | rfl | rfl | rfl | rfl
      · rw [Nat.add_zero, hf.1]
      · rw [hf.2.1]
      · rw [hf.2.2.1]
      · rw [hf.2.2.2.1]
      · rw [hf.2.2.2.2]
  · have hw := hI.1.1
    have hx := hI.2.1
    have hn := hw.n
    unfold P_X10_jobAt
    refine Ok.need (needJob_eq hw hx i1) (fun h1 => ?_) (fun h1 => QC.e1 0 (by omega) rfl h1)
    refine Ok.need (needRange_eq i2 (i32_k (by omega)) (i32_k (by omega))) (fun h2 => ?_) (fun h2 => QC.e2 1 (by omega) rfl h1 h2)
    obtain ⟨j, rfl⟩ := Int.eq_ofNat_of_zero_le h1.1
    obtain ⟨f, rfl⟩ := Int.eq_ofNat_of_zero_le h2.1
    have hj : j < qN w := by omega
    rw [w32_id (by omega) (by omega)]
    have key : ∀ b, aok b j → ∀ v : Int, v = w b j → vJob w j f = w b j → Ok (some (Sum.inl v, (rOf a, (tlOf a, (G, (n, k)))))) (QC (fun E => if E = 2 then 0 else E + 1) a n k G (0 ≤ (j : Int) ∧ (j : Int) < (qN w : Int)) (0 ≤ (f : Int) ∧ (f : Int) ≤ 5) True (vJob w (j : Int).toNat (f : Int).toNat)) := by
      intro b _ v e1 e2
      have e : v = vJob w (j : Int).toNat (f : Int).toNat := by
        rw [Int.toNat_natCast, Int.toNat_natCast, e1, e2]
      rw [e]
      exact Ok.so (QC.v h1 h2 trivial)
    refine Ok.cd rfl (fun h3 => ?_) (fun h3 => ?_)
    · have hf : f = 0 := by omega
      subst hf
      exact Ok.ld j rfl (by omega) (by omega) (key 2 (by simp [aok, asz] <;> omega) _ (hx.at j (by simp [aok, asz] <;> omega)) rfl)
    refine Ok.cd rfl (fun h4 => ?_) (fun h4 => ?_)
    · have hf : f = 1 := by omega
      subst hf
      exact Ok.ld j rfl (by omega) (by omega) (key 3 (by simp [aok, asz] <;> omega) _ (hx.at j (by simp [aok, asz] <;> omega)) rfl)
    refine Ok.cd rfl (fun h5 => ?_) (fun h5 => ?_)
    · have hf : f = 2 := by omega
      subst hf
      exact Ok.ld j rfl (by omega) (by omega) (key 4 (by simp [aok, asz] <;> omega) _ (hx.at j (by simp [aok, asz] <;> omega)) rfl)
    refine Ok.cd rfl (fun h6 => ?_) (fun h6 => ?_)
    · have hf : f = 3 := by omega
      subst hf
      exact Ok.ld j rfl (by omega) (by omega) (key 5 (by simp [aok, asz] <;> omega) _ (hx.at j (by simp [aok, asz] <;> omega)) rfl)
    refine Ok.cd rfl (fun h7 => ?_) (fun h7 => ?_)
    · have hf : f = 4 := by omega
      subst hf
      exact Ok.ld j rfl (by omega) (by omega) (key 6 (by simp [aok, asz] <;> omega) _ (hx.at j (by simp [aok, asz] <;> omega)) rfl)
    have hf : f = 5 := by omega
    subst hf
    refine Ok.eq (S_hoursFrom hw hx hj (s := 0) (by omega)) ?_
    exact Ok.so (QC.v h1 h2 trivial)
theorem C_stepAt {p1 p2 p3 : Int} (i1 : I32 p1) (i2 : I32 p2) (i3 : I32 p3) : CaseX (P_X10_stepAt p1 p2 p3) (fun E => if E = 2 then 0 else E + 1) (P_X11_stepAt p1 p2 p3) := by
  refine CaseY_of (fun w => 0 ≤ p1 ∧ p1 < (qN w : Int) ∧ 0 ≤ p2 ∧ p2 < (qSt w p1.toNat : Int)) (fun _ => 0 ≤ p3 ∧ p3 ≤ 1) (fun _ => True) (fun w => w (7 + p3.toNat) (5 * p1.toNat + p2.toNat)) (fun w h len a np G hI => ?_) (fun w h len a np G n k hI => ?_)
  · have hw := hI.1.1
    have hm := hI.2.2.2.2.1.1
    have hn := hw.n
    unfold P_X11_stepAt
    rw [M_isStep hw hm i1 i2]
    refine Ok.eq rfl ?_
    rw [M_in i3 (i32_k (by omega)) (i32_k (by omega))]
    refine Ok.eq rfl ?_
    refine QM.fits rfl rfl T_T (fun _ => rfl) (KF.rf G) (fun h1 h2 _ => ?_)
    refine Ok.iteT rfl ?_
    obtain ⟨j, rfl⟩ := Int.eq_ofNat_of_zero_le h1.1
    obtain ⟨s, rfl⟩ := Int.eq_ofNat_of_zero_le h1.2.2.1
    obtain ⟨f, rfl⟩ := Int.eq_ofNat_of_zero_le h2.1
    have hj : j < qN w := by omega
    rw [Int.toNat_natCast] at h1 ⊢
    have hs : s < qSt w j := by omega
    have h5 := (hw.st hj).2
    rw [Int.toNat_natCast, Int.toNat_natCast]
    have hm' : MD w ((up2 G 56 3 0) 57) := by
      rw [up2_ne (by omega)]
      exact hm
    refine Ok.eq (M_of hw hm' hj (k := 5 + 2 * s + f) (by omega) (by omega)) (Ok.so ⟨?_, KF.rf _, rfl⟩)
    rw [up2_ne (by omega)]
    have hf := hm.2.2.2.2.2.1 j s hj hs
    have : f = 0 ∨ f = 1 := by omega
    dsimp only
    rcases this with rfl | rfl
    · rw [Nat.add_zero, hf.1]
    · rw [show 61 + 15 * j + (5 + 2 * s + 1) = 61 + 15 * j + (5 + 2 * s + 1) from rfl, hf.2]
  · have hw := hI.1.1
    have hx := hI.2.1
    have hn := hw.n
    unfold P_X10_stepAt
    refine Ok.need (needStep_eq hw hx i1 i2) (fun h1 => ?_) (fun h1 => QC.e1 0 (by omega) rfl h1)
    refine Ok.need (needRange_eq i3 (i32_k (by omega)) (i32_k (by omega))) (fun h2 => ?_) (fun h2 => QC.e2 1 (by omega) rfl h1 h2)
    obtain ⟨j, rfl⟩ := Int.eq_ofNat_of_zero_le h1.1
    obtain ⟨s, rfl⟩ := Int.eq_ofNat_of_zero_le h1.2.2.1
    obtain ⟨f, rfl⟩ := Int.eq_ofNat_of_zero_le h2.1
    have hj : j < qN w := by omega
    have h1' := h1
    rw [Int.toNat_natCast] at h1'
    have hs : s < qSt w j := by omega
    have h5 := (hw.st hj).2
    refine Ok.cd (ieq_nat (b := 0) (by omega) (by omega)) (fun h3 => ?_) (fun h3 => ?_)
    · subst h3
      refine Ok.ld (5 * j + s) (by omega) (by omega) (by omega) ?_
      dsimp only
      rw [hx.at (5 * j + s) (by simp [aok, asz] <;> omega)]
      exact Ok.so (QC.v h1 h2 trivial)
    · have hf : f = 1 := by omega
      subst hf
      refine Ok.ld (5 * j + s) (by omega) (by omega) (by omega) ?_
      dsimp only
      rw [hx.at (5 * j + s) (by simp [aok, asz] <;> omega)]
      exact Ok.so (QC.v h1 h2 trivial)
