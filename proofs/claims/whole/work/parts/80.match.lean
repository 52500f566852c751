/-! ===== match: all rows of workers in order, the model ===== -/
/-- whether a worker may stand at a machine -/
def wkM (w : wS) (u : Nat) : Nat := (w 15 u).toNat
def wkOk (w : wS) (pm u m : Nat) : Bool := hasb pm m && hasb (wkM w u) m
/-- workers placed, their mask, whether all is right -/
def wkS (w : wS) (pm m d : Nat) (t : Nat × (Nat × Bool)) : Nat × (Nat × Bool) := if d = 6 then t else (t.1 + 1, (setb t.2.1 d, t.2.2 && wkOk w pm d m && !hasb t.2.1 d))
def evc (w : wS) (pm : Nat) : Nat → Nat → Nat × (Nat × Bool)
  | _, 0 => (0, (0, true))
  | c, p + 1 => wkS w pm p (c % 7) (evc w pm (c / 7) p)
theorem evc_s {w : wS} {pm c p : Nat} : evc w pm c (p + 1) = wkS w pm p (c % 7) (evc w pm (c / 7) p) := rfl
theorem evc_bd {w : wS} {pm : Nat} : ∀ {p c : Nat}, (evc w pm c p).1 ≤ p ∧ (evc w pm c p).2.1 < 64
  | 0, c => ⟨Nat.le_refl 0, by show (0 : Nat) < 64; omega⟩
  | p + 1, c => by
    have ih := evc_bd (w := w) (pm := pm) (p := p) (c := c / 7)
    rw [evc_s]
    unfold wkS
    by_cases h : c % 7 = 6
    · rw [if_pos h]
      omega
    · rw [if_neg h]
      exact ⟨by omega, setb_lt ih.2 (by omega)⟩
/-- the best row so far: how many, which -/
def mtS (w : wS) (pm x : Nat) (t : Int × Nat) : Int × Nat := if (evc w pm x 4).2.2 = true ∧ t.1 < ((evc w pm x 4).1 : Int) then (((evc w pm x 4).1 : Int), x) else t
def mtF (w : wS) (pm n : Nat) : Int × Nat := it (fun x t => mtS w pm x t) n (-1, 0)
theorem mtF_s {w : wS} {pm n : Nat} : mtF w pm (n + 1) = mtS w pm n (mtF w pm n) := rfl
/-- who stands at a machine -/
def mtR (x m : Nat) : Int := if x / 7 ^ (3 - m) % 7 = 6 then -1 else ((x / 7 ^ (3 - m) % 7 : Nat) : Int)
theorem mtF_bd {w : wS} {pm : Nat} : ∀ {n : Nat}, -1 ≤ (mtF w pm n).1 ∧ (mtF w pm n).1 ≤ 4
  | 0 => ⟨Int.le_refl _, by show (-1 : Int) ≤ 4; omega⟩
  | n + 1 => by
    have ih := mtF_bd (w := w) (pm := pm) (n := n)
    have h := (evc_bd (w := w) (pm := pm) (p := 4) (c := n)).1
    rw [mtF_s]
    unfold mtS
    split
    · dsimp only
      omega
    · exact ih
theorem div7 {y : Nat} (hy : y < 10000) : iDiv (y : Int) 7 = ((y / 7 : Nat) : Int) := by
  rw [iDiv_id (by omega) (by omega) (by omega) (by omega)]
  rfl
theorem rem7 {y : Nat} (hy : y < 10000) : iRem (y : Int) 7 = ((y % 7 : Nat) : Int) := by
  rw [iRem_id (by omega) (by omega) (by omega) (by omega)]
  rfl
theorem evc_dn {w : wS} {pm c p : Nat} (h : (evc w pm c (p + 1)).2.2 = true) : (evc w pm (c / 7) p).2.2 = true := by
  rw [evc_s] at h
  unfold wkS at h
  by_cases g : c % 7 = 6
  · rw [if_pos g] at h
    exact h
  · rw [if_neg g] at h
    dsimp only at h
    cases hb : (evc w pm (c / 7) p).2.2
    · rw [hb] at h
      exact absurd h (by simp)
    · rfl
theorem evc_pre {w : wS} {pm x : Nat} (h : (evc w pm x 4).2.2 = true) : ∀ k, k ≤ 4 → (evc w pm (x / 7 ^ k) (4 - k)).2.2 = true
  | 0, _ => by
    rw [Nat.pow_zero, Nat.div_one]
    exact h
  | k + 1, hk => by
    have ih := evc_pre h k (by omega)
    rw [show 4 - k = (4 - (k + 1)) + 1 by omega] at ih
    have := evc_dn ih
    rw [Nat.div_div_eq_div_mul, ← Nat.pow_succ] at this
    exact this
theorem M_workerIn {x m : Nat} (hx : x < 2401) (hm : m < 4) : P_X11_workerIn (x : Int) (m : Int) = some ((x / 7 ^ (3 - m) % 7 : Nat) : Int) := by
  refine Ok.get ?_
  unfold P_X11_workerIn
  refine Ok.jn1 (fun y => y = ((x / 7 ^ (3 - m) : Nat) : Int)) (fun y hy => ?_) (fun k5 hk5 => ?_)
  · subst hy
    have h1 : x / 7 ^ (3 - m) ≤ x := Nat.div_le_self _ _
    rw [rem7 (by omega)]
    exact Ok.so rfl
  · refine Ok.lp2 (fun M y k => ∃ i : Nat, i + M = 3 - m ∧ y = ((x / 7 ^ i : Nat) : Int) ∧ k = ((m + i : Nat) : Int)) (fun M again y k hI hk => ?_) LF (3 - m) (x : Int) (m : Int) (LF_lt (by omega)) ⟨0, by omega, by rw [Nat.pow_zero, Nat.div_one], rfl⟩
    obtain ⟨i, hi, rfl, rfl⟩ := hI
    have h1 : x / 7 ^ i ≤ x := Nat.div_le_self _ _
    refine Ok.cd (ilt_nat (b := 3) (by omega) (by omega)) (fun h => ?_) (fun h => ?_)
    · rw [div7 (by omega)]
      refine hk (M - 1) _ _ (by omega) ⟨i + 1, by omega, ?_, rfl⟩
      rw [Nat.pow_succ, ← Nat.div_div_eq_div_mul]
    · exact hk5 _ (by rw [show 3 - m = i by omega])
theorem wkM_lt {w : wS} (hw : Wok w) {u : Nat} (hu : u < 6) : w 15 u = (wkM w u : Int) ∧ wkM w u < 64 := by
  have h := hw.2.2.2.2.2.2.1 u hu
  unfold wkM
  omega
theorem M_matches {w : wS} {G : mG} {pm : Nat} (hw : Wok w) (hm : MD w (G 57)) (hp : pm < 16) : Ok (P_X11_matches (pm : Int) G) (fun z => z.1 = (mtF w pm 2401).1 ∧ (0 ≤ (mtF w pm 2401).1 → ∀ m, m < 4 → z.2 72 m = mtR (mtF w pm 2401).2 m) ∧ ∀ b, b ≠ 72 → z.2 b = G b) := by
  unfold P_X11_matches
  refine Ok.lp3 (fun M b k G4 => ∃ x : Nat, k = (x : Int) ∧ x + M = 2401 ∧ b = (mtF w pm x).1 ∧ (0 ≤ (mtF w pm x).1 → ∀ m, m < 4 → G4 72 m = mtR (mtF w pm x).2 m) ∧ ∀ b, b ≠ 72 → G4 b = G b) (fun M again b k G4 hI hk => ?_) LF 2401 (-1) 0 G (LF_lt (by omega)) ⟨0, rfl, by omega, rfl, fun h => absurd h (by show ¬ (0 : Int) ≤ -1; omega), fun _ _ => rfl⟩
  obtain ⟨x, rfl, hx, rfl, hr, hf⟩ := hI
  have hm4 : MD w (G4 57) := by
    rw [hf 57 (by omega)]
    exact hm
  have hbd := mtF_bd (w := w) (pm := pm) (n := x)
  have hs := mtF_s (w := w) (pm := pm) (n := x)
  unfold mtS at hs
  refine Ok.cd (ilt_nat (b := 2401) (by omega) (by omega)) (fun h => ?_) (fun h => ?_)
  · refine Ok.jn2 (fun y z => (((evc w pm x 4).2.2 = true) → z = 1 ∧ y = ((evc w pm x 4).1 : Int)) ∧ (¬ (evc w pm x 4).2.2 = true → z = 0)) (fun y z hyz => ?_) (fun k24 hk24 => ?_)
    · refine Ok.jn2 (fun b' G' => b' = (mtF w pm (x + 1)).1 ∧ (0 ≤ (mtF w pm (x + 1)).1 → ∀ m, m < 4 → G' 72 m = mtR (mtF w pm (x + 1)).2 m) ∧ ∀ b, b ≠ 72 → G' b = G b) (fun b' G' hb => ?_) (fun k13 hk13 => ?_)
      · obtain ⟨rfl, hb2, hb3⟩ := hb
        exact hk (M - 1) _ _ _ (by omega) ⟨x + 1, rfl, by omega, rfl, hb2, hb3⟩
      · by_cases hv : (evc w pm x 4).2.2 = true
        · obtain ⟨rfl, rfl⟩ := hyz.1 hv
          have hc := (evc_bd (w := w) (pm := pm) (p := 4) (c := x)).1
          refine Ok.iteF rfl ?_
          refine Ok.cd (ilt_id (by omega) (by omega) (by omega) (by omega)) (fun g => ?_) (fun g => ?_)
          · rw [if_pos ⟨hv, g⟩] at hs
            refine Ok.lp2 (fun M2 k G' => ∃ m : Nat, k = (m : Int) ∧ m + M2 = 4 ∧ (∀ m', m' < m → G' 72 m' = mtR x m') ∧ ∀ b, b ≠ 72 → G' b = G b) (fun M2 again2 k G' hI2 hk2 => ?_) LF 4 0 G4 (LF_lt (by omega)) ⟨0, rfl, by omega, fun m' hm' => absurd hm' (Nat.not_lt_zero _), hf⟩
            obtain ⟨m, rfl, hmM, hr2, hf2⟩ := hI2
            refine Ok.cd (ilt_nat (b := 4) (by omega) (by omega)) (fun h4 => ?_) (fun h4 => ?_)
            · refine Ok.eq (M_workerIn h h4) ?_
              have hd : x / 7 ^ (3 - m) % 7 < 7 := Nat.mod_lt _ (by omega)
              refine Ok.jn1 (fun y => y = mtR x m) (fun y hy => ?_) (fun k22 hk22 => ?_)
              · subst hy
                refine Ok.sto m rfl h4 (by omega) ?_
                refine hk2 (M2 - 1) _ _ (by omega) ⟨m + 1, rfl, by omega, fun m' hm' => ?_, fun b hb => by rw [up2_ne hb, hf2 b hb]⟩
                rw [up2_eq, up1_if]
                by_cases e : m' = m
                · rw [if_pos e, e]
                · rw [if_neg e]
                  exact hr2 m' (by omega)
              · refine Ok.cd (ieq_nat (b := 6) (by omega) (by omega)) (fun g6 => ?_) (fun g6 => ?_)
                · refine hk22 _ ?_
                  unfold mtR
                  rw [if_pos g6]
                · refine Ok.eq (M_workerIn h h4) ?_
                  refine hk22 _ ?_
                  unfold mtR
                  rw [if_neg g6]
            · refine hk13 _ _ ⟨by rw [hs], fun _ m' hm' => ?_, hf2⟩
              rw [hs]
              exact hr2 m' (by omega)
          · rw [if_neg (fun g2 => g g2.2)] at hs
            exact hk13 _ _ ⟨by rw [hs], by rw [hs]; exact hr, hf⟩
        · have := hyz.2 hv
          subst this
          rw [if_neg (fun g2 => hv g2.1)] at hs
          refine Ok.iteT rfl ?_
          exact hk13 _ _ ⟨by rw [hs], by rw [hs]; exact hr, hf⟩
    · refine Ok.lp4 (fun M2 a u v k => ∃ m : Nat, k = (m : Int) ∧ m + M2 = 4 ∧ ((v = 0 ∧ ¬ (evc w pm x 4).2.2 = true) ∨ (v = 1 ∧ (evc w pm (x / 7 ^ (4 - m)) m).2.2 = true ∧ a = ((evc w pm (x / 7 ^ (4 - m)) m).1 : Int) ∧ u = ((evc w pm (x / 7 ^ (4 - m)) m).2.1 : Int)))) (fun M2 again2 a u v k hI2 hk2 => ?_) LF 4 0 0 1 0 (LF_lt (by omega)) ⟨0, rfl, by omega, Or.inr ⟨rfl, rfl, rfl, rfl⟩⟩
      obtain ⟨m, rfl, hmM, hcase⟩ := hI2
      refine Ok.cd (ilt_nat (b := 4) (by omega) (by omega)) (fun h4 => ?_) (fun h4 => ?_)
      · rcases hcase with ⟨rfl, hno⟩ | ⟨rfl, hyes, rfl, rfl⟩
        · refine Ok.iteT rfl ?_
          exact hk24 _ _ ⟨fun g => absurd g hno, fun _ => rfl⟩
        · refine Ok.iteF rfl ?_
          refine Ok.eq (M_workerIn h h4) ?_
          have hd : x / 7 ^ (3 - m) % 7 < 7 := Nat.mod_lt _ (by omega)
          have hdd : x / 7 ^ (3 - m) / 7 = x / 7 ^ (4 - m) := by
            rw [Nat.div_div_eq_div_mul, ← Nat.pow_succ, show (3 - m).succ = 4 - m by omega]
          have hst := evc_s (w := w) (pm := pm) (c := x / 7 ^ (3 - m)) (p := m)
          rw [hdd] at hst
          have hpre : (evc w pm x 4).2.2 = true → (evc w pm (x / 7 ^ (3 - m)) (m + 1)).2.2 = true := fun g => by
            have := evc_pre g (3 - m) (by omega)
            rw [show 4 - (3 - m) = m + 1 by omega] at this
            exact this
          have hub := (evc_bd (w := w) (pm := pm) (p := m) (c := x / 7 ^ (4 - m))).2
          generalize hdg : x / 7 ^ (3 - m) % 7 = d at hd hst ⊢
          generalize evc w pm (x / 7 ^ (4 - m)) m = t at hyes hst hub ⊢
          have e4 : 4 - (m + 1) = 3 - m := by omega
          refine Ok.jn3 (fun a u v => (v = 0 ∧ ¬ (evc w pm x 4).2.2 = true) ∨ (v = 1 ∧ (evc w pm (x / 7 ^ (3 - m)) (m + 1)).2.2 = true ∧ a = ((evc w pm (x / 7 ^ (3 - m)) (m + 1)).1 : Int) ∧ u = ((evc w pm (x / 7 ^ (3 - m)) (m + 1)).2.1 : Int))) (fun a u v hauv => ?_) (fun k36 hk36 => ?_)
          · refine hk2 (M2 - 1) _ _ _ _ (by omega) ⟨m + 1, rfl, by omega, ?_⟩
            rw [e4]
            exact hauv
          · unfold wkS at hst
            refine Ok.cd (ieq_nat (b := 6) (by omega) (by omega)) (fun g6 => ?_) (fun g6 => ?_)
            · rw [if_pos g6] at hst
              refine hk36 _ _ _ (Or.inr ⟨rfl, ?_, ?_, ?_⟩)
              · rw [hst]
                exact hyes
              · rw [hst]
              · rw [hst]
            · rw [if_neg g6] at hst
              have hd6 : d < 6 := by omega
              obtain ⟨w1, w2⟩ := wkM_lt hw hd6
              rw [or_b hub hd6]
              have hno : ¬ (wkOk w pm d m && !hasb t.2.1 d) = true → ¬ (evc w pm x 4).2.2 = true := fun g g2 => by
                have := hpre g2
                rw [hst] at this
                dsimp only at this
                rw [hyes, Bool.true_and] at this
                exact g this
              refine Ok.jn1 (fun y => (y = 1 ∧ (wkOk w pm d m && !hasb t.2.1 d) = true) ∨ (y = 0 ∧ ¬ (wkOk w pm d m && !hasb t.2.1 d) = true)) (fun y hy => ?_) (fun k39 hk39 => ?_)
              · rcases hy with ⟨rfl, hy⟩ | ⟨rfl, hy⟩
                · refine hk36 _ _ _ (Or.inr ⟨rfl, ?_, ?_, ?_⟩)
                  · rw [hst]
                    dsimp only
                    rw [hyes, Bool.true_and]
                    exact hy
                  · rw [hst]
                    rfl
                  · rw [hst]
                · exact hk36 _ _ _ (Or.inl ⟨rfl, hno hy⟩)
              · refine Ok.jnP (¬ (wkOk w pm d m && !hasb t.2.1 d) = true) (fun g => hk39 _ (Or.inr ⟨rfl, g⟩)) (fun k41 hk41 => ?_)
                have hm6 : m < 6 := by omega
                unfold wkOk at hk39 hk41
                rw [t3_b (show pm < 64 by omega) hm6]
                cases b1 : hasb pm m
                · refine Ok.iteF rfl (hk41 ?_)
                  rw [b1]
                  simp
                · refine Ok.iteT rfl ?_
                  refine Ok.ld (276 + d) (by omega) (by omega) (by omega) ?_
                  rw [hm4.2.2.2.2.2.2 d hd6, w1, t3_b w2 hm6]
                  cases b2 : hasb (wkM w d) m
                  · refine Ok.iteF rfl (hk41 ?_)
                    rw [b1, b2]
                    simp
                  · refine Ok.iteT rfl ?_
                    rw [t3_b hub hd6]
                    cases b3 : hasb t.2.1 d
                    · refine Ok.iteT rfl (hk39 _ (Or.inl ⟨rfl, ?_⟩))
                      rw [b1, b2, b3]
                      rfl
                    · refine Ok.iteF rfl (hk41 ?_)
                      rw [b1, b2, b3]
                      simp
      · have : m = 4 := by omega
        subst this
        have e4 : x / 7 ^ (4 - 4) = x := by rw [Nat.sub_self, Nat.pow_zero, Nat.div_one]
        rcases hcase with ⟨rfl, hno⟩ | ⟨rfl, hyes, rfl, rfl⟩
        · exact hk24 _ _ ⟨fun g => absurd g hno, fun _ => rfl⟩
        · rw [e4] at hyes ⊢
          exact hk24 _ _ ⟨fun _ => ⟨rfl, rfl⟩, fun g => absurd hyes g⟩
  · have : x = 2401 := by omega
    subst this
    exact Ok.so ⟨rfl, hr, hf⟩
