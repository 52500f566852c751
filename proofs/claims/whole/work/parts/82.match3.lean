/-! ===== match: the class ===== -/
/-- who stands at a machine, by a row's beginning -/
def mtP (c p m : Nat) : Int := if c / 7 ^ (p - 1 - m) % 7 = 6 then -1 else ((c / 7 ^ (p - 1 - m) % 7 : Nat) : Int)
/-- the search's state: the best so far, the beginning of the row at hand -/
def MX (w : wS) (pm n c p : Nat) (G0 G : mG) : Prop := G 51 3 = (mtF w pm n).1 ∧ (0 ≤ (mtF w pm n).1 → ∀ m, m < 4 → G 53 m = mtR (mtF w pm n).2 m) ∧ (∀ m, m < p → G 52 m = mtP c p m) ∧ ∀ b, b ≠ 51 → b ≠ 52 → b ≠ 53 → G b = G0 b
theorem mtP_up {c p d : Nat} (hd : d < 7) : (∀ m, m < p → mtP (7 * c + d) (p + 1) m = mtP c p m) ∧ mtP (7 * c + d) (p + 1) p = (if d = 6 then -1 else (d : Int)) := by
  refine ⟨fun m hm => ?_, ?_⟩
  · unfold mtP
    have e : (7 * c + d) / 7 ^ (p + 1 - 1 - m) = c / 7 ^ (p - 1 - m) := by
      rw [show p + 1 - 1 - m = (p - 1 - m) + 1 by omega, Nat.pow_succ', ← Nat.div_div_eq_div_mul, show (7 * c + d) / 7 = c by omega]
    rw [e]
  · unfold mtP
    rw [show p + 1 - 1 - p = 0 by omega, Nat.pow_zero, Nat.div_one, show (7 * c + d) % 7 = d by omega]
theorem S_match {w : wS} (hw : Wok w) {pm : Nat} (hp : pm < 16) {G0 : mG} (hx : XS w G0) : ∀ (N p c : Nat) (G : mG), 4 < N + p → p ≤ 4 → (evc w pm c p).2.2 = true → MX w pm (c * 7 ^ (4 - p)) c p G0 G → Ok (P_X1_explore N (flM w pm : Int) (p : Int) ((evc w pm c p).2.1 : Int) ((evc w pm c p).1 : Int) G) (fun G' => MX w pm ((c + 1) * 7 ^ (4 - p)) c p G0 G') := by
  have hfl := flM_lt hw hp
  intro N
  induction N with
  | zero =>
    intro p c G h1 h2
    omega
  | succ N ih =>
    intro p c G h1 h2 hv hX
    have hbd := evc_bd (w := w) (pm := pm) (p := p) (c := c)
    have hF := mtF_bd (w := w) (pm := pm) (n := c * 7 ^ (4 - p))
    have hbf := bf_all ⟨flM w pm, hfl.2⟩ ⟨p, by omega⟩
    have hbf4 : bf (flM w pm) p ≤ 4 := hbf.2.1
    unfold P_X1_explore
    refine Ok.eq (show P_J6_bitCount_0f7a4 (iUshr (flM w pm : Int) (p : Int)) = some (bf (flM w pm) p : Int) from hbf.1) ?_
    rw [hX.1]
    refine Ok.cd (P := (mtF w pm (c * 7 ^ (4 - p))).1 < ((evc w pm c p).1 : Int) + (bf (flM w pm) p : Int)) (ilt_id (by omega) (by omega) (by omega) (by omega)) (fun g => ?_) (fun g => ?_)
    · refine Ok.cd (ilt_nat (b := 4) (by omega) (by omega)) (fun h4 => ?_) (fun h4 => ?_)
      · have eR : ∀ d, (7 * c + d) * 7 ^ (4 - (p + 1)) + 7 ^ (4 - (p + 1)) = (7 * c + (d + 1)) * 7 ^ (4 - (p + 1)) := fun d => by
          rw [← Nat.add_assoc, Nat.add_mul (7 * c + d) 1, Nat.one_mul]
        have eP : 7 ^ (4 - p) = 7 * 7 ^ (4 - (p + 1)) := by
          rw [show 4 - p = (4 - (p + 1)) + 1 by omega, Nat.pow_succ']
        have eL : c * 7 ^ (4 - p) = (7 * c + 0) * 7 ^ (4 - (p + 1)) := by
          rw [eP, show 7 * c + 0 = c * 7 by omega, Nat.mul_assoc]
        have eE : (c + 1) * 7 ^ (4 - p) = (7 * c + 6 + 1) * 7 ^ (4 - (p + 1)) := by
          rw [eP, show 7 * c + 6 + 1 = (c + 1) * 7 by omega, Nat.mul_assoc]
        have hch : ∀ d, d < 7 → evc w pm (7 * c + d) (p + 1) = wkS w pm p d (evc w pm c p) := fun d hd => by
          rw [evc_s, show (7 * c + d) % 7 = d by omega, show (7 * c + d) / 7 = c by omega]
        have hsub : ∀ d G', d < 7 → MX w pm ((7 * c + d + 1) * 7 ^ (4 - (p + 1))) (7 * c + d) (p + 1) G0 G' → MX w pm ((7 * c + d + 1) * 7 ^ (4 - (p + 1))) c p G0 G' := fun d G' hd h => ⟨h.1, h.2.1, fun m hm => by rw [h.2.2.1 m (by omega), (mtP_up hd).1 m hm], h.2.2.2⟩
        have hset : ∀ d G', d < 7 → MX w pm ((7 * c + d) * 7 ^ (4 - (p + 1))) c p G0 G' → MX w pm ((7 * c + d) * 7 ^ (4 - (p + 1))) (7 * c + d) (p + 1) G0 (up2 G' 52 p (if d = 6 then -1 else (d : Int))) := fun d G' hd h => ⟨by rw [up2_ne (by omega)]; exact h.1, fun g m hm => by rw [up2_ne (by omega)]; exact h.2.1 g m hm, fun m hm => by
          rw [up2_eq, up1_if]
          by_cases e : m = p
          · rw [if_pos e, e, (mtP_up hd).2]
          · rw [if_neg e, (mtP_up hd).1 m (by omega)]
            exact h.2.2.1 m (by omega), fun b b1 b2 b3 => by rw [up2_ne b2]; exact h.2.2.2 b b1 b2 b3⟩
        have hskip : ∀ d G', d < 7 → ¬ (evc w pm (7 * c + d) (p + 1)).2.2 = true → MX w pm ((7 * c + d) * 7 ^ (4 - (p + 1))) c p G0 G' → MX w pm ((7 * c + (d + 1)) * 7 ^ (4 - (p + 1))) c p G0 G' := fun d G' hd hno h => by
          have hsk : mtF w pm ((7 * c + (d + 1)) * 7 ^ (4 - (p + 1))) = mtF w pm ((7 * c + d) * 7 ^ (4 - (p + 1))) := by
            rw [← eR d]
            refine mtF_skip _ (fun x x1 x2 hx4 => ?_)
            have h3 := (evc_up hw hp (4 - (p + 1)) (p + 1) x (by omega) hx4).1
            have h4 : x / 7 ^ (4 - (p + 1)) = 7 * c + d := by
              refine Nat.div_eq_of_lt_le ?_ ?_
              · exact x1
              · rw [Nat.add_mul, Nat.one_mul]
                exact x2
            rw [h4] at h3
            exact absurd h3 hno
          unfold MX
          rw [hsk]
          exact h
        refine Ok.jn1 (fun G6 => MX w pm ((7 * c + 6) * 7 ^ (4 - (p + 1))) c p G0 G6) (fun G6 h6 => ?_) (fun k10 hk10 => ?_)
        · refine Ok.sto p rfl h4 (by omega) ?_
          have h7 := hset 6 G6 (by omega) h6
          rw [if_pos rfl] at h7
          have hc6 := hch 6 (by omega)
          unfold wkS at hc6
          rw [if_pos rfl] at hc6
          have hcall := ih (p + 1) (7 * c + 6) _ (by omega) (by omega) (by rw [hc6]; exact hv) h7
          rw [hc6] at hcall
          refine Ok.bind hcall (fun G9 hG9 => Ok.so ?_)
          rw [eE]
          exact hsub 6 G9 (by omega) hG9
        · refine Ok.cd (t1_b (show flM w pm < 64 by omega) (show p < 6 by omega)) (fun g1 => ?_) (fun g1 => ?_)
          · refine hk10 _ ?_
            have hno : ∀ d, d < 6 → ¬ (evc w pm (7 * c + d) (p + 1)).2.2 = true := fun d hd h => by
              rw [hch d (by omega)] at h
              unfold wkS at h
              rw [if_neg (by omega)] at h
              dsimp only at h
              rw [flM_ok hw hp hd h4] at h
              cases hb : hasb (flM w pm) p
              · rw [hb] at h
                exact absurd h (by simp)
              · exact g1 hb
            rw [eL] at hX
            exact hskip 5 G (by omega) (hno 5 (by omega)) (hskip 4 G (by omega) (hno 4 (by omega)) (hskip 3 G (by omega) (hno 3 (by omega)) (hskip 2 G (by omega) (hno 2 (by omega)) (hskip 1 G (by omega) (hno 1 (by omega)) (hskip 0 G (by omega) (hno 0 (by omega)) hX)))))
          · have g1 : hasb (flM w pm) p = true := by
              cases hb : hasb (flM w pm) p
              · exact absurd (by rw [hb]; exact Bool.false_ne_true) g1
              · rfl
            rw [eL] at hX
            refine Ok.lp2 (fun M x G' => ∃ d : Nat, x = (d : Int) ∧ d + M = 6 ∧ MX w pm ((7 * c + d) * 7 ^ (4 - (p + 1))) c p G0 G') (fun M again x G12 hI hk => ?_) LF 6 0 G (LF_lt (by omega)) ⟨0, rfl, by omega, hX⟩
            obtain ⟨d, rfl, hdM, h12⟩ := hI
            refine Ok.cd (ilt_nat (b := 6) (by omega) (by omega)) (fun hd => ?_) (fun hd => ?_)
            · have hcd := hch d (by omega)
              unfold wkS at hcd
              rw [if_neg (by omega), flM_ok hw hp hd h4, g1, Bool.true_and, hv, Bool.true_and] at hcd
              obtain ⟨w1, w2⟩ := wkM_lt hw hd
              refine Ok.jn1 (fun G' => MX w pm ((7 * c + (d + 1)) * 7 ^ (4 - (p + 1))) c p G0 G') (fun G' hG' => ?_) (fun k17 hk17 => ?_)
              · exact hk (M - 1) _ _ (by omega) ⟨d + 1, rfl, by omega, hG'⟩
              · refine Ok.cd (t1_b hbd.2 hd) (fun g2 => ?_) (fun g2 => ?_)
                · have g2 : hasb (evc w pm c p).2.1 d = false := by
                    cases hb : hasb (evc w pm c p).2.1 d
                    · rfl
                    · exact absurd hb g2
                  refine Ok.ld d rfl (by omega) (by omega) ?_
                  have e15 : G12 15 d = (wkM w d : Int) := by
                    rw [h12.2.2.2 15 (by omega) (by omega) (by omega), hx.at d (by simp [aok, asz]; omega), w1]
                  rw [e15]
                  refine Ok.cd (t1_b w2 (show p < 6 by omega)) (fun g3 => ?_) (fun g3 => ?_)
                  · refine hk17 _ (hskip d G12 (by omega) (fun h => ?_) h12)
                    rw [hcd] at h
                    cases hb : hasb (wkM w d) p
                    · rw [hb] at h
                      exact absurd h (by simp)
                    · exact g3 hb
                  · have g3 : hasb (wkM w d) p = true := by
                      cases hb : hasb (wkM w d) p
                      · exact absurd (by rw [hb]; exact Bool.false_ne_true) g3
                      · rfl
                    refine Ok.sto p rfl h4 (by omega) ?_
                    have h7 := hset d G12 (by omega) h12
                    rw [if_neg (by omega)] at h7
                    rw [g2, g3] at hcd
                    have hcall := ih (p + 1) (7 * c + d) _ (by omega) (by omega) (by rw [hcd]; rfl) h7
                    rw [hcd] at hcall
                    rw [or_b hbd.2 hd]
                    refine Ok.bind hcall (fun G20 hG20 => ?_)
                    exact hk17 _ (hsub d G20 (by omega) hG20)
                · refine hk17 _ (hskip d G12 (by omega) (fun h => ?_) h12)
                  rw [hcd] at h
                  cases hb : hasb (evc w pm c p).2.1 d
                  · exact g2 (by rw [hb]; exact Bool.false_ne_true)
                  · rw [hb] at h
                    exact absurd h (by simp)
            · have : d = 6 := by omega
              subst this
              exact hk10 _ h12
      · have : p = 4 := by omega
        subst this
        have e1 : ∀ n, n * 7 ^ (4 - 4) = n := fun n => by rw [Nat.sub_self, Nat.pow_zero, Nat.mul_one]
        rw [e1] at hX g ⊢
        have hb4 : bf (flM w pm) 4 = 0 := hbf.2.2.1
        have hs := mtF_s (w := w) (pm := pm) (n := c)
        unfold mtS at hs
        rw [if_pos ⟨hv, by omega⟩] at hs
        refine Ok.pu ?_
        refine Ok.ac 0 0 4 rfl rfl rfl (by omega) (by omega) (by omega) (by omega) (Ok.so ⟨?_, fun _ m hm => ?_, fun m hm => ?_, fun b b1 b2 b3 => ?_⟩)
        · rw [upG_ne (by omega), up2_eq, up1_eq, hs]
        · rw [upG_eq]
          unfold cpyF
          rw [if_pos (by omega), up2_ne (by omega), show 0 + (m - 0) = m by omega, hX.2.2.1 m hm, hs]
          rfl
        · rw [upG_ne (by omega), up2_ne (by omega)]
          exact hX.2.2.1 m hm
        · rw [upG_ne b3, up2_ne b1]
          exact hX.2.2.2 b b1 b2 b3
    · refine Ok.so ?_
      have e1 : (c + 1) * 7 ^ (4 - p) = c * 7 ^ (4 - p) + 7 ^ (4 - p) := by rw [Nat.add_mul, Nat.one_mul]
      have hsk : mtF w pm ((c + 1) * 7 ^ (4 - p)) = mtF w pm (c * 7 ^ (4 - p)) := by
        rw [e1]
        refine mtF_skip _ (fun x x1 x2 hx4 => ?_)
        have h3 := (evc_up hw hp (4 - p) p x (by omega) hx4).2
        have h4 : x / 7 ^ (4 - p) = c := by
          rw [Nat.div_eq_iff (Nat.pow_pos (by omega))]
          constructor
          · rw [Nat.mul_comm]
            rw [Nat.mul_comm] at x1
            exact x1
          · omega
        rw [h4] at h3
        omega
      unfold MX
      rw [hsk]
      exact hX
