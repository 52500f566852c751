/-! ===== the model finds no wrong hour ===== -/
theorem M_isClosed {w : wS} {G : mG} {m : Nat} {h : Int} (ih : I32 h) (hw : Wok w) (hm : MD w (G 57)) (h4 : m < 4) (hno : ∀ c, c < qCn w m → ¬ (qCf w (4 * m + c) ≤ h ∧ h < qCt w (4 * m + c))) : P_X11_isClosed (m : Int) h G = some false := by
  have hcn := (hw.cn h4).2
  refine Ok.get ?_
  unfold P_X11_isClosed
  refine Ok.forA (fun _ v => v = 0) (qCn w m) LF (LF_lt (by omega)) rfl (fun c hc again v hv hk => ?_) (fun again v hv => ?_)
  · subst hv
    have hcl := hw.cl h4 hc
    refine Ok.ld (1 + 11 * m) (by omega) (by omega) (by omega) ?_
    rw [hm.cn hw h4]
    refine Ok.condT (ilt_nat (by omega) (by omega)) hc ?_
    refine Ok.lk ?_
    refine Ok.jnP False (fun g => g.elim) (fun k13 hk13 => ?_)
    refine Ok.iteT rfl ?_
    refine Ok.ld (1 + 11 * m + 1 + 2 * c) (by omega) (by omega) (by omega) ?_
    rw [hm.cf hw h4 hc]
    refine Ok.lk ?_
    refine Ok.cd (ilt_id ih.1 ih.2 (by omega) (by omega)) (fun g => ?_) (fun g => ?_)
    · exact hk _ rfl
    · refine Ok.ld (1 + 11 * m + 1 + 2 * c + 1) (by omega) (by omega) (by omega) ?_
      rw [hm.ct hw h4 hc]
      refine Ok.cd (ilt_id ih.1 ih.2 (by omega) (by omega)) (fun g2 => ?_) (fun g2 => ?_)
      · exact absurd ⟨by omega, g2⟩ (hno c hc)
      · exact hk _ rfl
  · subst hv
    refine Ok.ld (1 + 11 * m) (by omega) (by omega) (by omega) ?_
    rw [hm.cn hw h4]
    refine Ok.condF (ilt_nat (by omega) (by omega)) (by omega) ?_
    exact Ok.so rfl
/-- a place of the row is worked on in an hour -/
def cvr (w : wS) (r : Nat → Nat) (n : Nat) (h : Int) (i : Nat) : Prop := tBg (qS w D0 r n) (rX r i) ≤ h ∧ h < tBg (qS w D0 r n) (rX r i) + qHr w (rX r i)
theorem M_isWrong {w : wS} {r : Nat → Nat} {n : Nat} {G : mG} {h : Int} (ih : I32 h) (hw : Wok w) (hF : qF w r n) (hW : WP w r n G) : P_X11_isWrong h G = some false := by
  have hn := hw.n
  have hm := hW.1
  refine Ok.get ?_
  unfold P_X11_isWrong
  refine Ok.for3 (fun J a b => b = 0 ∧ ∃ k : Nat, a = (k : Int) ∧ k < 64 ∧ ∀ m, m < 4 → hasb k m = true → ∃ i, i < n ∧ r i < J ∧ rM w r i = m ∧ cvr w r n h i) (qN w) LF (LF_lt (by omega)) ⟨rfl, 0, rfl, by omega, fun m hm4 g => absurd g (by
    have : ∀ m : Fin 4, ¬ hasb 0 m.1 = true := by decide
    exact this ⟨m, hm4⟩)⟩ (fun J hJ again a b hab hk => ?_) (fun again a b hab => ?_)
  · obtain ⟨rfl, k, rfl, hk64, hmk⟩ := hab
    have h5 := (hw.st hJ).2
    refine Ok.ld 0 rfl (by omega) (by omega) ?_
    rw [hm.1, hn.1]
    refine Ok.condT (ilt_nat (by omega) (by omega)) hJ ?_
    refine Ok.lk ?_
    refine Ok.lp4 (fun M a b c s => ∃ S : Nat, s = (S : Int) ∧ S + M = qSt w J ∧ b = 0 ∧ (∃ cc : Nat, c = (cc : Int) ∧ cc ≤ S ∧ (0 < cc → ∃ i, i < n ∧ r i = J ∧ rS r i < S ∧ cvr w r n h i)) ∧ ∃ k : Nat, a = (k : Int) ∧ k < 64 ∧ ∀ m, m < 4 → hasb k m = true → ∃ i, i < n ∧ (r i < J ∨ (r i = J ∧ rS r i < S)) ∧ rM w r i = m ∧ cvr w r n h i) (fun M again2 a b c s hI hk2 => ?_) LF (qSt w J) (k : Int) 0 0 0 (LF_lt (by omega)) ⟨0, rfl, by omega, rfl, ⟨0, rfl, Nat.le_refl 0, fun g => absurd g (Nat.lt_irrefl 0)⟩, k, rfl, hk64, fun m hm4 g => by
      obtain ⟨i, i1, i2, i3, i4⟩ := hmk m hm4 g
      exact ⟨i, i1, Or.inl i2, i3, i4⟩⟩
    obtain ⟨S, rfl, hSM, rfl, ⟨cc, rfl, hcc, hcv⟩, k', rfl, hk', hmk'⟩ := hI
    refine Ok.eq (M_of hw hm hJ (k := 4) rfl (by omega)) ?_
    rw [hm.st hw hJ]
    refine Ok.cd (ilt_nat (by omega) (by omega)) (fun hS => ?_) (fun hS => ?_)
    · have hS' : S < rD r n J := by
        rw [hF.2 J hJ]
        exact hS
      obtain ⟨i, c1, c2, c3, c4⟩ := rX_of hS'
      refine Ok.eq (M_isDone ih hw hF.1 hm hS' (hW.2.2 J S hJ hS)) ?_
      refine Ok.jn3 (fun a b c => b = 0 ∧ (∃ cc : Nat, c = (cc : Int) ∧ cc ≤ S + 1 ∧ (0 < cc → ∃ i, i < n ∧ r i = J ∧ rS r i < S + 1 ∧ cvr w r n h i)) ∧ ∃ k : Nat, a = (k : Int) ∧ k < 64 ∧ ∀ m, m < 4 → hasb k m = true → ∃ i, i < n ∧ (r i < J ∨ (r i = J ∧ rS r i < S + 1)) ∧ rM w r i = m ∧ cvr w r n h i) (fun a b c habc => ?_) (fun k25 hk25 => ?_)
      · exact hk2 (M - 1) _ _ _ _ (by omega) ⟨S + 1, rfl, by omega, habc⟩
      · refine Ok.it (fun g => ?_) (fun g => ?_)
        · have g := of_decide_eq_true g
          have gi : cvr w r n h i := by
            unfold cvr
            rw [c4]
            exact g
          have hmi : rM w r i = qMc w (5 * J + S) := by
            unfold rM
            rw [c4]
          have hm4 : qMc w (5 * J + S) < 4 := (hw.mc hJ hS).2
          refine Ok.eq (M_machineOf hw hm hJ hS) ?_
          refine Ok.jn1 (fun y => y = 0) (fun y hy => ?_) (fun k29 hk29 => ?_)
          · subst hy
            rw [or_b hk' (show qMc w (5 * J + S) < 6 by omega)]
            refine hk25 _ _ _ ⟨rfl, ⟨cc + 1, rfl, by omega, fun _ => ⟨i, c1, c2, by omega, gi⟩⟩, _, rfl, setb_lt hk' (by omega), fun m hmm g2 => ?_⟩
            rw [set_at hk' (by omega) (by omega)] at g2
            by_cases e : m = qMc w (5 * J + S)
            · exact ⟨i, c1, Or.inr ⟨c2, by omega⟩, by rw [hmi, e], gi⟩
            · have e2 : (m == qMc w (5 * J + S)) = false := by
                simp [e]
              rw [e2, Bool.or_false] at g2
              obtain ⟨i', d1, d2, d3, d4⟩ := hmk' m hmm g2
              exact ⟨i', d1, by omega, d3, d4⟩
          · refine Ok.jnP False (fun g => g.elim) (fun k31 hk31 => ?_)
            refine Ok.iteT rfl ?_
            rw [t3_b hk' (show qMc w (5 * J + S) < 6 by omega)]
            cases hb : hasb k' (qMc w (5 * J + S))
            · refine Ok.iteF rfl ?_
              refine Ok.cd (ilt_nat (a := 0) (by omega) (by omega)) (fun g3 => ?_) (fun g3 => ?_)
              · obtain ⟨i', d1, d2, d3, d4⟩ := hcv g3
                have := er_j hw hF.1 d1 c1 (d2.trans c2.symm) d4 gi
                subst this
                omega
              · refine Ok.eq (M_isClosed ih hw hm hm4 (fun c hc => ?_)) ?_
                · have := er_c hw hF.1 c1 (c := c) (by rw [hmi]; exact hc) gi
                  rw [hmi] at this
                  exact this
                · exact Ok.iteF rfl (hk29 _ rfl)
            · obtain ⟨i', d1, d2, d3, d4⟩ := hmk' _ hm4 hb
              have := er_m hw hF.1 d1 c1 (d3.trans hmi.symm) d4 gi
              subst this
              omega
        · refine hk25 _ _ _ ⟨rfl, ⟨cc, rfl, by omega, fun g2 => ?_⟩, k', rfl, hk', fun m hm4 g2 => ?_⟩
          · obtain ⟨i', d1, d2, d3, d4⟩ := hcv g2
            exact ⟨i', d1, d2, by omega, d4⟩
          · obtain ⟨i', d1, d2, d3, d4⟩ := hmk' m hm4 g2
            exact ⟨i', d1, by omega, d3, d4⟩
    · refine hk _ _ ⟨rfl, k', rfl, hk', fun m hm4 g2 => ?_⟩
      obtain ⟨i', d1, d2, d3, d4⟩ := hmk' m hm4 g2
      exact ⟨i', d1, by omega, d3, d4⟩
  · obtain ⟨rfl, k, rfl, hk64, hmk⟩ := hab
    refine Ok.ld 0 rfl (by omega) (by omega) ?_
    rw [hm.1, hn.1]
    refine Ok.condF (ilt_nat (by omega) (by omega)) (by omega) ?_
    exact Ok.so rfl
