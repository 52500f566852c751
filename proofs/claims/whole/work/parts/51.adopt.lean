/-! ===== a plan is taken over ===== -/
def wP (w : wS) (f : Nat → Int) : wS := up2 (upG w 16 f) 1 15 1
theorem wP_ne {w : wS} {f : Nat → Int} {b : Nat} (h1 : b ≠ 1) (h2 : b ≠ 16) : wP w f b = w b := by
  unfold wP
  rw [up2_ne h1, upG_ne h2]
theorem wP_10 {w : wS} {f : Nat → Int} : wP w f 1 0 = w 1 0 := by
  unfold wP
  rw [up2_eq, up1_ne (by omega), upG_ne (by omega)]
theorem wP_115 {w : wS} {f : Nat → Int} : wP w f 1 15 = 1 := by
  unfold wP
  rw [up2_eq, up1_eq]
theorem wP_16 {w : wS} {f : Nat → Int} : wP w f 16 = f := by
  unfold wP
  rw [up2_ne (by omega), upG_eq]
section WPS
variable {w : wS} {f : Nat → Int} {r : Nat → Nat}
theorem wP_tot : qTot (wP w f) = qTot w := qTot_w wP_10 (wP_ne (by omega) (by omega))
theorem wP_ln : qLn (wP w f) = (qTot w).toNat := by
  unfold qLn
  rw [wP_115, if_neg (by omega), wP_tot]
theorem wP_val {a : Nat} {E : Nat → Int} : qVal (wP w f) a E = qVal w a E := by
  have e3 : qDu (wP w f) = qDu w := funext fun j => by unfold qDu; rw [wP_ne (by omega) (by omega)]
  have e4 : qWt (wP w f) = qWt w := funext fun j => by unfold qWt; rw [wP_ne (by omega) (by omega)]
  unfold qVal qValK
  rw [qN_w wP_10, e3, e4]
theorem wP_tEn {σ : qT} {j : Nat} : tEn (wP w f) σ j = tEn w σ j := by
  have e2 : qRel (wP w f) = qRel w := funext fun j => by unfold qRel; rw [wP_ne (by omega) (by omega)]
  have e8 : qHr (wP w f) = qHr w := funext fun j => by unfold qHr; rw [wP_ne (by omega) (by omega)]
  unfold tEn tRd qHf
  rw [e2, e8, qSt_w (wP_ne (by omega) (by omega) : wP w f 6 = w 6)]
theorem wP_ok (hw : Wok w) : Wok (wP w f) := by
  have h1 : Wok (upG w 16 f) := by
    have e : ∀ b, b ≠ 16 → upG w 16 f b = w b := fun b hb => upG_ne hb
    obtain ⟨a1, a2, a3, a4, a5, a6, a7, a8, a9⟩ := hw
    have eN : qN (upG w 16 f) = qN w := qN_w (by rw [e 1 (by omega)])
    have eS : qSt (upG w 16 f) = qSt w := qSt_w (e 6 (by omega))
    have eC : ∀ m, qCn (upG w 16 f) m = qCn w m := fun m => by
      unfold qCn
      rw [e 9 (by omega)]
    unfold Wok
    rw [eN, eS, e 1 (by omega), e 2 (by omega), e 3 (by omega), e 4 (by omega), e 5 (by omega), e 6 (by omega), e 7 (by omega), e 8 (by omega), e 9 (by omega), e 10 (by omega), e 11 (by omega), e 12 (by omega), e 13 (by omega), e 14 (by omega), e 15 (by omega)]
    exact ⟨a1, a2, a3, a4, fun m c hm hc => a5 m c hm (by rw [← eC]; exact hc), a6, a7, a8, a9⟩
  exact Wok_up h1 (Or.inr (Or.inr (Or.inr (Or.inr (Or.inl ⟨rfl, rfl, Or.inr rfl⟩)))))
theorem wP_md (hw : Wok w) {g g' : Nat → Int} (hm : MD w g) (hg : ∀ k, k < 151 ∨ 276 ≤ k → g' k = g k) : MD (wP w f) g' := by
  have h1 : MD (upG w 16 f) g := by
    have e : ∀ b, b ≠ 16 → upG w 16 f b = w b := fun b hb => upG_ne hb
    obtain ⟨a1, a2, a3, a4, a5, a6, a7⟩ := hm
    have eN : qN (upG w 16 f) = qN w := qN_w (by rw [e 1 (by omega)])
    have eS : qSt (upG w 16 f) = qSt w := qSt_w (e 6 (by omega))
    have eC : ∀ m, qCn (upG w 16 f) m = qCn w m := fun m => by
      unfold qCn
      rw [e 9 (by omega)]
    unfold MD
    rw [eN, eS, e 1 (by omega), e 2 (by omega), e 3 (by omega), e 4 (by omega), e 5 (by omega), e 6 (by omega), e 7 (by omega), e 8 (by omega), e 9 (by omega), e 10 (by omega), e 11 (by omega), e 12 (by omega), e 13 (by omega), e 14 (by omega), e 15 (by omega)]
    exact ⟨a1, a2, fun m c hm hc => a3 m c hm (by rw [← eC]; exact hc), a4, a5, a6, a7⟩
  have h2 : Wok (upG w 16 f) := by
    have e : ∀ b, b ≠ 16 → upG w 16 f b = w b := fun b hb => upG_ne hb
    obtain ⟨a1, a2, a3, a4, a5, a6, a7, a8, a9⟩ := hw
    have eN : qN (upG w 16 f) = qN w := qN_w (by rw [e 1 (by omega)])
    have eS : qSt (upG w 16 f) = qSt w := qSt_w (e 6 (by omega))
    have eC : ∀ m, qCn (upG w 16 f) m = qCn w m := fun m => by
      unfold qCn
      rw [e 9 (by omega)]
    unfold Wok
    rw [eN, eS, e 1 (by omega), e 2 (by omega), e 3 (by omega), e 4 (by omega), e 5 (by omega), e 6 (by omega), e 7 (by omega), e 8 (by omega), e 9 (by omega), e 10 (by omega), e 11 (by omega), e 12 (by omega), e 13 (by omega), e 14 (by omega), e 15 (by omega)]
    exact ⟨a1, a2, a3, a4, fun m c hm hc => a5 m c hm (by rw [← eC]; exact hc), a6, a7, a8, a9⟩
  exact MD_plan h2 h1 hg
theorem wP_row (hw : Wok w) (hf : ∀ i, i < (qTot w).toNat → f i = (r i : Int)) {i : Nat} (hi : i < (qTot w).toNat) : qRw (wP w f) i = r i := by
  unfold qRw
  rw [wP_16, hf i hi]
  omega
theorem wP_S (hw : Wok w) (hf : ∀ i, i < (qTot w).toNat → f i = (r i : Int)) : qS (wP w f) D0 (qRw (wP w f)) (qLn (wP w f)) = qS w D0 r (qTot w).toNat := by
  rw [qS_w (fun a h1 h2 => wP_ne (by omega) (by omega)), wP_ln]
  exact qS_cong (fun i hi => wP_row hw hf hi) (fun _ _ => rfl)
theorem wP_rC (hw : Wok w) (hf : ∀ i, i < (qTot w).toNat → f i = (r i : Int)) {m : Nat} : rC (wP w f) (qRw (wP w f)) (qLn (wP w f)) m = rC w r (qTot w).toNat m := by
  rw [rC_w (wP_ne (by omega) (by omega)), wP_ln]
  exact rC_cong (fun i hi => wP_row hw hf hi) m
theorem wP_pok (hw : Wok w) (hF : qF w r (qTot w).toNat) (hf : ∀ i, i < (qTot w).toNat → f i = (r i : Int)) : Pok (wP w f) := by
  intro _
  rw [wP_tot]
  refine ⟨?_, fun i hi => ?_⟩
  · rw [qF_w wP_10 (wP_ne (by omega) (by omega))]
    have hc : ∀ i, i < (qTot w).toNat → r i = qRw (wP w f) i := fun i hi => (wP_row hw hf hi).symm
    exact ⟨qV_cong hc hF.1, fun j hj => by rw [← rD_cong hc]; exact hF.2 j hj⟩
  · rw [wP_row hw hf hi, wP_16]
    exact hf i hi
theorem wP_mpl (hw : Wok w) (hF : qF w r (qTot w).toNat) (hf : ∀ i, i < (qTot w).toNat → f i = (r i : Int)) {g : Nat → Int} (h1 : g 151 = 1) (hO : OT w r (qTot w).toNat (tOd (qS w D0 r (qTot w).toNat)) g 152) : MPl (wP w f) g := by
  refine ⟨h1.trans wP_115.symm, fun m hm => ?_⟩
  rw [wP_rC hw hf, wP_S hw hf]
  exact hO m hm
end WPS
/-- all steps put: the job's end is its last step's -/
theorem tEn_full {w : wS} {r : Nat → Nat} {n : Nat} {D : Nat → Int} (hF : qF w r n) {j : Nat} (hj : j < qN w) : tEn w (qS w D r n) j = tRd w (qS w D r n) j := by
  unfold tEn
  rw [qS_dn, hF.2 j hj, qHf_end (Nat.le_refl _), Int.add_zero]
theorem mEn_tRd {w : wS} {r : Nat → Nat} {n j : Nat} {D : Nat → Int} : mEn w (rD r n) (tBg (qS w D r n)) j = tRd w (qS w D r n) j := by
  unfold mEn tRd
  rw [qS_dn]
theorem tRd_bd0 {w : wS} {r : Nat → Nat} {n j : Nat} {D : Nat → Int} (hw : Wok w) (hD : DB D) (hv : qV w r n) (hj : j < qN w) : 0 ≤ tRd w (qS w D r n) j ∧ tRd w (qS w D r n) j ≤ 23100 := by
  have hrel := hw.rel hj
  unfold tRd
  rw [qS_dn]
  by_cases h : rD r n j = 0
  · rw [if_pos h]
    omega
  · rw [if_neg h]
    have h1 := qS_js hw hD hv (show rD r n j - 1 < rD r n j by omega)
    rw [show 5 * j + rD r n j - 1 = 5 * j + (rD r n j - 1) by omega]
    omega
section WK
variable {w : wS} {G : mG} {r : Nat → Nat} {n : Nat}
theorem M_works (hw : Wok w) (hm : MD w (G 57)) (hF : qF w r n) (hO : OT w r n (tOd (qS w D0 r n)) (G 57) 152) : Ok (P_X11_works G) (fun z => z.1 = true ∧ MK w r n n z.2 ∧ FrM G z.2 ∧ (∀ m, m < 4 → z.2 65 m = (rC w r n m : Int))) := by
  unfold P_X11_works
  have h1 := M_worksOut (lat := 1000) (by_ := 0) (a := 57) (an := 282) (p := 152) (p2 := -1) hw hF.1 hF.2 (So_of hw hF.1) hm (by omega) (by omega) (by omega) (by omega) (fun i hi => ?_) (by omega) hO
  · refine Ok.bind h1 (fun z hz => Ok.so hz)
  · have h5 := rS_lt5 hw hF.1 hi
    have h6 := (hF.1 i hi).1
    have hn := hw.n
    unfold rX
    constructor
    · intro e
      omega
    · intro e
      omega
theorem MK_E (hw : Wok w) (hm : MD w (G 57)) (hF : qF w r n) (hT : MK w r n n G) : (∀ j, j < qN w → G 61 j = tEn w (qS w D0 r n) j) ∧ (∀ j, j < qN w → 0 ≤ tEn w (qS w D0 r n) j ∧ tEn w (qS w D0 r n) j ≤ 40000) := by
  refine ⟨fun j hj => ?_, fun j hj => ?_⟩
  · rw [tEn_full hF hj, ← mEn_tRd]
    exact hT.2.1 j hj
  · rw [tEn_full hF hj]
    have := tRd_bd0 (D := D0) hw DB0 hF.1 hj
    omega
theorem M_takesOrder (hw : Wok w) (hm : MD w (G 57)) (hF : qF w r n) (hO : OT w r n (tOd (qS w D0 r n)) (G 66) 0) : Ok (P_X11_takesOrder G) (fun z => z.1 = qVal w 0 (tEn w (qS w D0 r n)) ∧ (∀ k, k < 151 ∨ 276 ≤ k → z.2 57 k = G 57 k) ∧ z.2 57 151 = 1 ∧ OT w r n (tOd (qS w D0 r n)) (z.2 57) 152 ∧ (∀ b, b ≠ 57 → ¬ (59 ≤ b ∧ b ≤ 65) → z.2 b = G b)) := by
  have h30 := fun m => rC_30 hw hF.1 m
  unfold P_X11_takesOrder
  refine Ok.ac 0 152 124 rfl rfl rfl (by omega) (by omega) (by omega) (by omega) ?_
  refine Ok.sto 151 rfl (by omega) (by omega) ?_
  have k57 : ∀ k, k < 151 ∨ 276 ≤ k → up2 (upG G 57 (cpyF (G 66) (G 57) 0 152 124)) 57 151 1 57 k = G 57 k := fun k hk => by
    rw [up2_eq, up1_ne (by omega), upG_eq]
    unfold cpyF
    rw [if_neg (by omega)]
  have k66 : ∀ k, k < 124 → up2 (upG G 57 (cpyF (G 66) (G 57) 0 152 124)) 57 151 1 57 (152 + k) = G 66 k := fun k hk => by
    rw [up2_eq, up1_ne (by omega), upG_eq]
    unfold cpyF
    rw [if_pos ⟨by omega, by omega⟩, show 0 + (152 + k - 152) = k by omega]
  have hO2 : OT w r n (tOd (qS w D0 r n)) (up2 (upG G 57 (cpyF (G 66) (G 57) 0 152 124)) 57 151 1 57) 152 := fun m hm4 => by
    obtain ⟨o1, o2⟩ := hO m hm4
    have := h30 m
    refine ⟨?_, fun k hk => ?_⟩
    · rw [k66 _ (by omega), ← o1, Nat.zero_add]
    · rw [show 152 + 31 * m + 1 + k = 152 + (31 * m + 1 + k) by omega, k66 _ (by omega), ← o2 k hk, Nat.zero_add]
  have hm2 : MD w (up2 (upG G 57 (cpyF (G 66) (G 57) 0 152 124)) 57 151 1 57) := MD_cong hw (fun k hk1 hk2 => k57 k (by omega)) hm
  have e151 : up2 (upG G 57 (cpyF (G 66) (G 57) 0 152 124)) 57 151 1 57 151 = 1 := by rw [up2_eq, up1_eq]
  have fb : ∀ b, b ≠ 57 → up2 (upG G 57 (cpyF (G 66) (G 57) 0 152 124)) 57 151 1 b = G b := fun b hb => by rw [up2_ne hb, upG_ne hb]
  generalize up2 (upG G 57 (cpyF (G 66) (G 57) 0 152 124)) 57 151 1 = G2 at *
  refine Ok.bind (M_works hw hm2 hF hO2) (fun z3 hz3 => ?_)
  obtain ⟨y1, y2, y3, y4⟩ := hz3
  have hm3 : MD w (z3.2 57) := by
    rw [y3 57 (by omega)]
    exact hm2
  obtain ⟨E1, E2⟩ := MK_E hw hm3 hF y2
  refine Ok.eq (M_planEnd hw hm3 E1 E2) (Ok.so ⟨rfl, fun k hk => ?_, ?_, ?_, fun b hb1 hb2 => ?_⟩)
  · dsimp only
    rw [y3 57 (by omega)]
    exact k57 k hk
  · dsimp only
    rw [y3 57 (by omega)]
    exact e151
  · dsimp only
    rw [y3 57 (by omega)]
    exact hO2
  · dsimp only
    rw [y3 b hb2]
    exact fb b hb1
end WK
