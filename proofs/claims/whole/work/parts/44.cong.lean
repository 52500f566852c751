/-! ===== states that differ in some rows ===== -/
section WC
variable {w w' : wS}
theorem qS_w (h : ∀ a, 2 ≤ a → a ≤ 14 → w' a = w a) (D : Nat → Int) (r : Nat → Nat) (n : Nat) : qS w' D r n = qS w D r n := by
  have e1 : qRel w' = qRel w := funext fun j => by unfold qRel; rw [h 2 (by omega) (by omega)]
  have e2 : qKd w' = qKd w := funext fun j => by unfold qKd; rw [h 5 (by omega) (by omega)]
  have e3 : qMc w' = qMc w := funext fun j => by unfold qMc; rw [h 7 (by omega) (by omega)]
  have e4 : qHr w' = qHr w := funext fun j => by unfold qHr; rw [h 8 (by omega) (by omega)]
  have e5 : qCn w' = qCn w := funext fun j => by unfold qCn; rw [h 9 (by omega) (by omega)]
  have e6 : qCf w' = qCf w := funext fun j => by unfold qCf; rw [h 10 (by omega) (by omega)]
  have e7 : qCt w' = qCt w := funext fun j => by unfold qCt; rw [h 11 (by omega) (by omega)]
  have e8 : qLf w' = qLf w := funext fun j => by unfold qLf; rw [h 12 (by omega) (by omega)]
  have e9 : qCg w' = qCg w := funext fun j => by unfold qCg; rw [h 13 (by omega) (by omega)]
  have e10 : qSu w' = qSu w := funext fun a => funext fun b => by unfold qSu; rw [h 14 (by omega) (by omega)]
  have f1 : qO1 w' = qO1 w := funext fun m => funext fun l => funext fun c => funext fun x => by unfold qO1; rw [e6, e7]
  have f2 : qRo w' = qRo w := funext fun m => funext fun l => funext fun x => by unfold qRo; rw [f1, e5]
  have f3 : qOpen w' = qOpen w := funext fun m => funext fun l => funext fun x => by unfold qOpen; rw [f2, e5]
  have f4 : qTl w' = qTl w := funext fun a => funext fun x => by unfold qTl; rw [e8, e3, e4]
  have f5 : qBw w' = qBw w := funext fun a => funext fun b => funext fun x => by unfold qBw; rw [e10, e2, f4, e9, e3]
  have f6 : qRd w' = qRd w := funext fun a => funext fun x => by unfold qRd; rw [e1, e4]
  have f7 : qHo w' = qHo w := funext fun a => funext fun b => funext fun c => funext fun d => funext fun e => funext fun x => by unfold qHo; rw [f3, e3, f6, e4, f5]
  have f8 : qWe w' = qWe w := funext fun a => funext fun b => funext fun c => funext fun d => by unfold qWe; rw [e4, f4]
  have f9 : tPut w' = tPut w := funext fun a => funext fun b => funext fun c => by
    unfold tPut tHo tWe tLa tBe
    rw [e3, f7, f8, f5]
  unfold qS
  rw [f9]
theorem rM_w (h : w' 7 = w 7) (r : Nat → Nat) (i : Nat) : rM w' r i = rM w r i := by
  unfold rM qMc
  rw [h]
theorem rC_w (h : w' 7 = w 7) (r : Nat → Nat) (n m : Nat) : rC w' r n m = rC w r n m := ct_cong fun i _ => by rw [rM_w h]
theorem qN_w (h : w' 1 0 = w 1 0) : qN w' = qN w := by
  unfold qN
  rw [h]
theorem qSt_w (h : w' 6 = w 6) : qSt w' = qSt w := funext fun j => by
  unfold qSt
  rw [h]
theorem qTot_w (h0 : w' 1 0 = w 1 0) (h6 : w' 6 = w 6) : qTot w' = qTot w := by
  unfold qTot
  rw [qN_w h0, qSt_w h6]
theorem qV_w (h0 : w' 1 0 = w 1 0) (h6 : w' 6 = w 6) {r : Nat → Nat} {n : Nat} : qV w' r n ↔ qV w r n := by
  unfold qV
  rw [qN_w h0, qSt_w h6]
theorem qF_w (h0 : w' 1 0 = w 1 0) (h6 : w' 6 = w 6) {r : Nat → Nat} {n : Nat} : qF w' r n ↔ qF w r n := by
  unfold qF
  rw [qV_w h0 h6, qN_w h0, qSt_w h6]
theorem qRw_w (h : w' 16 = w 16) : qRw w' = qRw w := funext fun j => by
  unfold qRw
  rw [h]
theorem qLn_w (h0 : w' 1 0 = w 1 0) (h1 : w' 1 15 = w 1 15) (h6 : w' 6 = w 6) : qLn w' = qLn w := by
  unfold qLn
  rw [h1, qTot_w h0 h6]
theorem Pok_w (h0 : w' 1 0 = w 1 0) (h1 : w' 1 15 = w 1 15) (h6 : w' 6 = w 6) (h16 : w' 16 = w 16) (hp : Pok w) : Pok w' := by
  unfold Pok at hp ⊢
  rw [h1, qRw_w h16, qTot_w h0 h6, qF_w h0 h6, h16]
  exact hp
theorem Pok_0 (h : w 1 15 = 0) : Pok w := fun h1 => by omega
theorem MPl_w (hw : Wok w) (hp : Pok w) (h0 : w' 1 0 = w 1 0) (h1 : w' 1 15 = w 1 15) (h6 : w' 6 = w 6) (h7 : w' 7 = w 7) (h16 : w' 16 = w 16) {f f' : Nat → Int} (hf : ∀ k, 151 ≤ k → k < 276 → f' k = f k) (hm : MPl w f) : MPl w' f' := by
  refine ⟨(hf 151 (by omega) (by omega)).trans (hm.1.trans h1.symm), fun m hm4 => ?_⟩
  have h30 := rC_30 hw (Pok.v hw hp) m
  rw [qRw_w h16, qLn_w h0 h1 h6, rC_w h7]
  obtain ⟨g1, g2⟩ := hm.2 m hm4
  refine ⟨(hf _ (by omega) (by omega)).trans g1, fun k hk => ?_⟩
  rw [hf _ (by omega) (by omega), g2 k hk, (qS_same (w := w) (w' := w') (D := D0) (D' := D0) (n := qLn w) (fun i hi => by unfold qMc; rw [h7])).1]
theorem MPl_0 {f : Nat → Int} (h : w 1 15 = 0) (h1 : f 151 = 0) (h2 : ∀ m, m < 4 → f (152 + 31 * m) = 0) : MPl w f := by
  refine ⟨h1.trans h.symm, fun m hm => ?_⟩
  have e : qLn w = 0 := by
    unfold qLn
    rw [if_pos h]
  rw [e]
  exact ⟨h2 m hm, fun k hk => absurd hk (Nat.not_lt_zero _)⟩
theorem XS.up {G : mG} (a i : Nat) (x : Int) (hx : XS w G) : XS (up2 w a i x) (up2 G a i x) := fun b j hb => by
  rw [up2_if, up2_if]
  split
  · rfl
  · exact hx b j hb
/-- the rest of the model's cells, where only some of the shop's rows differ -/
theorem TT_w (h : ∀ a, 2 ≤ a → a ≤ 14 → w' a = w a) {t : Nat} {D : Nat → Int} {r : Nat → Nat} {n : Nat} {G : mG} (hT : TT t w D r n G) : TT t w' D r n G := by
  unfold TT at hT ⊢
  rw [qS_w h]
  have : ∀ m, rC w' r n m = rC w r n m := rC_w (h 7 (by omega) (by omega)) r n
  simp only [this]
  exact hT
end WC
/-- behind a change: the class's half, the model's half -/
def CP (w : wS) (h : Nat → wS) (len a np : Nat) (G0 G1 : mG) : Prop := XS w G1 ∧ TT 17 w D0 (qRw w) (qLn w) G1 ∧ HC h len a np G1 ∧ (∀ b, 56 ≤ b → b ≤ 75 → G1 b = G0 b)
def MP' (w : wS) (h : Nat → wS) (len : Nat) (G0 G1 : mG) : Prop := MA w (G1 57) ∧ MH h len G1 ∧ (∀ b, b < 56 ∨ 74 ≤ b → G1 b = G0 b) ∧ G1 56 3 = 0
theorem IV_of {w : wS} {h : Nat → wS} {len a np : Nat} {G0 G1 G2 G3 : mG} (hp : PI w h len) (hc : CP w h len a np G0 G1) (h2 : ∀ b, b ≠ 74 → G2 b = G1 b) (hm : MP' w h len G2 G3) : IV w h len a np G3 := by
  obtain ⟨c1, c2, c3, c4⟩ := hc
  obtain ⟨m1, m2, m3, m4⟩ := hm
  have e : ∀ b, b < 56 ∨ 76 ≤ b → G3 b = G1 b := fun b hb => (m3 b (by omega)).trans (h2 b (by omega))
  refine ⟨hp, fun b i hb => ?_, TT_fr (fun b hb1 hb2 => e b (by omega)) c2, HC_fr ⟨by rw [e 0 (by omega)], by rw [e 0 (by omega)]⟩ (fun b hb => e b (by omega)) c3, m1, m2⟩
  have := hb.lo
  rw [e b (by omega)]
  exact c1 b i hb
theorem PI_psh {w w' : wS} {h : Nat → wS} {len : Nat} (hp : PI w h len) (h1 : Wok w') (h2 : Pok w') : PI w' (psh w h) (min (len + 1) 8) := by
  refine ⟨h1, h2, fun i hi => ?_⟩
  cases i with
  | zero => exact ⟨hp.1, hp.2.1⟩
  | succ i => exact hp.2.2 i (by omega)
/-- the class's half ahead of a change, the state kept -/
theorem S_rem {w : wS} {h : Nat → wS} {len a np n k : Nat} {G : mG} (hI : IV w h len a np G) {X : Type} {Q : ((X ⊕ Nat) × mW) → Prop} {f : Unit → mW → Option ((X ⊕ Nat) × mW)} (hk : ∀ a' np' G' n' k', HC (psh w h) (min (len + 1) 8) a' np' G' → (∀ b, 1 ≤ b → b ≤ 75 → G' b = G b) → a ≤ a' → n' + 16 * a = n + 16 * a' → k' + 203 * a = k + 203 * a' → Ok (f () (rOf a', (tlOf a', (G', (n', k'))))) Q) : Ok (thrB (P_X10_remember (rOf a, (tlOf a, (G, (n, k))))) f) Q := by
  obtain ⟨x, hx, a', np', G', n', k', e, h1, h2, h3, h4, h5⟩ := S_remember (n := n) (k := k) hI.2.1 hI.1.1.2.2.2.2.2.2.2.1 hI.2.2.2.1
  subst e
  refine Ok.thr0 hx (hk a' np' G' n' k' h1 h2 h3 h4 h5)
