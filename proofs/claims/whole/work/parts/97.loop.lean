/-! ===== the law's loop ===== -/
theorem lOr_bd (a b : Int) : -9223372036854775808 ≤ lOr a b ∧ lOr a b < 9223372036854775808 := ⟨Int64.le_toInt _, Int64.toInt_lt _⟩
theorem xld_at {scr : mScr} (hN : scr.2.1 ≤ 2560) {z : Int} (i : Nat) (e : z = (i : Int)) (h : i < scr.2.1) : xld scr z = some (scr.2.2 i) := by
  unfold xld
  rw [mIn_id (by omega) (by omega) (by omega), mIx_id (by omega) (by omega), e, Int.toNat_natCast]
  rfl
theorem law_q0 {p : mG → Option Int} {q : mG → Option (Int × mG)} (hc : CaseQ (fun G => (p G).bind fun v => some (v, G)) q) {c : Nat} {W : mW} (hW : IW c W) {Z : Type} {Q : ((Z ⊕ Nat) × mW) → Prop} {k8 : mW → Option ((Z ⊕ Nat) × mW)} {e : mW → mG → Option ((Z ⊕ Nat) × mW)} (hk8 : ∀ W', IW (c + 1) W' → Ok (k8 W') Q) : Ok ((p W.2.2.1).bind fun v => (q W.2.2.1).bind fun z291 => bif (ieq v z291.1) then k8 (W.1, (W.2.1, (z291.2, W.2.2.2))) else e W z291.2) Q := by
  have h := law_q hc hW (Q := Q) (e := e) hk8
  cases hp : p W.2.2.1 with
  | none =>
    simp only [hp, Option.bind_none] at h
    obtain ⟨x, hx, -⟩ := h
    exact nomatch hx
  | some v =>
    simp only [hp, Option.bind_some] at h
    exact h
abbrev lwE (W : mW) (G : mG) : Option ((Bool ⊕ Nat) × mW) := some (.inl false, (W.1, (W.2.1, (G, W.2.2.2))))
set_option maxHeartbeats 8000000 in
set_option maxRecDepth 100000 in
theorem law_loop (scr : mScr) (hN : scr.2.1 ≤ 2560) (hS : ∀ j, w32 (scr.2.2 j) = scr.2.2 j) {W : mW} (hW0 : IW 0 W) : Ok (P_L_law scr 0 W) (fun x => x.1 = .inl true ∧ ∃ c, c ≤ 512 ∧ IW c x.2) := by
  have s32 : ∀ i, I32 (scr.2.2 i) := fun i => by
    unfold I32
    rw [← hS i]
    exact ⟨w32_lo _, w32_hi _⟩
  unfold P_L_law
  refine Ok.lp2 (fun m x1 W => ∃ c : Nat, m = 600 - c ∧ x1 = ((5 * c : Nat) : Int) ∧ c ≤ 512 ∧ IW c W) (fun m again x1 W2 h hk => ?_) LF 600 0 W (LF_lt (by omega)) ⟨0, rfl, rfl, by omega, hW0⟩
  obtain ⟨c, rfl, rfl, hc, hW⟩ := h
  refine Ok.cd (P := (scr.2.1 : Int) - 5 < ((5 * c : Nat) : Int)) (ilt_id (by omega) (by omega) (by omega) (by omega)) (fun h => Ok.so ⟨rfl, c, hc, hW⟩) (fun h => ?_)
  have e0 := xld_at hN (5 * c) (z := ((5 * c : Nat) : Int)) rfl (by omega)
  have e1 := xld_at hN (5 * c + 1) (z := ((5 * c : Nat) : Int) + 1) (by omega) (by omega)
  have e2 := xld_at hN (5 * c + 2) (z := ((5 * c : Nat) : Int) + 2) (by omega) (by omega)
  have e3 := xld_at hN (5 * c + 3) (z := ((5 * c : Nat) : Int) + 3) (by omega) (by omega)
  have e4 := xld_at hN (5 * c + 4) (z := ((5 * c : Nat) : Int) + 4) (by omega) (by omega)
  refine Ok.eq e0 ?_
  refine Ok.jn1 (fun W' => IW (c + 1) W') (fun W' hW' => hk (600 - (c + 1)) _ _ (by omega) ⟨c + 1, rfl, by omega, by omega, hW'⟩) (fun k8 hk8 => ?_)
  refine Ok.it (fun _ => ?_) (fun _ => ?_)
  · simp only [e1, e2, e3, Option.bind_some]
    exact law_case (L_close (s32 _) (s32 _) (s32 _)) hW hk8
  refine Ok.it (fun _ => ?_) (fun _ => ?_)
  · simp only [e1, e2, e3, Option.bind_some]
    exact law_case (L_setTool (s32 _) (s32 _) (s32 _)) hW hk8
  refine Ok.it (fun _ => ?_) (fun _ => ?_)
  · simp only [e1, e2, e3, Option.bind_some]
    exact law_case (L_setSetup (s32 _) (s32 _) (s32 _)) hW hk8
  refine Ok.it (fun _ => ?_) (fun _ => ?_)
  · simp only [e1, e2, e3, e4, Option.bind_some]
    exact law_case (L_addJob (s32 _) (s32 _) (s32 _) (s32 _)) hW hk8
  refine Ok.it (fun _ => ?_) (fun _ => ?_)
  · simp only [e1, e2, e3, Option.bind_some]
    exact law_case (L_addStep (s32 _) (s32 _) (s32 _)) hW hk8
  refine Ok.it (fun _ => ?_) (fun _ => ?_)
  · simp only [e1, Option.bind_some]
    exact law_case (L_cut (s32 _)) hW hk8
  refine Ok.it (fun _ => ?_) (fun _ => ?_)
  · simp only [e1, Option.bind_some]
    exact law_case (L_plan (s32 _)) hW hk8
  refine Ok.it (fun _ => ?_) (fun _ => ?_)
  · simp only [e1, e2, Option.bind_some]
    exact law_case (L_tell (lOr_bd _ _)) hW hk8
  refine Ok.it (fun _ => ?_) (fun _ => ?_)
  · simp only [e1, Option.bind_some]
    exact law_case (L_best (s32 _)) hW hk8
  refine Ok.it (fun _ => ?_) (fun _ => ?_)
  · simp only [e1, e2, Option.bind_some]
    exact law_case (L_swap (s32 _) (s32 _)) hW hk8
  refine Ok.it (fun _ => ?_) (fun _ => ?_)
  · simp only [e1, e2, Option.bind_some]
    exact law_case (L_replan (s32 _) (s32 _)) hW hk8
  refine Ok.it (fun _ => ?_) (fun _ => ?_)
  · simp only [e1, Option.bind_some]
    exact law_case (L_rush (s32 _)) hW hk8
  refine Ok.it (fun _ => ?_) (fun _ => ?_)
  · simp only [e1, e2, Option.bind_some]
    exact law_case (L_setWorker (s32 _) (s32 _)) hW hk8
  refine Ok.it (fun _ => ?_) (fun _ => ?_)
  · exact C_undo hW (e := lwE) hk8
  refine Ok.it (fun _ => ?_) (fun _ => ?_)
  · exact law_q0 Q_jobs hW (e := lwE) hk8
  refine Ok.it (fun _ => ?_) (fun _ => ?_)
  · simp only [e1, e2, Option.bind_some]
    exact law_case (L_jobAt (s32 _) (s32 _)) hW hk8
  refine Ok.it (fun _ => ?_) (fun _ => ?_)
  · simp only [e1, e2, e3, Option.bind_some]
    exact law_case (L_stepAt (s32 _) (s32 _) (s32 _)) hW hk8
  refine Ok.it (fun _ => ?_) (fun _ => ?_)
  · simp only [e1, e2, Option.bind_some]
    exact law_case (L_begin (s32 _) (s32 _)) hW hk8
  refine Ok.it (fun _ => ?_) (fun _ => ?_)
  · simp only [e1, Option.bind_some]
    exact law_case (L_endOf (s32 _)) hW hk8
  refine Ok.it (fun _ => ?_) (fun _ => ?_)
  · simp only [e1, Option.bind_some]
    exact law_case (L_value (s32 _)) hW hk8
  refine Ok.it (fun _ => ?_) (fun _ => ?_)
  · exact law_q0 Q_bound hW (e := lwE) hk8
  refine Ok.it (fun _ => ?_) (fun _ => ?_)
  · simp only [e1, e2, Option.bind_some]
    exact law_case (L_orderAt (s32 _) (s32 _)) hW hk8
  refine Ok.it (fun _ => ?_) (fun _ => ?_)
  · simp only [e1, e2, Option.bind_some]
    exact law_case (L_doneIn (s32 _) (s32 _)) hW hk8
  refine Ok.it (fun _ => ?_) (fun _ => ?_)
  · exact law_case L_wayLength hW hk8
  refine Ok.it (fun _ => ?_) (fun _ => ?_)
  · simp only [e1, Option.bind_some]
    exact law_case (L_wayAt (s32 _)) hW hk8
  refine Ok.it (fun _ => ?_) (fun _ => ?_)
  · exact law_case L_blocks hW hk8
  refine Ok.it (fun _ => ?_) (fun _ => ?_)
  · exact law_case L_longestBlock hW hk8
  refine Ok.it (fun _ => ?_) (fun _ => ?_)
  · simp only [e1, e2, Option.bind_some]
    exact law_case (L_slack (s32 _) (s32 _)) hW hk8
  refine Ok.it (fun _ => ?_) (fun _ => ?_)
  · simp only [e1, e2, Option.bind_some]
    exact law_case (L_delay (s32 _) (s32 _)) hW hk8
  refine Ok.it (fun _ => ?_) (fun _ => ?_)
  · exact law_q Q_leastSum hW (e := lwE) hk8
  refine Ok.it (fun _ => ?_) (fun _ => ?_)
  · exact law_q Q_leastLateness hW (e := lwE) hk8
  refine Ok.it (fun _ => ?_) (fun _ => ?_)
  · exact law_q Q_fewestLate hW (e := lwE) hk8
  refine Ok.it (fun _ => ?_) (fun _ => ?_)
  · simp only [e1, Option.bind_some]
    exact law_caseB (C_isDropped (s32 _)) hW hk8
  refine Ok.it (fun _ => ?_) (fun _ => ?_)
  · exact law_q Q_leastEnd hW (e := lwE) hk8
  refine Ok.it (fun _ => ?_) (fun _ => ?_)
  · simp only [e1, Option.bind_some]
    exact law_case (L_twoAt (s32 _)) hW hk8
  refine Ok.it (fun _ => ?_) (fun _ => ?_)
  · exact law_q Q_leastSetup hW (e := lwE) hk8
  refine Ok.it (fun _ => ?_) (fun _ => ?_)
  · simp only [e1, Option.bind_some]
    exact law_case (L_setupAt (s32 _)) hW hk8
  refine Ok.it (fun _ => ?_) (fun _ => ?_)
  · simp only [e1, Option.bind_some]
    exact law_case (L_match (s32 _)) hW hk8
  refine Ok.it (fun _ => ?_) (fun _ => ?_)
  · simp only [e1, e2, Option.bind_some]
    exact law_case (L_workerOf (s32 _) (s32 _)) hW hk8
  refine Ok.it (fun _ => ?_) (fun _ => ?_)
  · simp only [e1, e2, e3, Option.bind_some]
    exact law_case (L_promise (s32 _) (s32 _) (s32 _)) hW hk8
  refine Ok.it (fun _ => ?_) (fun _ => ?_)
  · simp only [e1, e2, Option.bind_some]
    exact law_case (L_worked (s32 _) (s32 _)) hW hk8
  refine Ok.it (fun _ => ?_) (fun _ => ?_)
  · refine law_caseR C_meanEnd (fun W' z k hR hk9 => ?_) hW hk8
    obtain ⟨h1, h2⟩ := hR
    refine Ok.eq h1 ?_
    exact Ok.iteT (by rw [h2]; exact cmp_0) hk9
  refine Ok.it (fun _ => ?_) (fun _ => ?_)
  · simp only [e1, Option.bind_some]
    refine law_caseR (C_use (s32 _)) (fun W' z k hR hk9 => ?_) hW hk8
    obtain ⟨d, h1, h2, h3⟩ := hR
    refine Ok.eq h1 ?_
    refine Ok.eq h2 ?_
    exact Ok.iteT (by rw [h3]; exact cmp_0) hk9
  refine Ok.it (fun _ => ?_) (fun _ => ?_)
  · exact law_q Q_errors hW (e := lwE) hk8
  exact hk8 _ (by
    obtain ⟨w, h, len, a, np, G0, n0, k0, e, hI, h1, h2⟩ := hW
    exact ⟨w, h, len, a, np, G0, n0, k0, e, hI, by omega, by omega⟩)
