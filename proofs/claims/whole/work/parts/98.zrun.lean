/-! ===== the law from its entry to its end ===== -/
section SB
variable {X : Type} {scr : mScr} {d : Nat} {cs : List (List mI)} {rk : Nat} {hs : mHs} {enc : X → mO × mM} {ls : mL} {st : List mV} {pc : Nat} {p : Option X} {S : List mSh} {G : mG} {nk : Nat × Nat} {e2 : Nat × (Nat × Nat)}
theorem sm_newJ {z : Int} (a n : Nat) (ha : S.length = a) (hz : mIn z 8192 = true) (hn : mIx z = n) (hf : mFetch cs pc = some (pc, (.newarray .long, (2, e2)))) (k : Sim scr d cs rk hs enc (pc + 2, (ls, (sR a :: st, (S ++ [.inr (1, (n, []))], (upG G a (fun _ => 0), (nk.1 + 1, nk.2 + n)))))) p) : Sim scr d cs rk hs enc (pc, (ls, (sI z :: st, (S, (G, nk))))) p := by
  refine sm_step hf ?_ k
  simp only [mStep, mPure, mJump, mMem, hz, cond_true, ha, hn]
theorem sm_newD {z : Int} (a n : Nat) (ha : S.length = a) (hz : mIn z 8192 = true) (hn : mIx z = n) (hf : mFetch cs pc = some (pc, (.newarray .double, (2, e2)))) (k : Sim scr d cs rk hs enc (pc + 2, (ls, (sR a :: st, (S ++ [.inr (2, (n, []))], (upG G a (fun _ => 0), (nk.1 + 1, nk.2 + n)))))) p) : Sim scr d cs rk hs enc (pc, (ls, (sI z :: st, (S, (G, nk))))) p := by
  refine sm_step hf ?_ k
  simp only [mStep, mPure, mJump, mMem, hz, cond_true, ha, hn]
end SB
theorem stS_74 : (stS 74 ++ [.inr (1, (1, []))]) ++ [.inr (2, (1, []))] = mSH (rOf 0) [] := by decide +kernel
theorem stS_len : (stS 74).length = 74 := by decide +kernel
theorem stS_len5 : (stS 56).length = 56 := by decide +kernel
set_option maxRecDepth 1000000 in
set_option maxHeartbeats 4000000 in
theorem law_from {scr : mScr} {p : Option ((Bool ⊕ Nat) × mW)} {z z' : mG × (Nat × Nat)} (h1 : nCall 400 40 74 [sR 0] stA = some (.inl none, (stS 56, z))) (h2 : nCall 400 40 136 [sR 56] (stB (stS 56, z)) = some (.inl none, (stS 74, z'))) (hp : Sim scr 40 mc_L_law 1 [] e2B (28, ([lX scr.1, lR 0, lR 56, lR 74, lR 75, lI 0, none, none, none], ([], (mSH (rOf 0) [], (upG (upG z'.1 74 (fun _ => 0)) 75 (fun _ => 0), (z'.2.1 + 1 + 1, z'.2.2 + 1 + 1)))))) p) : Sim scr 40 mc_L_law 1 [] e2B (0, ([lX scr.1, none, none, none, none, none, none, none, none], ([], ([], (fun _ _ => 0, (0, 0)))))) p := by
  refine sm_go 2 (s' := (4, ([lX scr.1, none, none, none, none, none, none, none, none], ([sR 0, sR 0], stA)))) ?_ rfl
  refine sm_callG (f := fun _ : Unit => p) (q := some ()) (encY := fun _ => (.inl none, (stS 56, z))) (as := [sR 0]) (rest := [sR 0]) (fun x _ => ⟨400, nCall_sub scr 400 40 _ _ _ _ h1⟩) rfl (Or.inr (Or.inr rfl)) rfl rfl rfl rfl (fun _ => rfl) (fun _ => (7, ([lX scr.1, none, none, none, none, none, none, none, none], ([sR 0], (stS 56, z))))) (fun _ => rfl) (fun _ => ?_)
  have eB : stB (stS 56, z) = (stS 56 ++ [.inl (11, mFL.getD 11 [])], (upG z.1 56 (fun _ => 0), (z.2.1 + 1, z.2.2 + (mFL.getD 11 []).length))) := by
    unfold stB
    rw [stS_len5]
  have hB : Sim scr 40 mc_L_law 1 [] e2B (12, ([lX scr.1, lR 0, none, none, none, none, none, none, none], ([sR (stS 56).length, sR (stS 56).length], stB (stS 56, z)))) p := by
    rw [stS_len5]
    refine sm_callG (f := fun _ : Unit => p) (q := some ()) (encY := fun _ => (.inl none, (stS 74, z'))) (as := [sR 56]) (rest := [sR 56]) (fun x _ => ⟨400, nCall_sub scr 400 40 _ _ _ _ h2⟩) rfl (Or.inr (Or.inr rfl)) rfl rfl rfl rfl (fun _ => rfl) (fun _ => (15, ([lX scr.1, lR 0, none, none, none, none, none, none, none], ([sR 56], (stS 74, z'))))) (fun _ => rfl) (fun _ => ?_)
    refine sm_go 2 (s' := (17, ([lX scr.1, lR 0, lR 56, none, none, none, none, none, none], ([sI 1], (stS 74, z'))))) ?_ rfl
    refine sm_newJ 74 1 stS_len (by decide) (by decide) rfl ?_
    refine sm_go 2 (s' := (21, ([lX scr.1, lR 0, lR 56, lR 74, none, none, none, none, none], ([sI 1], (stS 74 ++ [.inr (1, (1, []))], (upG z'.1 74 (fun _ => 0), (z'.2.1 + 1, z'.2.2 + 1))))))) ?_ rfl
    refine sm_newD 75 1 (by rw [List.length_append, stS_len]; rfl) (by decide) (by decide) rfl ?_
    rw [stS_74]
    refine sm_go 3 (s' := (28, ([lX scr.1, lR 0, lR 56, lR 74, lR 75, lI 0, none, none, none], ([], (mSH (rOf 0) [], (upG (upG z'.1 74 (fun _ => 0)) 75 (fun _ => 0), (z'.2.1 + 1 + 1, z'.2.2 + 1 + 1))))))) ?_ rfl
    exact hp
  refine sm_go 3 (s' := (12, ([lX scr.1, lR 0, none, none, none, none, none, none, none], ([sR (stS 56).length, sR (stS 56).length], stB (stS 56, z))))) hB rfl
theorem stW_ok : Wok stW := by
  have H : ∀ j, j < 3 → ∀ s, s < 2 → (0 ≤ stW 7 (5 * j + s) ∧ stW 7 (5 * j + s) < 4) ∧ (1 ≤ stW 8 (5 * j + s) ∧ stW 8 (5 * j + s) ≤ 50) := by decide +kernel
  have H2 : ∀ j, j < 3 → qSt stW j = 2 := by decide +kernel
  refine ⟨by decide, by decide +kernel, fun j s hj hs => ?_, by decide +kernel, fun m c hm hc => ?_, by decide +kernel, by decide +kernel, by decide, by decide⟩
  · have hj : j < 3 := hj
    rw [H2 j hj] at hs
    exact H j hj s hs
  · exact absurd hc (Nat.not_lt_zero _)
theorem stW_ln : qLn stW = 0 := by decide +kernel
theorem stW_pok : Pok stW := fun h => absurd h (by decide)
theorem stF_ma : MA stW stF := by
  have H : ∀ j, j < 3 → ∀ s, s < 2 → stF (61 + 15 * j + (5 + 2 * s)) = stW 7 (5 * j + s) ∧ stF (61 + 15 * j + (5 + 2 * s + 1)) = stW 8 (5 * j + s) := by decide +kernel
  have H2 : ∀ j, j < 3 → qSt stW j = 2 := by decide +kernel
  refine ⟨⟨by decide, by decide +kernel, fun m c hm hc => absurd hc (Nat.not_lt_zero _), by decide +kernel, by decide +kernel, fun j s hj hs => ?_, by decide +kernel⟩, by decide, ?_⟩
  · have hj : j < 3 := hj
    rw [H2 j hj] at hs
    exact H j hj s hs
  · rw [stW_ln]
    have H3 : ∀ m, m < 4 → stF (152 + 31 * m) = 0 := by decide +kernel
    exact fun m hm => ⟨H3 m hm, fun k hk => absurd hk (Nat.not_lt_zero _)⟩
theorem asz_30 (a : Nat) : asz a ≤ 30 := by
  unfold asz
  repeat' split
  all_goals omega
theorem st_IW {G1 G : mG} {n k : Nat} (hT : stT G1 = true) (hG : ∀ b, b ≤ 73 → G b = G1 b) (hn : n ≤ 1000) (hk : k ≤ 100000) : IW 0 (rOf 0, ([], (G, (n, k)))) := by
  simp only [stT, Bool.and_eq_true, List.all_eq_true, List.mem_range, decide_eq_true_eq] at hT
  obtain ⟨hA, hF, h13, h14, h2, h17, h19, h20⟩ := hT
  refine ⟨stW, fun _ => stW, 0, 0, 0, G, n, k, rfl, ⟨⟨stW_ok, stW_pok, fun i hi => absurd hi (Nat.not_lt_zero _)⟩, fun a i hai => ?_, ?_, ?_, ?_, ?_⟩, by omega, by omega⟩
  · have h1 := hai.lo
    have h3 : i < 30 := by
      have := asz_30 a
      unfold aok at hai
      omega
    rw [hG a (by omega)]
    rcases hA a (by omega) i h3 with h | h
    · omega
    · exact h
  · rw [stW_ln]
    refine ⟨?_, fun i hi => absurd hi (Nat.not_lt_zero _), fun j hj => ?_, fun m hm => ?_, fun m k hm hk => absurd hk (Nat.not_lt_zero _), fun j s hj hs => absurd hs (Nat.not_lt_zero _)⟩
    · rw [hG 17 (by omega)]
      exact h17
    · rw [hG (17 + 2) (by omega)]
      exact h19 j hj
    · rw [hG (17 + 3) (by omega)]
      exact h20 m hm
  · refine ⟨?_, ?_, by omega, by omega, by omega, by omega, fun i hi => absurd hi (Nat.not_lt_zero _)⟩
    · rw [hG 0 (by omega)]
      exact h13
    · rw [hG 0 (by omega)]
      exact h14
  · refine MA_cong stW_ok stW_pok (fun k hk => ?_) stF_ma
    rw [hG 57 (by omega)]
    exact hF k hk
  · refine ⟨?_, by omega, fun i hi => absurd hi (Nat.not_lt_zero _)⟩
    rw [hG 56 (by omega)]
    exact h2
theorem mRun_all : mRunOk := by
  intro scr hN hS
  obtain ⟨z, z', h1, h2, h3, h4, hT⟩ := st_runs
  have hIW : IW 0 (rOf 0, ([], (upG (upG z'.1 74 (fun _ => 0)) 75 (fun _ => 0), (z'.2.1 + 1 + 1, z'.2.2 + 1 + 1)))) := by
    refine st_IW hT (fun b hb => ?_) (by omega) (by omega)
    have e1 : Nat.beq b 75 = false := by
      cases h : Nat.beq b 75 with
      | false => rfl
      | true => have := Nat.eq_of_beq_eq_true h; omega
    have e2 : Nat.beq b 74 = false := by
      cases h : Nat.beq b 74 with
      | false => rfl
      | true => have := Nat.eq_of_beq_eq_true h; omega
    simp only [upG, e1, e2, cond_false]
  obtain ⟨⟨x, W⟩, hx, hx1, c, hc, hIWx⟩ := law_loop scr hN hS hIW
  dsimp only at hx1 hIWx
  subst hx1
  have hs := law_from (scr := scr) h1 h2 (T_L_law scr 22 (rOf 0, ([], (upG (upG z'.1 74 (fun _ => 0)) 75 (fun _ => 0), (z'.2.1 + 1 + 1, z'.2.2 + 1 + 1)))) 0)
  obtain ⟨K, hK⟩ := hs _ hx
  obtain ⟨w, h, len, a, np, G0, n0, k0, rfl, hI, g1, g2⟩ := hIWx
  have ha : a ≤ 8 := hI.2.2.2.1.2.2.2.2.1
  exact ⟨K, _, hK, by show n0 ≤ _; omega, by show k0 ≤ _; omega⟩
