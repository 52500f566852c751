theorem nc_01 : Cond.not (.castable (mExn 0) (mExn 1)) ∈ flatC (Jvm.Cond.and given_1 narrow_1) := by decide +kernel
theorem nc_02 : Cond.not (.castable (mExn 0) (mExn 2)) ∈ flatC (Jvm.Cond.and given_1 narrow_1) := by decide +kernel
theorem nc_10 : Cond.not (.castable (mExn 1) (mExn 0)) ∈ flatC (Jvm.Cond.and given_1 narrow_1) := by decide +kernel
theorem nc_12 : Cond.not (.castable (mExn 1) (mExn 2)) ∈ flatC (Jvm.Cond.and given_1 narrow_1) := by decide +kernel
theorem nc_20 : Cond.not (.castable (mExn 2) (mExn 0)) ∈ flatC (Jvm.Cond.and given_1 narrow_1) := by decide +kernel
theorem nc_21 : Cond.not (.castable (mExn 2) (mExn 1)) ∈ flatC (Jvm.Cond.and given_1 narrow_1) := by decide +kernel
theorem nc_all (E1 E2 : Nat) (h1 : E1 < 3) (h2 : E2 < 3) (h3 : E1 ≠ E2) : Cond.not (.castable (mExn E1) (mExn E2)) ∈ flatC (Jvm.Cond.and given_1 narrow_1) := by
  match E1, E2, h1, h2, h3 with
  | 0, 0, _, _, h3 => exact absurd rfl h3
  | 0, 1, _, _, h3 => exact nc_01
  | 0, 2, _, _, h3 => exact nc_02
  | 1, 0, _, _, h3 => exact nc_10
  | 1, 1, _, _, h3 => exact absurd rfl h3
  | 1, 2, _, _, h3 => exact nc_12
  | 2, 0, _, _, h3 => exact nc_20
  | 2, 1, _, _, h3 => exact nc_21
  | 2, 2, _, _, h3 => exact absurd rfl h3
  | n + 3, _, h, _, _ => exact absurd h (by omega)
  | 0, n + 3, _, h, _ => exact absurd h (by omega)
  | 1, n + 3, _, h, _ => exact absurd h (by omega)
  | 2, n + 3, _, h, _ => exact absurd h (by omega)
theorem rf_1 : Cond.isRef (.static "java/lang/Throwable" "UNASSIGNED_STACK" "[Ljava/lang/StackTraceElement;") ∈ flatC (Jvm.Cond.and given_1 narrow_1) := by decide +kernel
theorem rf_2 : Cond.isRef (.static "java/lang/Throwable" "SUPPRESSED_SENTINEL" "Ljava/util/List;") ∈ flatC (Jvm.Cond.and given_1 narrow_1) := by decide +kernel
set_option maxHeartbeats 4000000 in
/-- from the entry, for every script of at most 2560 ints, the law comes to its end with true -/
theorem whole_start_of (hrunAll : mRunOk) {p : Program} {e : Env} {s : State} {m : MethodId} {below : List Frame} {meth : Method} {c : Code} (l : Launch) (hflags : l.flags = flags0) {b L : Nat} {xs : Nat → Int32} (hL : L ≤ 2560) (C0 : lw_At p s m meth c b L xs) : W p l e room_1 s m #[Value.ref b] below meth c s.heap [] 0 0 (lw_Z below #[Value.ref b] s) (entryFrame m ([Value.ref b] : List Value).toArray 9) := by
  obtain ⟨hx, hb, hr, hml, hown, hts0, hX, hbl, hlocks, hgv, htab⟩ := id C0
  have hts : ∀ w ∈ TG, w.before #[Value.ref b] s = true := fun w h => hts0 w (List.mem_filter.mp h).1
  have hl : l.stackTraces = false := by
    unfold Launch.stackTraces
    rw [hflags]
    decide +kernel
  obtain ⟨D, hK⟩ := mKn hts
  have hflat := flat_of_before _ hgv
  have hA : ∀ a : Nat, a < s.heap.size → ¬ mA s.heap.size a := fun a h => by simp only [mA]; omega
  have hE : mEnv D s.heap.size (b, (L, fun j => (xs j).toInt)) s := by
    refine ⟨⟨Nat.le_refl _, hbl⟩, ?_, va_AO.of (hts0 _ (TT_1 (i := 181) rfl)), ⟨vx_Zqof (hts0 _ (TT_3 (i := 174) rfl)) (hts _ (TG_1 (i := 13) rfl rfl)) (hflat _ rf_1) hA, vx_Zqof (hts0 _ (TT_3 (i := 176) rfl)) (hts _ (TG_1 (i := 13) rfl rfl)) (hflat _ rf_2) hA⟩, fun x hx => ?_, fun w hw => va_Nw.of (mBad_on w hw) (hts0 w (mBad_tbl w hw)), fun E1 E2 h1 h2 h3 => ?_⟩
    · show va_X b L (fun j => Int32.ofInt (xs j).toInt) s s.heap
      have : (fun j => Int32.ofInt (xs j).toInt) = xs := by
        funext j
        exact Int32.ofInt_toInt _
      rw [this]
      exact hX
    · have h1 := hts0 _ (mStrs_tbl x hx)
      have hcur : ∃ cur, s.vm.findClass "JobWorkshop" = some cur := ⟨_, (hK.1 10 _ rfl).2.1⟩
      obtain ⟨cur, hcur⟩ := hcur
      obtain ⟨k, cf, i, a, -, -, -, -, -, h3⟩ := Cond.stringRef_spec (args := #[Value.ref b]) (first := s) (o := none) (s := s) (idx := []) hcur h1
      exact ⟨a, vk_R.of h1 h3⟩
    · exact va_Nc.of (hflat _ (nc_all E1 E2 h1 h2 h3))
  have Bd : mBody p l e room_1 s m meth c #[Value.ref b] D s.heap.size (b, (L, fun j => (xs j).toInt)) 40 12 9 1 false ret code mc_L_law [] := by
    refine ⟨⟨hx, hb, hml, hown, hts, hlocks, fun h => (nomatch h), hr, hl⟩, hE, ⟨by simp only [room_1]; omega, by simp only [room_1]; omega⟩, ?_, ?_, Or.inl ⟨rfl, htab⟩⟩
    · have h1 := mEnts (y := 277) (q := (mc_L_law, (9, (1, (112, []))))) (by decide) rfl mckL_all
      exact h1
    · simp [ret]
  obtain ⟨K, M', hrun, hc1, hc2⟩ := hrunAll (b, (L, fun j => (xs j).toInt)) hL (fun j => by show (Int32.ofInt (xs j).toInt).toInt = _; rw [Int32.ofInt_toInt])
  have hW : mWld D s.heap.size ([], (fun _ _ => 0, (0, 0))) [] [] s s.heap := ⟨hK, (fun k q hq => nomatch hq), ⟨(fun i j p q hp => nomatch hp), (fun k q hq => nomatch hq)⟩, rfl, (fun a sh h => nomatch h)⟩
  have hst : strel [] [.inr (.inr (.inr (.ref b)))] [.ref b] := ⟨rfl, trivial⟩
  have hg := mT_exec (below := below) (M' := M') (r := .inl (some (.inl 1))) (ws0 := []) (M0 := ([], (fun _ _ => 0, (0, 0)))) (K := K) (mAllCon l hl D s.heap.size _ K 40) Bd hc1 hc2 K 0 _ [] ([], (fun _ _ => 0, (0, 0))) hrun [] [] s.heap [] _ [] (mLe.rf _) (mExt.rf _) hW va_S.rf (mLoc_entry (n := 9) hst (Nat.le_of_ble_eq_true rfl)) rfl trivial
  rw [lg_entry_eq]
  intro T hT X
  obtain ⟨t, a1, o, a2, a3, a4⟩ := hg T hT X
  refine ⟨t, a1, o, a2, a3, ?_⟩
  rcases a4 with ⟨⟨v, x, ws', tys', g1, rfl, g3, -, -, -⟩, L9, ⟨-, g5, g6⟩, g7⟩ | ⟨q, -, E, ce, L9, ⟨k, ws', tys', g1, -⟩, -⟩
  · cases g1
    match x, g3 with
    | some x, g3 =>
      have g3 : x = .int (Int32.ofInt 1) := g3
      subst g3
      refine ⟨rfl, lw_closed (d0 := s.drawn) (Drawn.sameBut.refl s.drawn lw_cs) ⟨_, rfl⟩ g5 ?_⟩
      exact g6.weaken (fun y hy hlt => absurd hlt (Nat.not_lt.mpr (g7 y hy))) hc1 hc2
    | none, g3 => exact g3.elim
  · exact nomatch g1
