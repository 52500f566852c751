/-! ===== the calls as the law makes them ===== -/
theorem L_close {p1 p2 p3 : Int} (i1 : I32 p1) (i2 : I32 p2) (i3 : I32 p3) : CaseI (P_L_close p1 p2 p3) (P_X11_close p1 p2 p3) := CaseI_of (p := (P_X10_close p1 p2 p3)) (cm := (fun E => E + 1)) (q := (P_X11_close p1 p2 p3)) (h0 := (fun W => some (.inl 1, W))) (h1 := (fun W => some (.inl 2, W))) (h2 := (fun W => some (.inl 3, W))) (C_close i1 i2 i3) (fun E hE => by
  have : E = 0 ∨ E = 1 ∨ E = 2 := by omega
  rcases this with rfl | rfl | rfl <;> decide) (fun _ _ => rfl) (fun _ _ => rfl) (fun _ _ => rfl)
theorem L_setTool {p1 p2 p3 : Int} (i1 : I32 p1) (i2 : I32 p2) (i3 : I32 p3) : CaseI (P_L_setTool p1 p2 p3) (P_X11_setTool p1 p2 p3) := CaseI_of (p := (P_X10_setTool p1 p2 p3)) (cm := (fun E => if E = 2 then 0 else E + 1)) (q := (P_X11_setTool p1 p2 p3)) (h0 := (fun W => some (.inl 1, W))) (h1 := (fun W => some (.inl 2, W))) (h2 := (fun _ => none)) (C_setTool i1 i2 i3) (fun E hE => by
  have : E = 0 ∨ E = 1 ∨ E = 2 := by omega
  rcases this with rfl | rfl | rfl <;> decide) (fun _ _ => rfl) (fun _ _ => rfl) (fun h => absurd rfl h)
theorem L_setSetup {p1 p2 p3 : Int} (i1 : I32 p1) (i2 : I32 p2) (i3 : I32 p3) : CaseI (P_L_setSetup p1 p2 p3) (P_X11_setSetup p1 p2 p3) := CaseI_of (p := (P_X10_setSetup p1 p2 p3)) (cm := (fun E => if E = 2 then 0 else E + 1)) (q := (P_X11_setSetup p1 p2 p3)) (h0 := (fun W => some (.inl 1, W))) (h1 := (fun W => some (.inl 2, W))) (h2 := (fun _ => none)) (C_setSetup i1 i2 i3) (fun E hE => by
  have : E = 0 ∨ E = 1 ∨ E = 2 := by omega
  rcases this with rfl | rfl | rfl <;> decide) (fun _ _ => rfl) (fun _ _ => rfl) (fun h => absurd rfl h)
theorem L_setWorker {p1 p2 : Int} (i1 : I32 p1) (i2 : I32 p2) : CaseI (P_L_setWorker p1 p2) (P_X11_setWorker p1 p2) := CaseI_of (p := (P_X10_setWorker p1 p2)) (cm := (fun E => if E = 2 then 0 else E + 1)) (q := (P_X11_setWorker p1 p2)) (h0 := (fun W => some (.inl 1, W))) (h1 := (fun W => some (.inl 2, W))) (h2 := (fun _ => none)) (C_setWorker i1 i2) (fun E hE => by
  have : E = 0 ∨ E = 1 ∨ E = 2 := by omega
  rcases this with rfl | rfl | rfl <;> decide) (fun _ _ => rfl) (fun _ _ => rfl) (fun h => absurd rfl h)
theorem L_addJob {p1 p2 p3 p4 : Int} (i1 : I32 p1) (i2 : I32 p2) (i3 : I32 p3) (i4 : I32 p4) : CaseI (P_L_addJob p1 p2 p3 p4) (P_X11_addJob p1 p2 p3 p4) := CaseI_of (p := (P_X10_addJob p1 p2 p3 p4)) (cm := (fun E => E + 1)) (q := (P_X11_addJob p1 p2 p3 p4)) (h0 := (fun W => some (.inl 1, W))) (h1 := (fun W => some (.inl 2, W))) (h2 := (fun W => some (.inl 3, W))) (C_addJob i1 i2 i3 i4) (fun E hE => by
  have : E = 0 ∨ E = 1 ∨ E = 2 := by omega
  rcases this with rfl | rfl | rfl <;> decide) (fun _ _ => rfl) (fun _ _ => rfl) (fun _ _ => rfl)
theorem L_addStep {p1 p2 p3 : Int} (i1 : I32 p1) (i2 : I32 p2) (i3 : I32 p3) : CaseI (P_L_addStep p1 p2 p3) (P_X11_addStep p1 p2 p3) := CaseI_of (p := (P_X10_addStep p1 p2 p3)) (cm := (fun E => E + 1)) (q := (P_X11_addStep p1 p2 p3)) (h0 := (fun W => some (.inl 1, W))) (h1 := (fun W => some (.inl 2, W))) (h2 := (fun W => some (.inl 3, W))) (C_addStep i1 i2 i3) (fun E hE => by
  have : E = 0 ∨ E = 1 ∨ E = 2 := by omega
  rcases this with rfl | rfl | rfl <;> decide) (fun _ _ => rfl) (fun _ _ => rfl) (fun _ _ => rfl)
theorem L_cut {p1 : Int} (i1 : I32 p1) : CaseI (P_L_cut p1) (P_X11_cut p1) := CaseI_of (p := (P_X10_cut p1)) (cm := (fun E => if E = 0 then 1 else if E = 2 then 2 else 0)) (q := (P_X11_cut p1)) (h0 := (fun W => some (.inl 1, W))) (h1 := (fun _ => none)) (h2 := (fun W => some (.inl 2, W))) (C_cut i1) (fun E hE => by
  have : E = 0 ∨ E = 1 ∨ E = 2 := by omega
  rcases this with rfl | rfl | rfl <;> decide) (fun _ _ => rfl) (fun h => absurd rfl h) (fun _ _ => rfl)
theorem L_plan {p1 : Int} (i1 : I32 p1) : CaseI (P_L_plan p1) (P_X11_plan p1) := CaseI_of (p := (P_X10_plan p1)) (cm := (fun E => if E = 1 then 1 else 0)) (q := (P_X11_plan p1)) (h0 := (fun _ => none)) (h1 := (fun W => some (.inl 1, W))) (h2 := (fun _ => none)) (C_plan i1) (fun E hE => by
  have : E = 0 ∨ E = 1 ∨ E = 2 := by omega
  rcases this with rfl | rfl | rfl <;> decide) (fun h => absurd rfl h) (fun _ _ => rfl) (fun h => absurd rfl h)
theorem L_tell {p1 : Int} (i1 : -9223372036854775808 ≤ p1 ∧ p1 < 9223372036854775808) : CaseI (P_L_tell p1) (P_X11_tell p1) := CaseI_of (p := (P_X10_tell p1)) (cm := (fun E => if E = 1 then 1 else 0)) (q := (P_X11_tell p1)) (h0 := (fun _ => none)) (h1 := (fun W => some (.inl 1, W))) (h2 := (fun _ => none)) (C_tell i1) (fun E hE => by
  have : E = 0 ∨ E = 1 ∨ E = 2 := by omega
  rcases this with rfl | rfl | rfl <;> decide) (fun h => absurd rfl h) (fun _ _ => rfl) (fun h => absurd rfl h)
theorem L_best {p1 : Int} (i1 : I32 p1) : CaseI (P_L_best p1) (P_X11_best p1) := CaseI_of (p := (P_X10_best p1)) (cm := (fun E => if E = 1 then 1 else if E = 2 then 2 else 0)) (q := (P_X11_best p1)) (h0 := (fun _ => none)) (h1 := (fun W => some (.inl 1, W))) (h2 := (fun W => some (.inl 2, W))) (C_best i1) (fun E hE => by
  have : E = 0 ∨ E = 1 ∨ E = 2 := by omega
  rcases this with rfl | rfl | rfl <;> decide) (fun h => absurd rfl h) (fun _ _ => rfl) (fun _ _ => rfl)
theorem L_rush {p1 : Int} (i1 : I32 p1) : CaseI (P_L_rush p1) (P_X11_rush p1) := CaseI_of (p := (P_X10_rush p1)) (cm := (fun E => if E = 0 then 1 else if E = 2 then 2 else 0)) (q := (P_X11_rush p1)) (h0 := (fun W => some (.inl 1, W))) (h1 := (fun _ => none)) (h2 := (fun W => some (.inl 2, W))) (C_rush i1) (fun E hE => by
  have : E = 0 ∨ E = 1 ∨ E = 2 := by omega
  rcases this with rfl | rfl | rfl <;> decide) (fun _ _ => rfl) (fun h => absurd rfl h) (fun _ _ => rfl)
theorem L_delay {p1 p2 : Int} (i1 : I32 p1) (i2 : I32 p2) : CaseI (P_L_delay p1 p2) (P_X11_delay p1 p2) := CaseI_of (p := (P_X10_delay p1 p2)) (cm := (fun E => if E = 0 then 1 else if E = 2 then 2 else 0)) (q := (P_X11_delay p1 p2)) (h0 := (fun W => some (.inl 1, W))) (h1 := (fun _ => none)) (h2 := (fun W => some (.inl 2, W))) (C_delay i1 i2) (fun E hE => by
  have : E = 0 ∨ E = 1 ∨ E = 2 := by omega
  rcases this with rfl | rfl | rfl <;> decide) (fun _ _ => rfl) (fun h => absurd rfl h) (fun _ _ => rfl)
theorem L_jobAt {p1 p2 : Int} (i1 : I32 p1) (i2 : I32 p2) : CaseI (P_L_jobAt p1 p2) (P_X11_jobAt p1 p2) := CaseI_of (p := (P_X10_jobAt p1 p2)) (cm := (fun E => if E = 2 then 0 else E + 1)) (q := (P_X11_jobAt p1 p2)) (h0 := (fun W => some (.inl 1, W))) (h1 := (fun W => some (.inl 2, W))) (h2 := (fun _ => none)) (C_jobAt i1 i2) (fun E hE => by
  have : E = 0 ∨ E = 1 ∨ E = 2 := by omega
  rcases this with rfl | rfl | rfl <;> decide) (fun _ _ => rfl) (fun _ _ => rfl) (fun h => absurd rfl h)
theorem L_stepAt {p1 p2 p3 : Int} (i1 : I32 p1) (i2 : I32 p2) (i3 : I32 p3) : CaseI (P_L_stepAt p1 p2 p3) (P_X11_stepAt p1 p2 p3) := CaseI_of (p := (P_X10_stepAt p1 p2 p3)) (cm := (fun E => if E = 2 then 0 else E + 1)) (q := (P_X11_stepAt p1 p2 p3)) (h0 := (fun W => some (.inl 1, W))) (h1 := (fun W => some (.inl 2, W))) (h2 := (fun _ => none)) (C_stepAt i1 i2 i3) (fun E hE => by
  have : E = 0 ∨ E = 1 ∨ E = 2 := by omega
  rcases this with rfl | rfl | rfl <;> decide) (fun _ _ => rfl) (fun _ _ => rfl) (fun h => absurd rfl h)
theorem L_begin {p1 p2 : Int} (i1 : I32 p1) (i2 : I32 p2) : CaseI (P_L_begin p1 p2) (P_X11_begin p1 p2) := CaseI_of (p := (P_X10_begin p1 p2)) (cm := (fun E => if E = 0 then 1 else if E = 2 then 2 else 0)) (q := (P_X11_begin p1 p2)) (h0 := (fun W => some (.inl 1, W))) (h1 := (fun _ => none)) (h2 := (fun W => some (.inl 2, W))) (C_begin i1 i2) (fun E hE => by
  have : E = 0 ∨ E = 1 ∨ E = 2 := by omega
  rcases this with rfl | rfl | rfl <;> decide) (fun _ _ => rfl) (fun h => absurd rfl h) (fun _ _ => rfl)
theorem L_endOf {p1 : Int} (i1 : I32 p1) : CaseI (P_L_endOf p1) (P_X11_endOf p1) := CaseI_of (p := (P_X10_endOf p1)) (cm := (fun E => if E = 0 then 1 else if E = 2 then 2 else 0)) (q := (P_X11_endOf p1)) (h0 := (fun W => some (.inl 1, W))) (h1 := (fun _ => none)) (h2 := (fun W => some (.inl 2, W))) (C_endOf i1) (fun E hE => by
  have : E = 0 ∨ E = 1 ∨ E = 2 := by omega
  rcases this with rfl | rfl | rfl <;> decide) (fun _ _ => rfl) (fun h => absurd rfl h) (fun _ _ => rfl)
theorem L_value {p1 : Int} (i1 : I32 p1) : CaseI (P_L_value p1) (P_X11_value p1) := CaseI_of (p := (P_X10_value p1)) (cm := (fun E => if E = 1 then 1 else if E = 2 then 2 else 0)) (q := (P_X11_value p1)) (h0 := (fun _ => none)) (h1 := (fun W => some (.inl 1, W))) (h2 := (fun W => some (.inl 2, W))) (C_value i1) (fun E hE => by
  have : E = 0 ∨ E = 1 ∨ E = 2 := by omega
  rcases this with rfl | rfl | rfl <;> decide) (fun h => absurd rfl h) (fun _ _ => rfl) (fun _ _ => rfl)
theorem L_orderAt {p1 p2 : Int} (i1 : I32 p1) (i2 : I32 p2) : CaseI (P_L_orderAt p1 p2) (P_X11_orderAt p1 p2) := CaseI_of (p := (P_X10_orderAt p1 p2)) (cm := (fun E => if E = 0 then 1 else 0)) (q := (P_X11_orderAt p1 p2)) (h0 := (fun W => some (.inl 1, W))) (h1 := (fun _ => none)) (h2 := (fun _ => none)) (C_orderAt i1 i2) (fun E hE => by
  have : E = 0 ∨ E = 1 ∨ E = 2 := by omega
  rcases this with rfl | rfl | rfl <;> decide) (fun _ _ => rfl) (fun h => absurd rfl h) (fun h => absurd rfl h)
theorem L_doneIn {p1 p2 : Int} (i1 : I32 p1) (i2 : I32 p2) : CaseI (P_L_doneIn p1 p2) (P_X11_doneIn p1 p2) := CaseI_of (p := (P_X10_doneIn p1 p2)) (cm := (fun E => E + 1)) (q := (P_X11_doneIn p1 p2)) (h0 := (fun W => some (.inl 1, W))) (h1 := (fun W => some (.inl 2, W))) (h2 := (fun W => some (.inl 3, W))) (C_doneIn i1 i2) (fun E hE => by
  have : E = 0 ∨ E = 1 ∨ E = 2 := by omega
  rcases this with rfl | rfl | rfl <;> decide) (fun _ _ => rfl) (fun _ _ => rfl) (fun _ _ => rfl)
theorem L_wayLength : CaseI P_L_wayLength P_X11_wayLength := CaseI_of (p := P_X10_wayLength) (cm := (fun E => if E = 2 then 1 else 0)) (q := P_X11_wayLength) (h0 := (fun _ => none)) (h1 := (fun _ => none)) (h2 := (fun W => some (.inl 1, W))) (C_wayLength) (fun E hE => by
  have : E = 0 ∨ E = 1 ∨ E = 2 := by omega
  rcases this with rfl | rfl | rfl <;> decide) (fun h => absurd rfl h) (fun h => absurd rfl h) (fun _ _ => rfl)
theorem L_blocks : CaseI P_L_blocks P_X11_blocks := CaseI_of (p := P_X10_blocks) (cm := (fun E => if E = 2 then 1 else 0)) (q := P_X11_blocks) (h0 := (fun _ => none)) (h1 := (fun _ => none)) (h2 := (fun W => some (.inl 1, W))) (C_blocks) (fun E hE => by
  have : E = 0 ∨ E = 1 ∨ E = 2 := by omega
  rcases this with rfl | rfl | rfl <;> decide) (fun h => absurd rfl h) (fun h => absurd rfl h) (fun _ _ => rfl)
theorem L_longestBlock : CaseI P_L_longestBlock P_X11_longestBlock := CaseI_of (p := P_X10_longestBlock) (cm := (fun E => if E = 2 then 1 else 0)) (q := P_X11_longestBlock) (h0 := (fun _ => none)) (h1 := (fun _ => none)) (h2 := (fun W => some (.inl 1, W))) (C_longestBlock) (fun E hE => by
  have : E = 0 ∨ E = 1 ∨ E = 2 := by omega
  rcases this with rfl | rfl | rfl <;> decide) (fun h => absurd rfl h) (fun h => absurd rfl h) (fun _ _ => rfl)
theorem L_wayAt {p1 : Int} (i1 : I32 p1) : CaseI (P_L_wayAt p1) (P_X11_wayAt p1) := CaseI_of (p := (P_X10_wayAt p1)) (cm := (fun E => if E = 0 then 1 else 0)) (q := (P_X11_wayAt p1)) (h0 := (fun W => some (.inl 1, W))) (h1 := (fun _ => none)) (h2 := (fun _ => none)) (C_wayAt i1) (fun E hE => by
  have : E = 0 ∨ E = 1 ∨ E = 2 := by omega
  rcases this with rfl | rfl | rfl <;> decide) (fun _ _ => rfl) (fun h => absurd rfl h) (fun h => absurd rfl h)
theorem L_worked {p1 p2 : Int} (i1 : I32 p1) (i2 : I32 p2) : CaseI (P_L_worked p1 p2) (P_X11_worked p1 p2) := CaseI_of (p := (P_X10_worked p1 p2)) (cm := (fun E => if E = 1 then 1 else if E = 2 then 2 else 0)) (q := (P_X11_worked p1 p2)) (h0 := (fun _ => none)) (h1 := (fun W => some (.inl 1, W))) (h2 := (fun W => some (.inl 2, W))) (C_worked i1 i2) (fun E hE => by
  have : E = 0 ∨ E = 1 ∨ E = 2 := by omega
  rcases this with rfl | rfl | rfl <;> decide) (fun h => absurd rfl h) (fun _ _ => rfl) (fun _ _ => rfl)
theorem L_slack {p1 p2 : Int} (i1 : I32 p1) (i2 : I32 p2) : CaseI (P_L_slack p1 p2) (P_X11_slack p1 p2) := CaseI_of (p := (P_X10_slack p1 p2)) (cm := (fun E => if E = 0 then 1 else if E = 2 then 2 else 0)) (q := (P_X11_slack p1 p2)) (h0 := (fun W => some (.inl 1, W))) (h1 := (fun _ => none)) (h2 := (fun W => some (.inl 2, W))) (C_slack i1 i2) (fun E hE => by
  have : E = 0 ∨ E = 1 ∨ E = 2 := by omega
  rcases this with rfl | rfl | rfl <;> decide) (fun _ _ => rfl) (fun h => absurd rfl h) (fun _ _ => rfl)
theorem L_twoAt {p1 : Int} (i1 : I32 p1) : CaseI (P_L_twoAt p1) (P_X11_twoAt p1) := CaseI_of (p := (P_X10_twoAt p1)) (cm := (fun E => if E = 0 then 1 else 0)) (q := (P_X11_twoAt p1)) (h0 := (fun W => some (.inl 1, W))) (h1 := (fun _ => none)) (h2 := (fun _ => none)) (C_twoAt i1) (fun E hE => by
  have : E = 0 ∨ E = 1 ∨ E = 2 := by omega
  rcases this with rfl | rfl | rfl <;> decide) (fun _ _ => rfl) (fun h => absurd rfl h) (fun h => absurd rfl h)
