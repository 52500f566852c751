/-! ===== the calls as the law makes them ===== -/
theorem L_match {p1 : Int} (i1 : I32 p1) : CaseI (P_L_match p1) (P_X11_match p1) := CaseI_of (p := (P_X10_match p1)) (cm := (fun E => if E = 1 then 1 else 0)) (q := (P_X11_match p1)) (h0 := (fun _ => none)) (h1 := (fun W => some (.inl 1, W))) (h2 := (fun _ => none)) (C_match i1) (fun E hE => by
  have : E = 0 ∨ E = 1 ∨ E = 2 := by omega
  rcases this with rfl | rfl | rfl <;> decide) (fun h => absurd rfl h) (fun _ _ => rfl) (fun h => absurd rfl h)
theorem L_workerOf {p1 p2 : Int} (i1 : I32 p1) (i2 : I32 p2) : CaseI (P_L_workerOf p1 p2) (P_X11_workerOf p1 p2) := CaseI_of (p := (P_X10_workerOf p1 p2)) (cm := (fun E => if E = 2 then 0 else E + 1)) (q := (P_X11_workerOf p1 p2)) (h0 := (fun W => some (.inl 1, W))) (h1 := (fun W => some (.inl 2, W))) (h2 := (fun _ => none)) (C_workerOf i1 i2) (fun E hE => by
  have : E = 0 ∨ E = 1 ∨ E = 2 := by omega
  rcases this with rfl | rfl | rfl <;> decide) (fun _ _ => rfl) (fun _ _ => rfl) (fun h => absurd rfl h)
theorem L_promise {p1 p2 p3 : Int} (i1 : I32 p1) (i2 : I32 p2) (i3 : I32 p3) : CaseI (P_L_promise p1 p2 p3) (P_X11_promise p1 p2 p3) := CaseI_of (p := (P_X10_promise p1 p2 p3)) (cm := (fun E => if E = 2 then 0 else E + 1)) (q := (P_X11_promise p1 p2 p3)) (h0 := (fun W => some (.inl 1, W))) (h1 := (fun W => some (.inl 2, W))) (h2 := (fun _ => none)) (C_promise i1 i2 i3) (fun E hE => by
  have : E = 0 ∨ E = 1 ∨ E = 2 := by omega
  rcases this with rfl | rfl | rfl <;> decide) (fun _ _ => rfl) (fun _ _ => rfl) (fun h => absurd rfl h)
theorem L_setupAt {p1 : Int} (i1 : I32 p1) : CaseI (P_L_setupAt p1) (P_X11_setupAt p1) := CaseI_of (p := (P_X10_setupAt p1)) (cm := (fun E => if E = 0 then 1 else 0)) (q := (P_X11_setupAt p1)) (h0 := (fun W => some (.inl 1, W))) (h1 := (fun _ => none)) (h2 := (fun _ => none)) (C_setupAt i1) (fun E hE => by
  have : E = 0 ∨ E = 1 ∨ E = 2 := by omega
  rcases this with rfl | rfl | rfl <;> decide) (fun _ _ => rfl) (fun h => absurd rfl h) (fun h => absurd rfl h)
theorem L_replan {p1 p2 : Int} (i1 : I32 p1) (i2 : I32 p2) : CaseI (P_L_replan p1 p2) (P_X11_replan p1 p2) := CaseI_of (p := (P_X10_replan p1 p2)) (cm := (fun E => if E = 1 then 1 else if E = 2 then 2 else 0)) (q := (P_X11_replan p1 p2)) (h0 := (fun _ => none)) (h1 := (fun W => some (.inl 1, W))) (h2 := (fun W => some (.inl 2, W))) (C_replan i1 i2) (fun E hE => by
  have : E = 0 ∨ E = 1 ∨ E = 2 := by omega
  rcases this with rfl | rfl | rfl <;> decide) (fun h => absurd rfl h) (fun _ _ => rfl) (fun _ _ => rfl)
theorem L_swap {p1 p2 : Int} (i1 : I32 p1) (i2 : I32 p2) : CaseI (P_L_swap p1 p2) (P_X11_swap p1 p2) := CaseI_of (p := (P_X10_swap p1 p2)) (cm := (fun E => if E = 0 then 1 else if E = 2 then 2 else 0)) (q := (P_X11_swap p1 p2)) (h0 := (fun W => some (.inl 1, W))) (h1 := (fun _ => none)) (h2 := (fun W => some (.inl 2, W))) (C_swap i1 i2) (fun E hE => by
  have : E = 0 ∨ E = 1 ∨ E = 2 := by omega
  rcases this with rfl | rfl | rfl <;> decide) (fun _ _ => rfl) (fun h => absurd rfl h) (fun _ _ => rfl)
