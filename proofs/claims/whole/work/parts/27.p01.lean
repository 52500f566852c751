/-! ===== programs as functions, 27 1: printed by wip/whole/gen/gen_p_out.py ===== -/
noncomputable def P_X10_rush (p1 : Int) (W : mW) : Option ((Int ⊕ Nat) × mW) :=
thrB (P_X10_needJob p1 W) fun v2 W3 =>
thrB (P_X10_needPlan W3) fun v4 W5 =>
(P_X8_putRushed 26 p1 W5.2.2.1).bind fun G6 =>
thrB (P_X10_adoptTrial (W5.1, (W5.2.1, (G6, W5.2.2.2)))) fun v7 W8 =>
some (.inl v7, W8)
set_option maxRecDepth 100000 in
theorem T_X10_rush (scr : mScr) (d : Nat) (W : mW)  (p1 : Int) : SimC scr (d + 8) 86 [sR 0, sI p1] (mkM W) (e2I) (P_X10_rush p1 W) := by
  refine sm_callX (cs := mc_X10_rush) (maxL := 2) (rk := 0) (o := 10) (hs := []) (d := d + 7) [lR 0, lI p1] rfl rfl rfl rfl ?_
  unfold P_X10_rush
  refine sm_go 2 (s' := (2, ([lR 0, lI p1], ([sI p1, sR 0], (mSH W.1 W.2.1, (W.2.2.1, W.2.2.2)))))) ?_ rfl
  refine sm_thr (rest := []) (T_X10_needJob scr (d + 6) W p1) rfl (Or.inl rfl) rfl rfl rfl rfl (fun _ _ => rfl) (fun _ _ => rfl) (fun v2 W3 => (5, ([lR 0, lI p1], ([], (mSH W3.1 W3.2.1, (W3.2.2.1, W3.2.2.2)))))) (fun _ _ => rfl) fun v2 W3 => ?_
  refine sm_go 1 (s' := (6, ([lR 0, lI p1], ([sR 0], (mSH W3.1 W3.2.1, (W3.2.2.1, W3.2.2.2)))))) ?_ rfl
  refine sm_thr (rest := []) (T_X10_needPlan scr (d + 6) W3) rfl (Or.inl rfl) rfl rfl rfl rfl (fun _ _ => rfl) (fun _ _ => rfl) (fun v4 W5 => (9, ([lR 0, lI p1], ([], (mSH W5.1 W5.2.1, (W5.2.2.1, W5.2.2.2)))))) (fun _ _ => rfl) fun v4 W5 => ?_
  refine sm_go 3 (s' := (14, ([lR 0, lI p1], ([sI p1, sR 26], (mSH W5.1 W5.2.1, (W5.2.2.1, W5.2.2.2)))))) ?_ rfl
  refine sm_callG (rest := []) (T_X8_putRushed_26 scr (d + 2) W5.1 W5.2.1 W5.2.2.2 W5.2.2.1 p1) rfl (Or.inl rfl) rfl rfl rfl rfl (fun _ => rfl) (fun G6 => (17, ([lR 0, lI p1], ([], (mSH W5.1 W5.2.1, (G6, W5.2.2.2)))))) (fun _ => rfl) fun G6 => ?_
  refine sm_go 1 (s' := (18, ([lR 0, lI p1], ([sR 0], (mSH W5.1 W5.2.1, (G6, W5.2.2.2)))))) ?_ rfl
  refine sm_thr (rest := []) (T_X10_adoptTrial scr d (W5.1, (W5.2.1, (G6, W5.2.2.2)))) rfl (Or.inl rfl) rfl rfl rfl rfl (fun _ _ => rfl) (fun _ _ => rfl) (fun v7 W8 => (21, ([lR 0, lI p1], ([sI v7], (mSH W8.1 W8.2.1, (W8.2.2.1, W8.2.2.2)))))) (fun _ _ => rfl) fun v7 W8 => ?_
  exact sm_retI rfl rfl rfl
noncomputable def P_L_rush (p1 : Int) (W : mW) : Option ((Int ⊕ Nat) × mW) :=
ctcB (P_X10_rush p1 W) (fun v2 W3 =>
(ast W3.2.2.1 74 1 0 (w32 v2)).bind fun G6 =>
some (.inl 0, (W3.1, (W3.2.1, (G6, W3.2.2.2))))) (fun W4 =>
some (.inl 1, W4)) (fun _ => none) (fun W5 =>
some (.inl 2, W5))
set_option maxRecDepth 100000 in
theorem T_L_rush (scr : mScr) (d : Nat) (W : mW)  (p1 : Int) : SimC scr (d + 9) 253 [sR 0, sI p1, sR 74] (mkM W) (e2I) (P_L_rush p1 W) := by
  refine sm_callX (cs := mc_L_rush) (maxL := 4) (rk := 0) (o := 112) (hs := [(0, (9, (12, 0))), (0, (9, (15, 2)))]) (d := d + 8) [lR 0, lI p1, lR 74, none] rfl rfl rfl rfl ?_
  unfold P_L_rush
  refine sm_go 4 (s' := (4, ([lR 0, lI p1, lR 74, none], ([sI p1, sR 0, sI 0, sR 74], (mSH W.1 W.2.1, (W.2.2.1, W.2.2.2)))))) ?_ rfl
  refine sm_ctc (rest := [sI 0, sR 74]) (T_X10_rush scr d W p1) rfl (Or.inl rfl) rfl rfl rfl rfl (fun _ _ => rfl) (fun v2 W3 => (7, ([lR 0, lI p1, lR 74, none], ([sI v2, sI 0, sR 74], (mSH W3.1 W3.2.1, (W3.2.2.1, W3.2.2.2)))))) (fun _ _ => rfl) (fun v2 W3 => ?_) (Or.inl ⟨12, rfl, fun W4 => ?_⟩) (Or.inr rfl) (Or.inl ⟨15, rfl, fun W5 => ?_⟩)
  · refine sm_go 1 (s' := (8, ([lR 0, lI p1, lR 74, none], ([sL (w32 v2), sI 0, sR 74], (mSH W3.1 W3.2.1, (W3.2.2.1, W3.2.2.2)))))) ?_ rfl
    refine sm_lst rfl rfl fun G6 => ?_
    refine sm_go 1 (s' := (18, ([lR 0, lI p1, lR 74, none], ([], (mSH W3.1 W3.2.1, (G6, W3.2.2.2)))))) ?_ rfl
    refine sm_go 1 (s' := (19, ([lR 0, lI p1, lR 74, none], ([sI 0], (mSH W3.1 W3.2.1, (G6, W3.2.2.2)))))) ?_ rfl
    exact sm_retI rfl rfl rfl
  · refine sm_go 2 (s' := (14, ([lR 0, lI p1, lR 74, lO], ([sI 1], (mSH W4.1 W4.2.1, (W4.2.2.1, W4.2.2.2)))))) ?_ rfl
    exact sm_retI rfl rfl rfl
  · refine sm_go 2 (s' := (17, ([lR 0, lI p1, lR 74, lO], ([sI 2], (mSH W5.1 W5.2.1, (W5.2.2.1, W5.2.2.2)))))) ?_ rfl
    exact sm_retI rfl rfl rfl
noncomputable def P_X10_setWorker (p1 : Int) (p2 : Int) (W : mW) : Option ((Int ⊕ Nat) × mW) :=
letK (some (.inr 0, (W.1, (W.2.1, (W.2.2.1, (W.2.2.2.1 + 1, W.2.2.2.2 + 6)))))) fun k4 =>
bif (ilt p1 0) then
k4
else
bif (ilt p1 6) then
thrB (P_X10_needMachines p2 W) fun v5 W6 =>
thrB (P_X10_remember W6) fun v7 W8 =>
(ald W8.2.2.1 15 6 p1).bind fun v9 =>
(ast W8.2.2.1 15 6 p1 p2).bind fun G10 =>
some (.inl v9, (W8.1, (W8.2.1, (G10, W8.2.2.2))))
else
k4
set_option maxRecDepth 100000 in
theorem T_X10_setWorker (scr : mScr) (d : Nat) (W : mW)  (p1 : Int) (p2 : Int) : SimC scr (d + 4) 87 [sR 0, sI p1, sI p2] (mkM W) (e2I) (P_X10_setWorker p1 p2 W) := by
  refine sm_callX (cs := mc_X10_setWorker) (maxL := 4) (rk := 0) (o := 10) (hs := []) (d := d + 3) [lR 0, lI p1, lI p2, none] rfl rfl rfl rfl ?_
  unfold P_X10_setWorker
  refine sm_letK0 (S := fun (g3 : Unit) => (10, ([lR 0, lI p1, lI p2, none], ([], (mSH W.1 W.2.1, (W.2.2.1, W.2.2.2)))))) ?_ ?_
  · intro g3
    exact sm_exc rfl rfl rfl rfl
  · intro k4 hk4
    refine sm_go 1 (s' := (1, ([lR 0, lI p1, lI p2, none], ([sI p1], (mSH W.1 W.2.1, (W.2.2.1, W.2.2.2)))))) ?_ rfl
    refine sm_if1 (t := (ilt p1 0)) (pt := 10) rfl rfl rfl (fun _ => ?_) (fun _ => ?_)
    · exact hk4 ()
    · refine sm_go 2 (s' := (7, ([lR 0, lI p1, lI p2, none], ([sI 6, sI p1], (mSH W.1 W.2.1, (W.2.2.1, W.2.2.2)))))) ?_ rfl
      refine sm_if2 (t := (ilt p1 6)) (pt := 20) rfl rfl rfl (fun _ => ?_) (fun _ => ?_)
      · refine sm_go 1 (s' := (21, ([lR 0, lI p1, lI p2, none], ([sI p2], (mSH W.1 W.2.1, (W.2.2.1, W.2.2.2)))))) ?_ rfl
        refine sm_thr (rest := []) (T_X10_needMachines scr (d + 1) W p2) rfl (Or.inr (Or.inl rfl)) rfl rfl rfl rfl (fun _ _ => rfl) (fun _ _ => rfl) (fun v5 W6 => (24, ([lR 0, lI p1, lI p2, none], ([], (mSH W6.1 W6.2.1, (W6.2.2.1, W6.2.2.2)))))) (fun _ _ => rfl) fun v5 W6 => ?_
        refine sm_go 1 (s' := (25, ([lR 0, lI p1, lI p2, none], ([sR 0], (mSH W6.1 W6.2.1, (W6.2.2.1, W6.2.2.2)))))) ?_ rfl
        refine sm_thr (rest := []) (T_X10_remember scr d W6) rfl (Or.inl rfl) rfl rfl rfl rfl (fun _ _ => rfl) (fun _ _ => rfl) (fun v7 W8 => (28, ([lR 0, lI p1, lI p2, none], ([], (mSH W8.1 W8.2.1, (W8.2.2.1, W8.2.2.2)))))) (fun _ _ => rfl) fun v7 W8 => ?_
        refine sm_go 4 (s' := (36, ([lR 0, lI p1, lI p2, none], ([sI p1, sR 15], (mSH W8.1 W8.2.1, (W8.2.2.1, W8.2.2.2)))))) ?_ rfl
        refine sm_ald rfl rfl fun v9 => ?_
        refine sm_go 6 (s' := (47, ([lR 0, lI p1, lI p2, lI v9], ([sI p2, sI p1, sR 15], (mSH W8.1 W8.2.1, (W8.2.2.1, W8.2.2.2)))))) ?_ rfl
        refine sm_ast rfl rfl fun G10 => ?_
        refine sm_go 1 (s' := (49, ([lR 0, lI p1, lI p2, lI v9], ([sI v9], (mSH W8.1 W8.2.1, (G10, W8.2.2.2)))))) ?_ rfl
        exact sm_retI rfl rfl rfl
      · exact hk4 ()
noncomputable def P_L_setWorker (p1 : Int) (p2 : Int) (W : mW) : Option ((Int ⊕ Nat) × mW) :=
ctcB (P_X10_setWorker p1 p2 W) (fun v3 W4 =>
(ast W4.2.2.1 74 1 0 (w32 v3)).bind fun G7 =>
some (.inl 0, (W4.1, (W4.2.1, (G7, W4.2.2.2))))) (fun W5 =>
some (.inl 1, W5)) (fun W6 =>
some (.inl 2, W6)) (fun _ => none)
set_option maxRecDepth 100000 in
theorem T_L_setWorker (scr : mScr) (d : Nat) (W : mW)  (p1 : Int) (p2 : Int) : SimC scr (d + 5) 254 [sR 0, sI p1, sI p2, sR 74] (mkM W) (e2I) (P_L_setWorker p1 p2 W) := by
  refine sm_callX (cs := mc_L_setWorker) (maxL := 5) (rk := 0) (o := 112) (hs := [(0, (10, (13, 0))), (0, (10, (17, 1)))]) (d := d + 4) [lR 0, lI p1, lI p2, lR 74, none] rfl rfl rfl rfl ?_
  unfold P_L_setWorker
  refine sm_go 5 (s' := (5, ([lR 0, lI p1, lI p2, lR 74, none], ([sI p2, sI p1, sR 0, sI 0, sR 74], (mSH W.1 W.2.1, (W.2.2.1, W.2.2.2)))))) ?_ rfl
  refine sm_ctc (rest := [sI 0, sR 74]) (T_X10_setWorker scr d W p1 p2) rfl (Or.inl rfl) rfl rfl rfl rfl (fun _ _ => rfl) (fun v3 W4 => (8, ([lR 0, lI p1, lI p2, lR 74, none], ([sI v3, sI 0, sR 74], (mSH W4.1 W4.2.1, (W4.2.2.1, W4.2.2.2)))))) (fun _ _ => rfl) (fun v3 W4 => ?_) (Or.inl ⟨13, rfl, fun W5 => ?_⟩) (Or.inl ⟨17, rfl, fun W6 => ?_⟩) (Or.inr rfl)
  · refine sm_go 1 (s' := (9, ([lR 0, lI p1, lI p2, lR 74, none], ([sL (w32 v3), sI 0, sR 74], (mSH W4.1 W4.2.1, (W4.2.2.1, W4.2.2.2)))))) ?_ rfl
    refine sm_lst rfl rfl fun G7 => ?_
    refine sm_go 1 (s' := (21, ([lR 0, lI p1, lI p2, lR 74, none], ([], (mSH W4.1 W4.2.1, (G7, W4.2.2.2)))))) ?_ rfl
    refine sm_go 1 (s' := (22, ([lR 0, lI p1, lI p2, lR 74, none], ([sI 0], (mSH W4.1 W4.2.1, (G7, W4.2.2.2)))))) ?_ rfl
    exact sm_retI rfl rfl rfl
  · refine sm_go 2 (s' := (16, ([lR 0, lI p1, lI p2, lR 74, lO], ([sI 1], (mSH W5.1 W5.2.1, (W5.2.2.1, W5.2.2.2)))))) ?_ rfl
    exact sm_retI rfl rfl rfl
  · refine sm_go 2 (s' := (20, ([lR 0, lI p1, lI p2, lR 74, lO], ([sI 2], (mSH W6.1 W6.2.1, (W6.2.2.1, W6.2.2.2)))))) ?_ rfl
    exact sm_retI rfl rfl rfl
