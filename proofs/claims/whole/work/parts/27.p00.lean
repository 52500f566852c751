/-! ===== programs as functions, 27 0: printed by wip/whole/gen/gen_p_out.py ===== -/
noncomputable def P_X10_close (p1 : Int) (p2 : Int) (p3 : Int) (W : mW) : Option ((Int ⊕ Nat) × mW) :=
thrB (P_X10_needMachine p1 W) fun v4 W5 =>
thrB (P_X10_needRange p2 0 2000 W5) fun v6 W7 =>
thrB (P_X10_needRange p3 (p2 + 1) 2000 W7) fun v8 W9 =>
(ald W9.2.2.1 9 4 p1).bind fun v10 =>
bif (ilt v10 4) then
thrB (P_X10_remember W9) fun v11 W12 =>
(P_X7_newClosure p1 p2 p3 W12.2.2.1).bind fun G13 =>
(P_X8_replay 17 G13).bind fun G14 =>
(ald G14 9 4 p1).bind fun v15 =>
some (.inl v15, (W12.1, (W12.2.1, (G14, W12.2.2.2))))
else
some (.inr 2, (W9.1, (W9.2.1, (W9.2.2.1, (W9.2.2.2.1 + 1, W9.2.2.2.2 + 6)))))
set_option maxRecDepth 100000 in
theorem T_X10_close (scr : mScr) (d : Nat) (W : mW)  (p1 : Int) (p2 : Int) (p3 : Int) : SimC scr (d + 7) 75 [sR 0, sI p1, sI p2, sI p3] (mkM W) (e2I) (P_X10_close p1 p2 p3 W) := by
  refine sm_callX (cs := mc_X10_close) (maxL := 4) (rk := 0) (o := 10) (hs := []) (d := d + 6) [lR 0, lI p1, lI p2, lI p3] rfl rfl rfl rfl ?_
  unfold P_X10_close
  refine sm_go 1 (s' := (1, ([lR 0, lI p1, lI p2, lI p3], ([sI p1], (mSH W.1 W.2.1, (W.2.2.1, W.2.2.2)))))) ?_ rfl
  refine sm_thr (rest := []) (T_X10_needMachine scr (d + 5) W p1) rfl (Or.inr (Or.inl rfl)) rfl rfl rfl rfl (fun _ _ => rfl) (fun _ _ => rfl) (fun v4 W5 => (4, ([lR 0, lI p1, lI p2, lI p3], ([], (mSH W5.1 W5.2.1, (W5.2.2.1, W5.2.2.2)))))) (fun _ _ => rfl) fun v4 W5 => ?_
  refine sm_go 3 (s' := (9, ([lR 0, lI p1, lI p2, lI p3], ([sI 2000, sI 0, sI p2], (mSH W5.1 W5.2.1, (W5.2.2.1, W5.2.2.2)))))) ?_ rfl
  refine sm_thr (rest := []) (T_X10_needRange scr (d + 5) W5 p2 0 2000) rfl (Or.inr (Or.inl rfl)) rfl rfl rfl rfl (fun _ _ => rfl) (fun _ _ => rfl) (fun v6 W7 => (12, ([lR 0, lI p1, lI p2, lI p3], ([], (mSH W7.1 W7.2.1, (W7.2.2.1, W7.2.2.2)))))) (fun _ _ => rfl) fun v6 W7 => ?_
  refine sm_go 5 (s' := (19, ([lR 0, lI p1, lI p2, lI p3], ([sI 2000, sI (p2 + 1), sI p3], (mSH W7.1 W7.2.1, (W7.2.2.1, W7.2.2.2)))))) ?_ rfl
  refine sm_thr (rest := []) (T_X10_needRange scr (d + 5) W7 p3 (p2 + 1) 2000) rfl (Or.inr (Or.inl rfl)) rfl rfl rfl rfl (fun _ _ => rfl) (fun _ _ => rfl) (fun v8 W9 => (22, ([lR 0, lI p1, lI p2, lI p3], ([], (mSH W9.1 W9.2.1, (W9.2.2.1, W9.2.2.2)))))) (fun _ _ => rfl) fun v8 W9 => ?_
  refine sm_go 4 (s' := (30, ([lR 0, lI p1, lI p2, lI p3], ([sI p1, sR 9], (mSH W9.1 W9.2.1, (W9.2.2.1, W9.2.2.2)))))) ?_ rfl
  refine sm_ald rfl rfl fun v10 => ?_
  refine sm_go 1 (s' := (32, ([lR 0, lI p1, lI p2, lI p3], ([sI 4, sI v10], (mSH W9.1 W9.2.1, (W9.2.2.1, W9.2.2.2)))))) ?_ rfl
  refine sm_if2 (t := (ilt v10 4)) (pt := 45) rfl rfl rfl (fun _ => ?_) (fun _ => ?_)
  · refine sm_go 1 (s' := (46, ([lR 0, lI p1, lI p2, lI p3], ([sR 0], (mSH W9.1 W9.2.1, (W9.2.2.1, W9.2.2.2)))))) ?_ rfl
    refine sm_thr (rest := []) (T_X10_remember scr (d + 3) W9) rfl (Or.inl rfl) rfl rfl rfl rfl (fun _ _ => rfl) (fun _ _ => rfl) (fun v11 W12 => (49, ([lR 0, lI p1, lI p2, lI p3], ([], (mSH W12.1 W12.2.1, (W12.2.2.1, W12.2.2.2)))))) (fun _ _ => rfl) fun v11 W12 => ?_
    refine sm_go 5 (s' := (56, ([lR 0, lI p1, lI p2, lI p3], ([sI p3, sI p2, sI p1, sR 1], (mSH W12.1 W12.2.1, (W12.2.2.1, W12.2.2.2)))))) ?_ rfl
    refine sm_callG (rest := []) (T_X7_newClosure scr (d + 5) W12.1 W12.2.1 W12.2.2.2 W12.2.2.1 p1 p2 p3) rfl (Or.inl rfl) rfl rfl rfl rfl (fun _ => rfl) (fun G13 => (59, ([lR 0, lI p1, lI p2, lI p3], ([], (mSH W12.1 W12.2.1, (G13, W12.2.2.2)))))) (fun _ => rfl) fun G13 => ?_
    refine sm_go 2 (s' := (63, ([lR 0, lI p1, lI p2, lI p3], ([sR 17], (mSH W12.1 W12.2.1, (G13, W12.2.2.2)))))) ?_ rfl
    refine sm_callG (rest := []) (T_X8_replay_17 scr d W12.1 W12.2.1 W12.2.2.2 G13) rfl (Or.inl rfl) rfl rfl rfl rfl (fun _ => rfl) (fun G14 => (66, ([lR 0, lI p1, lI p2, lI p3], ([], (mSH W12.1 W12.2.1, (G14, W12.2.2.2)))))) (fun _ => rfl) fun G14 => ?_
    refine sm_go 4 (s' := (74, ([lR 0, lI p1, lI p2, lI p3], ([sI p1, sR 9], (mSH W12.1 W12.2.1, (G14, W12.2.2.2)))))) ?_ rfl
    refine sm_ald rfl rfl fun v15 => ?_
    exact sm_retI rfl rfl rfl
  · exact sm_exc rfl rfl rfl rfl
noncomputable def P_L_close (p1 : Int) (p2 : Int) (p3 : Int) (W : mW) : Option ((Int ⊕ Nat) × mW) :=
ctcB (P_X10_close p1 p2 p3 W) (fun v4 W5 =>
(ast W5.2.2.1 74 1 0 (w32 v4)).bind fun G9 =>
some (.inl 0, (W5.1, (W5.2.1, (G9, W5.2.2.2))))) (fun W6 =>
some (.inl 1, W6)) (fun W7 =>
some (.inl 2, W7)) (fun W8 =>
some (.inl 3, W8))
set_option maxRecDepth 100000 in
theorem T_L_close (scr : mScr) (d : Nat) (W : mW)  (p1 : Int) (p2 : Int) (p3 : Int) : SimC scr (d + 8) 242 [sR 0, sI p1, sI p2, sI p3, sR 74] (mkM W) (e2I) (P_L_close p1 p2 p3 W) := by
  refine sm_callX (cs := mc_L_close) (maxL := 6) (rk := 0) (o := 112) (hs := [(0, (12, (15, 0))), (0, (12, (19, 1))), (0, (12, (23, 2)))]) (d := d + 7) [lR 0, lI p1, lI p2, lI p3, lR 74, none] rfl rfl rfl rfl ?_
  unfold P_L_close
  refine sm_go 6 (s' := (7, ([lR 0, lI p1, lI p2, lI p3, lR 74, none], ([sI p3, sI p2, sI p1, sR 0, sI 0, sR 74], (mSH W.1 W.2.1, (W.2.2.1, W.2.2.2)))))) ?_ rfl
  refine sm_ctc (rest := [sI 0, sR 74]) (T_X10_close scr d W p1 p2 p3) rfl (Or.inl rfl) rfl rfl rfl rfl (fun _ _ => rfl) (fun v4 W5 => (10, ([lR 0, lI p1, lI p2, lI p3, lR 74, none], ([sI v4, sI 0, sR 74], (mSH W5.1 W5.2.1, (W5.2.2.1, W5.2.2.2)))))) (fun _ _ => rfl) (fun v4 W5 => ?_) (Or.inl ⟨15, rfl, fun W6 => ?_⟩) (Or.inl ⟨19, rfl, fun W7 => ?_⟩) (Or.inl ⟨23, rfl, fun W8 => ?_⟩)
  · refine sm_go 1 (s' := (11, ([lR 0, lI p1, lI p2, lI p3, lR 74, none], ([sL (w32 v4), sI 0, sR 74], (mSH W5.1 W5.2.1, (W5.2.2.1, W5.2.2.2)))))) ?_ rfl
    refine sm_lst rfl rfl fun G9 => ?_
    refine sm_go 1 (s' := (27, ([lR 0, lI p1, lI p2, lI p3, lR 74, none], ([], (mSH W5.1 W5.2.1, (G9, W5.2.2.2)))))) ?_ rfl
    refine sm_go 1 (s' := (28, ([lR 0, lI p1, lI p2, lI p3, lR 74, none], ([sI 0], (mSH W5.1 W5.2.1, (G9, W5.2.2.2)))))) ?_ rfl
    exact sm_retI rfl rfl rfl
  · refine sm_go 2 (s' := (18, ([lR 0, lI p1, lI p2, lI p3, lR 74, lO], ([sI 1], (mSH W6.1 W6.2.1, (W6.2.2.1, W6.2.2.2)))))) ?_ rfl
    exact sm_retI rfl rfl rfl
  · refine sm_go 2 (s' := (22, ([lR 0, lI p1, lI p2, lI p3, lR 74, lO], ([sI 2], (mSH W7.1 W7.2.1, (W7.2.2.1, W7.2.2.2)))))) ?_ rfl
    exact sm_retI rfl rfl rfl
  · refine sm_go 2 (s' := (26, ([lR 0, lI p1, lI p2, lI p3, lR 74, lO], ([sI 3], (mSH W8.1 W8.2.1, (W8.2.2.1, W8.2.2.2)))))) ?_ rfl
    exact sm_retI rfl rfl rfl
noncomputable def P_X10_setTool (p1 : Int) (p2 : Int) (p3 : Int) (W : mW) : Option ((Int ⊕ Nat) × mW) :=
thrB (P_X10_needMachine p1 W) fun v4 W5 =>
letK (fun (W6 : mW) =>
thrB (P_X10_needRange p3 0 20 W6) fun v8 W9 =>
thrB (P_X10_remember W9) fun v10 W11 =>
(ald W11.2.2.1 12 4 p1).bind fun v12 =>
(ast W11.2.2.1 12 4 p1 p2).bind fun G13 =>
(ast G13 13 4 p1 p3).bind fun G14 =>
(P_X8_replay 17 G14).bind fun G15 =>
some (.inl v12, (W11.1, (W11.2.1, (G15, W11.2.2.2))))) fun k16 =>
bif (ieq p2 0) then
k16 W5
else
thrB (P_X10_needRange p2 50 300 W5) fun v17 W18 =>
k16 W18
set_option maxRecDepth 100000 in
theorem T_X10_setTool (scr : mScr) (d : Nat) (W : mW)  (p1 : Int) (p2 : Int) (p3 : Int) : SimC scr (d + 7) 76 [sR 0, sI p1, sI p2, sI p3] (mkM W) (e2I) (P_X10_setTool p1 p2 p3 W) := by
  refine sm_callX (cs := mc_X10_setTool) (maxL := 5) (rk := 0) (o := 10) (hs := []) (d := d + 6) [lR 0, lI p1, lI p2, lI p3, none] rfl rfl rfl rfl ?_
  unfold P_X10_setTool
  refine sm_go 1 (s' := (1, ([lR 0, lI p1, lI p2, lI p3, none], ([sI p1], (mSH W.1 W.2.1, (W.2.2.1, W.2.2.2)))))) ?_ rfl
  refine sm_thr (rest := []) (T_X10_needMachine scr (d + 5) W p1) rfl (Or.inr (Or.inl rfl)) rfl rfl rfl rfl (fun _ _ => rfl) (fun _ _ => rfl) (fun v4 W5 => (4, ([lR 0, lI p1, lI p2, lI p3, none], ([], (mSH W5.1 W5.2.1, (W5.2.2.1, W5.2.2.2)))))) (fun _ _ => rfl) fun v4 W5 => ?_
  refine sm_letK1 (S := fun (g7 : Unit) (W6 : mW) => (17, ([lR 0, lI p1, lI p2, lI p3, none], ([], (mSH W6.1 W6.2.1, (W6.2.2.1, W6.2.2.2)))))) ?_ ?_
  · intro g7 W6
    refine sm_go 3 (s' := (21, ([lR 0, lI p1, lI p2, lI p3, none], ([sI 20, sI 0, sI p3], (mSH W6.1 W6.2.1, (W6.2.2.1, W6.2.2.2)))))) ?_ rfl
    refine sm_thr (rest := []) (T_X10_needRange scr (d + 5) W6 p3 0 20) rfl (Or.inr (Or.inl rfl)) rfl rfl rfl rfl (fun _ _ => rfl) (fun _ _ => rfl) (fun v8 W9 => (24, ([lR 0, lI p1, lI p2, lI p3, none], ([], (mSH W9.1 W9.2.1, (W9.2.2.1, W9.2.2.2)))))) (fun _ _ => rfl) fun v8 W9 => ?_
    refine sm_go 1 (s' := (25, ([lR 0, lI p1, lI p2, lI p3, none], ([sR 0], (mSH W9.1 W9.2.1, (W9.2.2.1, W9.2.2.2)))))) ?_ rfl
    refine sm_thr (rest := []) (T_X10_remember scr (d + 3) W9) rfl (Or.inl rfl) rfl rfl rfl rfl (fun _ _ => rfl) (fun _ _ => rfl) (fun v10 W11 => (28, ([lR 0, lI p1, lI p2, lI p3, none], ([], (mSH W11.1 W11.2.1, (W11.2.2.1, W11.2.2.2)))))) (fun _ _ => rfl) fun v10 W11 => ?_
    refine sm_go 4 (s' := (36, ([lR 0, lI p1, lI p2, lI p3, none], ([sI p1, sR 12], (mSH W11.1 W11.2.1, (W11.2.2.1, W11.2.2.2)))))) ?_ rfl
    refine sm_ald rfl rfl fun v12 => ?_
    refine sm_go 6 (s' := (48, ([lR 0, lI p1, lI p2, lI p3, lI v12], ([sI p2, sI p1, sR 12], (mSH W11.1 W11.2.1, (W11.2.2.1, W11.2.2.2)))))) ?_ rfl
    refine sm_ast rfl rfl fun G13 => ?_
    refine sm_go 5 (s' := (58, ([lR 0, lI p1, lI p2, lI p3, lI v12], ([sI p3, sI p1, sR 13], (mSH W11.1 W11.2.1, (G13, W11.2.2.2)))))) ?_ rfl
    refine sm_ast rfl rfl fun G14 => ?_
    refine sm_go 2 (s' := (63, ([lR 0, lI p1, lI p2, lI p3, lI v12], ([sR 17], (mSH W11.1 W11.2.1, (G14, W11.2.2.2)))))) ?_ rfl
    refine sm_callG (rest := []) (T_X8_replay_17 scr d W11.1 W11.2.1 W11.2.2.2 G14) rfl (Or.inl rfl) rfl rfl rfl rfl (fun _ => rfl) (fun G15 => (66, ([lR 0, lI p1, lI p2, lI p3, lI v12], ([], (mSH W11.1 W11.2.1, (G15, W11.2.2.2)))))) (fun _ => rfl) fun G15 => ?_
    refine sm_go 1 (s' := (68, ([lR 0, lI p1, lI p2, lI p3, lI v12], ([sI v12], (mSH W11.1 W11.2.1, (G15, W11.2.2.2)))))) ?_ rfl
    exact sm_retI rfl rfl rfl
  · intro k16 hk16
    refine sm_go 1 (s' := (5, ([lR 0, lI p1, lI p2, lI p3, none], ([sI p2], (mSH W5.1 W5.2.1, (W5.2.2.1, W5.2.2.2)))))) ?_ rfl
    refine sm_if1 (t := (ieq p2 0)) (pt := 17) rfl rfl rfl (fun _ => ?_) (fun _ => ?_)
    · exact hk16 () W5
    · refine sm_go 3 (s' := (14, ([lR 0, lI p1, lI p2, lI p3, none], ([sI 300, sI 50, sI p2], (mSH W5.1 W5.2.1, (W5.2.2.1, W5.2.2.2)))))) ?_ rfl
      refine sm_thr (rest := []) (T_X10_needRange scr (d + 5) W5 p2 50 300) rfl (Or.inr (Or.inl rfl)) rfl rfl rfl rfl (fun _ _ => rfl) (fun _ _ => rfl) (fun v17 W18 => (17, ([lR 0, lI p1, lI p2, lI p3, none], ([], (mSH W18.1 W18.2.1, (W18.2.2.1, W18.2.2.2)))))) (fun _ _ => rfl) fun v17 W18 => ?_
      exact hk16 () W18
noncomputable def P_L_setTool (p1 : Int) (p2 : Int) (p3 : Int) (W : mW) : Option ((Int ⊕ Nat) × mW) :=
ctcB (P_X10_setTool p1 p2 p3 W) (fun v4 W5 =>
(ast W5.2.2.1 74 1 0 (w32 v4)).bind fun G8 =>
some (.inl 0, (W5.1, (W5.2.1, (G8, W5.2.2.2))))) (fun W6 =>
some (.inl 1, W6)) (fun W7 =>
some (.inl 2, W7)) (fun _ => none)
set_option maxRecDepth 100000 in
theorem T_L_setTool (scr : mScr) (d : Nat) (W : mW)  (p1 : Int) (p2 : Int) (p3 : Int) : SimC scr (d + 8) 243 [sR 0, sI p1, sI p2, sI p3, sR 74] (mkM W) (e2I) (P_L_setTool p1 p2 p3 W) := by
  refine sm_callX (cs := mc_L_setTool) (maxL := 6) (rk := 0) (o := 112) (hs := [(0, (12, (15, 0))), (0, (12, (19, 1)))]) (d := d + 7) [lR 0, lI p1, lI p2, lI p3, lR 74, none] rfl rfl rfl rfl ?_
  unfold P_L_setTool
  refine sm_go 6 (s' := (7, ([lR 0, lI p1, lI p2, lI p3, lR 74, none], ([sI p3, sI p2, sI p1, sR 0, sI 0, sR 74], (mSH W.1 W.2.1, (W.2.2.1, W.2.2.2)))))) ?_ rfl
  refine sm_ctc (rest := [sI 0, sR 74]) (T_X10_setTool scr d W p1 p2 p3) rfl (Or.inl rfl) rfl rfl rfl rfl (fun _ _ => rfl) (fun v4 W5 => (10, ([lR 0, lI p1, lI p2, lI p3, lR 74, none], ([sI v4, sI 0, sR 74], (mSH W5.1 W5.2.1, (W5.2.2.1, W5.2.2.2)))))) (fun _ _ => rfl) (fun v4 W5 => ?_) (Or.inl ⟨15, rfl, fun W6 => ?_⟩) (Or.inl ⟨19, rfl, fun W7 => ?_⟩) (Or.inr rfl)
  · refine sm_go 1 (s' := (11, ([lR 0, lI p1, lI p2, lI p3, lR 74, none], ([sL (w32 v4), sI 0, sR 74], (mSH W5.1 W5.2.1, (W5.2.2.1, W5.2.2.2)))))) ?_ rfl
    refine sm_lst rfl rfl fun G8 => ?_
    refine sm_go 1 (s' := (23, ([lR 0, lI p1, lI p2, lI p3, lR 74, none], ([], (mSH W5.1 W5.2.1, (G8, W5.2.2.2)))))) ?_ rfl
    refine sm_go 1 (s' := (24, ([lR 0, lI p1, lI p2, lI p3, lR 74, none], ([sI 0], (mSH W5.1 W5.2.1, (G8, W5.2.2.2)))))) ?_ rfl
    exact sm_retI rfl rfl rfl
  · refine sm_go 2 (s' := (18, ([lR 0, lI p1, lI p2, lI p3, lR 74, lO], ([sI 1], (mSH W6.1 W6.2.1, (W6.2.2.1, W6.2.2.2)))))) ?_ rfl
    exact sm_retI rfl rfl rfl
  · refine sm_go 2 (s' := (22, ([lR 0, lI p1, lI p2, lI p3, lR 74, lO], ([sI 2], (mSH W7.1 W7.2.1, (W7.2.2.1, W7.2.2.2)))))) ?_ rfl
    exact sm_retI rfl rfl rfl
noncomputable def P_X10_setSetup (p1 : Int) (p2 : Int) (p3 : Int) (W : mW) : Option ((Int ⊕ Nat) × mW) :=
thrB (P_X10_needKind p1 W) fun v4 W5 =>
thrB (P_X10_needKind p2 W5) fun v6 W7 =>
thrB (P_X10_needRange p3 0 20 W7) fun v8 W9 =>
thrB (P_X10_remember W9) fun v10 W11 =>
(ald W11.2.2.1 14 16 ((p1 * 4) + p2)).bind fun v12 =>
(ast W11.2.2.1 14 16 ((p1 * 4) + p2) p3).bind fun G13 =>
(P_X10_dropPlan G13).bind fun G14 =>
some (.inl v12, (W11.1, (W11.2.1, (G14, W11.2.2.2))))
set_option maxRecDepth 100000 in
theorem T_X10_setSetup (scr : mScr) (d : Nat) (W : mW)  (p1 : Int) (p2 : Int) (p3 : Int) : SimC scr (d + 8) 77 [sR 0, sI p1, sI p2, sI p3] (mkM W) (e2I) (P_X10_setSetup p1 p2 p3 W) := by
  refine sm_callX (cs := mc_X10_setSetup) (maxL := 5) (rk := 0) (o := 10) (hs := []) (d := d + 7) [lR 0, lI p1, lI p2, lI p3, none] rfl rfl rfl rfl ?_
  unfold P_X10_setSetup
  refine sm_go 1 (s' := (1, ([lR 0, lI p1, lI p2, lI p3, none], ([sI p1], (mSH W.1 W.2.1, (W.2.2.1, W.2.2.2)))))) ?_ rfl
  refine sm_thr (rest := []) (T_X10_needKind scr (d + 6) W p1) rfl (Or.inr (Or.inl rfl)) rfl rfl rfl rfl (fun _ _ => rfl) (fun _ _ => rfl) (fun v4 W5 => (4, ([lR 0, lI p1, lI p2, lI p3, none], ([], (mSH W5.1 W5.2.1, (W5.2.2.1, W5.2.2.2)))))) (fun _ _ => rfl) fun v4 W5 => ?_
  refine sm_go 1 (s' := (5, ([lR 0, lI p1, lI p2, lI p3, none], ([sI p2], (mSH W5.1 W5.2.1, (W5.2.2.1, W5.2.2.2)))))) ?_ rfl
  refine sm_thr (rest := []) (T_X10_needKind scr (d + 6) W5 p2) rfl (Or.inr (Or.inl rfl)) rfl rfl rfl rfl (fun _ _ => rfl) (fun _ _ => rfl) (fun v6 W7 => (8, ([lR 0, lI p1, lI p2, lI p3, none], ([], (mSH W7.1 W7.2.1, (W7.2.2.1, W7.2.2.2)))))) (fun _ _ => rfl) fun v6 W7 => ?_
  refine sm_go 3 (s' := (12, ([lR 0, lI p1, lI p2, lI p3, none], ([sI 20, sI 0, sI p3], (mSH W7.1 W7.2.1, (W7.2.2.1, W7.2.2.2)))))) ?_ rfl
  refine sm_thr (rest := []) (T_X10_needRange scr (d + 6) W7 p3 0 20) rfl (Or.inr (Or.inl rfl)) rfl rfl rfl rfl (fun _ _ => rfl) (fun _ _ => rfl) (fun v8 W9 => (15, ([lR 0, lI p1, lI p2, lI p3, none], ([], (mSH W9.1 W9.2.1, (W9.2.2.1, W9.2.2.2)))))) (fun _ _ => rfl) fun v8 W9 => ?_
  refine sm_go 1 (s' := (16, ([lR 0, lI p1, lI p2, lI p3, none], ([sR 0], (mSH W9.1 W9.2.1, (W9.2.2.1, W9.2.2.2)))))) ?_ rfl
  refine sm_thr (rest := []) (T_X10_remember scr (d + 4) W9) rfl (Or.inl rfl) rfl rfl rfl rfl (fun _ _ => rfl) (fun _ _ => rfl) (fun v10 W11 => (19, ([lR 0, lI p1, lI p2, lI p3, none], ([], (mSH W11.1 W11.2.1, (W11.2.2.1, W11.2.2.2)))))) (fun _ _ => rfl) fun v10 W11 => ?_
  refine sm_go 8 (s' := (31, ([lR 0, lI p1, lI p2, lI p3, none], ([sI ((p1 * 4) + p2), sR 14], (mSH W11.1 W11.2.1, (W11.2.2.1, W11.2.2.2)))))) ?_ rfl
  refine sm_ald rfl rfl fun v12 => ?_
  refine sm_go 10 (s' := (47, ([lR 0, lI p1, lI p2, lI p3, lI v12], ([sI p3, sI ((p1 * 4) + p2), sR 14], (mSH W11.1 W11.2.1, (W11.2.2.1, W11.2.2.2)))))) ?_ rfl
  refine sm_ast rfl rfl fun G13 => ?_
  refine sm_go 1 (s' := (49, ([lR 0, lI p1, lI p2, lI p3, lI v12], ([sR 0], (mSH W11.1 W11.2.1, (G13, W11.2.2.2)))))) ?_ rfl
  refine sm_callG (rest := []) (T_X10_dropPlan scr d W11.1 W11.2.1 W11.2.2.2 G13) rfl (Or.inl rfl) rfl rfl rfl rfl (fun _ => rfl) (fun G14 => (52, ([lR 0, lI p1, lI p2, lI p3, lI v12], ([], (mSH W11.1 W11.2.1, (G14, W11.2.2.2)))))) (fun _ => rfl) fun G14 => ?_
  refine sm_go 1 (s' := (54, ([lR 0, lI p1, lI p2, lI p3, lI v12], ([sI v12], (mSH W11.1 W11.2.1, (G14, W11.2.2.2)))))) ?_ rfl
  exact sm_retI rfl rfl rfl
noncomputable def P_L_setSetup (p1 : Int) (p2 : Int) (p3 : Int) (W : mW) : Option ((Int ⊕ Nat) × mW) :=
ctcB (P_X10_setSetup p1 p2 p3 W) (fun v4 W5 =>
(ast W5.2.2.1 74 1 0 (w32 v4)).bind fun G8 =>
some (.inl 0, (W5.1, (W5.2.1, (G8, W5.2.2.2))))) (fun W6 =>
some (.inl 1, W6)) (fun W7 =>
some (.inl 2, W7)) (fun _ => none)
set_option maxRecDepth 100000 in
theorem T_L_setSetup (scr : mScr) (d : Nat) (W : mW)  (p1 : Int) (p2 : Int) (p3 : Int) : SimC scr (d + 9) 244 [sR 0, sI p1, sI p2, sI p3, sR 74] (mkM W) (e2I) (P_L_setSetup p1 p2 p3 W) := by
  refine sm_callX (cs := mc_L_setSetup) (maxL := 6) (rk := 0) (o := 112) (hs := [(0, (12, (15, 0))), (0, (12, (19, 1)))]) (d := d + 8) [lR 0, lI p1, lI p2, lI p3, lR 74, none] rfl rfl rfl rfl ?_
  unfold P_L_setSetup
  refine sm_go 6 (s' := (7, ([lR 0, lI p1, lI p2, lI p3, lR 74, none], ([sI p3, sI p2, sI p1, sR 0, sI 0, sR 74], (mSH W.1 W.2.1, (W.2.2.1, W.2.2.2)))))) ?_ rfl
  refine sm_ctc (rest := [sI 0, sR 74]) (T_X10_setSetup scr d W p1 p2 p3) rfl (Or.inl rfl) rfl rfl rfl rfl (fun _ _ => rfl) (fun v4 W5 => (10, ([lR 0, lI p1, lI p2, lI p3, lR 74, none], ([sI v4, sI 0, sR 74], (mSH W5.1 W5.2.1, (W5.2.2.1, W5.2.2.2)))))) (fun _ _ => rfl) (fun v4 W5 => ?_) (Or.inl ⟨15, rfl, fun W6 => ?_⟩) (Or.inl ⟨19, rfl, fun W7 => ?_⟩) (Or.inr rfl)
  · refine sm_go 1 (s' := (11, ([lR 0, lI p1, lI p2, lI p3, lR 74, none], ([sL (w32 v4), sI 0, sR 74], (mSH W5.1 W5.2.1, (W5.2.2.1, W5.2.2.2)))))) ?_ rfl
    refine sm_lst rfl rfl fun G8 => ?_
    refine sm_go 1 (s' := (23, ([lR 0, lI p1, lI p2, lI p3, lR 74, none], ([], (mSH W5.1 W5.2.1, (G8, W5.2.2.2)))))) ?_ rfl
    refine sm_go 1 (s' := (24, ([lR 0, lI p1, lI p2, lI p3, lR 74, none], ([sI 0], (mSH W5.1 W5.2.1, (G8, W5.2.2.2)))))) ?_ rfl
    exact sm_retI rfl rfl rfl
  · refine sm_go 2 (s' := (18, ([lR 0, lI p1, lI p2, lI p3, lR 74, lO], ([sI 1], (mSH W6.1 W6.2.1, (W6.2.2.1, W6.2.2.2)))))) ?_ rfl
    exact sm_retI rfl rfl rfl
  · refine sm_go 2 (s' := (22, ([lR 0, lI p1, lI p2, lI p3, lR 74, lO], ([sI 2], (mSH W7.1 W7.2.1, (W7.2.2.1, W7.2.2.2)))))) ?_ rfl
    exact sm_retI rfl rfl rfl
noncomputable def P_X10_addJob (p1 : Int) (p2 : Int) (p3 : Int) (p4 : Int) (W : mW) : Option ((Int ⊕ Nat) × mW) :=
thrB (P_X10_needKind p4 W) fun v5 W6 =>
thrB (P_X10_needRange p1 0 200 W6) fun v7 W8 =>
thrB (P_X10_needRange p2 0 1000 W8) fun v9 W10 =>
thrB (P_X10_needRange p3 1 9 W10) fun v11 W12 =>
thrB (P_X10_needRoomForJob W12) fun v13 W14 =>
thrB (P_X10_remember W14) fun v15 W16 =>
(P_X7_newJob p1 p2 p3 p4 W16.2.2.1).bind fun z17 =>
(P_X10_dropPlan z17.2).bind fun G18 =>
some (.inl z17.1, (W16.1, (W16.2.1, (G18, W16.2.2.2))))
set_option maxRecDepth 100000 in
theorem T_X10_addJob (scr : mScr) (d : Nat) (W : mW)  (p1 : Int) (p2 : Int) (p3 : Int) (p4 : Int) : SimC scr (d + 8) 78 [sR 0, sI p1, sI p2, sI p3, sI p4] (mkM W) (e2I) (P_X10_addJob p1 p2 p3 p4 W) := by
  refine sm_callX (cs := mc_X10_addJob) (maxL := 6) (rk := 0) (o := 10) (hs := []) (d := d + 7) [lR 0, lI p1, lI p2, lI p3, lI p4, none] rfl rfl rfl rfl ?_
  unfold P_X10_addJob
  refine sm_go 1 (s' := (2, ([lR 0, lI p1, lI p2, lI p3, lI p4, none], ([sI p4], (mSH W.1 W.2.1, (W.2.2.1, W.2.2.2)))))) ?_ rfl
  refine sm_thr (rest := []) (T_X10_needKind scr (d + 6) W p4) rfl (Or.inr (Or.inl rfl)) rfl rfl rfl rfl (fun _ _ => rfl) (fun _ _ => rfl) (fun v5 W6 => (5, ([lR 0, lI p1, lI p2, lI p3, lI p4, none], ([], (mSH W6.1 W6.2.1, (W6.2.2.1, W6.2.2.2)))))) (fun _ _ => rfl) fun v5 W6 => ?_
  refine sm_go 3 (s' := (10, ([lR 0, lI p1, lI p2, lI p3, lI p4, none], ([sI 200, sI 0, sI p1], (mSH W6.1 W6.2.1, (W6.2.2.1, W6.2.2.2)))))) ?_ rfl
  refine sm_thr (rest := []) (T_X10_needRange scr (d + 6) W6 p1 0 200) rfl (Or.inr (Or.inl rfl)) rfl rfl rfl rfl (fun _ _ => rfl) (fun _ _ => rfl) (fun v7 W8 => (13, ([lR 0, lI p1, lI p2, lI p3, lI p4, none], ([], (mSH W8.1 W8.2.1, (W8.2.2.1, W8.2.2.2)))))) (fun _ _ => rfl) fun v7 W8 => ?_
  refine sm_go 3 (s' := (18, ([lR 0, lI p1, lI p2, lI p3, lI p4, none], ([sI 1000, sI 0, sI p2], (mSH W8.1 W8.2.1, (W8.2.2.1, W8.2.2.2)))))) ?_ rfl
  refine sm_thr (rest := []) (T_X10_needRange scr (d + 6) W8 p2 0 1000) rfl (Or.inr (Or.inl rfl)) rfl rfl rfl rfl (fun _ _ => rfl) (fun _ _ => rfl) (fun v9 W10 => (21, ([lR 0, lI p1, lI p2, lI p3, lI p4, none], ([], (mSH W10.1 W10.2.1, (W10.2.2.1, W10.2.2.2)))))) (fun _ _ => rfl) fun v9 W10 => ?_
  refine sm_go 3 (s' := (25, ([lR 0, lI p1, lI p2, lI p3, lI p4, none], ([sI 9, sI 1, sI p3], (mSH W10.1 W10.2.1, (W10.2.2.1, W10.2.2.2)))))) ?_ rfl
  refine sm_thr (rest := []) (T_X10_needRange scr (d + 6) W10 p3 1 9) rfl (Or.inr (Or.inl rfl)) rfl rfl rfl rfl (fun _ _ => rfl) (fun _ _ => rfl) (fun v11 W12 => (28, ([lR 0, lI p1, lI p2, lI p3, lI p4, none], ([], (mSH W12.1 W12.2.1, (W12.2.2.1, W12.2.2.2)))))) (fun _ _ => rfl) fun v11 W12 => ?_
  refine sm_go 1 (s' := (29, ([lR 0, lI p1, lI p2, lI p3, lI p4, none], ([sR 0], (mSH W12.1 W12.2.1, (W12.2.2.1, W12.2.2.2)))))) ?_ rfl
  refine sm_thr (rest := []) (T_X10_needRoomForJob scr (d + 6) W12) rfl (Or.inl rfl) rfl rfl rfl rfl (fun _ _ => rfl) (fun _ _ => rfl) (fun v13 W14 => (32, ([lR 0, lI p1, lI p2, lI p3, lI p4, none], ([], (mSH W14.1 W14.2.1, (W14.2.2.1, W14.2.2.2)))))) (fun _ _ => rfl) fun v13 W14 => ?_
  refine sm_go 1 (s' := (33, ([lR 0, lI p1, lI p2, lI p3, lI p4, none], ([sR 0], (mSH W14.1 W14.2.1, (W14.2.2.1, W14.2.2.2)))))) ?_ rfl
  refine sm_thr (rest := []) (T_X10_remember scr (d + 4) W14) rfl (Or.inl rfl) rfl rfl rfl rfl (fun _ _ => rfl) (fun _ _ => rfl) (fun v15 W16 => (36, ([lR 0, lI p1, lI p2, lI p3, lI p4, none], ([], (mSH W16.1 W16.2.1, (W16.2.2.1, W16.2.2.2)))))) (fun _ _ => rfl) fun v15 W16 => ?_
  refine sm_go 6 (s' := (45, ([lR 0, lI p1, lI p2, lI p3, lI p4, none], ([sI p4, sI p3, sI p2, sI p1, sR 1], (mSH W16.1 W16.2.1, (W16.2.2.1, W16.2.2.2)))))) ?_ rfl
  refine sm_callG (rest := []) (T_X7_newJob scr (d + 6) W16.1 W16.2.1 W16.2.2.2 W16.2.2.1 p1 p2 p3 p4) rfl (Or.inl rfl) rfl rfl rfl rfl (fun _ => rfl) (fun z17 => (48, ([lR 0, lI p1, lI p2, lI p3, lI p4, none], ([sI z17.1], (mSH W16.1 W16.2.1, (z17.2, W16.2.2.2)))))) (fun _ => rfl) fun z17 => ?_
  refine sm_go 2 (s' := (51, ([lR 0, lI p1, lI p2, lI p3, lI p4, lI z17.1], ([sR 0], (mSH W16.1 W16.2.1, (z17.2, W16.2.2.2)))))) ?_ rfl
  refine sm_callG (rest := []) (T_X10_dropPlan scr d W16.1 W16.2.1 W16.2.2.2 z17.2) rfl (Or.inl rfl) rfl rfl rfl rfl (fun _ => rfl) (fun G18 => (54, ([lR 0, lI p1, lI p2, lI p3, lI p4, lI z17.1], ([], (mSH W16.1 W16.2.1, (G18, W16.2.2.2)))))) (fun _ => rfl) fun G18 => ?_
  refine sm_go 1 (s' := (56, ([lR 0, lI p1, lI p2, lI p3, lI p4, lI z17.1], ([sI z17.1], (mSH W16.1 W16.2.1, (G18, W16.2.2.2)))))) ?_ rfl
  exact sm_retI rfl rfl rfl
noncomputable def P_L_addJob (p1 : Int) (p2 : Int) (p3 : Int) (p4 : Int) (W : mW) : Option ((Int ⊕ Nat) × mW) :=
ctcB (P_X10_addJob p1 p2 p3 p4 W) (fun v5 W6 =>
(ast W6.2.2.1 74 1 0 (w32 v5)).bind fun G10 =>
some (.inl 0, (W6.1, (W6.2.1, (G10, W6.2.2.2))))) (fun W7 =>
some (.inl 1, W7)) (fun W8 =>
some (.inl 2, W8)) (fun W9 =>
some (.inl 3, W9))
set_option maxRecDepth 100000 in
theorem T_L_addJob (scr : mScr) (d : Nat) (W : mW)  (p1 : Int) (p2 : Int) (p3 : Int) (p4 : Int) : SimC scr (d + 9) 245 [sR 0, sI p1, sI p2, sI p3, sI p4, sR 74] (mkM W) (e2I) (P_L_addJob p1 p2 p3 p4 W) := by
  refine sm_callX (cs := mc_L_addJob) (maxL := 7) (rk := 0) (o := 112) (hs := [(0, (14, (17, 0))), (0, (14, (21, 1))), (0, (14, (25, 2)))]) (d := d + 8) [lR 0, lI p1, lI p2, lI p3, lI p4, lR 74, none] rfl rfl rfl rfl ?_
  unfold P_L_addJob
  refine sm_go 7 (s' := (9, ([lR 0, lI p1, lI p2, lI p3, lI p4, lR 74, none], ([sI p4, sI p3, sI p2, sI p1, sR 0, sI 0, sR 74], (mSH W.1 W.2.1, (W.2.2.1, W.2.2.2)))))) ?_ rfl
  refine sm_ctc (rest := [sI 0, sR 74]) (T_X10_addJob scr d W p1 p2 p3 p4) rfl (Or.inl rfl) rfl rfl rfl rfl (fun _ _ => rfl) (fun v5 W6 => (12, ([lR 0, lI p1, lI p2, lI p3, lI p4, lR 74, none], ([sI v5, sI 0, sR 74], (mSH W6.1 W6.2.1, (W6.2.2.1, W6.2.2.2)))))) (fun _ _ => rfl) (fun v5 W6 => ?_) (Or.inl ⟨17, rfl, fun W7 => ?_⟩) (Or.inl ⟨21, rfl, fun W8 => ?_⟩) (Or.inl ⟨25, rfl, fun W9 => ?_⟩)
  · refine sm_go 1 (s' := (13, ([lR 0, lI p1, lI p2, lI p3, lI p4, lR 74, none], ([sL (w32 v5), sI 0, sR 74], (mSH W6.1 W6.2.1, (W6.2.2.1, W6.2.2.2)))))) ?_ rfl
    refine sm_lst rfl rfl fun G10 => ?_
    refine sm_go 1 (s' := (29, ([lR 0, lI p1, lI p2, lI p3, lI p4, lR 74, none], ([], (mSH W6.1 W6.2.1, (G10, W6.2.2.2)))))) ?_ rfl
    refine sm_go 1 (s' := (30, ([lR 0, lI p1, lI p2, lI p3, lI p4, lR 74, none], ([sI 0], (mSH W6.1 W6.2.1, (G10, W6.2.2.2)))))) ?_ rfl
    exact sm_retI rfl rfl rfl
  · refine sm_go 2 (s' := (20, ([lR 0, lI p1, lI p2, lI p3, lI p4, lR 74, lO], ([sI 1], (mSH W7.1 W7.2.1, (W7.2.2.1, W7.2.2.2)))))) ?_ rfl
    exact sm_retI rfl rfl rfl
  · refine sm_go 2 (s' := (24, ([lR 0, lI p1, lI p2, lI p3, lI p4, lR 74, lO], ([sI 2], (mSH W8.1 W8.2.1, (W8.2.2.1, W8.2.2.2)))))) ?_ rfl
    exact sm_retI rfl rfl rfl
  · refine sm_go 2 (s' := (28, ([lR 0, lI p1, lI p2, lI p3, lI p4, lR 74, lO], ([sI 3], (mSH W9.1 W9.2.1, (W9.2.2.1, W9.2.2.2)))))) ?_ rfl
    exact sm_retI rfl rfl rfl
noncomputable def P_X10_addStep (p1 : Int) (p2 : Int) (p3 : Int) (W : mW) : Option ((Int ⊕ Nat) × mW) :=
thrB (P_X10_needJob p1 W) fun v4 W5 =>
thrB (P_X10_needMachine p2 W5) fun v6 W7 =>
thrB (P_X10_needRange p3 1 50 W7) fun v8 W9 =>
(ald W9.2.2.1 6 6 p1).bind fun v10 =>
bif (ilt v10 5) then
thrB (P_X10_remember W9) fun v11 W12 =>
(P_X7_newStep p1 p2 p3 W12.2.2.1).bind fun z13 =>
(P_X10_dropPlan z13.2).bind fun G14 =>
some (.inl z13.1, (W12.1, (W12.2.1, (G14, W12.2.2.2))))
else
some (.inr 2, (W9.1, (W9.2.1, (W9.2.2.1, (W9.2.2.2.1 + 1, W9.2.2.2.2 + 6)))))
set_option maxRecDepth 100000 in
theorem T_X10_addStep (scr : mScr) (d : Nat) (W : mW)  (p1 : Int) (p2 : Int) (p3 : Int) : SimC scr (d + 8) 79 [sR 0, sI p1, sI p2, sI p3] (mkM W) (e2I) (P_X10_addStep p1 p2 p3 W) := by
  refine sm_callX (cs := mc_X10_addStep) (maxL := 5) (rk := 0) (o := 10) (hs := []) (d := d + 7) [lR 0, lI p1, lI p2, lI p3, none] rfl rfl rfl rfl ?_
  unfold P_X10_addStep
  refine sm_go 2 (s' := (2, ([lR 0, lI p1, lI p2, lI p3, none], ([sI p1, sR 0], (mSH W.1 W.2.1, (W.2.2.1, W.2.2.2)))))) ?_ rfl
  refine sm_thr (rest := []) (T_X10_needJob scr (d + 6) W p1) rfl (Or.inl rfl) rfl rfl rfl rfl (fun _ _ => rfl) (fun _ _ => rfl) (fun v4 W5 => (5, ([lR 0, lI p1, lI p2, lI p3, none], ([], (mSH W5.1 W5.2.1, (W5.2.2.1, W5.2.2.2)))))) (fun _ _ => rfl) fun v4 W5 => ?_
  refine sm_go 1 (s' := (6, ([lR 0, lI p1, lI p2, lI p3, none], ([sI p2], (mSH W5.1 W5.2.1, (W5.2.2.1, W5.2.2.2)))))) ?_ rfl
  refine sm_thr (rest := []) (T_X10_needMachine scr (d + 6) W5 p2) rfl (Or.inr (Or.inl rfl)) rfl rfl rfl rfl (fun _ _ => rfl) (fun _ _ => rfl) (fun v6 W7 => (9, ([lR 0, lI p1, lI p2, lI p3, none], ([], (mSH W7.1 W7.2.1, (W7.2.2.1, W7.2.2.2)))))) (fun _ _ => rfl) fun v6 W7 => ?_
  refine sm_go 3 (s' := (13, ([lR 0, lI p1, lI p2, lI p3, none], ([sI 50, sI 1, sI p3], (mSH W7.1 W7.2.1, (W7.2.2.1, W7.2.2.2)))))) ?_ rfl
  refine sm_thr (rest := []) (T_X10_needRange scr (d + 6) W7 p3 1 50) rfl (Or.inr (Or.inl rfl)) rfl rfl rfl rfl (fun _ _ => rfl) (fun _ _ => rfl) (fun v8 W9 => (16, ([lR 0, lI p1, lI p2, lI p3, none], ([], (mSH W9.1 W9.2.1, (W9.2.2.1, W9.2.2.2)))))) (fun _ _ => rfl) fun v8 W9 => ?_
  refine sm_go 4 (s' := (24, ([lR 0, lI p1, lI p2, lI p3, none], ([sI p1, sR 6], (mSH W9.1 W9.2.1, (W9.2.2.1, W9.2.2.2)))))) ?_ rfl
  refine sm_ald rfl rfl fun v10 => ?_
  refine sm_go 1 (s' := (26, ([lR 0, lI p1, lI p2, lI p3, none], ([sI 5, sI v10], (mSH W9.1 W9.2.1, (W9.2.2.1, W9.2.2.2)))))) ?_ rfl
  refine sm_if2 (t := (ilt v10 5)) (pt := 39) rfl rfl rfl (fun _ => ?_) (fun _ => ?_)
  · refine sm_go 1 (s' := (40, ([lR 0, lI p1, lI p2, lI p3, none], ([sR 0], (mSH W9.1 W9.2.1, (W9.2.2.1, W9.2.2.2)))))) ?_ rfl
    refine sm_thr (rest := []) (T_X10_remember scr (d + 4) W9) rfl (Or.inl rfl) rfl rfl rfl rfl (fun _ _ => rfl) (fun _ _ => rfl) (fun v11 W12 => (43, ([lR 0, lI p1, lI p2, lI p3, none], ([], (mSH W12.1 W12.2.1, (W12.2.2.1, W12.2.2.2)))))) (fun _ _ => rfl) fun v11 W12 => ?_
    refine sm_go 5 (s' := (50, ([lR 0, lI p1, lI p2, lI p3, none], ([sI p3, sI p2, sI p1, sR 1], (mSH W12.1 W12.2.1, (W12.2.2.1, W12.2.2.2)))))) ?_ rfl
    refine sm_callG (rest := []) (T_X7_newStep scr (d + 6) W12.1 W12.2.1 W12.2.2.2 W12.2.2.1 p1 p2 p3) rfl (Or.inl rfl) rfl rfl rfl rfl (fun _ => rfl) (fun z13 => (53, ([lR 0, lI p1, lI p2, lI p3, none], ([sI z13.1], (mSH W12.1 W12.2.1, (z13.2, W12.2.2.2)))))) (fun _ => rfl) fun z13 => ?_
    refine sm_go 2 (s' := (56, ([lR 0, lI p1, lI p2, lI p3, lI z13.1], ([sR 0], (mSH W12.1 W12.2.1, (z13.2, W12.2.2.2)))))) ?_ rfl
    refine sm_callG (rest := []) (T_X10_dropPlan scr d W12.1 W12.2.1 W12.2.2.2 z13.2) rfl (Or.inl rfl) rfl rfl rfl rfl (fun _ => rfl) (fun G14 => (59, ([lR 0, lI p1, lI p2, lI p3, lI z13.1], ([], (mSH W12.1 W12.2.1, (G14, W12.2.2.2)))))) (fun _ => rfl) fun G14 => ?_
    refine sm_go 1 (s' := (61, ([lR 0, lI p1, lI p2, lI p3, lI z13.1], ([sI z13.1], (mSH W12.1 W12.2.1, (G14, W12.2.2.2)))))) ?_ rfl
    exact sm_retI rfl rfl rfl
  · exact sm_exc rfl rfl rfl rfl
noncomputable def P_L_addStep (p1 : Int) (p2 : Int) (p3 : Int) (W : mW) : Option ((Int ⊕ Nat) × mW) :=
ctcB (P_X10_addStep p1 p2 p3 W) (fun v4 W5 =>
(ast W5.2.2.1 74 1 0 (w32 v4)).bind fun G9 =>
some (.inl 0, (W5.1, (W5.2.1, (G9, W5.2.2.2))))) (fun W6 =>
some (.inl 1, W6)) (fun W7 =>
some (.inl 2, W7)) (fun W8 =>
some (.inl 3, W8))
set_option maxRecDepth 100000 in
theorem T_L_addStep (scr : mScr) (d : Nat) (W : mW)  (p1 : Int) (p2 : Int) (p3 : Int) : SimC scr (d + 9) 246 [sR 0, sI p1, sI p2, sI p3, sR 74] (mkM W) (e2I) (P_L_addStep p1 p2 p3 W) := by
  refine sm_callX (cs := mc_L_addStep) (maxL := 6) (rk := 0) (o := 112) (hs := [(0, (12, (15, 0))), (0, (12, (19, 1))), (0, (12, (23, 2)))]) (d := d + 8) [lR 0, lI p1, lI p2, lI p3, lR 74, none] rfl rfl rfl rfl ?_
  unfold P_L_addStep
  refine sm_go 6 (s' := (7, ([lR 0, lI p1, lI p2, lI p3, lR 74, none], ([sI p3, sI p2, sI p1, sR 0, sI 0, sR 74], (mSH W.1 W.2.1, (W.2.2.1, W.2.2.2)))))) ?_ rfl
  refine sm_ctc (rest := [sI 0, sR 74]) (T_X10_addStep scr d W p1 p2 p3) rfl (Or.inl rfl) rfl rfl rfl rfl (fun _ _ => rfl) (fun v4 W5 => (10, ([lR 0, lI p1, lI p2, lI p3, lR 74, none], ([sI v4, sI 0, sR 74], (mSH W5.1 W5.2.1, (W5.2.2.1, W5.2.2.2)))))) (fun _ _ => rfl) (fun v4 W5 => ?_) (Or.inl ⟨15, rfl, fun W6 => ?_⟩) (Or.inl ⟨19, rfl, fun W7 => ?_⟩) (Or.inl ⟨23, rfl, fun W8 => ?_⟩)
  · refine sm_go 1 (s' := (11, ([lR 0, lI p1, lI p2, lI p3, lR 74, none], ([sL (w32 v4), sI 0, sR 74], (mSH W5.1 W5.2.1, (W5.2.2.1, W5.2.2.2)))))) ?_ rfl
    refine sm_lst rfl rfl fun G9 => ?_
    refine sm_go 1 (s' := (27, ([lR 0, lI p1, lI p2, lI p3, lR 74, none], ([], (mSH W5.1 W5.2.1, (G9, W5.2.2.2)))))) ?_ rfl
    refine sm_go 1 (s' := (28, ([lR 0, lI p1, lI p2, lI p3, lR 74, none], ([sI 0], (mSH W5.1 W5.2.1, (G9, W5.2.2.2)))))) ?_ rfl
    exact sm_retI rfl rfl rfl
  · refine sm_go 2 (s' := (18, ([lR 0, lI p1, lI p2, lI p3, lR 74, lO], ([sI 1], (mSH W6.1 W6.2.1, (W6.2.2.1, W6.2.2.2)))))) ?_ rfl
    exact sm_retI rfl rfl rfl
  · refine sm_go 2 (s' := (22, ([lR 0, lI p1, lI p2, lI p3, lR 74, lO], ([sI 2], (mSH W7.1 W7.2.1, (W7.2.2.1, W7.2.2.2)))))) ?_ rfl
    exact sm_retI rfl rfl rfl
  · refine sm_go 2 (s' := (26, ([lR 0, lI p1, lI p2, lI p3, lR 74, lO], ([sI 3], (mSH W8.1 W8.2.1, (W8.2.2.1, W8.2.2.2)))))) ?_ rfl
    exact sm_retI rfl rfl rfl
noncomputable def P_X10_cut (p1 : Int) (W : mW) : Option ((Int ⊕ Nat) × mW) :=
thrB (P_X10_needJob p1 W) fun v2 W3 =>
thrB (P_X10_needRoomForJob W3) fun v4 W5 =>
(P_X7_canBeHalved p1 W5.2.2.1).bind fun v6 =>
bif v6 then
thrB (P_X10_remember W5) fun v7 W8 =>
(P_X7_halve p1 W8.2.2.1).bind fun z9 =>
(P_X10_dropPlan z9.2).bind fun G10 =>
some (.inl z9.1, (W8.1, (W8.2.1, (G10, W8.2.2.2))))
else
some (.inr 2, (W5.1, (W5.2.1, (W5.2.2.1, (W5.2.2.2.1 + 1, W5.2.2.2.2 + 6)))))
set_option maxRecDepth 100000 in
theorem T_X10_cut (scr : mScr) (d : Nat) (W : mW)  (p1 : Int) : SimC scr (d + 8) 80 [sR 0, sI p1] (mkM W) (e2I) (P_X10_cut p1 W) := by
  refine sm_callX (cs := mc_X10_cut) (maxL := 3) (rk := 0) (o := 10) (hs := []) (d := d + 7) [lR 0, lI p1, none] rfl rfl rfl rfl ?_
  unfold P_X10_cut
  refine sm_go 2 (s' := (2, ([lR 0, lI p1, none], ([sI p1, sR 0], (mSH W.1 W.2.1, (W.2.2.1, W.2.2.2)))))) ?_ rfl
  refine sm_thr (rest := []) (T_X10_needJob scr (d + 6) W p1) rfl (Or.inl rfl) rfl rfl rfl rfl (fun _ _ => rfl) (fun _ _ => rfl) (fun v2 W3 => (5, ([lR 0, lI p1, none], ([], (mSH W3.1 W3.2.1, (W3.2.2.1, W3.2.2.2)))))) (fun _ _ => rfl) fun v2 W3 => ?_
  refine sm_go 1 (s' := (6, ([lR 0, lI p1, none], ([sR 0], (mSH W3.1 W3.2.1, (W3.2.2.1, W3.2.2.2)))))) ?_ rfl
  refine sm_thr (rest := []) (T_X10_needRoomForJob scr (d + 6) W3) rfl (Or.inl rfl) rfl rfl rfl rfl (fun _ _ => rfl) (fun _ _ => rfl) (fun v4 W5 => (9, ([lR 0, lI p1, none], ([], (mSH W5.1 W5.2.1, (W5.2.2.1, W5.2.2.2)))))) (fun _ _ => rfl) fun v4 W5 => ?_
  refine sm_go 3 (s' := (14, ([lR 0, lI p1, none], ([sI p1, sR 1], (mSH W5.1 W5.2.1, (W5.2.2.1, W5.2.2.2)))))) ?_ rfl
  refine sm_callG (rest := []) (T_X7_canBeHalved scr (d + 6) W5.1 W5.2.1 W5.2.2.2 W5.2.2.1 p1) rfl (Or.inl rfl) rfl rfl rfl rfl (fun _ => rfl) (fun v6 => (17, ([lR 0, lI p1, none], ([sI (b2i v6)], (mSH W5.1 W5.2.1, (W5.2.2.1, W5.2.2.2)))))) (fun _ => rfl) fun v6 => ?_
  refine sm_if1 (t := v6) (pt := 30) (mCmpB_ne v6) rfl rfl (fun _ => ?_) (fun _ => ?_)
  · refine sm_go 1 (s' := (31, ([lR 0, lI p1, none], ([sR 0], (mSH W5.1 W5.2.1, (W5.2.2.1, W5.2.2.2)))))) ?_ rfl
    refine sm_thr (rest := []) (T_X10_remember scr (d + 4) W5) rfl (Or.inl rfl) rfl rfl rfl rfl (fun _ _ => rfl) (fun _ _ => rfl) (fun v7 W8 => (34, ([lR 0, lI p1, none], ([], (mSH W8.1 W8.2.1, (W8.2.2.1, W8.2.2.2)))))) (fun _ _ => rfl) fun v7 W8 => ?_
    refine sm_go 3 (s' := (39, ([lR 0, lI p1, none], ([sI p1, sR 1], (mSH W8.1 W8.2.1, (W8.2.2.1, W8.2.2.2)))))) ?_ rfl
    refine sm_callG (rest := []) (T_X7_halve scr (d + 5) W8.1 W8.2.1 W8.2.2.2 W8.2.2.1 p1) rfl (Or.inl rfl) rfl rfl rfl rfl (fun _ => rfl) (fun z9 => (42, ([lR 0, lI p1, none], ([sI z9.1], (mSH W8.1 W8.2.1, (z9.2, W8.2.2.2)))))) (fun _ => rfl) fun z9 => ?_
    refine sm_go 2 (s' := (44, ([lR 0, lI p1, lI z9.1], ([sR 0], (mSH W8.1 W8.2.1, (z9.2, W8.2.2.2)))))) ?_ rfl
    refine sm_callG (rest := []) (T_X10_dropPlan scr d W8.1 W8.2.1 W8.2.2.2 z9.2) rfl (Or.inl rfl) rfl rfl rfl rfl (fun _ => rfl) (fun G10 => (47, ([lR 0, lI p1, lI z9.1], ([], (mSH W8.1 W8.2.1, (G10, W8.2.2.2)))))) (fun _ => rfl) fun G10 => ?_
    refine sm_go 1 (s' := (48, ([lR 0, lI p1, lI z9.1], ([sI z9.1], (mSH W8.1 W8.2.1, (G10, W8.2.2.2)))))) ?_ rfl
    exact sm_retI rfl rfl rfl
  · exact sm_exc rfl rfl rfl rfl
noncomputable def P_L_cut (p1 : Int) (W : mW) : Option ((Int ⊕ Nat) × mW) :=
ctcB (P_X10_cut p1 W) (fun v2 W3 =>
(ast W3.2.2.1 74 1 0 (w32 v2)).bind fun G6 =>
some (.inl 0, (W3.1, (W3.2.1, (G6, W3.2.2.2))))) (fun W4 =>
some (.inl 1, W4)) (fun _ => none) (fun W5 =>
some (.inl 2, W5))
set_option maxRecDepth 100000 in
theorem T_L_cut (scr : mScr) (d : Nat) (W : mW)  (p1 : Int) : SimC scr (d + 9) 247 [sR 0, sI p1, sR 74] (mkM W) (e2I) (P_L_cut p1 W) := by
  refine sm_callX (cs := mc_L_cut) (maxL := 4) (rk := 0) (o := 112) (hs := [(0, (9, (12, 0))), (0, (9, (15, 2)))]) (d := d + 8) [lR 0, lI p1, lR 74, none] rfl rfl rfl rfl ?_
  unfold P_L_cut
  refine sm_go 4 (s' := (4, ([lR 0, lI p1, lR 74, none], ([sI p1, sR 0, sI 0, sR 74], (mSH W.1 W.2.1, (W.2.2.1, W.2.2.2)))))) ?_ rfl
  refine sm_ctc (rest := [sI 0, sR 74]) (T_X10_cut scr d W p1) rfl (Or.inl rfl) rfl rfl rfl rfl (fun _ _ => rfl) (fun v2 W3 => (7, ([lR 0, lI p1, lR 74, none], ([sI v2, sI 0, sR 74], (mSH W3.1 W3.2.1, (W3.2.2.1, W3.2.2.2)))))) (fun _ _ => rfl) (fun v2 W3 => ?_) (Or.inl ⟨12, rfl, fun W4 => ?_⟩) (Or.inr rfl) (Or.inl ⟨15, rfl, fun W5 => ?_⟩)
  · refine sm_go 1 (s' := (8, ([lR 0, lI p1, lR 74, none], ([sL (w32 v2), sI 0, sR 74], (mSH W3.1 W3.2.1, (W3.2.2.1, W3.2.2.2)))))) ?_ rfl
    refine sm_lst rfl rfl fun G6 => ?_
    refine sm_go 1 (s' := (18, ([lR 0, lI p1, lR 74, none], ([], (mSH W3.1 W3.2.1, (G6, W3.2.2.2)))))) ?_ rfl
    refine sm_go 1 (s' := (19, ([lR 0, lI p1, lR 74, none], ([sI 0], (mSH W3.1 W3.2.1, (G6, W3.2.2.2)))))) ?_ rfl
    exact sm_retI rfl rfl rfl
  · refine sm_go 2 (s' := (14, ([lR 0, lI p1, lR 74, lO], ([sI 1], (mSH W4.1 W4.2.1, (W4.2.2.1, W4.2.2.2)))))) ?_ rfl
    exact sm_retI rfl rfl rfl
  · refine sm_go 2 (s' := (17, ([lR 0, lI p1, lR 74, lO], ([sI 2], (mSH W5.1 W5.2.1, (W5.2.2.1, W5.2.2.2)))))) ?_ rfl
    exact sm_retI rfl rfl rfl
noncomputable def P_X10_adoptTrial (W : mW) : Option ((Int ⊕ Nat) × mW) :=
thrB (P_X10_remember W) fun v1 W2 =>
(P_X7_takeRow W2.2.2.1).bind fun G3 =>
(P_X8_replay 17 G3).bind fun G4 =>
(P_X8_aimed 17 0 G4).bind fun v5 =>
some (.inl v5, (W2.1, (W2.2.1, (G4, W2.2.2.2))))
set_option maxRecDepth 100000 in
theorem T_X10_adoptTrial (scr : mScr) (d : Nat) (W : mW)  : SimC scr (d + 7) 133 [sR 0] (mkM W) (e2I) (P_X10_adoptTrial W) := by
  refine sm_callX (cs := mc_X10_adoptTrial) (maxL := 1) (rk := 0) (o := 10) (hs := []) (d := d + 6) [lR 0] rfl rfl rfl rfl ?_
  unfold P_X10_adoptTrial
  refine sm_go 1 (s' := (1, ([lR 0], ([sR 0], (mSH W.1 W.2.1, (W.2.2.1, W.2.2.2)))))) ?_ rfl
  refine sm_thr (rest := []) (T_X10_remember scr (d + 3) W) rfl (Or.inl rfl) rfl rfl rfl rfl (fun _ _ => rfl) (fun _ _ => rfl) (fun v1 W2 => (4, ([lR 0], ([], (mSH W2.1 W2.2.1, (W2.2.2.1, W2.2.2.2)))))) (fun _ _ => rfl) fun v1 W2 => ?_
  refine sm_go 5 (s' := (15, ([lR 0], ([sR 27, sR 1], (mSH W2.1 W2.2.1, (W2.2.2.1, W2.2.2.2)))))) ?_ rfl
  refine sm_callG (rest := []) (T_X7_takeRow scr (d + 4) W2.1 W2.2.1 W2.2.2.2 W2.2.2.1) rfl (Or.inl rfl) rfl rfl rfl rfl (fun _ => rfl) (fun G3 => (18, ([lR 0], ([], (mSH W2.1 W2.2.1, (G3, W2.2.2.2)))))) (fun _ => rfl) fun G3 => ?_
  refine sm_go 2 (s' := (22, ([lR 0], ([sR 17], (mSH W2.1 W2.2.1, (G3, W2.2.2.2)))))) ?_ rfl
  refine sm_callG (rest := []) (T_X8_replay_17 scr d W2.1 W2.2.1 W2.2.2.2 G3) rfl (Or.inl rfl) rfl rfl rfl rfl (fun _ => rfl) (fun G4 => (25, ([lR 0], ([], (mSH W2.1 W2.2.1, (G4, W2.2.2.2)))))) (fun _ => rfl) fun G4 => ?_
  refine sm_go 3 (s' := (30, ([lR 0], ([sI 0, sR 17], (mSH W2.1 W2.2.1, (G4, W2.2.2.2)))))) ?_ rfl
  refine sm_callG (rest := []) (T_X8_aimed_17 scr (d + 2) W2.1 W2.2.1 W2.2.2.2 G4 0) rfl (Or.inl rfl) rfl rfl rfl rfl (fun _ => rfl) (fun v5 => (33, ([lR 0], ([sI v5], (mSH W2.1 W2.2.1, (G4, W2.2.2.2)))))) (fun _ => rfl) fun v5 => ?_
  exact sm_retI rfl rfl rfl
noncomputable def P_X10_plan (p1 : Int) (W : mW) : Option ((Int ⊕ Nat) × mW) :=
thrB (P_X10_needRule p1 W) fun v2 W3 =>
(P_X8_clear 26 W3.2.2.1).bind fun G4 =>
(P_X8_putRestByRule 26 p1 G4).bind fun G5 =>
thrB (P_X10_adoptTrial (W3.1, (W3.2.1, (G5, W3.2.2.2)))) fun v6 W7 =>
some (.inl v6, W7)
set_option maxRecDepth 100000 in
theorem T_X10_plan (scr : mScr) (d : Nat) (W : mW)  (p1 : Int) : SimC scr (d + 8) 81 [sR 0, sI p1] (mkM W) (e2I) (P_X10_plan p1 W) := by
  refine sm_callX (cs := mc_X10_plan) (maxL := 2) (rk := 0) (o := 10) (hs := []) (d := d + 7) [lR 0, lI p1] rfl rfl rfl rfl ?_
  unfold P_X10_plan
  refine sm_go 1 (s' := (1, ([lR 0, lI p1], ([sI p1], (mSH W.1 W.2.1, (W.2.2.1, W.2.2.2)))))) ?_ rfl
  refine sm_thr (rest := []) (T_X10_needRule scr (d + 5) W p1) rfl (Or.inr (Or.inl rfl)) rfl rfl rfl rfl (fun _ _ => rfl) (fun _ _ => rfl) (fun v2 W3 => (4, ([lR 0, lI p1], ([], (mSH W3.1 W3.2.1, (W3.2.2.1, W3.2.2.2)))))) (fun _ _ => rfl) fun v2 W3 => ?_
  refine sm_go 2 (s' := (8, ([lR 0, lI p1], ([sR 26], (mSH W3.1 W3.2.1, (W3.2.2.1, W3.2.2.2)))))) ?_ rfl
  refine sm_callG (rest := []) (T_X8_clear_26 scr (d + 5) W3.1 W3.2.1 W3.2.2.2 W3.2.2.1) rfl (Or.inl rfl) rfl rfl rfl rfl (fun _ => rfl) (fun G4 => (11, ([lR 0, lI p1], ([], (mSH W3.1 W3.2.1, (G4, W3.2.2.2)))))) (fun _ => rfl) fun G4 => ?_
  refine sm_go 3 (s' := (16, ([lR 0, lI p1], ([sI p1, sR 26], (mSH W3.1 W3.2.1, (G4, W3.2.2.2)))))) ?_ rfl
  refine sm_callG (rest := []) (T_X8_putRestByRule_26 scr (d + 2) W3.1 W3.2.1 W3.2.2.2 G4 p1) rfl (Or.inl rfl) rfl rfl rfl rfl (fun _ => rfl) (fun G5 => (19, ([lR 0, lI p1], ([], (mSH W3.1 W3.2.1, (G5, W3.2.2.2)))))) (fun _ => rfl) fun G5 => ?_
  refine sm_go 1 (s' := (20, ([lR 0, lI p1], ([sR 0], (mSH W3.1 W3.2.1, (G5, W3.2.2.2)))))) ?_ rfl
  refine sm_thr (rest := []) (T_X10_adoptTrial scr d (W3.1, (W3.2.1, (G5, W3.2.2.2)))) rfl (Or.inl rfl) rfl rfl rfl rfl (fun _ _ => rfl) (fun _ _ => rfl) (fun v6 W7 => (23, ([lR 0, lI p1], ([sI v6], (mSH W7.1 W7.2.1, (W7.2.2.1, W7.2.2.2)))))) (fun _ _ => rfl) fun v6 W7 => ?_
  exact sm_retI rfl rfl rfl
noncomputable def P_L_plan (p1 : Int) (W : mW) : Option ((Int ⊕ Nat) × mW) :=
ctcB (P_X10_plan p1 W) (fun v2 W3 =>
(ast W3.2.2.1 74 1 0 (w32 v2)).bind fun G5 =>
some (.inl 0, (W3.1, (W3.2.1, (G5, W3.2.2.2))))) (fun _ => none) (fun W4 =>
some (.inl 1, W4)) (fun _ => none)
set_option maxRecDepth 100000 in
theorem T_L_plan (scr : mScr) (d : Nat) (W : mW)  (p1 : Int) : SimC scr (d + 9) 248 [sR 0, sI p1, sR 74] (mkM W) (e2I) (P_L_plan p1 W) := by
  refine sm_callX (cs := mc_L_plan) (maxL := 4) (rk := 0) (o := 112) (hs := [(0, (9, (12, 1)))]) (d := d + 8) [lR 0, lI p1, lR 74, none] rfl rfl rfl rfl ?_
  unfold P_L_plan
  refine sm_go 4 (s' := (4, ([lR 0, lI p1, lR 74, none], ([sI p1, sR 0, sI 0, sR 74], (mSH W.1 W.2.1, (W.2.2.1, W.2.2.2)))))) ?_ rfl
  refine sm_ctc (rest := [sI 0, sR 74]) (T_X10_plan scr d W p1) rfl (Or.inl rfl) rfl rfl rfl rfl (fun _ _ => rfl) (fun v2 W3 => (7, ([lR 0, lI p1, lR 74, none], ([sI v2, sI 0, sR 74], (mSH W3.1 W3.2.1, (W3.2.2.1, W3.2.2.2)))))) (fun _ _ => rfl) (fun v2 W3 => ?_) (Or.inr rfl) (Or.inl ⟨12, rfl, fun W4 => ?_⟩) (Or.inr rfl)
  · refine sm_go 1 (s' := (8, ([lR 0, lI p1, lR 74, none], ([sL (w32 v2), sI 0, sR 74], (mSH W3.1 W3.2.1, (W3.2.2.1, W3.2.2.2)))))) ?_ rfl
    refine sm_lst rfl rfl fun G5 => ?_
    refine sm_go 1 (s' := (15, ([lR 0, lI p1, lR 74, none], ([], (mSH W3.1 W3.2.1, (G5, W3.2.2.2)))))) ?_ rfl
    refine sm_go 1 (s' := (16, ([lR 0, lI p1, lR 74, none], ([sI 0], (mSH W3.1 W3.2.1, (G5, W3.2.2.2)))))) ?_ rfl
    exact sm_retI rfl rfl rfl
  · refine sm_go 2 (s' := (14, ([lR 0, lI p1, lR 74, lO], ([sI 1], (mSH W4.1 W4.2.1, (W4.2.2.1, W4.2.2.2)))))) ?_ rfl
    exact sm_retI rfl rfl rfl
noncomputable def P_X10_tell (p1 : Int) (W : mW) : Option ((Int ⊕ Nat) × mW) :=
(P_X10_putDigits p1 W.2.2.1).bind fun z2 =>
bif z2.1 then
thrB (P_X10_adoptTrial (W.1, (W.2.1, (z2.2, W.2.2.2)))) fun v3 W4 =>
some (.inl v3, W4)
else
some (.inr 1, (W.1, (W.2.1, (z2.2, (W.2.2.2.1 + 1, W.2.2.2.2 + 6)))))
set_option maxRecDepth 100000 in
theorem T_X10_tell (scr : mScr) (d : Nat) (W : mW)  (p1 : Int) : SimC scr (d + 8) 82 [sR 0, sL p1] (mkM W) (e2I) (P_X10_tell p1 W) := by
  refine sm_callX (cs := mc_X10_tell) (maxL := 3) (rk := 0) (o := 10) (hs := []) (d := d + 7) [lR 0, lL p1, none] rfl rfl rfl rfl ?_
  unfold P_X10_tell
  refine sm_go 2 (s' := (2, ([lR 0, lL p1, none], ([sL p1, sR 0], (mSH W.1 W.2.1, (W.2.2.1, W.2.2.2)))))) ?_ rfl
  refine sm_callG (rest := []) (T_X10_putDigits scr (d + 2) W.1 W.2.1 W.2.2.2 W.2.2.1 p1) rfl (Or.inl rfl) rfl rfl rfl rfl (fun _ => rfl) (fun z2 => (5, ([lR 0, lL p1, none], ([sI (b2i z2.1)], (mSH W.1 W.2.1, (z2.2, W.2.2.2)))))) (fun _ => rfl) fun z2 => ?_
  refine sm_if1 (t := z2.1) (pt := 18) (mCmpB_ne z2.1) rfl rfl (fun _ => ?_) (fun _ => ?_)
  · refine sm_go 1 (s' := (19, ([lR 0, lL p1, none], ([sR 0], (mSH W.1 W.2.1, (z2.2, W.2.2.2)))))) ?_ rfl
    refine sm_thr (rest := []) (T_X10_adoptTrial scr d (W.1, (W.2.1, (z2.2, W.2.2.2)))) rfl (Or.inl rfl) rfl rfl rfl rfl (fun _ _ => rfl) (fun _ _ => rfl) (fun v3 W4 => (22, ([lR 0, lL p1, none], ([sI v3], (mSH W4.1 W4.2.1, (W4.2.2.1, W4.2.2.2)))))) (fun _ _ => rfl) fun v3 W4 => ?_
    exact sm_retI rfl rfl rfl
  · exact sm_exc rfl rfl rfl rfl
noncomputable def P_L_tell (p1 : Int) (W : mW) : Option ((Int ⊕ Nat) × mW) :=
ctcB (P_X10_tell p1 W) (fun v2 W3 =>
(ast W3.2.2.1 74 1 0 (w32 v2)).bind fun G5 =>
some (.inl 0, (W3.1, (W3.2.1, (G5, W3.2.2.2))))) (fun _ => none) (fun W4 =>
some (.inl 1, W4)) (fun _ => none)
set_option maxRecDepth 100000 in
theorem T_L_tell (scr : mScr) (d : Nat) (W : mW)  (p1 : Int) : SimC scr (d + 9) 249 [sR 0, sL p1, sR 74] (mkM W) (e2I) (P_L_tell p1 W) := by
  refine sm_callX (cs := mc_L_tell) (maxL := 5) (rk := 0) (o := 112) (hs := [(0, (9, (12, 1)))]) (d := d + 8) [lR 0, lL p1, none, lR 74, none] rfl rfl rfl rfl ?_
  unfold P_L_tell
  refine sm_go 4 (s' := (4, ([lR 0, lL p1, none, lR 74, none], ([sL p1, sR 0, sI 0, sR 74], (mSH W.1 W.2.1, (W.2.2.1, W.2.2.2)))))) ?_ rfl
  refine sm_ctc (rest := [sI 0, sR 74]) (T_X10_tell scr d W p1) rfl (Or.inl rfl) rfl rfl rfl rfl (fun _ _ => rfl) (fun v2 W3 => (7, ([lR 0, lL p1, none, lR 74, none], ([sI v2, sI 0, sR 74], (mSH W3.1 W3.2.1, (W3.2.2.1, W3.2.2.2)))))) (fun _ _ => rfl) (fun v2 W3 => ?_) (Or.inr rfl) (Or.inl ⟨12, rfl, fun W4 => ?_⟩) (Or.inr rfl)
  · refine sm_go 1 (s' := (8, ([lR 0, lL p1, none, lR 74, none], ([sL (w32 v2), sI 0, sR 74], (mSH W3.1 W3.2.1, (W3.2.2.1, W3.2.2.2)))))) ?_ rfl
    refine sm_lst rfl rfl fun G5 => ?_
    refine sm_go 1 (s' := (16, ([lR 0, lL p1, none, lR 74, none], ([], (mSH W3.1 W3.2.1, (G5, W3.2.2.2)))))) ?_ rfl
    refine sm_go 1 (s' := (17, ([lR 0, lL p1, none, lR 74, none], ([sI 0], (mSH W3.1 W3.2.1, (G5, W3.2.2.2)))))) ?_ rfl
    exact sm_retI rfl rfl rfl
  · refine sm_go 2 (s' := (15, ([lR 0, lL p1, none, lR 74, lO], ([sI 1], (mSH W4.1 W4.2.1, (W4.2.2.1, W4.2.2.2)))))) ?_ rfl
    exact sm_retI rfl rfl rfl
noncomputable def P_X10_best (p1 : Int) (W : mW) : Option ((Int ⊕ Nat) × mW) :=
thrB (P_X10_needAim p1 W) fun v2 W3 =>
(P_X7_stepTotal W3.2.2.1).bind fun v4 =>
bif (ilt 8 v4) then
some (.inr 2, (W3.1, (W3.2.1, (W3.2.2.1, (W3.2.2.2.1 + 1, W3.2.2.2.2 + 6)))))
else
(P_X0_search p1 W3.2.2.1).bind fun G5 =>
thrB (P_X10_adoptTrial (W3.1, (W3.2.1, (G5, W3.2.2.2)))) fun v6 W7 =>
(P_X8_aimed 17 p1 W7.2.2.1).bind fun v8 =>
some (.inl v8, W7)
set_option maxRecDepth 100000 in
theorem T_X10_best (scr : mScr) (d : Nat) (W : mW)  (p1 : Int) : SimC scr (d + 17) 83 [sR 0, sI p1] (mkM W) (e2I) (P_X10_best p1 W) := by
  refine sm_callX (cs := mc_X10_best) (maxL := 2) (rk := 0) (o := 10) (hs := []) (d := d + 16) [lR 0, lI p1] rfl rfl rfl rfl ?_
  unfold P_X10_best
  refine sm_go 1 (s' := (1, ([lR 0, lI p1], ([sI p1], (mSH W.1 W.2.1, (W.2.2.1, W.2.2.2)))))) ?_ rfl
  refine sm_thr (rest := []) (T_X10_needAim scr (d + 14) W p1) rfl (Or.inr (Or.inl rfl)) rfl rfl rfl rfl (fun _ _ => rfl) (fun _ _ => rfl) (fun v2 W3 => (4, ([lR 0, lI p1], ([], (mSH W3.1 W3.2.1, (W3.2.2.1, W3.2.2.2)))))) (fun _ _ => rfl) fun v2 W3 => ?_
  refine sm_go 2 (s' := (8, ([lR 0, lI p1], ([sR 1], (mSH W3.1 W3.2.1, (W3.2.2.1, W3.2.2.2)))))) ?_ rfl
  refine sm_callG (rest := []) (T_X7_stepTotal scr (d + 15) W3.1 W3.2.1 W3.2.2.2 W3.2.2.1) rfl (Or.inl rfl) rfl rfl rfl rfl (fun _ => rfl) (fun v4 => (11, ([lR 0, lI p1], ([sI v4], (mSH W3.1 W3.2.1, (W3.2.2.1, W3.2.2.2)))))) (fun _ => rfl) fun v4 => ?_
  refine sm_go 1 (s' := (13, ([lR 0, lI p1], ([sI 8, sI v4], (mSH W3.1 W3.2.1, (W3.2.2.1, W3.2.2.2)))))) ?_ rfl
  refine sm_if2n (t := (ilt 8 v4)) (pt := 26) rfl rfl rfl (fun _ => ?_) (fun _ => ?_)
  · exact sm_exc rfl rfl rfl rfl
  · refine sm_go 3 (s' := (31, ([lR 0, lI p1], ([sI p1, sR 38], (mSH W3.1 W3.2.1, (W3.2.2.1, W3.2.2.2)))))) ?_ rfl
    refine sm_callG (rest := []) (T_X0_search scr d W3.1 W3.2.1 W3.2.2.2 W3.2.2.1 p1) rfl (Or.inl rfl) rfl rfl rfl rfl (fun _ => rfl) (fun G5 => (34, ([lR 0, lI p1], ([], (mSH W3.1 W3.2.1, (G5, W3.2.2.2)))))) (fun _ => rfl) fun G5 => ?_
    refine sm_go 1 (s' := (35, ([lR 0, lI p1], ([sR 0], (mSH W3.1 W3.2.1, (G5, W3.2.2.2)))))) ?_ rfl
    refine sm_thr (rest := []) (T_X10_adoptTrial scr (d + 9) (W3.1, (W3.2.1, (G5, W3.2.2.2)))) rfl (Or.inl rfl) rfl rfl rfl rfl (fun _ _ => rfl) (fun _ _ => rfl) (fun v6 W7 => (38, ([lR 0, lI p1], ([sI v6], (mSH W7.1 W7.2.1, (W7.2.2.1, W7.2.2.2)))))) (fun _ _ => rfl) fun v6 W7 => ?_
    refine sm_go 4 (s' := (44, ([lR 0, lI p1], ([sI p1, sR 17], (mSH W7.1 W7.2.1, (W7.2.2.1, W7.2.2.2)))))) ?_ rfl
    refine sm_callG (rest := []) (T_X8_aimed_17 scr (d + 12) W7.1 W7.2.1 W7.2.2.2 W7.2.2.1 p1) rfl (Or.inl rfl) rfl rfl rfl rfl (fun _ => rfl) (fun v8 => (47, ([lR 0, lI p1], ([sI v8], (mSH W7.1 W7.2.1, (W7.2.2.1, W7.2.2.2)))))) (fun _ => rfl) fun v8 => ?_
    exact sm_retI rfl rfl rfl
noncomputable def P_L_best (p1 : Int) (W : mW) : Option ((Int ⊕ Nat) × mW) :=
ctcB (P_X10_best p1 W) (fun v2 W3 =>
(ast W3.2.2.1 74 1 0 (w32 v2)).bind fun G6 =>
some (.inl 0, (W3.1, (W3.2.1, (G6, W3.2.2.2))))) (fun _ => none) (fun W4 =>
some (.inl 1, W4)) (fun W5 =>
some (.inl 2, W5))
set_option maxRecDepth 100000 in
theorem T_L_best (scr : mScr) (d : Nat) (W : mW)  (p1 : Int) : SimC scr (d + 18) 250 [sR 0, sI p1, sR 74] (mkM W) (e2I) (P_L_best p1 W) := by
  refine sm_callX (cs := mc_L_best) (maxL := 4) (rk := 0) (o := 112) (hs := [(0, (9, (12, 1))), (0, (9, (15, 2)))]) (d := d + 17) [lR 0, lI p1, lR 74, none] rfl rfl rfl rfl ?_
  unfold P_L_best
  refine sm_go 4 (s' := (4, ([lR 0, lI p1, lR 74, none], ([sI p1, sR 0, sI 0, sR 74], (mSH W.1 W.2.1, (W.2.2.1, W.2.2.2)))))) ?_ rfl
  refine sm_ctc (rest := [sI 0, sR 74]) (T_X10_best scr d W p1) rfl (Or.inl rfl) rfl rfl rfl rfl (fun _ _ => rfl) (fun v2 W3 => (7, ([lR 0, lI p1, lR 74, none], ([sI v2, sI 0, sR 74], (mSH W3.1 W3.2.1, (W3.2.2.1, W3.2.2.2)))))) (fun _ _ => rfl) (fun v2 W3 => ?_) (Or.inr rfl) (Or.inl ⟨12, rfl, fun W4 => ?_⟩) (Or.inl ⟨15, rfl, fun W5 => ?_⟩)
  · refine sm_go 1 (s' := (8, ([lR 0, lI p1, lR 74, none], ([sL (w32 v2), sI 0, sR 74], (mSH W3.1 W3.2.1, (W3.2.2.1, W3.2.2.2)))))) ?_ rfl
    refine sm_lst rfl rfl fun G6 => ?_
    refine sm_go 1 (s' := (18, ([lR 0, lI p1, lR 74, none], ([], (mSH W3.1 W3.2.1, (G6, W3.2.2.2)))))) ?_ rfl
    refine sm_go 1 (s' := (19, ([lR 0, lI p1, lR 74, none], ([sI 0], (mSH W3.1 W3.2.1, (G6, W3.2.2.2)))))) ?_ rfl
    exact sm_retI rfl rfl rfl
  · refine sm_go 2 (s' := (14, ([lR 0, lI p1, lR 74, lO], ([sI 1], (mSH W4.1 W4.2.1, (W4.2.2.1, W4.2.2.2)))))) ?_ rfl
    exact sm_retI rfl rfl rfl
  · refine sm_go 2 (s' := (17, ([lR 0, lI p1, lR 74, lO], ([sI 2], (mSH W5.1 W5.2.1, (W5.2.2.1, W5.2.2.2)))))) ?_ rfl
    exact sm_retI rfl rfl rfl
noncomputable def P_X10_swap (p1 : Int) (p2 : Int) (W : mW) : Option ((Int ⊕ Nat) × mW) :=
thrB (P_X10_needMachine p1 W) fun v3 W4 =>
letK (some (.inr 0, (W4.1, (W4.2.1, (W4.2.2.1, (W4.2.2.2.1 + 1, W4.2.2.2.2 + 6)))))) fun k6 =>
bif (ilt p2 0) then
k6
else
(ald W4.2.2.1 20 4 p1).bind fun v7 =>
bif (ilt p2 (v7 - 1)) then
(P_X10_putSwapped p1 p2 W4.2.2.1).bind fun z8 =>
bif z8.1 then
thrB (P_X10_adoptTrial (W4.1, (W4.2.1, (z8.2, W4.2.2.2)))) fun v9 W10 =>
some (.inl v9, W10)
else
some (.inr 2, (W4.1, (W4.2.1, (z8.2, (W4.2.2.2.1 + 1, W4.2.2.2.2 + 6)))))
else
k6
set_option maxRecDepth 100000 in
theorem T_X10_swap (scr : mScr) (d : Nat) (W : mW)  (p1 : Int) (p2 : Int) : SimC scr (d + 8) 84 [sR 0, sI p1, sI p2] (mkM W) (e2I) (P_X10_swap p1 p2 W) := by
  refine sm_callX (cs := mc_X10_swap) (maxL := 3) (rk := 0) (o := 10) (hs := []) (d := d + 7) [lR 0, lI p1, lI p2] rfl rfl rfl rfl ?_
  unfold P_X10_swap
  refine sm_go 1 (s' := (1, ([lR 0, lI p1, lI p2], ([sI p1], (mSH W.1 W.2.1, (W.2.2.1, W.2.2.2)))))) ?_ rfl
  refine sm_thr (rest := []) (T_X10_needMachine scr (d + 6) W p1) rfl (Or.inr (Or.inl rfl)) rfl rfl rfl rfl (fun _ _ => rfl) (fun _ _ => rfl) (fun v3 W4 => (4, ([lR 0, lI p1, lI p2], ([], (mSH W4.1 W4.2.1, (W4.2.2.1, W4.2.2.2)))))) (fun _ _ => rfl) fun v3 W4 => ?_
  refine sm_letK0 (S := fun (g5 : Unit) => (23, ([lR 0, lI p1, lI p2], ([], (mSH W4.1 W4.2.1, (W4.2.2.1, W4.2.2.2)))))) ?_ ?_
  · intro g5
    exact sm_exc rfl rfl rfl rfl
  · intro k6 hk6
    refine sm_go 1 (s' := (5, ([lR 0, lI p1, lI p2], ([sI p2], (mSH W4.1 W4.2.1, (W4.2.2.1, W4.2.2.2)))))) ?_ rfl
    refine sm_if1 (t := (ilt p2 0)) (pt := 23) rfl rfl rfl (fun _ => ?_) (fun _ => ?_)
    · exact hk6 ()
    · refine sm_go 5 (s' := (17, ([lR 0, lI p1, lI p2], ([sI p1, sR 20, sI p2], (mSH W4.1 W4.2.1, (W4.2.2.1, W4.2.2.2)))))) ?_ rfl
      refine sm_ald rfl rfl fun v7 => ?_
      refine sm_go 2 (s' := (20, ([lR 0, lI p1, lI p2], ([sI (v7 - 1), sI p2], (mSH W4.1 W4.2.1, (W4.2.2.1, W4.2.2.2)))))) ?_ rfl
      refine sm_if2 (t := (ilt p2 (v7 - 1))) (pt := 33) rfl rfl rfl (fun _ => ?_) (fun _ => ?_)
      · refine sm_go 3 (s' := (36, ([lR 0, lI p1, lI p2], ([sI p2, sI p1, sR 0], (mSH W4.1 W4.2.1, (W4.2.2.1, W4.2.2.2)))))) ?_ rfl
        refine sm_callG (rest := []) (T_X10_putSwapped scr (d + 2) W4.1 W4.2.1 W4.2.2.2 W4.2.2.1 p1 p2) rfl (Or.inl rfl) rfl rfl rfl rfl (fun _ => rfl) (fun z8 => (39, ([lR 0, lI p1, lI p2], ([sI (b2i z8.1)], (mSH W4.1 W4.2.1, (z8.2, W4.2.2.2)))))) (fun _ => rfl) fun z8 => ?_
        refine sm_if1 (t := z8.1) (pt := 52) (mCmpB_ne z8.1) rfl rfl (fun _ => ?_) (fun _ => ?_)
        · refine sm_go 1 (s' := (53, ([lR 0, lI p1, lI p2], ([sR 0], (mSH W4.1 W4.2.1, (z8.2, W4.2.2.2)))))) ?_ rfl
          refine sm_thr (rest := []) (T_X10_adoptTrial scr d (W4.1, (W4.2.1, (z8.2, W4.2.2.2)))) rfl (Or.inl rfl) rfl rfl rfl rfl (fun _ _ => rfl) (fun _ _ => rfl) (fun v9 W10 => (56, ([lR 0, lI p1, lI p2], ([sI v9], (mSH W10.1 W10.2.1, (W10.2.2.1, W10.2.2.2)))))) (fun _ _ => rfl) fun v9 W10 => ?_
          exact sm_retI rfl rfl rfl
        · exact sm_exc rfl rfl rfl rfl
      · exact hk6 ()
noncomputable def P_L_swap (p1 : Int) (p2 : Int) (W : mW) : Option ((Int ⊕ Nat) × mW) :=
ctcB (P_X10_swap p1 p2 W) (fun v3 W4 =>
(ast W4.2.2.1 74 1 0 (w32 v3)).bind fun G7 =>
some (.inl 0, (W4.1, (W4.2.1, (G7, W4.2.2.2))))) (fun W5 =>
some (.inl 1, W5)) (fun _ => none) (fun W6 =>
some (.inl 2, W6))
set_option maxRecDepth 100000 in
theorem T_L_swap (scr : mScr) (d : Nat) (W : mW)  (p1 : Int) (p2 : Int) : SimC scr (d + 9) 251 [sR 0, sI p1, sI p2, sR 74] (mkM W) (e2I) (P_L_swap p1 p2 W) := by
  refine sm_callX (cs := mc_L_swap) (maxL := 5) (rk := 0) (o := 112) (hs := [(0, (10, (13, 0))), (0, (10, (17, 2)))]) (d := d + 8) [lR 0, lI p1, lI p2, lR 74, none] rfl rfl rfl rfl ?_
  unfold P_L_swap
  refine sm_go 5 (s' := (5, ([lR 0, lI p1, lI p2, lR 74, none], ([sI p2, sI p1, sR 0, sI 0, sR 74], (mSH W.1 W.2.1, (W.2.2.1, W.2.2.2)))))) ?_ rfl
  refine sm_ctc (rest := [sI 0, sR 74]) (T_X10_swap scr d W p1 p2) rfl (Or.inl rfl) rfl rfl rfl rfl (fun _ _ => rfl) (fun v3 W4 => (8, ([lR 0, lI p1, lI p2, lR 74, none], ([sI v3, sI 0, sR 74], (mSH W4.1 W4.2.1, (W4.2.2.1, W4.2.2.2)))))) (fun _ _ => rfl) (fun v3 W4 => ?_) (Or.inl ⟨13, rfl, fun W5 => ?_⟩) (Or.inr rfl) (Or.inl ⟨17, rfl, fun W6 => ?_⟩)
  · refine sm_go 1 (s' := (9, ([lR 0, lI p1, lI p2, lR 74, none], ([sL (w32 v3), sI 0, sR 74], (mSH W4.1 W4.2.1, (W4.2.2.1, W4.2.2.2)))))) ?_ rfl
    refine sm_lst rfl rfl fun G7 => ?_
    refine sm_go 1 (s' := (21, ([lR 0, lI p1, lI p2, lR 74, none], ([], (mSH W4.1 W4.2.1, (G7, W4.2.2.2)))))) ?_ rfl
    refine sm_go 1 (s' := (22, ([lR 0, lI p1, lI p2, lR 74, none], ([sI 0], (mSH W4.1 W4.2.1, (G7, W4.2.2.2)))))) ?_ rfl
    exact sm_retI rfl rfl rfl
  · refine sm_go 2 (s' := (16, ([lR 0, lI p1, lI p2, lR 74, lO], ([sI 1], (mSH W5.1 W5.2.1, (W5.2.2.1, W5.2.2.2)))))) ?_ rfl
    exact sm_retI rfl rfl rfl
  · refine sm_go 2 (s' := (20, ([lR 0, lI p1, lI p2, lR 74, lO], ([sI 2], (mSH W6.1 W6.2.1, (W6.2.2.1, W6.2.2.2)))))) ?_ rfl
    exact sm_retI rfl rfl rfl
noncomputable def P_X10_replan (p1 : Int) (p2 : Int) (W : mW) : Option ((Int ⊕ Nat) × mW) :=
thrB (P_X10_needRule p1 W) fun v3 W4 =>
thrB (P_X10_needRange p2 0 2000 W4) fun v5 W6 =>
thrB (P_X10_needPlan W6) fun v7 W8 =>
(P_X8_clear 26 W8.2.2.1).bind fun G9 =>
(P_X8_putBegunIn 26 p2 G9).bind fun G10 =>
(P_X8_putRestByRule 26 p1 G10).bind fun G11 =>
thrB (P_X10_adoptTrial (W8.1, (W8.2.1, (G11, W8.2.2.2)))) fun v12 W13 =>
some (.inl v12, W13)
set_option maxRecDepth 100000 in
theorem T_X10_replan (scr : mScr) (d : Nat) (W : mW)  (p1 : Int) (p2 : Int) : SimC scr (d + 8) 85 [sR 0, sI p1, sI p2] (mkM W) (e2I) (P_X10_replan p1 p2 W) := by
  refine sm_callX (cs := mc_X10_replan) (maxL := 3) (rk := 0) (o := 10) (hs := []) (d := d + 7) [lR 0, lI p1, lI p2] rfl rfl rfl rfl ?_
  unfold P_X10_replan
  refine sm_go 1 (s' := (1, ([lR 0, lI p1, lI p2], ([sI p1], (mSH W.1 W.2.1, (W.2.2.1, W.2.2.2)))))) ?_ rfl
  refine sm_thr (rest := []) (T_X10_needRule scr (d + 5) W p1) rfl (Or.inr (Or.inl rfl)) rfl rfl rfl rfl (fun _ _ => rfl) (fun _ _ => rfl) (fun v3 W4 => (4, ([lR 0, lI p1, lI p2], ([], (mSH W4.1 W4.2.1, (W4.2.2.1, W4.2.2.2)))))) (fun _ _ => rfl) fun v3 W4 => ?_
  refine sm_go 3 (s' := (9, ([lR 0, lI p1, lI p2], ([sI 2000, sI 0, sI p2], (mSH W4.1 W4.2.1, (W4.2.2.1, W4.2.2.2)))))) ?_ rfl
  refine sm_thr (rest := []) (T_X10_needRange scr (d + 6) W4 p2 0 2000) rfl (Or.inr (Or.inl rfl)) rfl rfl rfl rfl (fun _ _ => rfl) (fun _ _ => rfl) (fun v5 W6 => (12, ([lR 0, lI p1, lI p2], ([], (mSH W6.1 W6.2.1, (W6.2.2.1, W6.2.2.2)))))) (fun _ _ => rfl) fun v5 W6 => ?_
  refine sm_go 1 (s' := (13, ([lR 0, lI p1, lI p2], ([sR 0], (mSH W6.1 W6.2.1, (W6.2.2.1, W6.2.2.2)))))) ?_ rfl
  refine sm_thr (rest := []) (T_X10_needPlan scr (d + 6) W6) rfl (Or.inl rfl) rfl rfl rfl rfl (fun _ _ => rfl) (fun _ _ => rfl) (fun v7 W8 => (16, ([lR 0, lI p1, lI p2], ([], (mSH W8.1 W8.2.1, (W8.2.2.1, W8.2.2.2)))))) (fun _ _ => rfl) fun v7 W8 => ?_
  refine sm_go 2 (s' := (20, ([lR 0, lI p1, lI p2], ([sR 26], (mSH W8.1 W8.2.1, (W8.2.2.1, W8.2.2.2)))))) ?_ rfl
  refine sm_callG (rest := []) (T_X8_clear_26 scr (d + 5) W8.1 W8.2.1 W8.2.2.2 W8.2.2.1) rfl (Or.inl rfl) rfl rfl rfl rfl (fun _ => rfl) (fun G9 => (23, ([lR 0, lI p1, lI p2], ([], (mSH W8.1 W8.2.1, (G9, W8.2.2.2)))))) (fun _ => rfl) fun G9 => ?_
  refine sm_go 5 (s' := (32, ([lR 0, lI p1, lI p2], ([sI p2, sR 17, sR 26], (mSH W8.1 W8.2.1, (G9, W8.2.2.2)))))) ?_ rfl
  refine sm_callG (rest := []) (T_X8_putBegunIn_26 scr (d + 2) W8.1 W8.2.1 W8.2.2.2 G9 p2) rfl (Or.inl rfl) rfl rfl rfl rfl (fun _ => rfl) (fun G10 => (35, ([lR 0, lI p1, lI p2], ([], (mSH W8.1 W8.2.1, (G10, W8.2.2.2)))))) (fun _ => rfl) fun G10 => ?_
  refine sm_go 3 (s' := (40, ([lR 0, lI p1, lI p2], ([sI p1, sR 26], (mSH W8.1 W8.2.1, (G10, W8.2.2.2)))))) ?_ rfl
  refine sm_callG (rest := []) (T_X8_putRestByRule_26 scr (d + 2) W8.1 W8.2.1 W8.2.2.2 G10 p1) rfl (Or.inl rfl) rfl rfl rfl rfl (fun _ => rfl) (fun G11 => (43, ([lR 0, lI p1, lI p2], ([], (mSH W8.1 W8.2.1, (G11, W8.2.2.2)))))) (fun _ => rfl) fun G11 => ?_
  refine sm_go 1 (s' := (44, ([lR 0, lI p1, lI p2], ([sR 0], (mSH W8.1 W8.2.1, (G11, W8.2.2.2)))))) ?_ rfl
  refine sm_thr (rest := []) (T_X10_adoptTrial scr d (W8.1, (W8.2.1, (G11, W8.2.2.2)))) rfl (Or.inl rfl) rfl rfl rfl rfl (fun _ _ => rfl) (fun _ _ => rfl) (fun v12 W13 => (47, ([lR 0, lI p1, lI p2], ([sI v12], (mSH W13.1 W13.2.1, (W13.2.2.1, W13.2.2.2)))))) (fun _ _ => rfl) fun v12 W13 => ?_
  exact sm_retI rfl rfl rfl
noncomputable def P_L_replan (p1 : Int) (p2 : Int) (W : mW) : Option ((Int ⊕ Nat) × mW) :=
ctcB (P_X10_replan p1 p2 W) (fun v3 W4 =>
(ast W4.2.2.1 74 1 0 (w32 v3)).bind fun G7 =>
some (.inl 0, (W4.1, (W4.2.1, (G7, W4.2.2.2))))) (fun _ => none) (fun W5 =>
some (.inl 1, W5)) (fun W6 =>
some (.inl 2, W6))
set_option maxRecDepth 100000 in
theorem T_L_replan (scr : mScr) (d : Nat) (W : mW)  (p1 : Int) (p2 : Int) : SimC scr (d + 9) 252 [sR 0, sI p1, sI p2, sR 74] (mkM W) (e2I) (P_L_replan p1 p2 W) := by
  refine sm_callX (cs := mc_L_replan) (maxL := 5) (rk := 0) (o := 112) (hs := [(0, (10, (13, 1))), (0, (10, (17, 2)))]) (d := d + 8) [lR 0, lI p1, lI p2, lR 74, none] rfl rfl rfl rfl ?_
  unfold P_L_replan
  refine sm_go 5 (s' := (5, ([lR 0, lI p1, lI p2, lR 74, none], ([sI p2, sI p1, sR 0, sI 0, sR 74], (mSH W.1 W.2.1, (W.2.2.1, W.2.2.2)))))) ?_ rfl
  refine sm_ctc (rest := [sI 0, sR 74]) (T_X10_replan scr d W p1 p2) rfl (Or.inl rfl) rfl rfl rfl rfl (fun _ _ => rfl) (fun v3 W4 => (8, ([lR 0, lI p1, lI p2, lR 74, none], ([sI v3, sI 0, sR 74], (mSH W4.1 W4.2.1, (W4.2.2.1, W4.2.2.2)))))) (fun _ _ => rfl) (fun v3 W4 => ?_) (Or.inr rfl) (Or.inl ⟨13, rfl, fun W5 => ?_⟩) (Or.inl ⟨17, rfl, fun W6 => ?_⟩)
  · refine sm_go 1 (s' := (9, ([lR 0, lI p1, lI p2, lR 74, none], ([sL (w32 v3), sI 0, sR 74], (mSH W4.1 W4.2.1, (W4.2.2.1, W4.2.2.2)))))) ?_ rfl
    refine sm_lst rfl rfl fun G7 => ?_
    refine sm_go 1 (s' := (21, ([lR 0, lI p1, lI p2, lR 74, none], ([], (mSH W4.1 W4.2.1, (G7, W4.2.2.2)))))) ?_ rfl
    refine sm_go 1 (s' := (22, ([lR 0, lI p1, lI p2, lR 74, none], ([sI 0], (mSH W4.1 W4.2.1, (G7, W4.2.2.2)))))) ?_ rfl
    exact sm_retI rfl rfl rfl
  · refine sm_go 2 (s' := (16, ([lR 0, lI p1, lI p2, lR 74, lO], ([sI 1], (mSH W5.1 W5.2.1, (W5.2.2.1, W5.2.2.2)))))) ?_ rfl
    exact sm_retI rfl rfl rfl
  · refine sm_go 2 (s' := (20, ([lR 0, lI p1, lI p2, lR 74, lO], ([sI 2], (mSH W6.1 W6.2.1, (W6.2.2.1, W6.2.2.2)))))) ?_ rfl
    exact sm_retI rfl rfl rfl
